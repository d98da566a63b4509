def CW (ad : Nat → Nat → Nat) (cA : Nat → Nat → ClassId) (f : fS) (a : aS) : va_W :=
  [(ad 0 0, .inr (3, [.int (iI (f 0 0)), .ref (ad 1 0), .ref (ad 0 3), .ref (ad 2 0)])),
   (ad 0 3, .inl (cA 0 2, 4, .inr (.inr (.inr (.inr (fun i => if i < 4 then some (ad (3 + i) 0) else none)))))),
   (ad 1 0, .inr (2, [.ref (ad 1 1), .int (iI (f 1 1))])),
   (ad 1 1, .inl (cA 1 0, 24, .inl (fun j => iI (a 1 0 j)))),
   (ad 2 0, .inr (0, [.int (iI (f 2 0)), .int (iI (f 2 1)), .int (iI (f 2 2)), .ref (ad 2 4), .ref (ad 2 5), .ref (ad 2 6), .ref (ad 2 7), .ref (ad 2 8), .ref (ad 2 9), .ref (ad 2 10), .ref (ad 2 11), .ref (ad 2 12)])),
   (ad 2 4, .inl (cA 2 3, 195, .inl (fun j => iI (a 2 3 j)))),
   (ad 2 5, .inl (cA 2 4, 195, .inl (fun j => iI (a 2 4 j)))),
   (ad 2 6, .inl (cA 2 5, 195, .inl (fun j => iI (a 2 5 j)))),
   (ad 2 7, .inl (cA 2 6, 64, .inl (fun j => iI (a 2 6 j)))),
   (ad 2 8, .inl (cA 2 7, 384, .inl (fun j => iI (a 2 7 j)))),
   (ad 2 9, .inl (cA 2 8, 64, .inl (fun j => iI (a 2 8 j)))),
   (ad 2 10, .inl (cA 2 9, 64, .inl (fun j => iI (a 2 9 j)))),
   (ad 2 11, .inl (cA 2 10, 64, .inl (fun j => iI (a 2 10 j)))),
   (ad 2 12, .inl (cA 2 11, 64, .inl (fun j => iI (a 2 11 j)))),
   (ad 3 0, .inr (1, [.int (iI (f 3 0)), .int (iI (f 3 1)), .int (iI (f 3 2)), .ref (ad 3 4), .ref (ad 3 5), .ref (ad 3 6), .ref (ad 3 7), .ref (ad 3 8), .ref (ad 3 9)])),
   (ad 3 4, .inl (cA 3 3, 384, .inl (fun j => iI (a 3 3 j)))),
   (ad 3 5, .inl (cA 3 4, 384, .inl (fun j => iI (a 3 4 j)))),
   (ad 3 6, .inl (cA 3 5, 64, .inl (fun j => iI (a 3 5 j)))),
   (ad 3 7, .inl (cA 3 6, 64, .inl (fun j => iI (a 3 6 j)))),
   (ad 3 8, .inl (cA 3 7, 64, .inl (fun j => iI (a 3 7 j)))),
   (ad 3 9, .inl (cA 3 8, 64, .inl (fun j => iI (a 3 8 j)))),
   (ad 4 0, .inr (1, [.int (iI (f 4 0)), .int (iI (f 4 1)), .int (iI (f 4 2)), .ref (ad 4 4), .ref (ad 4 5), .ref (ad 4 6), .ref (ad 4 7), .ref (ad 4 8), .ref (ad 4 9)])),
   (ad 4 4, .inl (cA 4 3, 384, .inl (fun j => iI (a 4 3 j)))),
   (ad 4 5, .inl (cA 4 4, 384, .inl (fun j => iI (a 4 4 j)))),
   (ad 4 6, .inl (cA 4 5, 64, .inl (fun j => iI (a 4 5 j)))),
   (ad 4 7, .inl (cA 4 6, 64, .inl (fun j => iI (a 4 6 j)))),
   (ad 4 8, .inl (cA 4 7, 64, .inl (fun j => iI (a 4 7 j)))),
   (ad 4 9, .inl (cA 4 8, 64, .inl (fun j => iI (a 4 8 j)))),
   (ad 5 0, .inr (1, [.int (iI (f 5 0)), .int (iI (f 5 1)), .int (iI (f 5 2)), .ref (ad 5 4), .ref (ad 5 5), .ref (ad 5 6), .ref (ad 5 7), .ref (ad 5 8), .ref (ad 5 9)])),
   (ad 5 4, .inl (cA 5 3, 384, .inl (fun j => iI (a 5 3 j)))),
   (ad 5 5, .inl (cA 5 4, 384, .inl (fun j => iI (a 5 4 j)))),
   (ad 5 6, .inl (cA 5 5, 64, .inl (fun j => iI (a 5 5 j)))),
   (ad 5 7, .inl (cA 5 6, 64, .inl (fun j => iI (a 5 6 j)))),
   (ad 5 8, .inl (cA 5 7, 64, .inl (fun j => iI (a 5 7 j)))),
   (ad 5 9, .inl (cA 5 8, 64, .inl (fun j => iI (a 5 8 j)))),
   (ad 6 0, .inr (1, [.int (iI (f 6 0)), .int (iI (f 6 1)), .int (iI (f 6 2)), .ref (ad 6 4), .ref (ad 6 5), .ref (ad 6 6), .ref (ad 6 7), .ref (ad 6 8), .ref (ad 6 9)])),
   (ad 6 4, .inl (cA 6 3, 384, .inl (fun j => iI (a 6 3 j)))),
   (ad 6 5, .inl (cA 6 4, 384, .inl (fun j => iI (a 6 4 j)))),
   (ad 6 6, .inl (cA 6 5, 64, .inl (fun j => iI (a 6 5 j)))),
   (ad 6 7, .inl (cA 6 6, 64, .inl (fun j => iI (a 6 6 j)))),
   (ad 6 8, .inl (cA 6 7, 64, .inl (fun j => iI (a 6 7 j)))),
   (ad 6 9, .inl (cA 6 8, 64, .inl (fun j => iI (a 6 8 j))))]
def taC (cA : Nat → Nat → ClassId) : List (ClassId × FieldType) :=
  [(cA 0 2, .object RG), (cA 1 0, .int), (cA 2 3, .int), (cA 2 4, .int), (cA 2 5, .int), (cA 2 6, .int), (cA 2 7, .int), (cA 2 8, .int), (cA 2 9, .int), (cA 2 10, .int), (cA 2 11, .int), (cA 3 3, .int), (cA 3 4, .int), (cA 3 5, .int), (cA 3 6, .int), (cA 3 7, .int), (cA 3 8, .int), (cA 4 3, .int), (cA 4 4, .int), (cA 4 5, .int), (cA 4 6, .int), (cA 4 7, .int), (cA 4 8, .int), (cA 5 3, .int), (cA 5 4, .int), (cA 5 5, .int), (cA 5 6, .int), (cA 5 7, .int), (cA 5 8, .int), (cA 6 3, .int), (cA 6 4, .int), (cA 6 5, .int), (cA 6 6, .int), (cA 6 7, .int), (cA 6 8, .int)]
theorem woX (ad : Nat → Nat → Nat) (cA : Nat → Nat → ClassId) (f : fS) (a : aS) : (CW ad cA f a)[0]? = some (ad 0 0, .inr (3, [.int (iI (f 0 0)), .ref (ad 1 0), .ref (ad 0 3), .ref (ad 2 0)])) := rfl
theorem wf0X (ad : Nat → Nat → Nat) (cA : Nat → Nat → ClassId) (f : fS) (a : aS) (v : Int) : (CW ad cA f a).set 0 (ad 0 0, .inr (3, ([.int (iI (f 0 0)), .ref (ad 1 0), .ref (ad 0 3), .ref (ad 2 0)] : List Value).set 0 (.int (iI v)))) = CW ad cA (setF f 0 0 v) a := rfl
theorem wa2X (ad : Nat → Nat → Nat) (cA : Nat → Nat → ClassId) (f : fS) (a : aS) : (CW ad cA f a)[1]? = some (ad 0 3, .inl (cA 0 2, 4, .inr (.inr (.inr (.inr (fun i => if i < 4 then some (ad (3 + i) 0) else none)))))) := rfl
theorem wt2X (cA : Nat → Nat → ClassId) : (taC cA)[0]? = some (cA 0 2, .object RG) := rfl
theorem woW (ad : Nat → Nat → Nat) (cA : Nat → Nat → ClassId) (f : fS) (a : aS) : (CW ad cA f a)[2]? = some (ad 1 0, .inr (2, [.ref (ad 1 1), .int (iI (f 1 1))])) := rfl
theorem wa0W (ad : Nat → Nat → Nat) (cA : Nat → Nat → ClassId) (f : fS) (a : aS) : (CW ad cA f a)[3]? = some (ad 1 1, .inl (cA 1 0, 24, .inl (fun j => iI (a 1 0 j)))) := rfl
theorem ws0W (ad : Nat → Nat → Nat) (cA : Nat → Nat → ClassId) (f : fS) (a : aS) (g : Nat → Int) : (CW ad cA f a).set 3 (ad 1 1, .inl (cA 1 0, 24, .inl (fun j => iI (g j)))) = CW ad cA f (setA a 1 0 g) := rfl
theorem wt0W (cA : Nat → Nat → ClassId) : (taC cA)[1]? = some (cA 1 0, .int) := rfl
theorem wf1W (ad : Nat → Nat → Nat) (cA : Nat → Nat → ClassId) (f : fS) (a : aS) (v : Int) : (CW ad cA f a).set 2 (ad 1 0, .inr (2, ([.ref (ad 1 1), .int (iI (f 1 1))] : List Value).set 1 (.int (iI v)))) = CW ad cA (setF f 1 1 v) a := rfl
theorem woD (ad : Nat → Nat → Nat) (cA : Nat → Nat → ClassId) (f : fS) (a : aS) : (CW ad cA f a)[4]? = some (ad 2 0, .inr (0, [.int (iI (f 2 0)), .int (iI (f 2 1)), .int (iI (f 2 2)), .ref (ad 2 4), .ref (ad 2 5), .ref (ad 2 6), .ref (ad 2 7), .ref (ad 2 8), .ref (ad 2 9), .ref (ad 2 10), .ref (ad 2 11), .ref (ad 2 12)])) := rfl
theorem wf0D (ad : Nat → Nat → Nat) (cA : Nat → Nat → ClassId) (f : fS) (a : aS) (v : Int) : (CW ad cA f a).set 4 (ad 2 0, .inr (0, ([.int (iI (f 2 0)), .int (iI (f 2 1)), .int (iI (f 2 2)), .ref (ad 2 4), .ref (ad 2 5), .ref (ad 2 6), .ref (ad 2 7), .ref (ad 2 8), .ref (ad 2 9), .ref (ad 2 10), .ref (ad 2 11), .ref (ad 2 12)] : List Value).set 0 (.int (iI v)))) = CW ad cA (setF f 2 0 v) a := rfl
theorem wf1D (ad : Nat → Nat → Nat) (cA : Nat → Nat → ClassId) (f : fS) (a : aS) (v : Int) : (CW ad cA f a).set 4 (ad 2 0, .inr (0, ([.int (iI (f 2 0)), .int (iI (f 2 1)), .int (iI (f 2 2)), .ref (ad 2 4), .ref (ad 2 5), .ref (ad 2 6), .ref (ad 2 7), .ref (ad 2 8), .ref (ad 2 9), .ref (ad 2 10), .ref (ad 2 11), .ref (ad 2 12)] : List Value).set 1 (.int (iI v)))) = CW ad cA (setF f 2 1 v) a := rfl
theorem wf2D (ad : Nat → Nat → Nat) (cA : Nat → Nat → ClassId) (f : fS) (a : aS) (v : Int) : (CW ad cA f a).set 4 (ad 2 0, .inr (0, ([.int (iI (f 2 0)), .int (iI (f 2 1)), .int (iI (f 2 2)), .ref (ad 2 4), .ref (ad 2 5), .ref (ad 2 6), .ref (ad 2 7), .ref (ad 2 8), .ref (ad 2 9), .ref (ad 2 10), .ref (ad 2 11), .ref (ad 2 12)] : List Value).set 2 (.int (iI v)))) = CW ad cA (setF f 2 2 v) a := rfl
theorem wa3D (ad : Nat → Nat → Nat) (cA : Nat → Nat → ClassId) (f : fS) (a : aS) : (CW ad cA f a)[5]? = some (ad 2 4, .inl (cA 2 3, 195, .inl (fun j => iI (a 2 3 j)))) := rfl
theorem ws3D (ad : Nat → Nat → Nat) (cA : Nat → Nat → ClassId) (f : fS) (a : aS) (g : Nat → Int) : (CW ad cA f a).set 5 (ad 2 4, .inl (cA 2 3, 195, .inl (fun j => iI (g j)))) = CW ad cA f (setA a 2 3 g) := rfl
theorem wt3D (cA : Nat → Nat → ClassId) : (taC cA)[2]? = some (cA 2 3, .int) := rfl
theorem wa4D (ad : Nat → Nat → Nat) (cA : Nat → Nat → ClassId) (f : fS) (a : aS) : (CW ad cA f a)[6]? = some (ad 2 5, .inl (cA 2 4, 195, .inl (fun j => iI (a 2 4 j)))) := rfl
theorem ws4D (ad : Nat → Nat → Nat) (cA : Nat → Nat → ClassId) (f : fS) (a : aS) (g : Nat → Int) : (CW ad cA f a).set 6 (ad 2 5, .inl (cA 2 4, 195, .inl (fun j => iI (g j)))) = CW ad cA f (setA a 2 4 g) := rfl
theorem wt4D (cA : Nat → Nat → ClassId) : (taC cA)[3]? = some (cA 2 4, .int) := rfl
theorem wa5D (ad : Nat → Nat → Nat) (cA : Nat → Nat → ClassId) (f : fS) (a : aS) : (CW ad cA f a)[7]? = some (ad 2 6, .inl (cA 2 5, 195, .inl (fun j => iI (a 2 5 j)))) := rfl
theorem ws5D (ad : Nat → Nat → Nat) (cA : Nat → Nat → ClassId) (f : fS) (a : aS) (g : Nat → Int) : (CW ad cA f a).set 7 (ad 2 6, .inl (cA 2 5, 195, .inl (fun j => iI (g j)))) = CW ad cA f (setA a 2 5 g) := rfl
theorem wt5D (cA : Nat → Nat → ClassId) : (taC cA)[4]? = some (cA 2 5, .int) := rfl
theorem wa6D (ad : Nat → Nat → Nat) (cA : Nat → Nat → ClassId) (f : fS) (a : aS) : (CW ad cA f a)[8]? = some (ad 2 7, .inl (cA 2 6, 64, .inl (fun j => iI (a 2 6 j)))) := rfl
theorem ws6D (ad : Nat → Nat → Nat) (cA : Nat → Nat → ClassId) (f : fS) (a : aS) (g : Nat → Int) : (CW ad cA f a).set 8 (ad 2 7, .inl (cA 2 6, 64, .inl (fun j => iI (g j)))) = CW ad cA f (setA a 2 6 g) := rfl
theorem wt6D (cA : Nat → Nat → ClassId) : (taC cA)[5]? = some (cA 2 6, .int) := rfl
theorem wa7D (ad : Nat → Nat → Nat) (cA : Nat → Nat → ClassId) (f : fS) (a : aS) : (CW ad cA f a)[9]? = some (ad 2 8, .inl (cA 2 7, 384, .inl (fun j => iI (a 2 7 j)))) := rfl
theorem ws7D (ad : Nat → Nat → Nat) (cA : Nat → Nat → ClassId) (f : fS) (a : aS) (g : Nat → Int) : (CW ad cA f a).set 9 (ad 2 8, .inl (cA 2 7, 384, .inl (fun j => iI (g j)))) = CW ad cA f (setA a 2 7 g) := rfl
theorem wt7D (cA : Nat → Nat → ClassId) : (taC cA)[6]? = some (cA 2 7, .int) := rfl
theorem wa8D (ad : Nat → Nat → Nat) (cA : Nat → Nat → ClassId) (f : fS) (a : aS) : (CW ad cA f a)[10]? = some (ad 2 9, .inl (cA 2 8, 64, .inl (fun j => iI (a 2 8 j)))) := rfl
theorem ws8D (ad : Nat → Nat → Nat) (cA : Nat → Nat → ClassId) (f : fS) (a : aS) (g : Nat → Int) : (CW ad cA f a).set 10 (ad 2 9, .inl (cA 2 8, 64, .inl (fun j => iI (g j)))) = CW ad cA f (setA a 2 8 g) := rfl
theorem wt8D (cA : Nat → Nat → ClassId) : (taC cA)[7]? = some (cA 2 8, .int) := rfl
theorem wa9D (ad : Nat → Nat → Nat) (cA : Nat → Nat → ClassId) (f : fS) (a : aS) : (CW ad cA f a)[11]? = some (ad 2 10, .inl (cA 2 9, 64, .inl (fun j => iI (a 2 9 j)))) := rfl
theorem ws9D (ad : Nat → Nat → Nat) (cA : Nat → Nat → ClassId) (f : fS) (a : aS) (g : Nat → Int) : (CW ad cA f a).set 11 (ad 2 10, .inl (cA 2 9, 64, .inl (fun j => iI (g j)))) = CW ad cA f (setA a 2 9 g) := rfl
theorem wt9D (cA : Nat → Nat → ClassId) : (taC cA)[8]? = some (cA 2 9, .int) := rfl
theorem wa10D (ad : Nat → Nat → Nat) (cA : Nat → Nat → ClassId) (f : fS) (a : aS) : (CW ad cA f a)[12]? = some (ad 2 11, .inl (cA 2 10, 64, .inl (fun j => iI (a 2 10 j)))) := rfl
theorem ws10D (ad : Nat → Nat → Nat) (cA : Nat → Nat → ClassId) (f : fS) (a : aS) (g : Nat → Int) : (CW ad cA f a).set 12 (ad 2 11, .inl (cA 2 10, 64, .inl (fun j => iI (g j)))) = CW ad cA f (setA a 2 10 g) := rfl
theorem wt10D (cA : Nat → Nat → ClassId) : (taC cA)[9]? = some (cA 2 10, .int) := rfl
theorem wa11D (ad : Nat → Nat → Nat) (cA : Nat → Nat → ClassId) (f : fS) (a : aS) : (CW ad cA f a)[13]? = some (ad 2 12, .inl (cA 2 11, 64, .inl (fun j => iI (a 2 11 j)))) := rfl
theorem ws11D (ad : Nat → Nat → Nat) (cA : Nat → Nat → ClassId) (f : fS) (a : aS) (g : Nat → Int) : (CW ad cA f a).set 13 (ad 2 12, .inl (cA 2 11, 64, .inl (fun j => iI (g j)))) = CW ad cA f (setA a 2 11 g) := rfl
theorem wt11D (cA : Nat → Nat → ClassId) : (taC cA)[10]? = some (cA 2 11, .int) := rfl
theorem woG (ad : Nat → Nat → Nat) (cA : Nat → Nat → ClassId) (f : fS) (a : aS) (o : Nat) (h : 3 ≤ o ∧ o < 7) : (CW ad cA f a)[(14 + 7 * (o - 3))]? = some (ad o 0, .inr (1, [.int (iI (f o 0)), .int (iI (f o 1)), .int (iI (f o 2)), .ref (ad o 4), .ref (ad o 5), .ref (ad o 6), .ref (ad o 7), .ref (ad o 8), .ref (ad o 9)])) := by
  obtain rfl | rfl | rfl | rfl : o = 3 ∨ o = 4 ∨ o = 5 ∨ o = 6 := by omega
  all_goals rfl
theorem wf0G (ad : Nat → Nat → Nat) (cA : Nat → Nat → ClassId) (f : fS) (a : aS) (v : Int) (o : Nat) (h : 3 ≤ o ∧ o < 7) : (CW ad cA f a).set (14 + 7 * (o - 3)) (ad o 0, .inr (1, ([.int (iI (f o 0)), .int (iI (f o 1)), .int (iI (f o 2)), .ref (ad o 4), .ref (ad o 5), .ref (ad o 6), .ref (ad o 7), .ref (ad o 8), .ref (ad o 9)] : List Value).set 0 (.int (iI v)))) = CW ad cA (setF f o 0 v) a := by
  obtain rfl | rfl | rfl | rfl : o = 3 ∨ o = 4 ∨ o = 5 ∨ o = 6 := by omega
  all_goals rfl
theorem wf1G (ad : Nat → Nat → Nat) (cA : Nat → Nat → ClassId) (f : fS) (a : aS) (v : Int) (o : Nat) (h : 3 ≤ o ∧ o < 7) : (CW ad cA f a).set (14 + 7 * (o - 3)) (ad o 0, .inr (1, ([.int (iI (f o 0)), .int (iI (f o 1)), .int (iI (f o 2)), .ref (ad o 4), .ref (ad o 5), .ref (ad o 6), .ref (ad o 7), .ref (ad o 8), .ref (ad o 9)] : List Value).set 1 (.int (iI v)))) = CW ad cA (setF f o 1 v) a := by
  obtain rfl | rfl | rfl | rfl : o = 3 ∨ o = 4 ∨ o = 5 ∨ o = 6 := by omega
  all_goals rfl
theorem wf2G (ad : Nat → Nat → Nat) (cA : Nat → Nat → ClassId) (f : fS) (a : aS) (v : Int) (o : Nat) (h : 3 ≤ o ∧ o < 7) : (CW ad cA f a).set (14 + 7 * (o - 3)) (ad o 0, .inr (1, ([.int (iI (f o 0)), .int (iI (f o 1)), .int (iI (f o 2)), .ref (ad o 4), .ref (ad o 5), .ref (ad o 6), .ref (ad o 7), .ref (ad o 8), .ref (ad o 9)] : List Value).set 2 (.int (iI v)))) = CW ad cA (setF f o 2 v) a := by
  obtain rfl | rfl | rfl | rfl : o = 3 ∨ o = 4 ∨ o = 5 ∨ o = 6 := by omega
  all_goals rfl
theorem wa3G (ad : Nat → Nat → Nat) (cA : Nat → Nat → ClassId) (f : fS) (a : aS) (o : Nat) (h : 3 ≤ o ∧ o < 7) : (CW ad cA f a)[(15 + 7 * (o - 3))]? = some (ad o 4, .inl (cA o 3, 384, .inl (fun j => iI (a o 3 j)))) := by
  obtain rfl | rfl | rfl | rfl : o = 3 ∨ o = 4 ∨ o = 5 ∨ o = 6 := by omega
  all_goals rfl
theorem ws3G (ad : Nat → Nat → Nat) (cA : Nat → Nat → ClassId) (f : fS) (a : aS) (g : Nat → Int) (o : Nat) (h : 3 ≤ o ∧ o < 7) : (CW ad cA f a).set (15 + 7 * (o - 3)) (ad o 4, .inl (cA o 3, 384, .inl (fun j => iI (g j)))) = CW ad cA f (setA a o 3 g) := by
  obtain rfl | rfl | rfl | rfl : o = 3 ∨ o = 4 ∨ o = 5 ∨ o = 6 := by omega
  all_goals rfl
theorem wt3G (cA : Nat → Nat → ClassId) (o : Nat) (h : 3 ≤ o ∧ o < 7) : (taC cA)[(11 + 6 * (o - 3))]? = some (cA o 3, .int) := by
  obtain rfl | rfl | rfl | rfl : o = 3 ∨ o = 4 ∨ o = 5 ∨ o = 6 := by omega
  all_goals rfl
theorem wa4G (ad : Nat → Nat → Nat) (cA : Nat → Nat → ClassId) (f : fS) (a : aS) (o : Nat) (h : 3 ≤ o ∧ o < 7) : (CW ad cA f a)[(16 + 7 * (o - 3))]? = some (ad o 5, .inl (cA o 4, 384, .inl (fun j => iI (a o 4 j)))) := by
  obtain rfl | rfl | rfl | rfl : o = 3 ∨ o = 4 ∨ o = 5 ∨ o = 6 := by omega
  all_goals rfl
theorem ws4G (ad : Nat → Nat → Nat) (cA : Nat → Nat → ClassId) (f : fS) (a : aS) (g : Nat → Int) (o : Nat) (h : 3 ≤ o ∧ o < 7) : (CW ad cA f a).set (16 + 7 * (o - 3)) (ad o 5, .inl (cA o 4, 384, .inl (fun j => iI (g j)))) = CW ad cA f (setA a o 4 g) := by
  obtain rfl | rfl | rfl | rfl : o = 3 ∨ o = 4 ∨ o = 5 ∨ o = 6 := by omega
  all_goals rfl
theorem wt4G (cA : Nat → Nat → ClassId) (o : Nat) (h : 3 ≤ o ∧ o < 7) : (taC cA)[(12 + 6 * (o - 3))]? = some (cA o 4, .int) := by
  obtain rfl | rfl | rfl | rfl : o = 3 ∨ o = 4 ∨ o = 5 ∨ o = 6 := by omega
  all_goals rfl
theorem wa5G (ad : Nat → Nat → Nat) (cA : Nat → Nat → ClassId) (f : fS) (a : aS) (o : Nat) (h : 3 ≤ o ∧ o < 7) : (CW ad cA f a)[(17 + 7 * (o - 3))]? = some (ad o 6, .inl (cA o 5, 64, .inl (fun j => iI (a o 5 j)))) := by
  obtain rfl | rfl | rfl | rfl : o = 3 ∨ o = 4 ∨ o = 5 ∨ o = 6 := by omega
  all_goals rfl
theorem ws5G (ad : Nat → Nat → Nat) (cA : Nat → Nat → ClassId) (f : fS) (a : aS) (g : Nat → Int) (o : Nat) (h : 3 ≤ o ∧ o < 7) : (CW ad cA f a).set (17 + 7 * (o - 3)) (ad o 6, .inl (cA o 5, 64, .inl (fun j => iI (g j)))) = CW ad cA f (setA a o 5 g) := by
  obtain rfl | rfl | rfl | rfl : o = 3 ∨ o = 4 ∨ o = 5 ∨ o = 6 := by omega
  all_goals rfl
theorem wt5G (cA : Nat → Nat → ClassId) (o : Nat) (h : 3 ≤ o ∧ o < 7) : (taC cA)[(13 + 6 * (o - 3))]? = some (cA o 5, .int) := by
  obtain rfl | rfl | rfl | rfl : o = 3 ∨ o = 4 ∨ o = 5 ∨ o = 6 := by omega
  all_goals rfl
theorem wa6G (ad : Nat → Nat → Nat) (cA : Nat → Nat → ClassId) (f : fS) (a : aS) (o : Nat) (h : 3 ≤ o ∧ o < 7) : (CW ad cA f a)[(18 + 7 * (o - 3))]? = some (ad o 7, .inl (cA o 6, 64, .inl (fun j => iI (a o 6 j)))) := by
  obtain rfl | rfl | rfl | rfl : o = 3 ∨ o = 4 ∨ o = 5 ∨ o = 6 := by omega
  all_goals rfl
theorem ws6G (ad : Nat → Nat → Nat) (cA : Nat → Nat → ClassId) (f : fS) (a : aS) (g : Nat → Int) (o : Nat) (h : 3 ≤ o ∧ o < 7) : (CW ad cA f a).set (18 + 7 * (o - 3)) (ad o 7, .inl (cA o 6, 64, .inl (fun j => iI (g j)))) = CW ad cA f (setA a o 6 g) := by
  obtain rfl | rfl | rfl | rfl : o = 3 ∨ o = 4 ∨ o = 5 ∨ o = 6 := by omega
  all_goals rfl
theorem wt6G (cA : Nat → Nat → ClassId) (o : Nat) (h : 3 ≤ o ∧ o < 7) : (taC cA)[(14 + 6 * (o - 3))]? = some (cA o 6, .int) := by
  obtain rfl | rfl | rfl | rfl : o = 3 ∨ o = 4 ∨ o = 5 ∨ o = 6 := by omega
  all_goals rfl
theorem wa7G (ad : Nat → Nat → Nat) (cA : Nat → Nat → ClassId) (f : fS) (a : aS) (o : Nat) (h : 3 ≤ o ∧ o < 7) : (CW ad cA f a)[(19 + 7 * (o - 3))]? = some (ad o 8, .inl (cA o 7, 64, .inl (fun j => iI (a o 7 j)))) := by
  obtain rfl | rfl | rfl | rfl : o = 3 ∨ o = 4 ∨ o = 5 ∨ o = 6 := by omega
  all_goals rfl
theorem ws7G (ad : Nat → Nat → Nat) (cA : Nat → Nat → ClassId) (f : fS) (a : aS) (g : Nat → Int) (o : Nat) (h : 3 ≤ o ∧ o < 7) : (CW ad cA f a).set (19 + 7 * (o - 3)) (ad o 8, .inl (cA o 7, 64, .inl (fun j => iI (g j)))) = CW ad cA f (setA a o 7 g) := by
  obtain rfl | rfl | rfl | rfl : o = 3 ∨ o = 4 ∨ o = 5 ∨ o = 6 := by omega
  all_goals rfl
theorem wt7G (cA : Nat → Nat → ClassId) (o : Nat) (h : 3 ≤ o ∧ o < 7) : (taC cA)[(15 + 6 * (o - 3))]? = some (cA o 7, .int) := by
  obtain rfl | rfl | rfl | rfl : o = 3 ∨ o = 4 ∨ o = 5 ∨ o = 6 := by omega
  all_goals rfl
theorem wa8G (ad : Nat → Nat → Nat) (cA : Nat → Nat → ClassId) (f : fS) (a : aS) (o : Nat) (h : 3 ≤ o ∧ o < 7) : (CW ad cA f a)[(20 + 7 * (o - 3))]? = some (ad o 9, .inl (cA o 8, 64, .inl (fun j => iI (a o 8 j)))) := by
  obtain rfl | rfl | rfl | rfl : o = 3 ∨ o = 4 ∨ o = 5 ∨ o = 6 := by omega
  all_goals rfl
theorem ws8G (ad : Nat → Nat → Nat) (cA : Nat → Nat → ClassId) (f : fS) (a : aS) (g : Nat → Int) (o : Nat) (h : 3 ≤ o ∧ o < 7) : (CW ad cA f a).set (20 + 7 * (o - 3)) (ad o 9, .inl (cA o 8, 64, .inl (fun j => iI (g j)))) = CW ad cA f (setA a o 8 g) := by
  obtain rfl | rfl | rfl | rfl : o = 3 ∨ o = 4 ∨ o = 5 ∨ o = 6 := by omega
  all_goals rfl
theorem wt8G (cA : Nat → Nat → ClassId) (o : Nat) (h : 3 ≤ o ∧ o < 7) : (taC cA)[(16 + 6 * (o - 3))]? = some (cA o 8, .int) := by
  obtain rfl | rfl | rfl | rfl : o = 3 ∨ o = 4 ∨ o = 5 ∨ o = 6 := by omega
  all_goals rfl
def MW (ad : Nat → Nat → Nat) (cA : Nat → Nat → ClassId) (f : fS) (a : aS) : va_W :=
  [(ad 0 0, .inr (4, [.int (iI (f 0 0)), .int (iI (f 0 1)), .ref (ad 0 3), .ref (ad 0 4), .ref (ad 0 5), .ref (ad 0 6), .ref (ad 0 7), .ref (ad 0 8), .int (iI (f 0 8)), .int (iI (f 0 9)), .int (iI (f 0 10)), .ref (ad 0 12), .ref (ad 0 13), .ref (ad 0 14), .ref (ad 0 15), .ref (ad 0 16), .ref (ad 0 17), .ref (ad 0 18), .ref (ad 0 19), .ref (ad 0 20), .int (iI (f 0 20)), .int (iI (f 0 21)), .int (iI (f 0 22)), .int (iI (f 0 23)), .ref (ad 0 25)])),
   (ad 0 3, .inl (cA 0 2, 24, .inl (fun j => iI (a 0 2 j)))),
   (ad 0 4, .inl (cA 0 3, 4, .inl (fun j => iI (a 0 3 j)))),
   (ad 0 5, .inl (cA 0 4, 1536, .inl (fun j => iI (a 0 4 j)))),
   (ad 0 6, .inl (cA 0 5, 256, .inl (fun j => iI (a 0 5 j)))),
   (ad 0 7, .inl (cA 0 6, 256, .inl (fun j => iI (a 0 6 j)))),
   (ad 0 8, .inl (cA 0 7, 256, .inl (fun j => iI (a 0 7 j)))),
   (ad 0 12, .inl (cA 0 11, 256, .inl (fun j => iI (a 0 11 j)))),
   (ad 0 13, .inl (cA 0 12, 256, .inl (fun j => iI (a 0 12 j)))),
   (ad 0 14, .inl (cA 0 13, 256, .inl (fun j => iI (a 0 13 j)))),
   (ad 0 15, .inl (cA 0 14, 64, .inl (fun j => iI (a 0 14 j)))),
   (ad 0 16, .inl (cA 0 15, 384, .inl (fun j => iI (a 0 15 j)))),
   (ad 0 17, .inl (cA 0 16, 64, .inl (fun j => iI (a 0 16 j)))),
   (ad 0 18, .inl (cA 0 17, 64, .inl (fun j => iI (a 0 17 j)))),
   (ad 0 19, .inl (cA 0 18, 64, .inl (fun j => iI (a 0 18 j)))),
   (ad 0 20, .inl (cA 0 19, 64, .inl (fun j => iI (a 0 19 j)))),
   (ad 0 25, .inl (cA 0 24, 132, .inl (fun j => iI (a 0 24 j))))]
def taM (cA : Nat → Nat → ClassId) : List (ClassId × FieldType) :=
  [(cA 0 2, .int), (cA 0 3, .int), (cA 0 4, .int), (cA 0 5, .int), (cA 0 6, .int), (cA 0 7, .int), (cA 0 11, .int), (cA 0 12, .int), (cA 0 13, .int), (cA 0 14, .int), (cA 0 15, .int), (cA 0 16, .int), (cA 0 17, .int), (cA 0 18, .int), (cA 0 19, .int), (cA 0 24, .int)]
theorem woM (ad : Nat → Nat → Nat) (cA : Nat → Nat → ClassId) (f : fS) (a : aS) : (MW ad cA f a)[0]? = some (ad 0 0, .inr (4, [.int (iI (f 0 0)), .int (iI (f 0 1)), .ref (ad 0 3), .ref (ad 0 4), .ref (ad 0 5), .ref (ad 0 6), .ref (ad 0 7), .ref (ad 0 8), .int (iI (f 0 8)), .int (iI (f 0 9)), .int (iI (f 0 10)), .ref (ad 0 12), .ref (ad 0 13), .ref (ad 0 14), .ref (ad 0 15), .ref (ad 0 16), .ref (ad 0 17), .ref (ad 0 18), .ref (ad 0 19), .ref (ad 0 20), .int (iI (f 0 20)), .int (iI (f 0 21)), .int (iI (f 0 22)), .int (iI (f 0 23)), .ref (ad 0 25)])) := rfl
theorem wf0M (ad : Nat → Nat → Nat) (cA : Nat → Nat → ClassId) (f : fS) (a : aS) (v : Int) : (MW ad cA f a).set 0 (ad 0 0, .inr (4, ([.int (iI (f 0 0)), .int (iI (f 0 1)), .ref (ad 0 3), .ref (ad 0 4), .ref (ad 0 5), .ref (ad 0 6), .ref (ad 0 7), .ref (ad 0 8), .int (iI (f 0 8)), .int (iI (f 0 9)), .int (iI (f 0 10)), .ref (ad 0 12), .ref (ad 0 13), .ref (ad 0 14), .ref (ad 0 15), .ref (ad 0 16), .ref (ad 0 17), .ref (ad 0 18), .ref (ad 0 19), .ref (ad 0 20), .int (iI (f 0 20)), .int (iI (f 0 21)), .int (iI (f 0 22)), .int (iI (f 0 23)), .ref (ad 0 25)] : List Value).set 0 (.int (iI v)))) = MW ad cA (setF f 0 0 v) a := rfl
theorem wf1M (ad : Nat → Nat → Nat) (cA : Nat → Nat → ClassId) (f : fS) (a : aS) (v : Int) : (MW ad cA f a).set 0 (ad 0 0, .inr (4, ([.int (iI (f 0 0)), .int (iI (f 0 1)), .ref (ad 0 3), .ref (ad 0 4), .ref (ad 0 5), .ref (ad 0 6), .ref (ad 0 7), .ref (ad 0 8), .int (iI (f 0 8)), .int (iI (f 0 9)), .int (iI (f 0 10)), .ref (ad 0 12), .ref (ad 0 13), .ref (ad 0 14), .ref (ad 0 15), .ref (ad 0 16), .ref (ad 0 17), .ref (ad 0 18), .ref (ad 0 19), .ref (ad 0 20), .int (iI (f 0 20)), .int (iI (f 0 21)), .int (iI (f 0 22)), .int (iI (f 0 23)), .ref (ad 0 25)] : List Value).set 1 (.int (iI v)))) = MW ad cA (setF f 0 1 v) a := rfl
theorem wa2M (ad : Nat → Nat → Nat) (cA : Nat → Nat → ClassId) (f : fS) (a : aS) : (MW ad cA f a)[1]? = some (ad 0 3, .inl (cA 0 2, 24, .inl (fun j => iI (a 0 2 j)))) := rfl
theorem ws2M (ad : Nat → Nat → Nat) (cA : Nat → Nat → ClassId) (f : fS) (a : aS) (g : Nat → Int) : (MW ad cA f a).set 1 (ad 0 3, .inl (cA 0 2, 24, .inl (fun j => iI (g j)))) = MW ad cA f (setA a 0 2 g) := rfl
theorem wt2M (cA : Nat → Nat → ClassId) : (taM cA)[0]? = some (cA 0 2, .int) := rfl
theorem wa3M (ad : Nat → Nat → Nat) (cA : Nat → Nat → ClassId) (f : fS) (a : aS) : (MW ad cA f a)[2]? = some (ad 0 4, .inl (cA 0 3, 4, .inl (fun j => iI (a 0 3 j)))) := rfl
theorem ws3M (ad : Nat → Nat → Nat) (cA : Nat → Nat → ClassId) (f : fS) (a : aS) (g : Nat → Int) : (MW ad cA f a).set 2 (ad 0 4, .inl (cA 0 3, 4, .inl (fun j => iI (g j)))) = MW ad cA f (setA a 0 3 g) := rfl
theorem wt3M (cA : Nat → Nat → ClassId) : (taM cA)[1]? = some (cA 0 3, .int) := rfl
theorem wa4M (ad : Nat → Nat → Nat) (cA : Nat → Nat → ClassId) (f : fS) (a : aS) : (MW ad cA f a)[3]? = some (ad 0 5, .inl (cA 0 4, 1536, .inl (fun j => iI (a 0 4 j)))) := rfl
theorem ws4M (ad : Nat → Nat → Nat) (cA : Nat → Nat → ClassId) (f : fS) (a : aS) (g : Nat → Int) : (MW ad cA f a).set 3 (ad 0 5, .inl (cA 0 4, 1536, .inl (fun j => iI (g j)))) = MW ad cA f (setA a 0 4 g) := rfl
theorem wt4M (cA : Nat → Nat → ClassId) : (taM cA)[2]? = some (cA 0 4, .int) := rfl
theorem wa5M (ad : Nat → Nat → Nat) (cA : Nat → Nat → ClassId) (f : fS) (a : aS) : (MW ad cA f a)[4]? = some (ad 0 6, .inl (cA 0 5, 256, .inl (fun j => iI (a 0 5 j)))) := rfl
theorem ws5M (ad : Nat → Nat → Nat) (cA : Nat → Nat → ClassId) (f : fS) (a : aS) (g : Nat → Int) : (MW ad cA f a).set 4 (ad 0 6, .inl (cA 0 5, 256, .inl (fun j => iI (g j)))) = MW ad cA f (setA a 0 5 g) := rfl
theorem wt5M (cA : Nat → Nat → ClassId) : (taM cA)[3]? = some (cA 0 5, .int) := rfl
theorem wa6M (ad : Nat → Nat → Nat) (cA : Nat → Nat → ClassId) (f : fS) (a : aS) : (MW ad cA f a)[5]? = some (ad 0 7, .inl (cA 0 6, 256, .inl (fun j => iI (a 0 6 j)))) := rfl
theorem ws6M (ad : Nat → Nat → Nat) (cA : Nat → Nat → ClassId) (f : fS) (a : aS) (g : Nat → Int) : (MW ad cA f a).set 5 (ad 0 7, .inl (cA 0 6, 256, .inl (fun j => iI (g j)))) = MW ad cA f (setA a 0 6 g) := rfl
theorem wt6M (cA : Nat → Nat → ClassId) : (taM cA)[4]? = some (cA 0 6, .int) := rfl
theorem wa7M (ad : Nat → Nat → Nat) (cA : Nat → Nat → ClassId) (f : fS) (a : aS) : (MW ad cA f a)[6]? = some (ad 0 8, .inl (cA 0 7, 256, .inl (fun j => iI (a 0 7 j)))) := rfl
theorem ws7M (ad : Nat → Nat → Nat) (cA : Nat → Nat → ClassId) (f : fS) (a : aS) (g : Nat → Int) : (MW ad cA f a).set 6 (ad 0 8, .inl (cA 0 7, 256, .inl (fun j => iI (g j)))) = MW ad cA f (setA a 0 7 g) := rfl
theorem wt7M (cA : Nat → Nat → ClassId) : (taM cA)[5]? = some (cA 0 7, .int) := rfl
theorem wf8M (ad : Nat → Nat → Nat) (cA : Nat → Nat → ClassId) (f : fS) (a : aS) (v : Int) : (MW ad cA f a).set 0 (ad 0 0, .inr (4, ([.int (iI (f 0 0)), .int (iI (f 0 1)), .ref (ad 0 3), .ref (ad 0 4), .ref (ad 0 5), .ref (ad 0 6), .ref (ad 0 7), .ref (ad 0 8), .int (iI (f 0 8)), .int (iI (f 0 9)), .int (iI (f 0 10)), .ref (ad 0 12), .ref (ad 0 13), .ref (ad 0 14), .ref (ad 0 15), .ref (ad 0 16), .ref (ad 0 17), .ref (ad 0 18), .ref (ad 0 19), .ref (ad 0 20), .int (iI (f 0 20)), .int (iI (f 0 21)), .int (iI (f 0 22)), .int (iI (f 0 23)), .ref (ad 0 25)] : List Value).set 8 (.int (iI v)))) = MW ad cA (setF f 0 8 v) a := rfl
theorem wf9M (ad : Nat → Nat → Nat) (cA : Nat → Nat → ClassId) (f : fS) (a : aS) (v : Int) : (MW ad cA f a).set 0 (ad 0 0, .inr (4, ([.int (iI (f 0 0)), .int (iI (f 0 1)), .ref (ad 0 3), .ref (ad 0 4), .ref (ad 0 5), .ref (ad 0 6), .ref (ad 0 7), .ref (ad 0 8), .int (iI (f 0 8)), .int (iI (f 0 9)), .int (iI (f 0 10)), .ref (ad 0 12), .ref (ad 0 13), .ref (ad 0 14), .ref (ad 0 15), .ref (ad 0 16), .ref (ad 0 17), .ref (ad 0 18), .ref (ad 0 19), .ref (ad 0 20), .int (iI (f 0 20)), .int (iI (f 0 21)), .int (iI (f 0 22)), .int (iI (f 0 23)), .ref (ad 0 25)] : List Value).set 9 (.int (iI v)))) = MW ad cA (setF f 0 9 v) a := rfl
theorem wf10M (ad : Nat → Nat → Nat) (cA : Nat → Nat → ClassId) (f : fS) (a : aS) (v : Int) : (MW ad cA f a).set 0 (ad 0 0, .inr (4, ([.int (iI (f 0 0)), .int (iI (f 0 1)), .ref (ad 0 3), .ref (ad 0 4), .ref (ad 0 5), .ref (ad 0 6), .ref (ad 0 7), .ref (ad 0 8), .int (iI (f 0 8)), .int (iI (f 0 9)), .int (iI (f 0 10)), .ref (ad 0 12), .ref (ad 0 13), .ref (ad 0 14), .ref (ad 0 15), .ref (ad 0 16), .ref (ad 0 17), .ref (ad 0 18), .ref (ad 0 19), .ref (ad 0 20), .int (iI (f 0 20)), .int (iI (f 0 21)), .int (iI (f 0 22)), .int (iI (f 0 23)), .ref (ad 0 25)] : List Value).set 10 (.int (iI v)))) = MW ad cA (setF f 0 10 v) a := rfl
theorem wa11M (ad : Nat → Nat → Nat) (cA : Nat → Nat → ClassId) (f : fS) (a : aS) : (MW ad cA f a)[7]? = some (ad 0 12, .inl (cA 0 11, 256, .inl (fun j => iI (a 0 11 j)))) := rfl
theorem ws11M (ad : Nat → Nat → Nat) (cA : Nat → Nat → ClassId) (f : fS) (a : aS) (g : Nat → Int) : (MW ad cA f a).set 7 (ad 0 12, .inl (cA 0 11, 256, .inl (fun j => iI (g j)))) = MW ad cA f (setA a 0 11 g) := rfl
theorem wt11M (cA : Nat → Nat → ClassId) : (taM cA)[6]? = some (cA 0 11, .int) := rfl
theorem wa12M (ad : Nat → Nat → Nat) (cA : Nat → Nat → ClassId) (f : fS) (a : aS) : (MW ad cA f a)[8]? = some (ad 0 13, .inl (cA 0 12, 256, .inl (fun j => iI (a 0 12 j)))) := rfl
theorem ws12M (ad : Nat → Nat → Nat) (cA : Nat → Nat → ClassId) (f : fS) (a : aS) (g : Nat → Int) : (MW ad cA f a).set 8 (ad 0 13, .inl (cA 0 12, 256, .inl (fun j => iI (g j)))) = MW ad cA f (setA a 0 12 g) := rfl
theorem wt12M (cA : Nat → Nat → ClassId) : (taM cA)[7]? = some (cA 0 12, .int) := rfl
theorem wa13M (ad : Nat → Nat → Nat) (cA : Nat → Nat → ClassId) (f : fS) (a : aS) : (MW ad cA f a)[9]? = some (ad 0 14, .inl (cA 0 13, 256, .inl (fun j => iI (a 0 13 j)))) := rfl
theorem ws13M (ad : Nat → Nat → Nat) (cA : Nat → Nat → ClassId) (f : fS) (a : aS) (g : Nat → Int) : (MW ad cA f a).set 9 (ad 0 14, .inl (cA 0 13, 256, .inl (fun j => iI (g j)))) = MW ad cA f (setA a 0 13 g) := rfl
theorem wt13M (cA : Nat → Nat → ClassId) : (taM cA)[8]? = some (cA 0 13, .int) := rfl
theorem wa14M (ad : Nat → Nat → Nat) (cA : Nat → Nat → ClassId) (f : fS) (a : aS) : (MW ad cA f a)[10]? = some (ad 0 15, .inl (cA 0 14, 64, .inl (fun j => iI (a 0 14 j)))) := rfl
theorem ws14M (ad : Nat → Nat → Nat) (cA : Nat → Nat → ClassId) (f : fS) (a : aS) (g : Nat → Int) : (MW ad cA f a).set 10 (ad 0 15, .inl (cA 0 14, 64, .inl (fun j => iI (g j)))) = MW ad cA f (setA a 0 14 g) := rfl
theorem wt14M (cA : Nat → Nat → ClassId) : (taM cA)[9]? = some (cA 0 14, .int) := rfl
theorem wa15M (ad : Nat → Nat → Nat) (cA : Nat → Nat → ClassId) (f : fS) (a : aS) : (MW ad cA f a)[11]? = some (ad 0 16, .inl (cA 0 15, 384, .inl (fun j => iI (a 0 15 j)))) := rfl
theorem ws15M (ad : Nat → Nat → Nat) (cA : Nat → Nat → ClassId) (f : fS) (a : aS) (g : Nat → Int) : (MW ad cA f a).set 11 (ad 0 16, .inl (cA 0 15, 384, .inl (fun j => iI (g j)))) = MW ad cA f (setA a 0 15 g) := rfl
theorem wt15M (cA : Nat → Nat → ClassId) : (taM cA)[10]? = some (cA 0 15, .int) := rfl
theorem wa16M (ad : Nat → Nat → Nat) (cA : Nat → Nat → ClassId) (f : fS) (a : aS) : (MW ad cA f a)[12]? = some (ad 0 17, .inl (cA 0 16, 64, .inl (fun j => iI (a 0 16 j)))) := rfl
theorem ws16M (ad : Nat → Nat → Nat) (cA : Nat → Nat → ClassId) (f : fS) (a : aS) (g : Nat → Int) : (MW ad cA f a).set 12 (ad 0 17, .inl (cA 0 16, 64, .inl (fun j => iI (g j)))) = MW ad cA f (setA a 0 16 g) := rfl
theorem wt16M (cA : Nat → Nat → ClassId) : (taM cA)[11]? = some (cA 0 16, .int) := rfl
theorem wa17M (ad : Nat → Nat → Nat) (cA : Nat → Nat → ClassId) (f : fS) (a : aS) : (MW ad cA f a)[13]? = some (ad 0 18, .inl (cA 0 17, 64, .inl (fun j => iI (a 0 17 j)))) := rfl
theorem ws17M (ad : Nat → Nat → Nat) (cA : Nat → Nat → ClassId) (f : fS) (a : aS) (g : Nat → Int) : (MW ad cA f a).set 13 (ad 0 18, .inl (cA 0 17, 64, .inl (fun j => iI (g j)))) = MW ad cA f (setA a 0 17 g) := rfl
theorem wt17M (cA : Nat → Nat → ClassId) : (taM cA)[12]? = some (cA 0 17, .int) := rfl
theorem wa18M (ad : Nat → Nat → Nat) (cA : Nat → Nat → ClassId) (f : fS) (a : aS) : (MW ad cA f a)[14]? = some (ad 0 19, .inl (cA 0 18, 64, .inl (fun j => iI (a 0 18 j)))) := rfl
theorem ws18M (ad : Nat → Nat → Nat) (cA : Nat → Nat → ClassId) (f : fS) (a : aS) (g : Nat → Int) : (MW ad cA f a).set 14 (ad 0 19, .inl (cA 0 18, 64, .inl (fun j => iI (g j)))) = MW ad cA f (setA a 0 18 g) := rfl
theorem wt18M (cA : Nat → Nat → ClassId) : (taM cA)[13]? = some (cA 0 18, .int) := rfl
theorem wa19M (ad : Nat → Nat → Nat) (cA : Nat → Nat → ClassId) (f : fS) (a : aS) : (MW ad cA f a)[15]? = some (ad 0 20, .inl (cA 0 19, 64, .inl (fun j => iI (a 0 19 j)))) := rfl
theorem ws19M (ad : Nat → Nat → Nat) (cA : Nat → Nat → ClassId) (f : fS) (a : aS) (g : Nat → Int) : (MW ad cA f a).set 15 (ad 0 20, .inl (cA 0 19, 64, .inl (fun j => iI (g j)))) = MW ad cA f (setA a 0 19 g) := rfl
theorem wt19M (cA : Nat → Nat → ClassId) : (taM cA)[14]? = some (cA 0 19, .int) := rfl
theorem wf20M (ad : Nat → Nat → Nat) (cA : Nat → Nat → ClassId) (f : fS) (a : aS) (v : Int) : (MW ad cA f a).set 0 (ad 0 0, .inr (4, ([.int (iI (f 0 0)), .int (iI (f 0 1)), .ref (ad 0 3), .ref (ad 0 4), .ref (ad 0 5), .ref (ad 0 6), .ref (ad 0 7), .ref (ad 0 8), .int (iI (f 0 8)), .int (iI (f 0 9)), .int (iI (f 0 10)), .ref (ad 0 12), .ref (ad 0 13), .ref (ad 0 14), .ref (ad 0 15), .ref (ad 0 16), .ref (ad 0 17), .ref (ad 0 18), .ref (ad 0 19), .ref (ad 0 20), .int (iI (f 0 20)), .int (iI (f 0 21)), .int (iI (f 0 22)), .int (iI (f 0 23)), .ref (ad 0 25)] : List Value).set 20 (.int (iI v)))) = MW ad cA (setF f 0 20 v) a := rfl
theorem wf21M (ad : Nat → Nat → Nat) (cA : Nat → Nat → ClassId) (f : fS) (a : aS) (v : Int) : (MW ad cA f a).set 0 (ad 0 0, .inr (4, ([.int (iI (f 0 0)), .int (iI (f 0 1)), .ref (ad 0 3), .ref (ad 0 4), .ref (ad 0 5), .ref (ad 0 6), .ref (ad 0 7), .ref (ad 0 8), .int (iI (f 0 8)), .int (iI (f 0 9)), .int (iI (f 0 10)), .ref (ad 0 12), .ref (ad 0 13), .ref (ad 0 14), .ref (ad 0 15), .ref (ad 0 16), .ref (ad 0 17), .ref (ad 0 18), .ref (ad 0 19), .ref (ad 0 20), .int (iI (f 0 20)), .int (iI (f 0 21)), .int (iI (f 0 22)), .int (iI (f 0 23)), .ref (ad 0 25)] : List Value).set 21 (.int (iI v)))) = MW ad cA (setF f 0 21 v) a := rfl
theorem wf22M (ad : Nat → Nat → Nat) (cA : Nat → Nat → ClassId) (f : fS) (a : aS) (v : Int) : (MW ad cA f a).set 0 (ad 0 0, .inr (4, ([.int (iI (f 0 0)), .int (iI (f 0 1)), .ref (ad 0 3), .ref (ad 0 4), .ref (ad 0 5), .ref (ad 0 6), .ref (ad 0 7), .ref (ad 0 8), .int (iI (f 0 8)), .int (iI (f 0 9)), .int (iI (f 0 10)), .ref (ad 0 12), .ref (ad 0 13), .ref (ad 0 14), .ref (ad 0 15), .ref (ad 0 16), .ref (ad 0 17), .ref (ad 0 18), .ref (ad 0 19), .ref (ad 0 20), .int (iI (f 0 20)), .int (iI (f 0 21)), .int (iI (f 0 22)), .int (iI (f 0 23)), .ref (ad 0 25)] : List Value).set 22 (.int (iI v)))) = MW ad cA (setF f 0 22 v) a := rfl
theorem wf23M (ad : Nat → Nat → Nat) (cA : Nat → Nat → ClassId) (f : fS) (a : aS) (v : Int) : (MW ad cA f a).set 0 (ad 0 0, .inr (4, ([.int (iI (f 0 0)), .int (iI (f 0 1)), .ref (ad 0 3), .ref (ad 0 4), .ref (ad 0 5), .ref (ad 0 6), .ref (ad 0 7), .ref (ad 0 8), .int (iI (f 0 8)), .int (iI (f 0 9)), .int (iI (f 0 10)), .ref (ad 0 12), .ref (ad 0 13), .ref (ad 0 14), .ref (ad 0 15), .ref (ad 0 16), .ref (ad 0 17), .ref (ad 0 18), .ref (ad 0 19), .ref (ad 0 20), .int (iI (f 0 20)), .int (iI (f 0 21)), .int (iI (f 0 22)), .int (iI (f 0 23)), .ref (ad 0 25)] : List Value).set 23 (.int (iI v)))) = MW ad cA (setF f 0 23 v) a := rfl
theorem wa24M (ad : Nat → Nat → Nat) (cA : Nat → Nat → ClassId) (f : fS) (a : aS) : (MW ad cA f a)[16]? = some (ad 0 25, .inl (cA 0 24, 132, .inl (fun j => iI (a 0 24 j)))) := rfl
theorem ws24M (ad : Nat → Nat → Nat) (cA : Nat → Nat → ClassId) (f : fS) (a : aS) (g : Nat → Int) : (MW ad cA f a).set 16 (ad 0 25, .inl (cA 0 24, 132, .inl (fun j => iI (g j)))) = MW ad cA f (setA a 0 24 g) := rfl
theorem wt24M (cA : Nat → Nat → ClassId) : (taM cA)[15]? = some (cA 0 24, .int) := rfl
