/-- a table of n vertices in a row of ints, from place k on -/
def tb (g : Nat → Int) (k : Nat) (n x c : Int) : Int := if (0 ≤ x ∧ x < n) ∧ 0 ≤ c ∧ c < 6 then g (k + (6 * x + c).toNat) else -1
theorem tb_at (g : Nat → Int) (k : Nat) {n x c : Int} (x0 : 0 ≤ x) (x1 : x < n) (c0 : 0 ≤ c) (c1 : c < 6) : tb g k n x c = g (k + (6 * x + c).toNat) := if_pos ⟨⟨x0, x1⟩, c0, c1⟩
theorem tb_up (g : Nat → Int) (k : Nat) {n x c : Int} (y : Int) (x0 : 0 ≤ x) (x1 : x < n) (c0 : 0 ≤ c) (c1 : c < 6) : tb (va_up g (k + (6 * x + c).toNat) y) k n = up2 (tb g k n) x c y := by
  funext x' c'
  unfold up2 tb
  by_cases q : x' = x ∧ c' = c
  · obtain ⟨rfl, rfl⟩ := q
    rw [if_pos ⟨⟨x0, x1⟩, c0, c1⟩, if_pos ⟨rfl, rfl⟩, va_up_self]
  · rw [if_neg q]
    by_cases r : (0 ≤ x' ∧ x' < n) ∧ 0 ≤ c' ∧ c' < 6
    · rw [if_pos r, if_pos r, va_up_ne _ _ (by omega)]
    · rw [if_neg r, if_neg r]
/-- the class's graph of object o -/
abbrev gA (f : fS) (a : aS) (o : Nat) : Int → Int → Int := tb (a o 3) 0 (f o 0)
/-- a graph of the class in order -/
def gok (N : Int) (f : fS) (a : aS) (o : Nat) : Prop :=
  gi N (f o 0) (gA f a o) (a o 5) (a o 6) (a o 7) ∧
  f o 1 = (pg_n (pe (gA f a o)) (3 * (f o 0).toNat) : Nat) ∧ f o 2 = (pg_n (pn (gA f a o) (a o 6)) (3 * (f o 0).toNat) : Nat) ∧
  ∀ v c, 0 ≤ v → v < f o 0 → 0 ≤ c → c < 6 → a o 4 (6 * v + c).toNat = itm (gA f a o) (a o 6) v c
/-- the reference's group k is the class's graph of object 3 + k -/
def grel (f : fS) (a : aS) (g : fS) (b : aS) (k : Nat) : Prop :=
  b 0 3 k = f (3 + k) 0 ∧ tb (b 0 4) (384 * k) (f (3 + k) 0) = gA f a (3 + k) ∧
  (∀ i : Nat, 1 ≤ i → (i : Int) < f (3 + k) 0 → b 0 5 (64 * k + i) = a (3 + k) 5 i ∧ b 0 6 (64 * k + i) = a (3 + k) 6 i) ∧
  ∀ i : Nat, (i : Int) < f (3 + k) 0 → b 0 7 (64 * k + i) = a (3 + k) 7 i
/-- the typed words -/
def wrel (f : fS) (a : aS) (g : fS) (b : aS) : Prop :=
  (1 ≤ f 0 0 ∧ f 0 0 ≤ 3) ∧ g 0 0 = f 0 0 ∧ (0 ≤ f 1 1 ∧ f 1 1 ≤ 24) ∧ g 0 1 = f 1 1 ∧ wok (f 0 0) (a 1 0) (f 1 1).toNat ∧ ∀ i : Nat, (i : Int) < f 1 1 → b 0 2 i = a 1 0 i
def Inv (f : fS) (a : aS) (g : fS) (b : aS) : Prop :=
  wrel f a g b ∧ ∀ k : Nat, k < 4 → gok (f 0 0) f a (3 + k) ∧ grel f a g b k
