/-- how many i < n have P -/
def pg_n (P : Nat → Bool) : Nat → Nat
  | 0 => 0
  | n + 1 => pg_n P n + (if P n = true then 1 else 0)
theorem pg_le (P : Nat → Bool) (n : Nat) : pg_n P n ≤ n := by
  induction n with
  | zero => simp [pg_n]
  | succ n ih =>
    simp only [pg_n]
    split <;> omega
theorem pg_congr {P Q : Nat → Bool} {n : Nat} (h : ∀ i, i < n → P i = Q i) : pg_n P n = pg_n Q n := by
  induction n with
  | zero => rfl
  | succ n ih =>
    simp only [pg_n]
    rw [ih (fun i hi => h i (by omega)), h n (by omega)]
theorem pg_del {Q : Nat → Bool} {m q : Nat} (hq : q < m) (h : Q q = true) : pg_n Q m = pg_n (fun i => Q i && !(decide (i = q))) m + 1 := by
  induction m with
  | zero => omega
  | succ m ih =>
    simp only [pg_n]
    by_cases e : q = m
    · subst e
      have h1 : pg_n Q q = pg_n (fun i => Q i && !(decide (i = q))) q := pg_congr (fun i hi => by
        have : i ≠ q := by omega
        simp [this])
      rw [← h1]
      simp [h]
    · have h1 := ih (by omega)
      have e' : m ≠ q := fun z => e z.symm
      simp only [e', decide_false, Bool.not_false, Bool.and_true]
      omega
theorem pg_inj : ∀ (n : Nat) (P Q : Nat → Bool) (m : Nat) (f : Nat → Nat), (∀ i, i < n → P i = true → f i < m ∧ Q (f i) = true) → (∀ i j, i < n → j < n → P i = true → P j = true → f i = f j → i = j) → pg_n P n ≤ pg_n Q m := by
  intro n
  induction n with
  | zero =>
    intro P Q m f _ _
    simp [pg_n]
  | succ n ih =>
    intro P Q m f h1 h2
    simp only [pg_n]
    by_cases hp : P n = true
    · obtain ⟨a, b⟩ := h1 n (by omega) hp
      have h3 := ih P (fun i => Q i && !(decide (i = f n))) m f (fun i hi hP => by
        refine ⟨(h1 i (by omega) hP).1, ?_⟩
        have h4 : f i ≠ f n := fun z => by
          have := h2 i n (by omega) (by omega) hP hp z
          omega
        simp [(h1 i (by omega) hP).2, h4]) (fun i j hi hj => h2 i j (by omega) (by omega))
      rw [pg_del a b, if_pos hp]
      omega
    · rw [if_neg hp]
      have := ih P Q m f (fun i hi => h1 i (by omega)) (fun i j hi hj => h2 i j (by omega) (by omega))
      omega
theorem pg_all {P : Nat → Bool} {n : Nat} (h : ∀ i, i < n → P i = true) : pg_n P n = n := by
  induction n with
  | zero => rfl
  | succ n ih =>
    simp only [pg_n]
    rw [ih (fun i hi => h i (by omega)), if_pos (h n (by omega))]
theorem pg_full {P : Nat → Bool} {n : Nat} (h : pg_n P n = n) : ∀ i, i < n → P i = true := by
  induction n with
  | zero => intro i hi; omega
  | succ n ih =>
    simp only [pg_n] at h
    have h1 := pg_le P n
    by_cases hp : P n = true
    · rw [if_pos hp] at h
      intro i hi
      by_cases e : i = n
      · rw [e]; exact hp
      · exact ih (by omega) i (by omega)
    · rw [if_neg hp] at h
      omega
theorem pg_none {P : Nat → Bool} {n : Nat} (h : ∀ i, i < n → P i = false) : pg_n P n = 0 := by
  induction n with
  | zero => rfl
  | succ n ih =>
    simp only [pg_n]
    rw [ih (fun i hi => h i (by omega)), h n (by omega)]
    rfl
theorem pg_zero {P : Nat → Bool} {n : Nat} (h : pg_n P n = 0) : ∀ i, i < n → P i = false := by
  induction n with
  | zero => intro i hi; omega
  | succ n ih =>
    simp only [pg_n] at h
    by_cases hp : P n = true
    · rw [if_pos hp] at h
      omega
    · rw [if_neg hp] at h
      intro i hi
      by_cases e : i = n
      · rw [e]; simpa using hp
      · exact ih (by omega) i (by omega)
/-- pigeons -/
theorem pg_hole {n m : Nat} (f : Nat → Nat) (h1 : ∀ i, i < n → f i < m) (h2 : ∀ i j, i < n → j < n → f i = f j → i = j) : n ≤ m := by
  have h := pg_inj n (fun _ => true) (fun _ => true) m f (fun i hi _ => ⟨h1 i hi, rfl⟩) (fun i j hi hj _ _ => h2 i j hi hj)
  rw [pg_all (fun _ _ => rfl), pg_all (fun _ _ => rfl)] at h
  exact h
/-- onto a finite row is one to one -/
theorem pg_onto {n : Nat} (f : Nat → Nat) (h1 : ∀ i, i < n → f i < n) (h2 : ∀ j, j < n → ∃ i, i < n ∧ f i = j) : ∀ a b, a < n → b < n → f a = f b → a = b := by
  intro a b ha hb hab
  apply Classical.byContradiction
  intro hne
  have hg : ∃ g : Nat → Nat, ∀ j, j < n → g j < n ∧ f (g j) = j ∧ (f a = j → g j = a) := by
    refine ⟨fun j => if f a = j then a else if h : j < n then (h2 j h).choose else 0, fun j hj => ?_⟩
    show (if f a = j then a else if h : j < n then (h2 j h).choose else 0) < n ∧ f (if f a = j then a else if h : j < n then (h2 j h).choose else 0) = j ∧ (f a = j → (if f a = j then a else if h : j < n then (h2 j h).choose else 0) = a)
    by_cases e : f a = j
    · rw [if_pos e]
      exact ⟨ha, e, fun _ => rfl⟩
    · rw [if_neg e, dif_pos hj]
      exact ⟨(h2 j hj).choose_spec.1, (h2 j hj).choose_spec.2, fun z => absurd z e⟩
  obtain ⟨g, hg⟩ := hg
  have h := pg_inj n (fun _ => true) (fun i => !(decide (i = b))) n g (fun i hi _ => by
    refine ⟨(hg i hi).1, ?_⟩
    have : g i ≠ b := fun z => by
      have h3 := (hg i hi).2.1
      rw [z, ← hab] at h3
      have h4 := (hg i hi).2.2 h3
      rw [z] at h4
      exact hne h4.symm
    simp [this]) (fun i j hi hj _ _ z => by
      have h3 := (hg i hi).2.1
      rw [z, (hg j hj).2.1] at h3
      exact h3.symm)
  have h5 := pg_del (Q := fun _ => true) hb rfl
  rw [pg_all (fun _ _ => rfl)] at h h5
  simp only [Bool.true_and] at h5
  omega
