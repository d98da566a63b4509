/-- what holds after j looks of the numbering of a table T over m vertices from the base b -/
def bf_inv (m : Nat) (b : Int) (T : Int → Int → Int) (j : Nat) : bS → Prop
  | (n, nu, od, pa, ar, de) => 1 ≤ n ∧ od 0 = b ∧ de 0 = 0 ∧ (∀ k, k < n → 0 ≤ od k ∧ od k < m ∧ nu (od k).toNat = k) ∧
    (∀ x : Nat, x < m → nu x = -1 ∨ ∃ k : Nat, k < n ∧ nu x = k ∧ od k = x) ∧
    (∀ k, 1 ≤ k → k < n → ∃ p d : Nat, p < k ∧ d < 6 ∧ pa k = p ∧ ar k = d ∧ T (od p) d = od k ∧ de k = de p + 1) ∧
    ∀ i, i < j → i / 6 < n ∧ (0 ≤ T (od (i / 6)) (i % 6 : Nat) → 0 ≤ nu (T (od (i / 6)) (i % 6 : Nat)).toNat)
theorem bf_inv_step {m : Nat} {b : Int} {T : Int → Int → Int} (hT : ∀ x c, T x c = -1 ∨ (0 ≤ T x c ∧ T x c < m)) {j : Nat} {S : bS} (hj : j / 6 < S.1) (h : bf_inv m b T j S) : bf_inv m b T (j + 1) (bf T (j / 6) (j % 6) S) := by
  obtain ⟨n, nu, od, pa, ar, de⟩ := S
  obtain ⟨h1, h2, h3, h4, h5, h6, h7⟩ := h
  have hj : j / 6 < n := hj
  simp only [bf]
  generalize ht : T (od (j / 6)) ((j % 6 : Nat) : Int) = t
  by_cases q : 0 ≤ t ∧ nu t.toNat < 0
  · rw [if_pos q]
    obtain ⟨q0, q1⟩ := q
    have htm : t < m := by
      rcases hT (od (j / 6)) ((j % 6 : Nat) : Int) with z | z
      · omega
      · omega
    have hnew : ∀ k, k < n → od k ≠ t := fun k hk z => by
      have h8 := (h4 k hk).2.2
      rw [z] at h8
      omega
    refine ⟨by omega, ?_, ?_, ?_, ?_, ?_, ?_⟩
    · rw [va_up_ne _ _ (by omega)]
      exact h2
    · rw [va_up_ne _ _ (by omega)]
      exact h3
    · intro k hk
      by_cases z : k = n
      · subst z
        rw [va_up_self, va_up_self]
        exact ⟨q0, htm, rfl⟩
      · have h8 := h4 k (by omega)
        have h9 := hnew k (by omega)
        rw [va_up_ne _ _ z]
        refine ⟨h8.1, h8.2.1, ?_⟩
        rw [va_up_ne _ _ (by omega)]
        exact h8.2.2
    · intro x hx
      by_cases z : x = t.toNat
      · refine Or.inr ⟨n, by omega, ?_, ?_⟩
        · rw [z, va_up_self]
        · rw [va_up_self]
          omega
      · rw [va_up_ne _ _ z]
        rcases h5 x hx with g | ⟨k, g1, g2, g3⟩
        · exact Or.inl g
        · exact Or.inr ⟨k, by omega, g2, by rw [va_up_ne _ _ (by omega)]; exact g3⟩
    · intro k k1 k2
      by_cases z : k = n
      · subst z
        refine ⟨j / 6, j % 6, hj, by omega, ?_, ?_, ?_, ?_⟩
        · rw [va_up_self]
        · rw [va_up_self]
        · rw [va_up_self, va_up_ne _ _ (by omega)]
          exact ht
        · rw [va_up_self, va_up_ne _ _ (by omega)]
      · obtain ⟨p, d, g1, g2, g3, g4, g5, g6⟩ := h6 k k1 (by omega)
        refine ⟨p, d, g1, g2, ?_, ?_, ?_, ?_⟩
        · rw [va_up_ne _ _ z]; exact g3
        · rw [va_up_ne _ _ z]; exact g4
        · rw [va_up_ne _ _ z, va_up_ne _ _ (by omega)]; exact g5
        · rw [va_up_ne _ _ z, va_up_ne _ _ (by omega)]; exact g6
    · intro i hi
      by_cases z : i = j
      · subst z
        rw [va_up_ne _ _ (by omega), ht, va_up_self]
        exact ⟨by omega, fun _ => by omega⟩
      · obtain ⟨g1, g2⟩ := h7 i (by omega)
        refine ⟨by omega, ?_⟩
        rw [va_up_ne _ _ (by omega)]
        intro g
        have g3 := g2 g
        by_cases y : (T (od (i / 6)) ((i % 6 : Nat) : Int)).toNat = t.toNat
        · rw [y, va_up_self]
          omega
        · rw [va_up_ne _ _ y]
          exact g3
  · rw [if_neg q]
    refine ⟨h1, h2, h3, h4, h5, h6, fun i hi => ?_⟩
    by_cases z : i = j
    · subst z
      refine ⟨hj, ?_⟩
      rw [ht]
      intro g
      have : ¬ nu t.toNat < 0 := fun y => q ⟨g, y⟩
      omega
    · exact h7 i (by omega)
theorem bf_inv_le {m : Nat} {b : Int} {T : Int → Int → Int} {j : Nat} {S : bS} (h : bf_inv m b T j S) : S.1 ≤ m := by
  obtain ⟨n, nu, od, pa, ar, de⟩ := S
  obtain ⟨h1, h2, h3, h4, h5, h6, h7⟩ := h
  refine pg_hole (fun k => (od k).toNat) (fun k hk => ?_) (fun i k hi hk e => ?_)
  · have := h4 k hk
    show (od k).toNat < m
    omega
  · have g1 := (h4 i hi).2.2
    have g2 := (h4 k hk).2.2
    have e : (od i).toNat = (od k).toNat := e
    rw [e] at g1
    omega
