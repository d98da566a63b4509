theorem bf_inv_all {m : Nat} {b : Int} {T : Int → Int → Int} (hT : ∀ x c, T x c = -1 ∨ (0 ≤ T x c ∧ T x c < m)) {S0 : bS} (h0 : bf_inv m b T 0 S0) : ∀ j, (∀ i, i < j → i / 6 < (bfr T S0 i).1) → bf_inv m b T j (bfr T S0 j) := by
  intro j
  induction j with
  | zero => intro _; exact h0
  | succ j ih =>
    intro h
    exact bf_inv_step hT (h j (by omega)) (ih (fun i hi => h i (by omega)))
/-- the numbering as it begins -/
def bst (m : Nat) (b : Int) : bS → Prop
  | (n, nu, od, pa, ar, de) => n = 1 ∧ od 0 = b ∧ (0 ≤ b ∧ b < m) ∧ nu b.toNat = 0 ∧ (∀ x : Nat, x < m → x ≠ b.toNat → nu x = -1) ∧ de 0 = 0
theorem bst_inv {m : Nat} {b : Int} (T : Int → Int → Int) {S0 : bS} (h : bst m b S0) : bf_inv m b T 0 S0 := by
  obtain ⟨n, nu, od, pa, ar, de⟩ := S0
  obtain ⟨rfl, h1, h2, h3, h4, h5⟩ := h
  refine ⟨Nat.le_refl 1, h1, h5, fun k hk => ?_, fun x hx => ?_, fun k k1 k2 => by omega, fun i hi => by omega⟩
  · have e : k = 0 := by omega
    subst e
    rw [h1]
    exact ⟨h2.1, h2.2, h3⟩
  · by_cases q : x = b.toNat
    · refine Or.inr ⟨0, by omega, ?_, ?_⟩
      · rw [q]
        exact h3
      · rw [h1]
        omega
    · exact Or.inl (h4 x hx q)
theorem bst_iso {Rl : Int → Int → Prop} (hR : is_bij Rl) {m m' : Nat} {b b' : Int} (hin : ∀ x y, Rl x y → x < m ∧ y < m') (hb : Rl b b') {S0 S0' : bS} (h : bst m b S0) (h' : bst m' b' S0') : bf_iso Rl S0 S0' := by
  obtain ⟨n, nu, od, pa, ar, de⟩ := S0
  obtain ⟨n', nu', od', pa', ar', de'⟩ := S0'
  obtain ⟨rfl, h1, h2, h3, h4, h5⟩ := h
  obtain ⟨rfl, g1, g2, g3, g4, g5⟩ := h'
  refine ⟨rfl, fun k hk => ?_, fun x y hxy => ?_, fun k k1 k2 => by omega, fun k hk => ?_⟩
  · have e : k = 0 := by omega
    subst e
    rw [h1, g1]
    exact hb
  · obtain ⟨x0, y0⟩ := hR.1 x y hxy
    obtain ⟨x1, y1⟩ := hin x y hxy
    by_cases q : x = b
    · have q' : y = b' := by
        rw [q] at hxy
        exact hR.2.1 _ _ _ hxy hb
      rw [q, q', h3, g3]
    · have q' : y ≠ b' := fun z => q (hR.2.2 _ _ _ (by rw [z] at hxy; exact hxy) hb)
      rw [h4 _ (by omega) (by omega), g4 _ (by omega) (by omega)]
  · have e : k = 0 := by omega
    subst e
    rw [h5, g5]
theorem nb_same {N b b' : Int} {m : Nat} {Rl : Int → Int → Prop} {T T' : Int → Int → Int} (hN : N ≤ 3) (hm : m ≤ 64) (hR : is_bij Rl) (hT : is_tab Rl T T') (hin : ∀ x y, Rl x y → x < m ∧ y < m) (hb : Rl b b') (ht : tbl N m b T) {S0 S0' : bS} (h0 : bst m b S0) (h0' : bst m b' S0') {n n' : Nat} {nu od pa ar de nu' od' pa' ar' de' : Nat → Int} (h : bf_fin T S0 (n, nu, od, pa, ar, de)) (h' : bf_fin T' S0' (n', nu', od', pa', ar', de')) (ha : ar 0 = -1) :
    n = n' ∧ n ≤ 64 ∧ gi N n (stA n nu od T) pa ar de ∧ stA n' nu' od' T' = stA n nu od T ∧ (∀ k, 1 ≤ k → k < n → pa' k = pa k ∧ ar' k = ar k) ∧ ∀ k, k < n → de' k = de k := by
  have h1 : 1 ≤ S0.1 := by
    obtain ⟨n, nu, od, pa, ar, de⟩ := S0
    exact Nat.le_of_eq h0.1.symm
  have iso := bf_same hR hT h1 (bst_iso hR hin hb h0 h0') h h'
  have e : n = n' := bf_iso_n iso
  subst e
  have hT0 : ∀ x c, T x c = -1 ∨ (0 ≤ T x c ∧ T x c < m) := by
    intro x c
    by_cases q : T x c = -1
    · exact Or.inl q
    · exact Or.inr (ht.1 x c q).2.2.1
  have inv : bf_inv m b T (6 * n) (n, nu, od, pa, ar, de) := by
    have g := bf_inv_all hT0 (bst_inv T h0) (6 * n) h.2
    have e : (n, nu, od, pa, ar, de) = bfr T S0 (6 * n) := h.1
    rw [e]
    exact g
  have le : n ≤ m := bf_inv_le inv
  refine ⟨rfl, by omega, gi_of hN (by omega) ha ht inv, (stA_same hR hT iso).symm, fun k k1 k2 => ?_, fun k hk => ?_⟩
  · obtain ⟨_, _, _, hp, _⟩ := iso
    exact ⟨(hp k k1 k2).1.symm, (hp k k1 k2).2.symm⟩
  · obtain ⟨_, _, _, _, hd⟩ := iso
    exact (hd k hk).symm
theorem is_rel_in {m : Nat} {E : Int → Int → Int → Prop} {nm nm' : Nat → Int} {W W' : Int → Int → Int} (h : fo_spec m E nm W) (h' : fo_spec m E nm' W') : ∀ x y, is_rel m nm nm' x y → x < m ∧ y < m := by
  rintro x y ⟨v, hv, rfl, rfl⟩
  exact ⟨(h.1 v hv).2.1, (h'.1 v hv).2.1⟩
