/-- an edge and its inverse -/
def ed (u c v x d y : Int) : Prop := (x = u ∧ d = c ∧ y = v) ∨ (x = v ∧ d = cx c ∧ y = u)
theorem ed_sym {u c v x d y : Int} (h : ed u c v x d y) : ed u c v y (cx d) x := by
  rcases h with ⟨h1, h2, h3⟩ | ⟨h1, h2, h3⟩
  · exact Or.inr ⟨h3, by rw [h2], h1⟩
  · exact Or.inl ⟨h3, by rw [h2, cx_cx], h1⟩
theorem ed_flip (u c v x d y : Int) : ed u c v x d y ↔ ed v (cx c) u x d y := by
  unfold ed
  rw [cx_cx]
  constructor
  · rintro (h | h)
    · exact Or.inr h
    · exact Or.inl h
  · rintro (h | h)
    · exact Or.inr h
    · exact Or.inl h
theorem er_0 (fr cd to : Nat → Int) (x d y : Int) : ¬ er 0 fr cd to x d y := by
  rintro ⟨e, he, _⟩
  omega
theorem er_add {k : Nat} {fr cd to : Nat → Int} {u c v x d y : Int} : er (k + 1) (va_up fr k u) (va_up cd k c) (va_up to k v) x d y ↔ er k fr cd to x d y ∨ ed u c v x d y := by
  constructor
  · rintro ⟨e, he, h⟩
    by_cases q : e = k
    · subst q
      rw [va_up_self, va_up_self, va_up_self] at h
      rcases h with ⟨h1, h2, h3⟩ | ⟨h1, h2, h3⟩
      · exact Or.inr (Or.inl ⟨h1.symm, h2.symm, h3.symm⟩)
      · exact Or.inr (Or.inr ⟨h1.symm, h2.symm, h3.symm⟩)
    · rw [va_up_ne _ _ q, va_up_ne _ _ q, va_up_ne _ _ q] at h
      exact Or.inl ⟨e, by omega, h⟩
  · rintro (⟨e, he, h⟩ | h)
    · have q : e ≠ k := by omega
      refine ⟨e, by omega, ?_⟩
      rw [va_up_ne _ _ q, va_up_ne _ _ q, va_up_ne _ _ q]
      exact h
    · refine ⟨k, by omega, ?_⟩
      rw [va_up_self, va_up_self, va_up_self]
      rcases h with ⟨h1, h2, h3⟩ | ⟨h1, h2, h3⟩
      · exact Or.inl ⟨h1.symm, h2.symm, h3.symm⟩
      · exact Or.inr ⟨h1.symm, h2.symm, h3.symm⟩
/-- a copy of a graph, its vertices but the base moved up -/
def shf (sh x : Int) : Int := if x = 0 then 0 else x + sh
def cp (A : Int → Int → Int) (sh u c v : Int) : Prop := ∃ x, A x c ≠ -1 ∧ u = shf sh x ∧ v = shf sh (A x c)
/-- the copy so far: the places i < j are done -/
def cpi (A : Int → Int → Int) (sh : Int) (j : Nat) (u c v : Int) : Prop := ∃ i, i < j ∧ pe A i = true ∧ ed (shf sh ((i / 3 : Nat) : Int)) (2 * ((i % 3 : Nat) : Int)) (shf sh (A ((i / 3 : Nat) : Int) (2 * ((i % 3 : Nat) : Int)))) u c v
theorem cpi_no {A : Int → Int → Int} {sh : Int} {j : Nat} (h : pe A j = false) (u c v : Int) : cpi A sh (j + 1) u c v ↔ cpi A sh j u c v := by
  constructor
  · rintro ⟨i, hi, p, q⟩
    by_cases z : i = j
    · rw [z, h] at p
      exact Bool.noConfusion p
    · exact ⟨i, by omega, p, q⟩
  · rintro ⟨i, hi, p, q⟩
    exact ⟨i, by omega, p, q⟩
theorem cpi_yes {A : Int → Int → Int} {sh : Int} {j : Nat} (h : pe A j = true) (u c v : Int) : cpi A sh (j + 1) u c v ↔ cpi A sh j u c v ∨ ed (shf sh ((j / 3 : Nat) : Int)) (2 * ((j % 3 : Nat) : Int)) (shf sh (A ((j / 3 : Nat) : Int) (2 * ((j % 3 : Nat) : Int)))) u c v := by
  constructor
  · rintro ⟨i, hi, p, q⟩
    by_cases z : i = j
    · rw [z] at q
      exact Or.inr q
    · exact Or.inl ⟨i, by omega, p, q⟩
  · rintro (⟨i, hi, p, q⟩ | q)
    · exact ⟨i, by omega, p, q⟩
    · exact ⟨j, by omega, h, q⟩
theorem cpi_all {N n : Int} {A : Int → Int → Int} {pa ar de : Nat → Int} (h : gi N n A pa ar de) (hN : N ≤ 3) {k : Nat} (hk : (k : Int) = n) (sh u c v : Int) : cpi A sh (3 * k) u c v ↔ cp A sh u c v := by
  constructor
  · rintro ⟨i, hi, p, q⟩
    have p : A ((i / 3 : Nat) : Int) (2 * ((i % 3 : Nat) : Int)) ≠ -1 := of_decide_eq_true p
    rcases q with ⟨q1, q2, q3⟩ | ⟨q1, q2, q3⟩
    · refine ⟨((i / 3 : Nat) : Int), ?_, q1, ?_⟩
      · rw [q2]; exact p
      · rw [q2]; exact q3
    · obtain ⟨b1, b2, b3, b4⟩ := h.2.1 _ _ p
      refine ⟨A ((i / 3 : Nat) : Int) (2 * ((i % 3 : Nat) : Int)), ?_, q1, ?_⟩
      · rw [q2, b4]; omega
      · rw [q2, b4]; exact q3
  · rintro ⟨x, p, q1, q2⟩
    obtain ⟨b1, b2, b3, b4⟩ := h.2.1 _ _ p
    by_cases z : c % 2 = 0
    · have e1 : (((3 * x + c / 2).toNat / 3 : Nat) : Int) = x := by omega
      have e2 : 2 * (((3 * x + c / 2).toNat % 3 : Nat) : Int) = c := by omega
      refine ⟨(3 * x + c / 2).toNat, by omega, ?_, ?_⟩
      · unfold pe
        rw [e1, e2]
        exact decide_eq_true p
      · rw [e1, e2]
        exact Or.inl ⟨q1, rfl, q2⟩
    · have e1 : (((3 * A x c + c / 2).toNat / 3 : Nat) : Int) = A x c := by omega
      have e2 : 2 * (((3 * A x c + c / 2).toNat % 3 : Nat) : Int) = cx c := by unfold cx; omega
      refine ⟨(3 * A x c + c / 2).toNat, by omega, ?_, ?_⟩
      · unfold pe
        rw [e1, e2, b4]
        exact decide_eq_true (by omega)
      · rw [e1, e2, b4]
        exact Or.inr ⟨q1, by rw [cx_cx], q2⟩
theorem cp_sym {N n : Int} {A : Int → Int → Int} {pa ar de : Nat → Int} (h : gi N n A pa ar de) {sh u c v : Int} (q : cp A sh u c v) : cp A sh v (cx c) u := by
  obtain ⟨x, p, q1, q2⟩ := q
  obtain ⟨b1, b2, b3, b4⟩ := h.2.1 _ _ p
  exact ⟨A x c, by rw [b4]; omega, q2, by rw [b4]; exact q1⟩
theorem cp_in {N n : Int} {A : Int → Int → Int} {pa ar de : Nat → Int} (h : gi N n A pa ar de) {sh u c v : Int} (s0 : 0 ≤ sh) (q : cp A sh u c v) : (0 ≤ u ∧ u < n + sh) ∧ (0 ≤ c ∧ c < 2 * N) ∧ 0 ≤ v ∧ v < n + sh := by
  obtain ⟨x, p, q1, q2⟩ := q
  obtain ⟨b1, b2, b3, b4⟩ := h.2.1 _ _ p
  unfold shf at q1 q2
  refine ⟨?_, b2, ?_⟩
  · rw [q1]
    split <;> omega
  · rw [q2]
    split <;> omega
/-- a vertex of a copy, not its base, has two ways -/
theorem cp_two {N n : Int} {A : Int → Int → Int} {pa ar de : Nat → Int} (h : gi N n A pa ar de) (sh : Int) {x : Int} (x0 : 1 ≤ x) (x1 : x < n) : ∃ c c' v v', c ≠ c' ∧ cp A sh (x + sh) c v ∧ cp A sh (x + sh) c' v' := by
  obtain ⟨t1, t2, t3, t4, t5⟩ := gi_tree h x0 x1
  have e : shf sh x = x + sh := if_neg (by omega)
  have q : A x (cx (ar x.toNat)) ≠ -1 := by rw [t3]; omega
  obtain ⟨c', n1, n2⟩ := h.2.2.2.2.2 x _ q (by omega)
  exact ⟨cx (ar x.toNat), c', _, _, fun z => n1 z.symm, ⟨x, q, e.symm, rfl⟩, ⟨x, n2, e.symm, rfl⟩⟩
/-- a row that reads w from the base: its first k edges; vertices n, n + 1, .. -/
def rend (n : Int) (i : Nat) : Int := if i = 0 then 0 else n + (i : Int) - 1
def rwr (n : Int) (w : Nat → Int) (k : Nat) (u c v : Int) : Prop := ∃ i, i < k ∧ ed (rend n i) (co (w i)) (n + (i : Int)) u c v
theorem rwr_s (n : Int) (w : Nat → Int) (k : Nat) (u c v : Int) : rwr n w (k + 1) u c v ↔ rwr n w k u c v ∨ ed (rend n k) (co (w k)) (n + (k : Int)) u c v := by
  constructor
  · rintro ⟨i, hi, p⟩
    by_cases z : i = k
    · rw [z] at p
      exact Or.inr p
    · exact Or.inl ⟨i, by omega, p⟩
  · rintro (⟨i, hi, p⟩ | p)
    · exact ⟨i, by omega, p⟩
    · exact ⟨k, by omega, p⟩
theorem rwr_0 (n : Int) (w : Nat → Int) (u c v : Int) : ¬ rwr n w 0 u c v := by
  rintro ⟨i, hi, _⟩
  omega
/-- a ring: the row of all letters but the last, and the last back to the base -/
def rng (n : Int) (w : Nat → Int) (L : Nat) (u c v : Int) : Prop := 1 ≤ L ∧ (rwr n w (L - 1) u c v ∨ ed (rend n (L - 1)) (co (w (L - 1))) 0 u c v)
/-- letters that may stand in a typed word, which is reduced -/
def wok (N : Int) (w : Nat → Int) (L : Nat) : Prop := (∀ i, i < L → w i ≠ 0 ∧ -N ≤ w i ∧ w i ≤ N) ∧ ∀ i, i + 1 < L → w (i + 1) ≠ -w i
theorem rwr_in {N n : Int} {w : Nat → Int} {L k : Nat} (hw : wok N w L) (hk : k ≤ L) (n0 : 1 ≤ n) {u c v : Int} (h : rwr n w k u c v) : (0 ≤ u ∧ u < n + k) ∧ (0 ≤ c ∧ c < 2 * N) ∧ 0 ≤ v ∧ v < n + k := by
  obtain ⟨i, hi, p⟩ := h
  obtain ⟨w0, w1, w2⟩ := hw.1 i (by omega)
  have c0 := co_in w0 w1 w2
  have x := cx_in (M := 2 * N) c0.1 c0.2 (by omega)
  have r : 0 ≤ rend n i ∧ rend n i < n + k := by
    unfold rend
    split <;> omega
  rcases p with ⟨p1, p2, p3⟩ | ⟨p1, p2, p3⟩
  · rw [p1, p2, p3]
    exact ⟨r, c0, by omega, by omega⟩
  · rw [p1, p2, p3]
    exact ⟨⟨by omega, by omega⟩, x, r⟩
theorem rng_in {N n : Int} {w : Nat → Int} {L : Nat} (hw : wok N w L) (n0 : 1 ≤ n) {u c v : Int} (h : rng n w L u c v) : (0 ≤ u ∧ u < n + L - 1) ∧ (0 ≤ c ∧ c < 2 * N) ∧ 0 ≤ v ∧ v < n + L - 1 := by
  obtain ⟨L1, h⟩ := h
  rcases h with h | p
  · have g := rwr_in hw (k := L - 1) (by omega) n0 h
    omega
  · obtain ⟨w0, w1, w2⟩ := hw.1 (L - 1) (by omega)
    have c0 := co_in w0 w1 w2
    have x := cx_in (M := 2 * N) c0.1 c0.2 (by omega)
    have r : 0 ≤ rend n (L - 1) ∧ rend n (L - 1) < n + L - 1 := by
      unfold rend
      split <;> omega
    rcases p with ⟨p1, p2, p3⟩ | ⟨p1, p2, p3⟩
    · rw [p1, p2, p3]
      exact ⟨r, c0, by omega, by omega⟩
    · rw [p1, p2, p3]
      exact ⟨⟨by omega, by omega⟩, x, r⟩
theorem rng_two {N n : Int} {w : Nat → Int} {L i : Nat} (hw : wok N w L) (n0 : 1 ≤ n) (hi : i + 1 < L) : ∃ c c' v v', c ≠ c' ∧ rng n w L (n + i) c v ∧ rng n w L (n + i) c' v' := by
  obtain ⟨w0, w1, w2⟩ := hw.1 i (by omega)
  obtain ⟨v0, v1, v2⟩ := hw.1 (i + 1) (by omega)
  have r : rend n (i + 1) = n + i := by
    unfold rend
    rw [if_neg (by omega)]
    omega
  have ne : cx (co (w i)) ≠ co (w (i + 1)) := by
    intro z
    apply hw.2 i hi
    rw [← co_neg w0] at z
    rw [← lo_co v0, ← z, lo_co (by omega)]
  refine ⟨cx (co (w i)), co (w (i + 1)), rend n i, if i + 1 = L - 1 then 0 else n + ((i + 1 : Nat) : Int), ne, ⟨by omega, Or.inl ⟨i, by omega, Or.inr ⟨rfl, rfl, rfl⟩⟩⟩, by omega, ?_⟩
  by_cases z : i + 1 = L - 1
  · rw [if_pos z]
    refine Or.inr (Or.inl ⟨?_, ?_, rfl⟩)
    · rw [← z, r]
    · rw [← z]
  · rw [if_neg z]
    exact Or.inl ⟨i + 1, by omega, Or.inl ⟨r.symm, rfl, rfl⟩⟩
