/-- the numbering has come to its end -/
def bf_fin (T : Int → Int → Int) (S0 S : bS) : Prop := S = bfr T S0 (6 * S.1) ∧ ∀ i, i < 6 * S.1 → i / 6 < (bfr T S0 i).1
theorem bf_mono (T : Int → Int → Int) (k d : Nat) (S : bS) : S.1 ≤ (bf T k d S).1 := by
  obtain ⟨n, nu, od, pa, ar, de⟩ := S
  simp only [bf]
  split
  · exact Nat.le_succ n
  · exact Nat.le_refl n
theorem bf_iso_n {Rl : Int → Int → Prop} {S S' : bS} (h : bf_iso Rl S S') : S.1 = S'.1 := by
  obtain ⟨n, nu, od, pa, ar, de⟩ := S
  obtain ⟨n', nu', od', pa', ar', de'⟩ := S'
  exact h.1
theorem bf_key {Rl : Int → Int → Prop} {T T' : Int → Int → Int} (hR : is_bij Rl) (hT : is_tab Rl T T') {S0 S0' : bS} (h1 : 1 ≤ S0.1) (h0 : bf_iso Rl S0 S0') : ∀ j, (∀ i, i < j → i / 6 < (bfr T S0 i).1) → bf_iso Rl (bfr T S0 j) (bfr T' S0' j) ∧ 1 ≤ (bfr T S0 j).1 := by
  intro j
  induction j with
  | zero => intro _; exact ⟨h0, h1⟩
  | succ j ih =>
    intro h
    obtain ⟨a, b⟩ := ih (fun i hi => h i (by omega))
    exact ⟨bf_step hR hT (h j (by omega)) b a, Nat.le_trans b (bf_mono _ _ _ _)⟩
theorem bf_same {Rl : Int → Int → Prop} {T T' : Int → Int → Int} (hR : is_bij Rl) (hT : is_tab Rl T T') {S0 S0' S S' : bS} (h1 : 1 ≤ S0.1) (h0 : bf_iso Rl S0 S0') (h : bf_fin T S0 S) (h' : bf_fin T' S0' S') : bf_iso Rl S S' := by
  obtain ⟨e, q⟩ := h
  obtain ⟨e', q'⟩ := h'
  have hn : S.1 = S'.1 := by
    rcases Nat.lt_trichotomy S.1 S'.1 with z | z | z
    · have k1 := bf_iso_n (bf_key hR hT h1 h0 (6 * S.1) q).1
      have k2 := q' (6 * S.1) (by omega)
      rw [← k1, ← e] at k2
      omega
    · exact z
    · have k1 := bf_iso_n (bf_key hR hT h1 h0 (6 * S'.1) (fun i hi => q i (by omega))).1
      have k2 := q (6 * S'.1) (by omega)
      rw [k1, ← e'] at k2
      omega
  have k := (bf_key hR hT h1 h0 (6 * S.1) q).1
  rw [← e, hn, ← e'] at k
  exact k
/-- a numbered graph: N letters, n vertices, ways A, and its tree -/
def gi (N n : Int) (A : Int → Int → Int) (pa ar de : Nat → Int) : Prop :=
  (1 ≤ n ∧ n ≤ 64) ∧
  (∀ v c, A v c ≠ -1 → (0 ≤ v ∧ v < n) ∧ (0 ≤ c ∧ c < 2 * N) ∧ (0 ≤ A v c ∧ A v c < n) ∧ A (A v c) (cx c) = v) ∧
  (∀ k : Nat, 1 ≤ k → (k : Int) < n → (0 ≤ pa k ∧ pa k < k) ∧ A (pa k) (ar k) = k ∧ de k = de (pa k).toNat + 1) ∧
  de 0 = 0 ∧ ar 0 = -1 ∧
  ∀ v c, A v c ≠ -1 → v ≠ 0 → ∃ c', c' ≠ c ∧ A v c' ≠ -1
/-- a table ready to be numbered: m vertices, base b -/
def tbl (N : Int) (m : Nat) (b : Int) (T : Int → Int → Int) : Prop :=
  (∀ x c, T x c ≠ -1 → (0 ≤ x ∧ x < m) ∧ (0 ≤ c ∧ c < 2 * N) ∧ (0 ≤ T x c ∧ T x c < m) ∧ T (T x c) (cx c) = x) ∧
  ∀ x c, T x c ≠ -1 → x ≠ b → ∃ c', c' ≠ c ∧ T x c' ≠ -1
/-- the ways of the numbered graph -/
def stA (n : Nat) (nu od : Nat → Int) (T : Int → Int → Int) (x c : Int) : Int :=
  if (0 ≤ x ∧ x < n) ∧ 0 ≤ T (od x.toNat) c then nu (T (od x.toNat) c).toNat else -1
theorem stA_at {N b : Int} {m n : Nat} {T : Int → Int → Int} {nu od pa ar de : Nat → Int} (hN : N ≤ 3) (hT : tbl N m b T) (hI : bf_inv m b T (6 * n) (n, nu, od, pa, ar, de)) {k : Nat} (hk : k < n) (c : Int) (hc : T (od k) c ≠ -1) : ∃ k' : Nat, k' < n ∧ stA n nu od T k c = k' ∧ od k' = T (od k) c := by
  obtain ⟨h1, h2, h3, h4, h5, h6, h7⟩ := hI
  obtain ⟨t1, t2, t3, t4⟩ := hT.1 _ _ hc
  have g := (h7 (6 * k + c.toNat) (by omega)).2
  have e1 : (6 * k + c.toNat) / 6 = k := by omega
  have e2 : (((6 * k + c.toNat) % 6 : Nat) : Int) = c := by omega
  rw [e1, e2] at g
  have g := g t3.1
  rcases h5 (T (od k) c).toNat (by omega) with z | ⟨k', z1, z2, z3⟩
  · omega
  · refine ⟨k', z1, ?_, by omega⟩
    unfold stA
    rw [Int.toNat_natCast, if_pos ⟨⟨by omega, by omega⟩, t3.1⟩]
    exact z2
theorem stA_no {n : Nat} {nu od : Nat → Int} {T : Int → Int → Int} {x c : Int} (h : stA n nu od T x c ≠ -1) : ∃ k : Nat, x = k ∧ k < n ∧ 0 ≤ T (od k) c := by
  unfold stA at h
  by_cases q : (0 ≤ x ∧ x < n) ∧ 0 ≤ T (od x.toNat) c
  · exact ⟨x.toNat, by omega, by omega, q.2⟩
  · rw [if_neg q] at h
    exact absurd rfl h
theorem gi_of {N b : Int} {m n : Nat} {T : Int → Int → Int} {nu od pa ar de : Nat → Int} (hN : N ≤ 3) (hm : n ≤ 64) (ha : ar 0 = -1) (hT : tbl N m b T) (hI : bf_inv m b T (6 * n) (n, nu, od, pa, ar, de)) : gi N n (stA n nu od T) pa ar de := by
  have hI0 := hI
  obtain ⟨h1, h2, h3, h4, h5, h6, h7⟩ := hI0
  refine ⟨⟨by omega, by omega⟩, ?_, ?_, h3, ha, ?_⟩
  · intro v c hv
    obtain ⟨k, rfl, hk, hc⟩ := stA_no hv
    obtain ⟨k', a1, a2, a3⟩ := stA_at hN hT hI hk c (by omega)
    obtain ⟨t1, t2, t3, t4⟩ := hT.1 (od k) c (by omega)
    refine ⟨⟨by omega, by omega⟩, t2, by rw [a2]; exact ⟨by omega, by omega⟩, ?_⟩
    rw [a2]
    have t5 : T (od k') (cx c) = od k := by rw [a3]; exact t4
    have t6 : T (od k') (cx c) ≠ -1 := by
      rw [t5]
      have := (h4 k hk).1
      omega
    obtain ⟨k2, b1, b2, b3⟩ := stA_at hN hT hI a1 (cx c) t6
    rw [b2]
    rw [t5] at b3
    have c1 := (h4 k hk).2.2
    have c2 := (h4 k2 b1).2.2
    rw [b3] at c2
    omega
  · intro k k1 k2
    obtain ⟨p, d, g1, g2, g3, g4, g5, g6⟩ := h6 k k1 (by omega)
    have c1 := h4 k (by omega)
    obtain ⟨k', a1, a2, a3⟩ := stA_at hN hT hI (k := p) (by omega) (d : Int) (by rw [g5]; omega)
    refine ⟨⟨by omega, by omega⟩, ?_, ?_⟩
    · rw [g3, g4, a2]
      have c2 := (h4 k' a1).2.2
      rw [a3, g5] at c2
      omega
    · rw [g3, Int.toNat_natCast]
      exact g6
  · intro v c hv h0
    obtain ⟨k, rfl, hk, hc⟩ := stA_no hv
    have hb : od k ≠ b := fun z => by
      have c1 := (h4 k hk).2.2
      have c2 := (h4 0 (by omega)).2.2
      rw [h2, ← z] at c2
      omega
    obtain ⟨c', n1, n2⟩ := hT.2 (od k) c (by omega) hb
    obtain ⟨k', a1, a2, a3⟩ := stA_at hN hT hI hk c' n2
    exact ⟨c', n1, by rw [a2]; omega⟩
/-- the two numbered graphs are one -/
theorem stA_same {Rl : Int → Int → Prop} {T T' : Int → Int → Int} (hR : is_bij Rl) (hT : is_tab Rl T T') {n : Nat} {nu od pa ar de nu' od' pa' ar' de' : Nat → Int} (h : bf_iso Rl (n, nu, od, pa, ar, de) (n, nu', od', pa', ar', de')) : stA n nu od T = stA n nu' od' T' := by
  obtain ⟨_, ho, hn, hp, hd⟩ := h
  funext x c
  unfold stA
  by_cases q : 0 ≤ x ∧ x < n
  · have hr := ho x.toNat (by omega)
    rcases hT _ _ hr c with ⟨w1, w2⟩ | ⟨w1, w2, w3⟩
    · rw [w1, w2, if_neg (by omega), if_neg (by omega)]
    · obtain ⟨g1, g2⟩ := hR.1 _ _ w3
      rw [if_pos ⟨q, g1⟩, if_pos ⟨q, g2⟩]
      exact hn _ _ w3
  · rw [if_neg (fun z => q z.1), if_neg (fun z => q z.1)]
/-- what was folded is ready to be numbered -/
theorem tbl_fold {N : Int} {m : Nat} {E : Int → Int → Int → Prop} {nm : Nat → Int} {W : Int → Int → Int} (hE : fo_in m E) (hs : ∀ u c v, E u c v → E v (cx c) u) (hc : ∀ u c v, E u c v → 0 ≤ c ∧ c < 2 * N) (h2 : ∀ u : Nat, 1 ≤ u → u < m → ∃ c c' v v', c ≠ c' ∧ E u c v ∧ E u c' v') (h : fo_spec m E nm W) : tbl N m (nm 0) W := by
  obtain ⟨f1, f2, f3, f4⟩ := h
  refine ⟨?_, ?_⟩
  · intro x c hx
    obtain ⟨u, v, e, e1, e2⟩ := f4 x c hx
    obtain ⟨i1, i2, i3, i4⟩ := hE u c v e
    have g1 := f1 u.toNat (by omega)
    have g2 := f1 v.toNat (by omega)
    refine ⟨by omega, hc u c v e, by omega, ?_⟩
    rw [e2, f3 v (cx c) u (hs u c v e)]
    exact e1
  · intro x c hx hb
    obtain ⟨u, v, e, e1, e2⟩ := f4 x c hx
    obtain ⟨i1, i2, i3, i4⟩ := hE u c v e
    have hu : 1 ≤ u.toNat := by
      rcases Nat.eq_zero_or_pos u.toNat with z | z
      · rw [z] at e1
        exact absurd e1.symm hb
      · exact z
    obtain ⟨a, a', b, b', n, q, q'⟩ := h2 u.toNat hu (by omega)
    have w1 := f3 _ _ _ q
    have w2 := f3 _ _ _ q'
    rw [Int.toNat_natCast, e1] at w1 w2
    have r1 := (f1 b.toNat (by have := hE _ _ _ q; omega)).1
    have r2 := (f1 b'.toNat (by have := hE _ _ _ q'; omega)).1
    by_cases z : a = c
    · exact ⟨a', fun y => n (z.trans y.symm), by rw [w2]; omega⟩
    · exact ⟨a, z, by rw [w1]; omega⟩
/-- what was trimmed is ready to be numbered -/
theorem tbl_trim {N b : Int} {m : Nat} {W T : Int → Int → Int} (h : tr_spec b W T) (hW : ∀ x c, W x c ≠ -1 → (0 ≤ x ∧ x < m) ∧ (0 ≤ c ∧ c < 2 * N) ∧ (0 ≤ W x c ∧ W x c < m)) : tbl N m b T := by
  refine ⟨?_, h.2.1⟩
  intro x c hx
  obtain ⟨a1, a2, a3, a4, a5⟩ := h.1 x c hx
  have g := hW x c (by rw [← a4]; exact hx)
  rw [a4] at a5 ⊢
  exact ⟨g.1, g.2.1, g.2.2, a5⟩
