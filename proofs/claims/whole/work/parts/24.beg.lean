theorem gi_beg {N : Int} {A : Int → Int → Int} {pa ar de : Nat → Int} (h : ∀ x c, A x c = -1) (d0 : de 0 = 0) (a0 : ar 0 = -1) : gi N 1 A pa ar de :=
  ⟨⟨by omega, by omega⟩, fun v c q => absurd (h v c) q, fun k k1 k2 => by omega, d0, a0, fun v c q => absurd (h v c) q⟩
theorem gok_beg {N : Int} {f : fS} {a : aS} {o : Nat} (h : gr0 f a o) : gok N f a o := by
  obtain ⟨h0, h1, h2, h3, h4, h5, h6, h7⟩ := h
  have hA : ∀ x c, gA f a o x c = -1 := by
    intro x c
    show tb (a o 3) 0 (f o 0) x c = -1
    unfold tb
    by_cases q : (0 ≤ x ∧ x < f o 0) ∧ 0 ≤ c ∧ c < 6
    · rw [if_pos q]
      exact h3 _ (by omega)
    · rw [if_neg q]
  have hnt : ∀ v c, ¬ nt (gA f a o) (a o 6) v c := fun v c q => q.1 (hA v c)
  refine ⟨by rw [h0]; exact gi_beg hA h7 h6, ?_, ?_, fun v c v0 v1 c0 c1 => ?_⟩
  · rw [h1, pg_none (fun i _ => by unfold pe; rw [hA]; rfl)]
    rfl
  · rw [h2, pg_none (fun i _ => by
      cases e : pn (gA f a o) (a o 6) i with
      | false => rfl
      | true => exact absurd ((pn_iff _ _ _).mp e) (hnt _ _))]
    rfl
  · rw [itm_no (hnt v c)]
    exact h4 _ (by omega)
theorem inv_beg : xBeg Inv := by
  intro x f a g b hc hm
  obtain ⟨c0, c1, c2⟩ := hc
  obtain ⟨m0, m1, m2, m3, m4⟩ := hm
  refine ⟨⟨by rw [c0]; omega, by rw [m0, c0], by omega, by omega, ?_, fun i hi => by omega⟩, fun k hk => ?_⟩
  · have e : (f 1 1).toNat = 0 := by omega
    rw [e]
    exact ⟨fun i hi => by omega, fun i hi => by omega⟩
  · have q := c2 (3 + k) ⟨by omega, by omega⟩
    have hg := gok_beg (N := f 0 0) q
    refine ⟨hg, ?_⟩
    obtain ⟨h0, h1, h2, h3, h4, h5, h6, h7⟩ := q
    refine ⟨by rw [m2 k hk, h0], ?_, fun i i1 i2 => by omega, fun i i1 => ?_⟩
    · funext x c
      show tb (b 0 4) (384 * k) (f (3 + k) 0) x c = tb (a (3 + k) 3) 0 (f (3 + k) 0) x c
      unfold tb
      by_cases r : (0 ≤ x ∧ x < f (3 + k) 0) ∧ 0 ≤ c ∧ c < 6
      · rw [if_pos r, if_pos r, m3 _ (by omega), h3 _ (by omega)]
      · rw [if_neg r, if_neg r]
    · have e : i = 0 := by omega
      subst e
      rw [m4 _ (by omega)]
      exact h7.symm
