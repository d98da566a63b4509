section
variable {post : Int → fS → aS → Prop} {N : Int} {f : fS} {a : aS} {g : fS} {b : aS} {k : Nat} {s : Int}
theorem p6_i (A : Int → Int → Int) (u d : Nat) (hd : d < 6) : p6 A (6 * u + d) = true ↔ A (u : Int) (d : Int) ≠ -1 := by
  rw [p6_at A u d hd]
  exact decide_eq_true_iff
theorem s_fig_in {k23 : Int → Int → Int → Int → fS → aS → Prop} {x2 : Int} (hs : s = (k : Int)) (hk : k < 4) (ho : gok N f a (3 + k)) (hr : grel f a g b k) {u : Nat} (hu : (u : Int) < f (3 + k) 0) (hk2 : k23 s x2 (pg_n (p6 (gA f a (3 + k))) (6 * u + 6) : Nat) ((u : Int) + 1) g b) : ∀ n d : Nat, d ≤ 6 → 6 < n + d → wb_M_figure_37 post k23 n s x2 (pg_n (p6 (gA f a (3 + k))) (6 * u + d) : Nat) (u : Int) (d : Int) g b := by
  have nn := ho.1.1
  intro n
  induction n with
  | zero => intro d h1 h2; omega
  | succ n ih =>
    intro d h1 h2
    rw [wb_M_figure_37]
    refine ⟨⟨by omega, by omega⟩, fun z => ?_, fun z => ?_⟩
    · have e : d = 6 := by omega
      rw [e]
      exact hk2
    · have go := ih (d + 1) (by omega) (by omega)
      have e1 : ((d + 1 : Nat) : Int) = (d : Int) + 1 := by omega
      have e2 : 6 * u + (d + 1) = 6 * u + d + 1 := by omega
      have hq := p6_i (gA f a (3 + k)) u d (by omega)
      rw [e1, e2] at go
      refine s_wayM hs hk ho hr (by omega) hu (by omega) (by omega) ⟨gok_ir ho _ _, fun y => ?_, fun y => ?_⟩
      · have q : ¬ p6 (gA f a (3 + k)) (6 * u + d) = true := fun w => (hq.mp w) (by have := gok_in ho (u : Int) (d : Int); omega)
        rw [pg_no q] at go
        exact go
      · have q : p6 (gA f a (3 + k)) (6 * u + d) = true := hq.mpr (by omega)
        rw [pg_yes q] at go
        have e3 : ((pg_n (p6 (gA f a (3 + k))) (6 * u + d) + 1 : Nat) : Int) = (pg_n (p6 (gA f a (3 + k))) (6 * u + d) : Int) + 1 := by omega
        rw [e3] at go
        exact go
theorem s_fig {x2 : Int} (h2 : ir x2) (hx : 0 ≤ x2 ∧ x2 ≤ 3) (hs : s = (k : Int)) (hk : k < 4) (hN : 1 ≤ N ∧ N ≤ 3) (hg : g 0 0 = N) (ho : gok N f a (3 + k)) (hr : grel f a g b k) (p0 : x2 = 0 → post (f (3 + k) 0) g b) (p1 : x2 = 1 → post (f (3 + k) 1) g b) (p2 : x2 = 2 → post (f (3 + k) 2) g b) (p3 : x2 = 3 → f (3 + k) 1 = f (3 + k) 0 * N → post (f (3 + k) 0) g b) (p4 : x2 = 3 → ¬ f (3 + k) 1 = f (3 + k) 0 * N → post 0 g b) : ∃ j, wb_M_figure_23 post j s x2 0 0 g b := by
  have nn := ho.1.1
  have es : s.toNat = k := by omega
  have e1 : b 0 3 s.toNat = f (3 + k) 0 := by rw [es]; exact hr.1
  have two := p6_two ho.1 hN.2 (k := (f (3 + k) 0).toNat) (by omega)
  have ed := ho.2.1
  have out : ∀ n u : Nat, u ≤ (f (3 + k) 0).toNat → (f (3 + k) 0).toNat < n + u → wb_M_figure_23 post n s x2 (pg_n (p6 (gA f a (3 + k))) (6 * u) : Nat) (u : Int) g b := by
    intro n
    induction n with
    | zero => intro u h1 h3; omega
    | succ n ih =>
      intro u h1 h3
      have le := pg_le (p6 (gA f a (3 + k))) (6 * u)
      rw [wb_M_figure_23, e1]
      refine ⟨⟨by omega, by omega⟩, ⟨by omega, by omega⟩, ⟨by omega, by omega⟩, fun z => ?_, fun z => ⟨7, ?_⟩⟩
      · have eu : u = (f (3 + k) 0).toNat := by omega
        subst eu
        refine ⟨h2, fun y0 => ⟨fun y1 => ⟨fun y2 => ⟨⟨by omega, by omega⟩, ?_, fun q => p4 (by omega) (fun w => q ?_), fun q => p3 (by omega) ?_⟩, fun y2 => ?_⟩, fun y1 => ⟨⟨by omega, by omega⟩, ?_⟩⟩, fun y0 => p0 (Classical.byContradiction y0)⟩
        · rw [hg]
          have hN3 : N = 1 ∨ N = 2 ∨ N = 3 := by omega
          rcases hN3 with z | z | z <;> subst z <;> exact ⟨by omega, by omega⟩
        · have q1 : (2 * g 0 0) * f (3 + k) 0 = 2 * (f (3 + k) 0 * N) := by
            rw [hg, Int.mul_assoc, Int.mul_comm N]
          rw [q1, ← w]
          omega
        · have q2 := Classical.byContradiction q
          have q1 : (2 * g 0 0) * f (3 + k) 0 = 2 * (f (3 + k) 0 * N) := by
            rw [hg, Int.mul_assoc, Int.mul_comm N]
          rw [q1] at q2
          omega
        · exact s_els hs hk hN hg ho hr (p2 (Classical.byContradiction y2))
        · have q := p1 (Classical.byContradiction y1)
          have e2 : (pg_n (p6 (gA f a (3 + k))) (6 * (f (3 + k) 0).toNat) : Int) / 2 = f (3 + k) 1 := by omega
          rw [← e2] at q
          exact q
      · have q := s_fig_in (post := post) (k23 := wb_M_figure_23 post n) (x2 := x2) hs hk ho hr (u := u) (by omega) ?_ 7 0 (by omega) (by omega)
        · exact q
        · have e4 : (u : Int) + 1 = ((u + 1 : Nat) : Int) := by omega
          have e5 : 6 * u + 6 = 6 * (u + 1) := by omega
          rw [e4, e5]
          exact ih (u + 1) (by omega) (by omega)
  exact ⟨_, out ((f (3 + k) 0).toNat + 1) 0 (by omega) (by omega)⟩
theorem s_cpl (hk : k < 4) (hN : 1 ≤ f 0 0 ∧ f 0 0 ≤ 3) (ho : gok N f a (3 + k)) (h0 : ¬ f (3 + k) 1 = f (3 + k) 0 * f 0 0 → post 0 f a) (h1 : f (3 + k) 1 = f (3 + k) 0 * f 0 0 → post 1 f a) : wp_X_isComplete post (3 + k) f a := by
  have nn := ho.1.1
  have ed := ho.2.1
  have le := pg_le (pe (gA f a (3 + k))) (3 * (f (3 + k) 0).toNat)
  refine ⟨⟨by omega, by omega⟩, ⟨by omega, by omega⟩, ?_, fun q => ⟨Or.inl rfl, h0 q⟩, fun q => ⟨Or.inr rfl, h1 (Classical.byContradiction q)⟩⟩
  have hN3 : f 0 0 = 1 ∨ f 0 0 = 2 ∨ f 0 0 = 3 := by omega
  rcases hN3 with z | z | z <;> rw [z] <;> exact ⟨by omega, by omega⟩
end
theorem sim_figure (f : fS) (a : aS) (g : fS) (b : aS) (x1 x2 : Int) (hI : Inv f a g b) (h1 : ir x1) (h2 : ir x2) : wp_X_figure (fun z f1 a1 => wp_M_figure (fun z2 g1 b1 => z = z2 ∧ Inv f1 a1 g1 b1) x1 x2 g b) x1 x2 f a := by
  obtain ⟨w1, w2, w3, w4, w5, w6⟩ := hI.1
  refine s_subN h1 (fun q => s_grpB h1 (fun _ => ⟨rfl, hI⟩) (fun z => absurd z q)) (fun q => ⟨q, fun o eo => ?_⟩)
  subst eo
  obtain ⟨k1, k2⟩ := hI.2 x1.toNat (by omega)
  have M : ∀ r : Int, (0 ≤ x2 ∧ x2 ≤ 3) → (x2 = 0 → r = f (3 + x1.toNat) 0) → (x2 = 1 → r = f (3 + x1.toNat) 1) → (x2 = 2 → r = f (3 + x1.toNat) 2) → (x2 = 3 → f (3 + x1.toNat) 1 = f (3 + x1.toNat) 0 * f 0 0 → r = f (3 + x1.toNat) 0) → (x2 = 3 → ¬ f (3 + x1.toNat) 1 = f (3 + x1.toNat) 0 * f 0 0 → r = 0) → wp_M_figure (fun z2 g1 b1 => r = z2 ∧ Inv f a g1 b1) x1 x2 g b := by
    intro r hx r0 r1 r2 r3 r4
    refine s_grpB h1 (fun z => absurd q z) (fun _ => ⟨h2, fun z => by omega, fun _ => ⟨fun _ => ?_, fun z => by omega⟩⟩)
    exact s_fig h2 hx (k := x1.toNat) (by omega) (by omega) w1 w2 k1 k2 (fun z => ⟨r0 z, hI⟩) (fun z => ⟨r1 z, hI⟩) (fun z => ⟨r2 z, hI⟩) (fun z y => ⟨r3 z y, hI⟩) (fun z y => ⟨r4 z y, hI⟩)
  refine ⟨h2, fun z => M _ (by omega) (fun _ => rfl) (fun _ => by omega) (fun _ => by omega) (fun _ => by omega) (fun _ => by omega), fun z => M _ (by omega) (fun _ => by omega) (fun _ => rfl) (fun _ => by omega) (fun _ => by omega) (fun _ => by omega), fun z => M _ (by omega) (fun _ => by omega) (fun _ => by omega) (fun _ => rfl) (fun _ => by omega) (fun _ => by omega), fun z => ?_, fun z => ?_⟩
  · refine s_cpl (by omega) w1 k1 (fun y => b_0 (M 0 (by omega) (fun _ => by omega) (fun _ => by omega) (fun _ => by omega) (fun _ w => absurd w y) (fun _ _ => rfl))) (fun y => b_1 (M _ (by omega) (fun _ => by omega) (fun _ => by omega) (fun _ => by omega) (fun _ _ => rfl) (fun _ w => absurd y w)))
  · exact s_grpB h1 (fun z => absurd q z) (fun _ => ⟨h2, fun _ => ⟨rfl, hI⟩, fun w => ⟨fun w2 => by omega, fun _ => ⟨rfl, hI⟩⟩⟩)
