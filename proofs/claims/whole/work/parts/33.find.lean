section
variable {N n : Int} {A : Int → Int → Int} {pa ar de : Nat → Int}
theorem tr_on (h : gi N n A pa ar de) {v c : Int} (q : A v c ≠ -1) (e : ar (A v c).toNat = c) : 1 ≤ A v c ∧ pa (A v c).toNat = v := by
  obtain ⟨b1, b2, b3, b4⟩ := h.2.1 v c q
  have ht : 1 ≤ A v c := by
    rcases Int.lt_or_le 0 (A v c) with y | y
    · omega
    · have e1 : A v c = 0 := by omega
      rw [e1] at e
      have e0 : ar (0 : Int).toNat = -1 := h.2.2.2.2.1
      omega
  obtain ⟨t1, t2, t3, t4, t5⟩ := gi_tree h ht b3.2
  rw [e, b4] at t3
  exact ⟨ht, t3.symm⟩
theorem tr_on2 (h : gi N n A pa ar de) {v c : Int} (q : A v c ≠ -1) (e : ar v.toNat = cx c) : 1 ≤ v ∧ pa v.toNat = A v c := by
  obtain ⟨b1, b2, b3, b4⟩ := h.2.1 v c q
  have hv : 1 ≤ v := by
    rcases Int.lt_or_le 0 v with y | y
    · omega
    · have e1 : v = 0 := by omega
      rw [e1] at e
      have e0 : ar (0 : Int).toNat = -1 := h.2.2.2.2.1
      have x := cx_in (M := 2 * N) b2.1 b2.2 (by omega)
      omega
  obtain ⟨t1, t2, t3, t4, t5⟩ := gi_tree h hv b1.2
  rw [e, cx_cx] at t3
  exact ⟨hv, t3.symm⟩
end
section
variable {post : Int → fS → aS → Prop} {N : Int} {f : fS} {a : aS} {g : fS} {b : aS} {k : Nat} {s : Int}
theorem pa_ir (ho : gok N f a (3 + k)) {i : Nat} (i1 : 1 ≤ i) (i2 : (i : Int) < f (3 + k) 0) (hN : N ≤ 3) : ir (a (3 + k) 5 i) ∧ ir (a (3 + k) 6 i) := by
  obtain ⟨t1, t2, t3, t4, t5⟩ := gi_tree ho.1 (v := (i : Int)) (by omega) i2
  have n := ho.1.1
  rw [Int.toNat_natCast] at t1 t4
  exact ⟨⟨by omega, by omega⟩, ⟨by omega, by omega⟩⟩
theorem s_isTree (hs : s = (k : Int)) (hk : k < 4) (hN : N ≤ 3) (ho : gok N f a (3 + k)) (hr : grel f a g b k) {v c : Int} (hq : gA f a (3 + k) v c ≠ -1) (h0 : nt (gA f a (3 + k)) (a (3 + k) 6) v c → post 0 g b) (h1 : ¬ nt (gA f a (3 + k)) (a (3 + k) 6) v c → post 1 g b) : wp_M_isTree post s v c (gA f a (3 + k) v c) g b := by
  obtain ⟨b1, b2, b3, b4⟩ := ho.1.2.1 v c hq
  have nn := ho.1.1
  have x := cx_in (M := 2 * N) b2.1 b2.2 (by omega)
  have two : a (3 + k) 6 (gA f a (3 + k) v c).toNat ≠ c → wb_M_isTree_42 post s v c (gA f a (3 + k) v c) 0 g b := by
    intro hne
    refine ⟨by decide, fun z => absurd rfl z, fun _ => ⟨⟨by omega, by omega⟩, fun z => ?_, fun z => ?_⟩⟩
    · refine ⟨Or.inl rfl, h0 ⟨hq, hne, fun y => ?_⟩⟩
      have := (tr_on2 ho.1 hq y).1
      omega
    · obtain ⟨e5, e6⟩ := hr.2.2.1 v.toNat (by omega) (by omega)
      have e : 64 * k + v.toNat = (64 * s + v).toNat := by omega
      rw [e] at e5 e6
      have i56 := pa_ir ho (i := v.toNat) (by omega) (by omega) hN
      refine ⟨⟨by omega, by omega⟩, by rw [e5]; exact i56.1, ⟨by omega, by omega⟩, fun y => ?_, fun y => ⟨⟨by omega, by omega⟩, by rw [e6]; exact i56.2, ⟨by omega, by omega⟩, fun u => ?_, fun u => ?_⟩⟩
      · refine ⟨Or.inl rfl, h0 ⟨hq, hne, fun u => y ?_⟩⟩
        rw [e5]
        exact (tr_on2 ho.1 hq u).2
      · refine ⟨Or.inl rfl, h0 ⟨hq, hne, fun w => u ?_⟩⟩
        rw [e6]
        exact w
      · refine ⟨Or.inr rfl, h1 (fun w => w.2.2 ?_)⟩
        rw [← e6]
        exact Classical.byContradiction u
  refine ⟨⟨by omega, by omega⟩, fun z => two (fun y => ?_), fun z => ?_⟩
  · have := (tr_on ho.1 hq y).1
    omega
  · obtain ⟨e5, e6⟩ := hr.2.2.1 (gA f a (3 + k) v c).toNat (by omega) (by omega)
    have e : 64 * k + (gA f a (3 + k) v c).toNat = (64 * s + gA f a (3 + k) v c).toNat := by omega
    rw [e] at e5 e6
    have i56 := pa_ir ho (i := (gA f a (3 + k) v c).toNat) (by omega) (by omega) hN
    refine ⟨⟨by omega, by omega⟩, by rw [e5]; exact i56.1, ⟨by omega, by omega⟩, fun y => ?_, fun y => ⟨by rw [e6]; exact i56.2, ⟨by omega, by omega⟩, fun u => ?_, fun u => ?_⟩⟩
    · refine two (fun w => y ?_)
      rw [e5]
      exact (tr_on ho.1 hq w).2
    · refine two (fun w => u ?_)
      rw [e6]
      exact w
    · refine ⟨by decide, fun _ => ⟨Or.inr rfl, h1 (fun w => w.2.1 ?_)⟩, fun z => absurd (by decide) z⟩
      rw [← e6]
      exact Classical.byContradiction u
/-- places beyond the letters hold nothing -/
theorem pn_out (ho : gok N f a (3 + k)) {i : Nat} (hi : N ≤ ((i % 3 : Nat) : Int)) : pn (gA f a (3 + k)) (a (3 + k) 6) i = false := by
  cases e : pn (gA f a (3 + k)) (a (3 + k) 6) i with
  | false => rfl
  | true =>
    have q := (pn_iff _ _ _).mp e
    have := (ho.1.2.1 _ _ q.1).2.1
    omega
theorem pn_row (ho : gok N f a (3 + k)) (u : Nat) {y : Nat} (hy : N ≤ y) (h3 : y ≤ 3) : pg_n (pn (gA f a (3 + k)) (a (3 + k) 6)) (3 * u + 3) = pg_n (pn (gA f a (3 + k)) (a (3 + k) 6)) (3 * u + y) := by
  obtain rfl | rfl | rfl | rfl : y = 0 ∨ y = 1 ∨ y = 2 ∨ y = 3 := by omega
  · rw [pg_3, pn_out ho (i := 3 * u) (by omega), pn_out ho (i := 3 * u + 1) (by omega), pn_out ho (i := 3 * u + 2) (by omega)]
    rfl
  · rw [pg_3, pn_out ho (i := 3 * u + 1) (by omega), pn_out ho (i := 3 * u + 2) (by omega)]
    rfl
  · rw [pg_3, pn_out ho (i := 3 * u + 2) (by omega)]
    rfl
  · rfl
theorem pg_yes {P : Nat → Bool} {i : Nat} (h : P i = true) : pg_n P (i + 1) = pg_n P i + 1 := by
  show pg_n P i + (if P i = true then 1 else 0) = _
  rw [if_pos h]
theorem pg_no {P : Nat → Bool} {i : Nat} (h : ¬ P i = true) : pg_n P (i + 1) = pg_n P i := by
  show pg_n P i + (if P i = true then 1 else 0) = _
  rw [if_neg h]
  rfl
/-- at vertex u and letter y: the way, and whether it is an element's -/
theorem at_place (hN : 1 ≤ N ∧ N ≤ 3) (ho : gok N f a (3 + k)) {u y : Nat} (hy1 : 1 ≤ y) (hy2 : (y : Int) ≤ N) : co (y : Int) = 2 * (y : Int) - 2 ∧ (pn (gA f a (3 + k)) (a (3 + k) 6) (3 * u + y - 1) = true ↔ nt (gA f a (3 + k)) (a (3 + k) 6) (u : Int) (co (y : Int))) := by
  have e : co (y : Int) = 2 * (y : Int) - 2 := if_pos (by omega)
  refine ⟨e, ?_⟩
  rw [e]
  have q := pn_at (A := gA f a (3 + k)) (ar := a (3 + k) 6) (v := (u : Int)) (c := 2 * (y : Int) - 2) (by omega) (by omega) (by omega) (by omega)
  have e2 : (3 * (u : Int) + (2 * (y : Int) - 2) / 2).toNat = 3 * u + y - 1 := by omega
  rw [e2] at q
  exact q
theorem s_eb_in {k6 : Int → Int → Int → Int → Int → fS → aS → Prop} (hs : s = (k : Int)) (hk : k < 4) (hN : 1 ≤ N ∧ N ≤ 3) (hg : g 0 0 = N) (ho : gok N f a (3 + k)) (hr : grel f a g b k) {v : Nat} {x : Int} (v1 : (v : Int) < f (3 + k) 0) (x1 : 1 ≤ x) (x2 : x ≤ N + 1) {u : Nat} (hu : u ≤ v)
    (hk6 : ∀ e : Nat, (u < v → e = pg_n (pn (gA f a (3 + k)) (a (3 + k) 6)) (3 * u + 3)) → (u = v → e = pg_n (pn (gA f a (3 + k)) (a (3 + k) 6)) (3 * v + x.toNat - 1)) → k6 s (v : Int) x (e : Int) ((u : Int) + 1) g b) :
    ∀ n y : Nat, 1 ≤ y → (y : Int) ≤ N + 1 → (u = v → (y : Int) ≤ x) → 4 < n + y → wb_M_elementsBefore_15 post k6 n s (v : Int) x (pg_n (pn (gA f a (3 + k)) (a (3 + k) 6)) (3 * u + y - 1) : Nat) (u : Int) (y : Int) g b := by
  have nn := ho.1.1
  intro n
  induction n with
  | zero => intro y h1 h2 h3 h4; omega
  | succ n ih =>
    intro y h1 h2 h3 h4
    have step : (y : Int) ≤ N → (u = v → (y : Int) < x) → wb_M_elementsBefore_36 post (wb_M_elementsBefore_15 post k6 n) s (v : Int) x (pg_n (pn (gA f a (3 + k)) (a (3 + k) 6)) (3 * u + y - 1) : Nat) (u : Int) (y : Int) g b := by
      intro hy hx
      obtain ⟨ec, hp⟩ := at_place hN ho (u := u) (y := y) h1 hy
      have e1 : ((y + 1 : Nat) : Int) = (y : Int) + 1 := by omega
      have e2 : 3 * u + (y + 1) - 1 = 3 * u + y - 1 + 1 := by omega
      have go := ih (y + 1) (by omega) (by omega) (fun z => by have := hx z; omega) (by omega)
      rw [e1, e2] at go
      refine s_codeM ⟨by omega, by omega⟩ (s_wayM hs hk ho hr (by omega) (by omega) (by omega) (by omega) ⟨gok_ir ho _ _, fun z => ?_, fun z => ?_⟩)
      · have q : ¬ pn (gA f a (3 + k)) (a (3 + k) 6) (3 * u + y - 1) = true := fun w => (hp.mp w).1 (by have := gok_in ho (u : Int) (co (y : Int)); omega)
        rw [pg_no q] at go
        exact go
      · have hq : gA f a (3 + k) (u : Int) (co (y : Int)) ≠ -1 := by omega
        refine s_codeM ⟨by omega, by omega⟩ (s_isTree hs hk hN.2 ho hr hq (fun w => n_0 ?_) (fun w => n_1 ?_))
        · rw [pg_yes (hp.mpr w)] at go
          have e3 : ((pg_n (pn (gA f a (3 + k)) (a (3 + k) 6)) (3 * u + y - 1) + 1 : Nat) : Int) = (pg_n (pn (gA f a (3 + k)) (a (3 + k) 6)) (3 * u + y - 1) : Int) + 1 := by omega
          rw [e3] at go
          exact go
        · rw [pg_no (fun z => w (hp.mp z))] at go
          exact go
    rw [wb_M_elementsBefore_15]
    refine ⟨⟨by omega, by omega⟩, ⟨by omega, by omega⟩, fun z => hk6 _ (fun _ => ?_) (fun w => ?_), fun z => ⟨⟨by omega, by omega⟩, ⟨by omega, by omega⟩, fun w => step (by omega) (fun q => by omega), fun w => ⟨⟨by omega, by omega⟩, fun q => hk6 _ (fun p => by omega) (fun p => ?_), fun q => step (by omega) (fun p => by omega)⟩⟩⟩
    · have e : 3 * u + y - 1 = 3 * u + (y - 1) := by omega
      rw [e]
      exact (pn_row ho u (by omega) (by omega)).symm
    · have := h3 w
      have e : 3 * u + y - 1 = 3 * v + x.toNat - 1 := by omega
      rw [e]
    · have := h3 p
      have e : 3 * u + y - 1 = 3 * v + x.toNat - 1 := by omega
      rw [e]
theorem s_eb_out (hs : s = (k : Int)) (hk : k < 4) (hN : 1 ≤ N ∧ N ≤ 3) (hg : g 0 0 = N) (ho : gok N f a (3 + k)) (hr : grel f a g b k) {v : Nat} {x : Int} (v1 : (v : Int) < f (3 + k) 0) (x1 : 1 ≤ x) (x2 : x ≤ N + 1) (hp : post (pg_n (pn (gA f a (3 + k)) (a (3 + k) 6)) (3 * v + x.toNat - 1) : Nat) g b) :
    ∀ n u : Nat, u ≤ v + 1 → v + 1 < n + u → ∀ e : Nat, (u ≤ v → e = pg_n (pn (gA f a (3 + k)) (a (3 + k) 6)) (3 * u)) → (u = v + 1 → e = pg_n (pn (gA f a (3 + k)) (a (3 + k) 6)) (3 * v + x.toNat - 1)) → wb_M_elementsBefore_6 post n s (v : Int) x (e : Int) (u : Int) g b := by
  have nn := ho.1.1
  intro n
  induction n with
  | zero => intro u h1 h2; omega
  | succ n ih =>
    intro u h1 h2 e he1 he2
    rw [wb_M_elementsBefore_6]
    refine ⟨⟨by omega, by omega⟩, ⟨by omega, by omega⟩, fun z => ?_, fun z => ⟨5, ?_⟩⟩
    · rw [he2 (by omega)]
      exact hp
    · have q := s_eb_in (post := post) (k6 := wb_M_elementsBefore_6 post n) hs hk hN hg ho hr v1 x1 x2 (u := u) (by omega) (fun e h1' h2' => ?_) 5 1 (by omega) (by omega) (fun _ => by omega) (by omega)
      · have e3 : 3 * u + 1 - 1 = 3 * u := by omega
        rw [e3, ← he1 (by omega)] at q
        exact q
      · have e4 : (u : Int) + 1 = ((u + 1 : Nat) : Int) := by omega
        rw [e4]
        refine ih (u + 1) (by omega) (by omega) e (fun w => ?_) (fun w => h2' (by omega))
        have e5 : 3 * (u + 1) = 3 * u + 3 := by omega
        rw [e5]
        exact h1' (by omega)
theorem s_eb (hs : s = (k : Int)) (hk : k < 4) (hN : 1 ≤ N ∧ N ≤ 3) (hg : g 0 0 = N) (ho : gok N f a (3 + k)) (hr : grel f a g b k) {v x : Int} (v0 : 0 ≤ v) (v1 : v < f (3 + k) 0) (x1 : 1 ≤ x) (x2 : x ≤ N + 1) (hp : post (pg_n (pn (gA f a (3 + k)) (a (3 + k) 6)) (3 * v.toNat + x.toNat - 1) : Nat) g b) : wp_M_elementsBefore post s v x g b := by
  have ev : ((v.toNat : Nat) : Int) = v := by omega
  have q := s_eb_out (post := post) hs hk hN hg ho hr (v := v.toNat) (x := x) (by omega) x1 x2 hp (v.toNat + 2) 0 (by omega) (by omega) 0 (fun _ => rfl) (fun z => by omega)
  rw [ev] at q
  exact ⟨_, q⟩
theorem s_els (hs : s = (k : Int)) (hk : k < 4) (hN : 1 ≤ N ∧ N ≤ 3) (hg : g 0 0 = N) (ho : gok N f a (3 + k)) (hr : grel f a g b k) (hp : post (f (3 + k) 2) g b) : wp_M_elements post s g b := by
  have nn := ho.1.1
  have es : s.toNat = k := by omega
  refine ⟨⟨by omega, by omega⟩, ?_⟩
  have e1 : b 0 3 s.toNat = f (3 + k) 0 := by rw [es]; exact hr.1
  rw [e1]
  refine s_eb hs hk hN hg ho hr (by omega) (by omega) (by omega) (by omega) ?_
  have e2 : 3 * (f (3 + k) 0 - 1).toNat + (g 0 0 + 1).toNat - 1 = 3 * ((f (3 + k) 0).toNat - 1) + N.toNat := by omega
  have e3 : 3 * (f (3 + k) 0).toNat = 3 * ((f (3 + k) 0).toNat - 1) + 3 := by omega
  rw [e2, ← pn_row ho ((f (3 + k) 0).toNat - 1) (y := N.toNat) (by omega) (by omega), ← e3, ← ho.2.2.1]
  exact hp
end
