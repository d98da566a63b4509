/-- vertices are Ints; a table W: vertex, code -> vertex or -1; an edge relation E u c v -/
def fo_cong (E : Int → Int → Int → Prop) (R : Int → Int → Prop) : Prop :=
  (∀ x, R x x) ∧ (∀ x y, R x y → R y x) ∧ (∀ x y z, R x y → R y z → R x z) ∧ ∀ u u' c v v', E u c v → E u' c v' → R u u' → R v v'
/-- what folding the raw graph with m vertices and edges E comes to: names nm, table W -/
def fo_spec (m : Nat) (E : Int → Int → Int → Prop) (nm : Nat → Int) (W : Int → Int → Int) : Prop :=
  (∀ v : Nat, v < m → 0 ≤ nm v ∧ nm v < m ∧ nm (nm v).toNat = nm v) ∧
  (∀ R, fo_cong E R → ∀ v : Nat, v < m → R v (nm v)) ∧
  (∀ u c v, E u c v → W (nm u.toNat) c = nm v.toNat) ∧
  (∀ x c, W x c ≠ -1 → ∃ u v, E u c v ∧ nm u.toNat = x ∧ W x c = nm v.toNat)
/-- the edges run between the raw vertices -/
def fo_in (m : Nat) (E : Int → Int → Int → Prop) : Prop := ∀ u c v, E u c v → 0 ≤ u ∧ u < m ∧ 0 ≤ v ∧ v < m
theorem fo_ker {m : Nat} {E : Int → Int → Int → Prop} {nm nm' : Nat → Int} {W W' : Int → Int → Int} (h : fo_spec m E nm W) (h' : fo_spec m E nm' W') {u v : Nat} (hu : u < m) (hv : v < m) (e : nm u = nm v) : nm' u = nm' v := by
  have hc : fo_cong E (fun x y => nm' x.toNat = nm' y.toNat) := by
    refine ⟨fun _ => rfl, fun _ _ q => q.symm, fun _ _ _ q r => q.trans r, fun a a' c b b' q r z => ?_⟩
    have h1 := h'.2.2.1 a c b q
    have h2 := h'.2.2.1 a' c b' r
    have z' : nm' a.toNat = nm' a'.toNat := z
    rw [z'] at h1
    exact h1.symm.trans h2
  have h1 : nm' (u : Int).toNat = nm' (nm u).toNat := h.2.1 _ hc u hu
  have h2 : nm' (v : Int).toNat = nm' (nm v).toNat := h.2.1 _ hc v hv
  rw [Int.toNat_natCast] at h1 h2
  rw [h1, h2, e]
/-- the two tables over the two sets of names correspond -/
def is_rel (m : Nat) (nm nm' : Nat → Int) (x y : Int) : Prop := ∃ v : Nat, v < m ∧ nm v = x ∧ nm' v = y
/-- a relation that is one to one, of numbers from 0 on -/
def is_bij (Rl : Int → Int → Prop) : Prop := (∀ x y, Rl x y → 0 ≤ x ∧ 0 ≤ y) ∧ (∀ x y y', Rl x y → Rl x y' → y = y') ∧ ∀ x x' y, Rl x y → Rl x' y → x = x'
/-- two tables go the same ways -/
def is_tab (Rl : Int → Int → Prop) (W W' : Int → Int → Int) : Prop := ∀ x y, Rl x y → ∀ c, (W x c = -1 ∧ W' y c = -1) ∨ (W x c ≠ -1 ∧ W' y c ≠ -1 ∧ Rl (W x c) (W' y c))
theorem is_of_fold {m : Nat} {E : Int → Int → Int → Prop} {nm nm' : Nat → Int} {W W' : Int → Int → Int} (hE : fo_in m E) (h : fo_spec m E nm W) (h' : fo_spec m E nm' W') : is_bij (is_rel m nm nm') ∧ is_tab (is_rel m nm nm') W W' := by
  refine ⟨⟨?_, ?_, ?_⟩, ?_⟩
  · rintro x y ⟨v, hv, rfl, rfl⟩
    exact ⟨(h.1 v hv).1, (h'.1 v hv).1⟩
  · rintro x y y' ⟨v, hv, rfl, rfl⟩ ⟨u, hu, e, rfl⟩
    exact fo_ker h h' hv hu e.symm
  · rintro x x' y ⟨v, hv, rfl, rfl⟩ ⟨u, hu, rfl, e⟩
    exact fo_ker h' h hv hu e.symm
  · rintro x y ⟨v, hv, rfl, rfl⟩ c
    by_cases q : W (nm v) c = -1
    · by_cases q' : W' (nm' v) c = -1
      · exact Or.inl ⟨q, q'⟩
      · obtain ⟨a, b, he, e1, e2⟩ := h'.2.2.2 _ _ q'
        obtain ⟨i1, i2, i3, i4⟩ := hE a c b he
        have e3 : nm a.toNat = nm v := fo_ker h' h (by omega) hv e1
        have e4 := h.2.2.1 a c b he
        rw [e3, q] at e4
        have := (h.1 b.toNat (by omega)).1
        omega
    · obtain ⟨a, b, he, e1, e2⟩ := h.2.2.2 _ _ q
      obtain ⟨i1, i2, i3, i4⟩ := hE a c b he
      have e3 : nm' a.toNat = nm' v := fo_ker h h' (by omega) hv e1
      have e4 := h'.2.2.1 a c b he
      rw [e3] at e4
      have h5 := (h'.1 b.toNat (by omega)).1
      exact Or.inr ⟨q, by rw [e4]; omega, b.toNat, by omega, e2.symm, e4.symm⟩
/-- trimming: T is the greatest part of W, closed under going back, in which no vertex but b has one way only -/
def tr_spec (b : Int) (W T : Int → Int → Int) : Prop :=
  (∀ x c, T x c ≠ -1 → 0 ≤ x ∧ 0 ≤ c ∧ c < 6 ∧ T x c = W x c ∧ T (T x c) (cx c) = x) ∧
  (∀ x c, T x c ≠ -1 → x ≠ b → ∃ c', c' ≠ c ∧ T x c' ≠ -1) ∧
  ∀ S : Int → Int → Prop, (∀ x c, S x c → 0 ≤ x ∧ 0 ≤ c ∧ c < 6 ∧ W x c ≠ -1 ∧ S (W x c) (cx c)) → (∀ x c, S x c → x ≠ b → ∃ c', c' ≠ c ∧ S x c') → ∀ x c, S x c → T x c ≠ -1
theorem tr_half {b b' : Int} {Rl : Int → Int → Prop} {W W' T T' : Int → Int → Int} (hb : Rl b b') (hR : is_bij Rl) (hW : is_tab Rl W W') (h : tr_spec b W T) (h' : tr_spec b' W' T') {x y c : Int} (hxy : Rl x y) (q : T' y c ≠ -1) : T x c ≠ -1 := by
  refine h.2.2 (fun x c => ∃ y, Rl x y ∧ T' y c ≠ -1) ?_ ?_ x c ⟨y, hxy, q⟩
  · rintro x c ⟨y, hxy, q⟩
    obtain ⟨i1, i2, i3, i4, i5⟩ := h'.1 y c q
    rcases hW x y hxy c with ⟨w1, w2⟩ | ⟨w1, w2, w3⟩
    · rw [i4] at q
      exact absurd w2 q
    · refine ⟨(hR.1 x y hxy).1, i2, i3, w1, W' y c, w3, ?_⟩
      rw [← i4, i5]
      omega
  · rintro x c ⟨y, hxy, q⟩ hx
    have hy : y ≠ b' := fun z => hx (hR.2.2 _ _ _ (by rw [z] at hxy; exact hxy) hb)
    obtain ⟨c', n, q'⟩ := h'.2.1 y c q hy
    exact ⟨c', n, y, hxy, q'⟩
theorem is_swap {Rl : Int → Int → Prop} {W W' : Int → Int → Int} (hR : is_bij Rl) (hW : is_tab Rl W W') : is_bij (fun x y => Rl y x) ∧ is_tab (fun x y => Rl y x) W' W := by
  refine ⟨⟨fun x y h => ⟨(hR.1 y x h).2, (hR.1 y x h).1⟩, fun x y y' h h' => hR.2.2 _ _ _ h h', fun x x' y h h' => hR.2.1 _ _ _ h h'⟩, fun x y h c => ?_⟩
  rcases hW y x h c with ⟨a, b⟩ | ⟨a, b, d⟩
  · exact Or.inl ⟨b, a⟩
  · exact Or.inr ⟨b, a, d⟩
theorem is_of_trim {b b' : Int} {Rl : Int → Int → Prop} {W W' T T' : Int → Int → Int} (hb : Rl b b') (hR : is_bij Rl) (hW : is_tab Rl W W') (h : tr_spec b W T) (h' : tr_spec b' W' T') : is_tab Rl T T' := by
  intro x y hxy c
  obtain ⟨hR2, hW2⟩ := is_swap hR hW
  by_cases q : T x c = -1
  · refine Or.inl ⟨q, ?_⟩
    apply Classical.byContradiction
    intro q'
    exact tr_half hb hR hW h h' hxy q' q
  · have q' : T' y c ≠ -1 := tr_half (Rl := fun x y => Rl y x) hb hR2 hW2 h' h hxy q
    refine Or.inr ⟨q, q', ?_⟩
    rcases hW x y hxy c with ⟨w1, w2⟩ | ⟨w1, w2, w3⟩
    · rw [(h.1 x c q).2.2.2.1] at q
      exact absurd w1 q
    · rw [(h.1 x c q).2.2.2.1, (h'.1 y c q').2.2.2.1]
      exact w3
/-- numbering: n numbered, number of a vertex, vertex of a number, parent, last code, depth -/
abbrev bS : Type := Nat × (Nat → Int) × (Nat → Int) × (Nat → Int) × (Nat → Int) × (Nat → Int)
def bf (T : Int → Int → Int) (k d : Nat) : bS → bS
  | (n, nu, od, pa, ar, de) => if 0 ≤ T (od k) d ∧ nu (T (od k) d).toNat < 0 then (n + 1, va_up nu (T (od k) d).toNat n, va_up od n (T (od k) d), va_up pa n k, va_up ar n d, va_up de n (de k + 1)) else (n, nu, od, pa, ar, de)
/-- after j looks: look i is at vertex number i / 6 by code i % 6 -/
def bfr (T : Int → Int → Int) (S : bS) : Nat → bS
  | 0 => S
  | j + 1 => bf T (j / 6) (j % 6) (bfr T S j)
def bf_iso (Rl : Int → Int → Prop) : bS → bS → Prop
  | (n, nu, od, pa, ar, de), (n', nu', od', pa', ar', de') => n = n' ∧ (∀ k, k < n → Rl (od k) (od' k)) ∧ (∀ x y, Rl x y → nu x.toNat = nu' y.toNat) ∧ (∀ k, 1 ≤ k → k < n → pa k = pa' k ∧ ar k = ar' k) ∧ ∀ k, k < n → de k = de' k
theorem bf_step {Rl : Int → Int → Prop} {T T' : Int → Int → Int} (hR : is_bij Rl) (hT : is_tab Rl T T') {k d : Nat} {S S' : bS} (hk : k < S.1) (h1 : 1 ≤ S.1) (h : bf_iso Rl S S') : bf_iso Rl (bf T k d S) (bf T' k d S') := by
  obtain ⟨n, nu, od, pa, ar, de⟩ := S
  obtain ⟨n', nu', od', pa', ar', de'⟩ := S'
  obtain ⟨rfl, ho, hn, hp, hd⟩ := h
  have hk : k < n := hk
  have h1 : 1 ≤ n := h1
  have hr := ho k hk
  simp only [bf]
  rcases hT _ _ hr d with ⟨w1, w2⟩ | ⟨w1, w2, w3⟩
  · rw [w1, w2, if_neg (by omega), if_neg (by omega)]
    exact ⟨rfl, ho, hn, hp, hd⟩
  · obtain ⟨g1, g2⟩ := hR.1 _ _ w3
    have e := hn _ _ w3
    by_cases q : nu (T (od k) d).toNat < 0
    · rw [if_pos ⟨g1, q⟩, if_pos ⟨g2, by rw [← e]; exact q⟩]
      refine ⟨rfl, fun i hi => ?_, fun x y hxy => ?_, fun i h1 hi => ?_, fun i hi => ?_⟩
      · by_cases z : i = n
        · rw [z, va_up_self, va_up_self]
          exact w3
        · rw [va_up_ne _ _ z, va_up_ne _ _ z]
          exact ho i (by omega)
      · obtain ⟨x0, y0⟩ := hR.1 _ _ hxy
        by_cases z : x = T (od k) d
        · have z' : y = T' (od' k) d := hR.2.1 _ _ _ (by rw [← z] at w3; exact hxy) (by rw [← z] at w3; exact w3)
          rw [z, z', va_up_self, va_up_self]
        · have z' : y ≠ T' (od' k) d := fun t => z (hR.2.2 _ _ _ (by rw [t] at hxy; exact hxy) w3)
          rw [va_up_ne _ _ (by omega), va_up_ne _ _ (by omega)]
          exact hn x y hxy
      · by_cases z : i = n
        · rw [z, va_up_self, va_up_self, va_up_self, va_up_self]
          exact ⟨rfl, rfl⟩
        · rw [va_up_ne _ _ z, va_up_ne _ _ z, va_up_ne _ _ z, va_up_ne _ _ z]
          exact hp i h1 (by omega)
      · by_cases z : i = n
        · rw [z, va_up_self, va_up_self, hd k hk]
        · rw [va_up_ne _ _ z, va_up_ne _ _ z]
          exact hd i (by omega)
    · rw [if_neg (fun z => q z.2), if_neg (fun z => q (by rw [e]; exact z.2))]
      exact ⟨rfl, ho, hn, hp, hd⟩
