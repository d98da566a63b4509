theorem inv_fr8 {f : fS} {a a' : aS} {g : fS} {b : aS} {k : Nat} (hI : Inv f a g b) (h : fr8 k a a') : Inv f a' g b := by
  obtain ⟨w1, w2, w3, w4, w5, w6⟩ := hI.1
  refine inv_of hI ⟨rfl, fun _ _ _ => rfl, fun o i ho hi => h o i (by omega), fun _ _ _ => rfl⟩ ?_
  have e : a' 1 0 = a 1 0 := h 1 0 (by omega)
  unfold wrel
  rw [e]
  exact ⟨w1, w2, w3, w4, w5, w6⟩
/-- the element of place i of graph k leads back in graph l -/
def Lp (f : fS) (a : aS) (k l i : Nat) : Prop := rg (gA f a (3 + l)) 0 (ew (a (3 + k) 5) (a (3 + k) 6) (a (3 + k) 7) ((i / 3 : Nat) : Int) (2 * ((i % 3 : Nat) : Int)) (gA f a (3 + k) ((i / 3 : Nat) : Int) (2 * ((i % 3 : Nat) : Int)))) (elL a f (3 + k) i) = 0
theorem lies_iff {N : Int} {f : fS} {a : aS} {k l : Nat} (hN : 1 ≤ N ∧ N ≤ 3) (ho : gok N f a (3 + k)) (hl : gok N f a (3 + l)) : lies N f a k l 0 ↔ ∀ i : Nat, i < 3 * (f (3 + k) 0).toNat → pn (gA f a (3 + k)) (a (3 + k) 6) i = true → Lp f a k l i := by
  constructor
  · intro h i hi hp
    have q := lps_of ho.1 (int_back hl.1) h ((i / 3 : Nat) : Int) (2 * ((i % 3 : Nat) : Int)) (by omega) ((pn_iff _ _ _).mp hp)
    rw [Int.toNat_natCast] at q
    exact q
  · intro h
    refine mor_of ho.1 (int_back hl.1) (by show (0 : Int) ≠ -1; omega) (fun v c hc hn => ?_)
    obtain ⟨b1, b2, b3, b4⟩ := ho.1.2.1 v c hn.1
    have e1 : (((3 * v + c / 2).toNat / 3 : Nat) : Int) = v := by omega
    have e2 : 2 * (((3 * v + c / 2).toNat % 3 : Nat) : Int) = c := by omega
    have e3 : (3 * v + c / 2).toNat / 3 = v.toNat := by omega
    have q := h (3 * v + c / 2).toNat (by omega) ((pn_at b1.1 b2.1 (by omega) hc).mpr hn)
    unfold Lp elL at q
    rw [e1, e2, e3] at q
    exact q
section
variable {post : Int → fS → aS → Prop} {N : Int} {f : fS} {a : aS} {k l : Nat} {s : Int}
theorem okr_el {R : Nat → Int} {o i : Nat} (ho : gok N f a o) (hi : pn (gA f a o) (a o 6) i = true) (hR : ∀ j, j < elL a f o i → R j = elW a f o i j) : okr N ((elL a f o i, R) : rS) := by
  have hn := (pn_iff _ _ _).mp hi
  refine wok_congr (w := elW a f o i) (L := elL a f o i) ⟨fun j hj => ?_, fun j hj => ?_⟩ hR
  · have q1 := ew_in ho.1 hn (j := j) (by rw [Int.toNat_natCast]; exact hj)
    exact lo_in q1.1 q1.2
  · exact ewl_red ho.1 hn j (by rw [Int.toNat_natCast]; exact hj)
theorem s_cont {x1 x2 : Int} (q1 : 0 ≤ x1 ∧ x1 < 4) (q2 : 0 ≤ x2 ∧ x2 < 4) (h1 : ir x1) (h2 : ir x2) (p1 : (∀ i : Nat, i < 3 * (f (3 + x2.toNat) 0).toNat → pn (gA f a (3 + x2.toNat)) (a (3 + x2.toNat) 6) i = true → Lp f a x2.toNat x1.toNat i) → ∀ g b, Inv f a g b → post 1 g b) (p0 : ¬ (∀ i : Nat, i < 3 * (f (3 + x2.toNat) 0).toNat → pn (gA f a (3 + x2.toNat)) (a (3 + x2.toNat) 6) i = true → Lp f a x2.toNat x1.toNat i) → ∀ g b, Inv f a g b → post 0 g b) : ∀ (n q : Nat) (g : fS) (b : aS), Inv f a g b → (q : Int) ≤ f (3 + x2.toNat) 2 → f (3 + x2.toNat) 2 < n + q → (∀ i : Nat, i < 3 * (f (3 + x2.toNat) 0).toNat → pn (gA f a (3 + x2.toNat)) (a (3 + x2.toNat) 6) i = true → pg_n (pn (gA f a (3 + x2.toNat)) (a (3 + x2.toNat) 6)) i < q → Lp f a x2.toNat x1.toNat i) → wb_M_contains_28 post n x1 x2 1 (f (3 + x2.toNat) 2) (q : Int) g b := by
  intro n
  induction n with
  | zero => intro q g b hI g1 g2; omega
  | succ n ih =>
    intro q g b hI g1 g2 g3
    obtain ⟨w1, w2, w3, w4, w5, w6⟩ := hI.1
    obtain ⟨k1, k2⟩ := hI.2 x2.toNat (by omega)
    obtain ⟨l1, l2⟩ := hI.2 x1.toNat (by omega)
    have nn := k1.1.1
    have er := k1.2.2.1
    have le := pg_le (pn (gA f a (3 + x2.toNat)) (a (3 + x2.toNat) 6)) (3 * (f (3 + x2.toNat) 0).toNat)
    rw [wb_M_contains_28]
    refine ⟨⟨by omega, by omega⟩, ⟨by omega, by omega⟩, fun z => ⟨Or.inr rfl, p1 (fun i i1 i2 => g3 i i1 i2 ?_) g b hI⟩, fun z => ⟨by decide, fun y => absurd y (by decide), fun _ => ?_⟩⟩
    · have := pg_lt i1 i2
      omega
    · refine s_find (k := x2.toNat) ⟨by omega, by omega⟩ (by omega) (by omega) w1 w2 k1 k2 (fun i i1 i2 i3 => ?_) (fun y => absurd ⟨by omega, by omega⟩ y)
      refine s_elM (k := x2.toNat) (by omega) (by omega) w1 k1 k2 i2 (fun R hR => b_1 ?_)
      have bd := elL_bd (k := x2.toNat) (by omega) w1 k1 i2
      have hn := (pn_iff _ _ _).mp i2
      have eq : rg (gA f a (3 + x1.toNat)) 0 (fun j => co (R j)) (elL a f (3 + x2.toNat) i) = rg (gA f a (3 + x1.toNat)) 0 (ew (a (3 + x2.toNat) 5) (a (3 + x2.toNat) 6) (a (3 + x2.toNat) 7) ((i / 3 : Nat) : Int) (2 * ((i % 3 : Nat) : Int)) (gA f a (3 + x2.toNat) ((i / 3 : Nat) : Int) (2 * ((i % 3 : Nat) : Int)))) (elL a f (3 + x2.toNat) i) := by
        refine rg_congr _ _ (fun j hj => ?_)
        show co (R j) = _
        rw [hR j hj]
        exact co_lo (ew_in k1.1 hn (j := j) (by rw [Int.toNat_natCast]; exact hj)).1
      refine s_leads (s := x1) (k := x1.toNat) (r := ((elL a f (3 + x2.toNat) i, R) : rS)) (g := elG a f (3 + x2.toNat) g i) (b := b) (by omega) (by omega) w1 l1 l2 (okr_el k1 i2 hR) (by show elL a f (3 + x2.toNat) i ≤ 132; omega) (fun y => b_0 ?_) (fun y => b_1 ?_)
      · have y : ¬ rg (gA f a (3 + x1.toNat)) 0 (fun j => co (R j)) (elL a f (3 + x2.toNat) i) = 0 := y
        rw [eq] at y
        show wb_M_contains_28 post n x1 x2 0 (f (3 + x2.toNat) 2) ((q : Int) + 1) _ _
        obtain ⟨n', en⟩ : ∃ n', n = n' + 1 := ⟨n - 1, by omega⟩
        subst en
        rw [wb_M_contains_28]
        have fin : post 0 (setF (elG a f (3 + x2.toNat) g i) 0 23 ((elL a f (3 + x2.toNat) i : Nat) : Int)) (setA b 0 24 R) := p0 (fun w => y (w i i1 i2)) _ _ (inv_el hI)
        exact ⟨⟨by omega, by omega⟩, ⟨by omega, by omega⟩, fun _ => ⟨Or.inl rfl, fin⟩, fun _ => ⟨by decide, fun _ => ⟨Or.inl rfl, fin⟩, fun w => absurd rfl w⟩⟩
      · have y : rg (gA f a (3 + x1.toNat)) 0 (fun j => co (R j)) (elL a f (3 + x2.toNat) i) = 0 := y
        rw [eq] at y
        show wb_M_contains_28 post n x1 x2 1 (f (3 + x2.toNat) 2) ((q : Int) + 1) _ _
        have e : (q : Int) + 1 = ((q + 1 : Nat) : Int) := by omega
        rw [e]
        refine ih (q + 1) _ _ (inv_el hI) (by omega) (by omega) (fun j j1 j2 j3 => ?_)
        by_cases w : pg_n (pn (gA f a (3 + x2.toNat)) (a (3 + x2.toNat) 6)) j < q
        · exact g3 j j1 j2 w
        · have ej : j = i := pg_uniq j2 i2 (by omega)
          rw [ej]
          exact y
end
theorem sim_contains (f : fS) (a : aS) (g : fS) (b : aS) (x1 x2 : Int) (hI : Inv f a g b) (h1 : ir x1) (h2 : ir x2) : wp_X_contains (fun z f1 a1 => wp_M_contains (fun z2 g1 b1 => z = z2 ∧ Inv f1 a1 g1 b1) x1 x2 g b) x1 x2 f a := by
  obtain ⟨w1, w2, w3, w4, w5, w6⟩ := hI.1
  refine s_subB h1 (fun q => ⟨Or.inl rfl, s_grpB h1 (fun _ => ⟨rfl, hI⟩) (fun z => absurd z q)⟩) (fun q1 => ?_)
  refine s_subB h2 (fun q => ⟨Or.inl rfl, s_grpB h1 (fun z => absurd q1 z) (fun _ => s_grpN h2 (fun _ => ⟨rfl, hI⟩) (fun z => absurd z q))⟩) (fun q2 => ⟨q2, q1, ?_⟩)
  obtain ⟨k1, k2⟩ := hI.2 x2.toNat (by omega)
  obtain ⟨l1, l2⟩ := hI.2 x1.toNat (by omega)
  have nl := l1.1.1
  have nk := k1.1.1
  have er := k1.2.2.1
  have li := lies_iff w1 k1 l1
  have M : ∀ (post : Int → fS → aS → Prop), ((∀ i : Nat, i < 3 * (f (3 + x2.toNat) 0).toNat → pn (gA f a (3 + x2.toNat)) (a (3 + x2.toNat) 6) i = true → Lp f a x2.toNat x1.toNat i) → ∀ g b, Inv f a g b → post 1 g b) → (¬ (∀ i : Nat, i < 3 * (f (3 + x2.toNat) 0).toNat → pn (gA f a (3 + x2.toNat)) (a (3 + x2.toNat) 6) i = true → Lp f a x2.toNat x1.toNat i) → ∀ g b, Inv f a g b → post 0 g b) → wp_M_contains post x1 x2 g b := by
    intro post p1 p0
    refine s_grpB h1 (fun z => absurd q1 z) (fun _ => s_grpN h2 (fun z => absurd q2 z) (fun _ => ?_))
    refine s_els (s := x2) (k := x2.toNat) (by omega) (by omega) w1 w2 k1 k2 ⟨_, s_cont q1 q2 h1 h2 p1 p0 ((f (3 + x2.toNat) 2).toNat + 1) 0 g b hI (by omega) (by omega) (fun i _ _ z => by omega)⟩
  refine s_lies (k := x2.toNat) (l := x1.toNat) (by omega) (by omega) w1 k1 l1 (by omega) (by omega) (fun q a' hfr => b_0 ⟨Or.inl rfl, ?_⟩) (fun q a' hfr => b_1 ⟨Or.inr rfl, ?_⟩)
  · exact M _ (fun y => absurd (li.mpr y) q) (fun _ g1 b1 hI1 => ⟨rfl, inv_fr8 hI1 hfr⟩)
  · exact M _ (fun _ g1 b1 hI1 => ⟨rfl, inv_fr8 hI1 hfr⟩) (fun y => absurd (li.mp q) y)
