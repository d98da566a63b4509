theorem ewl_red {N n : Int} {A : Int → Int → Int} {pa ar de : Nat → Int} (h : gi N n A pa ar de) {v c : Int} (hn : nt A ar v c) : ∀ i, i + 1 < (de v.toNat).toNat + 1 + (de (A v c).toNat).toNat → ewl pa ar de v c (A v c) (i + 1) ≠ -ewl pa ar de v c (A v c) i := by
  intro i hi e
  have q1 := ew_in h hn (j := i) (by omega)
  have q2 := ew_in h hn (j := i + 1) hi
  unfold ewl at e
  rw [← lo_cx] at e
  have x := cx_in (M := 2 * N) q1.1 q1.2 (by omega)
  exact ew_red h hn hi (lo_inj q2.1 x.1 e)
/-- the element of place i: how long, and its letters -/
abbrev elL (a : aS) (f : fS) (o : Nat) (i : Nat) : Nat := (a o 7 (i / 3)).toNat + 1 + (a o 7 (gA f a o ((i / 3 : Nat) : Int) (2 * ((i % 3 : Nat) : Int))).toNat).toNat
abbrev elW (a : aS) (f : fS) (o : Nat) (i : Nat) : Nat → Int := ewl (a o 5) (a o 6) (a o 7) ((i / 3 : Nat) : Int) (2 * ((i % 3 : Nat) : Int)) (gA f a o ((i / 3 : Nat) : Int) (2 * ((i % 3 : Nat) : Int)))
/-- the reference, where it has found it -/
abbrev elG (a : aS) (f : fS) (o : Nat) (g : fS) (i : Nat) : fS := setF (setF (setF g 0 20 ((i / 3 : Nat) : Int)) 0 21 ((i % 3 : Nat) + 1 : Int)) 0 22 (gA f a o ((i / 3 : Nat) : Int) (2 * ((i % 3 : Nat) : Int)))
section
variable {N : Int} {f : fS} {a : aS} {g : fS} {b : aS} {k : Nat} {s : Int}
theorem elL_bd (hk : k < 4) (hN : 1 ≤ N ∧ N ≤ 3) (ho : gok N f a (3 + k)) {i : Nat} (hp : pn (gA f a (3 + k)) (a (3 + k) 6) i = true) : 1 ≤ elL a f (3 + k) i ∧ elL a f (3 + k) i ≤ 127 ∧ (elL a f (3 + k) i : Int) = a (3 + k) 7 (i / 3) + 1 + a (3 + k) 7 (gA f a (3 + k) ((i / 3 : Nat) : Int) (2 * ((i % 3 : Nat) : Int))).toNat := by
  have hn := (pn_iff _ _ _).mp hp
  obtain ⟨b1, b2, b3, b4⟩ := ho.1.2.1 _ _ hn.1
  have dv := gi_deI ho.1 b1.1 b1.2
  have dt := gi_deI ho.1 b3.1 b3.2
  rw [Int.toNat_natCast] at dv
  unfold elL
  exact ⟨by omega, by omega, by omega⟩
theorem s_elM {post : fS → aS → Prop} (hs : s = (k : Int)) (hk : k < 4) (hN : 1 ≤ N ∧ N ≤ 3) (ho : gok N f a (3 + k)) (hr : grel f a g b k) {i : Nat} (hi : pn (gA f a (3 + k)) (a (3 + k) 6) i = true) (hp : ∀ R : Nat → Int, (∀ j, j < elL a f (3 + k) i → R j = elW a f (3 + k) i j) → post (setF (elG a f (3 + k) g i) 0 23 (elL a f (3 + k) i : Int)) (setA b 0 24 R)) : wp_M_putElement post s (setF (elG a f (3 + k) g i) 0 23 0) b := by
  have hn := (pn_iff _ _ _).mp hi
  have ok0 : okr N ((0, b 0 24) : rS) := ⟨fun j hj => absurd hj (by show ¬ j < 0; omega), fun j hj => absurd hj (by show ¬ j + 1 < 0; omega)⟩
  have red := pus_red (s := ((0, b 0 24) : rS)) (w := elW a f (3 + k) i) (L := elL a f (3 + k) i) rfl (fun j hj => by
    have hj : j + 1 < (a (3 + k) 7 (((i / 3 : Nat) : Int)).toNat).toNat + 1 + (a (3 + k) 7 (gA f a (3 + k) ((i / 3 : Nat) : Int) (2 * ((i % 3 : Nat) : Int))).toNat).toNat := by rw [Int.toNat_natCast]; exact hj
    exact ewl_red ho.1 hn j hj) (elL a f (3 + k) i) (Nat.le_refl _)
  have q := s_putEl (post := post) (g := elG a f (3 + k) g i) (b := b) (r := ((0, b 0 24) : rS)) (v := ((i / 3 : Nat) : Int)) (c := 2 * ((i % 3 : Nat) : Int)) hs hk hN ho hr (by omega) hn (by simp [setF]) (by
    have e : lo (2 * ((i % 3 : Nat) : Int)) = ((i % 3 : Nat) : Int) + 1 := by
      unfold lo
      rw [if_pos (by omega)]
      omega
    rw [e]
    simp [setF]) (by simp [setF]) ok0 (by show 0 ≤ 4; omega) (by
    rw [Int.toNat_natCast]
    show post (setF (elG a f (3 + k) g i) 0 23 ((pus ((0, b 0 24) : rS) (elW a f (3 + k) i) (elL a f (3 + k) i)).1 : Nat)) (setA b 0 24 (pus ((0, b 0 24) : rS) (elW a f (3 + k) i) (elL a f (3 + k) i)).2)
    rw [red.1]
    exact hp _ (fun j hj => red.2 j hj))
  have e2 : setA b 0 24 (((0, b 0 24) : rS)).2 = b := setA_id b 0 24
  rw [e2] at q
  exact q
theorem inv_el {o : Nat} {i : Nat} {z : Int} {R : Nat → Int} (hI : Inv f a g b) : Inv f a (setF (elG a f o g i) 0 23 z) (setA b 0 24 R) :=
  inv_g hI (by simp [setF]) (by simp [setF]) (fun j j1 j2 => setA_k _ _ (by omega))
theorem s_length {post : Int → fS → aS → Prop} {x1 x2 : Int} (hI : Inv f a g b) (h1 : ir x1) (h2 : ir x2) (h0 : ¬ ((0 ≤ x1 ∧ x1 < 4) ∧ 0 ≤ x2 ∧ x2 < f (3 + x1.toNat) 2) → post (-1) f a) (hp : ∀ i : Nat, (0 ≤ x1 ∧ x1 < 4) → i < 3 * (f (3 + x1.toNat) 0).toNat → pn (gA f a (3 + x1.toNat)) (a (3 + x1.toNat) 6) i = true → (pg_n (pn (gA f a (3 + x1.toNat)) (a (3 + x1.toNat) 6)) i : Int) = x2 → post (elL a f (3 + x1.toNat) i : Int) f a) : wp_X_length post x1 x2 f a := by
  obtain ⟨w1, w2, w3, w4, w5, w6⟩ := hI.1
  refine s_subN h1 (fun q => h0 (fun z => q z.1)) (fun q => ⟨q, ?_⟩)
  obtain ⟨k1, k2⟩ := hI.2 x1.toNat (by omega)
  have nn := k1.1.1
  refine s_slot h2 (by omega) w1 k1 (fun i i1 i2 i3 => ?_) (fun z => ⟨by decide, fun y => absurd rfl y, fun _ => h0 (fun y => z y.2)⟩)
  have bd := elL_bd (k := x1.toNat) (by omega) w1 k1 i2
  refine ⟨⟨by omega, by omega⟩, fun _ => ?_, fun y => by omega⟩
  refine s_size (by omega) w1 k1 ((pn_iff _ _ _).mp i2) ?_
  rw [Int.toNat_natCast, ← bd.2.2]
  exact hp i q i1 i2 i3
end
/-- the element is the only one of its number -/
theorem sim_length (f : fS) (a : aS) (g : fS) (b : aS) (x1 x2 : Int) (hI : Inv f a g b) (h1 : ir x1) (h2 : ir x2) : wp_X_length (fun z f1 a1 => wp_M_length (fun z2 g1 b1 => z = z2 ∧ Inv f1 a1 g1 b1) x1 x2 g b) x1 x2 f a := by
  obtain ⟨w1, w2, w3, w4, w5, w6⟩ := hI.1
  refine s_length hI h1 h2 (fun q => ?_) (fun i q i1 i2 i3 => ?_)
  · refine s_grpB h1 (fun _ => ⟨rfl, hI⟩) (fun y => ?_)
    obtain ⟨k1, k2⟩ := hI.2 x1.toNat (by omega)
    refine s_find h2 (k := x1.toNat) (by omega) (by omega) w1 w2 k1 k2 (fun i i1 i2 i3 => ?_) (fun _ => n_0 ⟨rfl, hI⟩)
    exfalso
    apply q
    have lt := pg_lt i1 i2
    have e := k1.2.2.1
    exact ⟨y, by omega, by omega⟩
  · obtain ⟨k1, k2⟩ := hI.2 x1.toNat (by omega)
    refine s_grpB h1 (fun z => absurd q z) (fun _ => ?_)
    have lt := pg_lt i1 i2
    have e := k1.2.2.1
    refine s_find h2 (k := x1.toNat) (by omega) (by omega) w1 w2 k1 k2 (fun j j1 j2 j3 => n_1 ?_) (fun z => absurd ⟨by omega, by omega⟩ z)
    have ej : j = i := pg_uniq j2 i2 (by omega)
    subst ej
    refine s_elM (k := x1.toNat) (by omega) (by omega) w1 k1 k2 j2 (fun R hR => ?_)
    rw [setF_s]
    exact ⟨rfl, inv_el hI⟩
theorem sim_basis (f : fS) (a : aS) (g : fS) (b : aS) (x1 x2 x3 : Int) (hI : Inv f a g b) (h1 : ir x1) (h2 : ir x2) (h3 : ir x3) : wp_X_basis (fun z f1 a1 => wp_M_basis (fun z2 g1 b1 => z = z2 ∧ Inv f1 a1 g1 b1) x1 x2 x3 g b) x1 x2 x3 f a := by
  obtain ⟨w1, w2, w3, w4, w5, w6⟩ := hI.1
  have M : ∀ r : Int, (¬ ((0 ≤ x1 ∧ x1 < 4) ∧ 0 ≤ x2 ∧ x2 < f (3 + x1.toNat) 2) → r = 0) → (∀ i : Nat, (0 ≤ x1 ∧ x1 < 4) → i < 3 * (f (3 + x1.toNat) 0).toNat → pn (gA f a (3 + x1.toNat)) (a (3 + x1.toNat) 6) i = true → (pg_n (pn (gA f a (3 + x1.toNat)) (a (3 + x1.toNat) 6)) i : Int) = x2 → r = if 0 ≤ x3 ∧ x3 < (elL a f (3 + x1.toNat) i : Int) then elW a f (3 + x1.toNat) i x3.toNat else 0) → wp_M_basis (fun z2 g1 b1 => r = z2 ∧ Inv f a g1 b1) x1 x2 x3 g b := by
    intro r r0 r1
    refine s_grpB h1 (fun y => ⟨r0 (fun z => y z.1), hI⟩) (fun y => ?_)
    obtain ⟨k1, k2⟩ := hI.2 x1.toNat (by omega)
    refine s_find h2 (k := x1.toNat) (by omega) (by omega) w1 w2 k1 k2 (fun i i1 i2 i3 => n_1 ?_) (fun z => n_0 ⟨r0 (fun y => z y.2), hI⟩)
    have e := r1 i y i1 i2 i3
    have bd := elL_bd (k := x1.toNat) (by omega) w1 k1 i2
    refine s_elM (k := x1.toNat) (by omega) (by omega) w1 k1 k2 i2 (fun R hR => ?_)
    rw [setF_s, setA_s]
    refine ⟨h3, fun q => ⟨?_, inv_el hI⟩, fun q => ⟨⟨by omega, by omega⟩, fun q2 => ⟨?_, inv_el hI⟩, fun q2 => ⟨⟨by omega, by omega⟩, ?_, inv_el hI⟩⟩⟩
    · rw [e, if_neg (by omega)]
    · rw [e, if_neg (by omega)]
    · rw [e, if_pos ⟨by omega, by omega⟩]
      exact (hR _ (by omega)).symm
  refine ⟨h3, fun q => M 0 (fun _ => rfl) (fun i _ _ _ _ => by rw [if_neg (by omega)]), fun q => ?_⟩
  refine s_length hI h1 h2 (fun z => ⟨by decide, fun y => by omega, fun _ => M 0 (fun _ => rfl) (fun i i0 i1 i2 i3 => ?_)⟩) (fun i i0 i1 i2 i3 => ?_)
  · exfalso
    apply z
    obtain ⟨k1, k2⟩ := hI.2 x1.toNat (by omega)
    have lt := pg_lt i1 i2
    have e := k1.2.2.1
    exact ⟨i0, by omega, by omega⟩
  · obtain ⟨k1, k2⟩ := hI.2 x1.toNat (by omega)
    have lt := pg_lt i1 i2
    have e := k1.2.2.1
    have bd := elL_bd (k := x1.toNat) (by omega) w1 k1 i2
    refine ⟨⟨by omega, by omega⟩, fun y => ⟨i0, ?_⟩, fun y => M 0 (fun _ => rfl) (fun j j0 j1 j2 j3 => ?_)⟩
    · refine s_slot h2 (by omega) w1 k1 (fun j j1 j2 j3 => ?_) (fun z => absurd ⟨by omega, by omega⟩ z)
      have ej : j = i := pg_uniq j2 i2 (by omega)
      subst ej
      refine s_letter (k := x1.toNat) (by omega) w1 k1 ((pn_iff _ _ _).mp j2) (by omega) ?_ ?_
      · rw [Int.toNat_natCast]
        omega
      · refine M _ (fun z => absurd ⟨i0, by omega, by omega⟩ z) (fun l l0 l1 l2 l3 => ?_)
        have el : l = j := pg_uniq l2 j2 (by omega)
        subst el
        rw [if_pos ⟨by omega, y⟩]
        rfl
    · have ej : j = i := pg_uniq j2 i2 (by omega)
      subst ej
      rw [if_neg (by omega)]
