/-- the element of place i loops beside the base, by the inverse of d -/
def Nd (f : fS) (a : aS) (k : Nat) (d : Int) (i : Nat) : Prop := rg (rd (gA f a (3 + k))) (rd (gA f a (3 + k)) (0, []) (cx d)) (ew (a (3 + k) 5) (a (3 + k) 6) (a (3 + k) 7) ((i / 3 : Nat) : Int) (2 * ((i % 3 : Nat) : Int)) (gA f a (3 + k) ((i / 3 : Nat) : Int) (2 * ((i % 3 : Nat) : Int)))) (elL a f (3 + k) i) = rd (gA f a (3 + k)) (0, []) (cx d)
/-- all elements do -/
def Na (f : fS) (a : aS) (k : Nat) (d : Int) : Prop := ∀ i : Nat, i < 3 * (f (3 + k) 0).toNat → pn (gA f a (3 + k)) (a (3 + k) 6) i = true → Nd f a k d i
theorem s_put0 {post : fS → aS → Prop} {N : Int} {g : fS} {b : aS} {x : Int} (hN : N ≤ 3) (x1 : -N ≤ x) (x2 : x ≤ N) (hp : post (setF g 0 23 ((pu ((0, b 0 24) : rS) x).1 : Nat)) (setA b 0 24 (pu ((0, b 0 24) : rS) x).2)) : wp_M_put post x (setF g 0 23 0) b := by
  have ok0 : okr N ((0, b 0 24) : rS) := ⟨fun j hj => absurd hj (by show ¬ j < 0; omega), fun j hj => absurd hj (by show ¬ j + 1 < 0; omega)⟩
  have q := s_put (post := post) (g := g) (b := b) (r := ((0, b 0 24) : rS)) hN ok0 (by show 0 < 132; omega) x1 x2 hp
  have e2 : setA b 0 24 (((0, b 0 24) : rS)).2 = b := setA_id b 0 24
  rw [e2] at q
  exact q
section
variable {post : Int → fS → aS → Prop} {f : fS} {a : aS} {x : Int}
theorem s_nrm_in {k20 : Int → Int → Int → Int → fS → aS → Prop} (q1 : 0 ≤ x ∧ x < 4) {d : Int} (d0 : 0 ≤ d) (d1 : d < 2 * f 0 0) (p1 : Na f a x.toNat d → ∀ g b, Inv f a g b → k20 x 1 (f (3 + x.toNat) 2) (d + 1) g b) (p0 : ¬ Na f a x.toNat d → ∀ g b, Inv f a g b → k20 x 0 (f (3 + x.toNat) 2) (d + 1) g b) : ∀ (n q : Nat) (g : fS) (b : aS), Inv f a g b → (q : Int) ≤ f (3 + x.toNat) 2 → f (3 + x.toNat) 2 < n + q → (∀ i : Nat, i < 3 * (f (3 + x.toNat) 0).toNat → pn (gA f a (3 + x.toNat)) (a (3 + x.toNat) 6) i = true → pg_n (pn (gA f a (3 + x.toNat)) (a (3 + x.toNat) 6)) i < q → Nd f a x.toNat d i) → wb_M_normal_38 post k20 n x 1 (f (3 + x.toNat) 2) d (q : Int) g b := by
  intro n
  induction n with
  | zero => intro q g b hI g1 g2; omega
  | succ n ih =>
    intro q g b hI g1 g2 g3
    obtain ⟨w1, w2, w3, w4, w5, w6⟩ := hI.1
    obtain ⟨k1, k2⟩ := hI.2 x.toNat (by omega)
    have nn := k1.1.1
    have er := k1.2.2.1
    have le := pg_le (pn (gA f a (3 + x.toNat)) (a (3 + x.toNat) 6)) (3 * (f (3 + x.toNat) 0).toNat)
    have hA := gi_ok2 k1.1
    have l := lo_in d0 d1
    rw [wb_M_normal_38]
    refine ⟨⟨by omega, by omega⟩, ⟨by omega, by omega⟩, fun z => p1 (fun i i1 i2 => g3 i i1 i2 ?_) g b hI, fun z => ⟨by decide, fun y => absurd y (by decide), fun _ => ?_⟩⟩
    · have := pg_lt i1 i2
      omega
    · refine s_find (k := x.toNat) ⟨by omega, by omega⟩ (by omega) (by omega) w1 w2 k1 k2 (fun i i1 i2 i3 => ?_) (fun y => absurd ⟨by omega, by omega⟩ y)
      have bd := elL_bd (k := x.toNat) (by omega) w1 k1 i2
      have hn := (pn_iff _ _ _).mp i2
      obtain ⟨b1, b2, b3, b4⟩ := k1.1.2.1 _ _ hn.1
      have dv := gi_deI k1.1 b1.1 b1.2
      have dt := gi_deI k1.1 b3.1 b3.2
      refine s_loM d0 (by omega) (s_put0 (N := f 0 0) (g := elG a f (3 + x.toNat) g i) w1.2 (by omega) (by omega) ?_)
      have ok0 : okr (f 0 0) ((0, b 0 24) : rS) := ⟨fun j hj => absurd hj (by show ¬ j < 0; omega), fun j hj => absurd hj (by show ¬ j + 1 < 0; omega)⟩
      have ok1 : okr (f 0 0) (pu ((0, b 0 24) : rS) (-lo d)) := pu_okr ok0 (by omega) (by omega) (by omega)
      have le1 : (pu ((0, b 0 24) : rS) (-lo d)).1 ≤ 1 := by
        have := pus_le ((0, b 0 24) : rS) (fun _ => -lo d) 1
        exact this
      refine s_putEl (post := _) (s := x) (k := x.toNat) (f := f) (a := a) (N := f 0 0) (g := elG a f (3 + x.toNat) g i) (b := b) (r := pu ((0, b 0 24) : rS) (-lo d)) (v := ((i / 3 : Nat) : Int)) (c := 2 * ((i % 3 : Nat) : Int)) (by omega) (by omega) w1 k1 k2 (by omega) hn (by simp [setF]) (by
        have e : lo (2 * ((i % 3 : Nat) : Int)) = ((i % 3 : Nat) : Int) + 1 := by
          unfold lo
          rw [if_pos (by omega)]
          omega
        rw [e]
        simp [setF]) (by simp [setF]) ok1 (by omega) ?_
      have win : ∀ j, j < (a (3 + x.toNat) 7 (((i / 3 : Nat) : Int)).toNat).toNat + 1 + (a (3 + x.toNat) 7 (gA f a (3 + x.toNat) ((i / 3 : Nat) : Int) (2 * ((i % 3 : Nat) : Int))).toNat).toNat → 0 ≤ ew (a (3 + x.toNat) 5) (a (3 + x.toNat) 6) (a (3 + x.toNat) 7) ((i / 3 : Nat) : Int) (2 * ((i % 3 : Nat) : Int)) (gA f a (3 + x.toNat) ((i / 3 : Nat) : Int) (2 * ((i % 3 : Nat) : Int))) j ∧ ew (a (3 + x.toNat) 5) (a (3 + x.toNat) 6) (a (3 + x.toNat) 7) ((i / 3 : Nat) : Int) (2 * ((i % 3 : Nat) : Int)) (gA f a (3 + x.toNat) ((i / 3 : Nat) : Int) (2 * ((i % 3 : Nat) : Int))) j < 2 * f 0 0 := fun j hj => ew_in k1.1 hn hj
      have ok2 := pus_okr ok1 (w := ewl (a (3 + x.toNat) 5) (a (3 + x.toNat) 6) (a (3 + x.toNat) 7) ((i / 3 : Nat) : Int) (2 * ((i % 3 : Nat) : Int)) (gA f a (3 + x.toNat) ((i / 3 : Nat) : Int) (2 * ((i % 3 : Nat) : Int)))) (fun j hj => lo_in (win j hj).1 (win j hj).2)
      have le2 := pus_le (pu ((0, b 0 24) : rS) (-lo d)) (ewl (a (3 + x.toNat) 5) (a (3 + x.toNat) 6) (a (3 + x.toNat) 7) ((i / 3 : Nat) : Int) (2 * ((i % 3 : Nat) : Int)) (gA f a (3 + x.toNat) ((i / 3 : Nat) : Int) (2 * ((i % 3 : Nat) : Int)))) ((a (3 + x.toNat) 7 (((i / 3 : Nat) : Int)).toNat).toNat + 1 + (a (3 + x.toNat) 7 (gA f a (3 + x.toNat) ((i / 3 : Nat) : Int) (2 * ((i % 3 : Nat) : Int))).toNat).toNat)
      refine s_loM d0 (by omega) (s_put (N := f 0 0) w1.2 ok2 (by omega) l.2.1 l.2.2 (b_1 ?_))
      have ok3 := pu_okr ok2 (x := lo d) l.1 l.2.1 l.2.2
      have le3 : (pu (pus (pu ((0, b 0 24) : rS) (-lo d)) (ewl (a (3 + x.toNat) 5) (a (3 + x.toNat) 6) (a (3 + x.toNat) 7) ((i / 3 : Nat) : Int) (2 * ((i % 3 : Nat) : Int)) (gA f a (3 + x.toNat) ((i / 3 : Nat) : Int) (2 * ((i % 3 : Nat) : Int)))) ((a (3 + x.toNat) 7 (((i / 3 : Nat) : Int)).toNat).toNat + 1 + (a (3 + x.toNat) 7 (gA f a (3 + x.toNat) ((i / 3 : Nat) : Int) (2 * ((i % 3 : Nat) : Int))).toNat).toNat)) (lo d)).1 ≤ 132 := by
        have q9 := pus_le (pus (pu ((0, b 0 24) : rS) (-lo d)) (ewl (a (3 + x.toNat) 5) (a (3 + x.toNat) 6) (a (3 + x.toNat) 7) ((i / 3 : Nat) : Int) (2 * ((i % 3 : Nat) : Int)) (gA f a (3 + x.toNat) ((i / 3 : Nat) : Int) (2 * ((i % 3 : Nat) : Int)))) ((a (3 + x.toNat) 7 (((i / 3 : Nat) : Int)).toNat).toNat + 1 + (a (3 + x.toNat) 7 (gA f a (3 + x.toNat) ((i / 3 : Nat) : Int) (2 * ((i % 3 : Nat) : Int))).toNat).toNat)) (fun _ => lo d) 1
        refine Nat.le_trans q9 ?_
        omega
      have key := nrm_put (N := f 0 0) (n := f (3 + x.toNat) 0) (A := gA f a (3 + x.toNat)) hA nn.1 (gi_m1 k1.1) (s := ((0, b 0 24) : rS)) rfl (w := ew (a (3 + x.toNat) 5) (a (3 + x.toNat) 6) (a (3 + x.toNat) 7) ((i / 3 : Nat) : Int) (2 * ((i % 3 : Nat) : Int)) (gA f a (3 + x.toNat) ((i / 3 : Nat) : Int) (2 * ((i % 3 : Nat) : Int)))) win d0 d1
      have nd : Nd f a x.toNat d i ↔ rg (rd (gA f a (3 + x.toNat))) (rd (gA f a (3 + x.toNat)) (0, []) (cx d)) (ew (a (3 + x.toNat) 5) (a (3 + x.toNat) 6) (a (3 + x.toNat) 7) ((i / 3 : Nat) : Int) (2 * ((i % 3 : Nat) : Int)) (gA f a (3 + x.toNat) ((i / 3 : Nat) : Int) (2 * ((i % 3 : Nat) : Int)))) ((a (3 + x.toNat) 7 (((i / 3 : Nat) : Int)).toNat).toNat + 1 + (a (3 + x.toNat) 7 (gA f a (3 + x.toNat) ((i / 3 : Nat) : Int) (2 * ((i % 3 : Nat) : Int))).toNat).toNat) = rd (gA f a (3 + x.toNat)) (0, []) (cx d) := by
        unfold Nd
        rw [Int.toNat_natCast]
      refine s_leads (s := x) (k := x.toNat) (g := elG a f (3 + x.toNat) g i) (b := b) (by omega) (by omega) w1 k1 k2 ok3 le3 (fun y => b_0 ?_) (fun y => b_1 ?_)
      · have y2 : ¬ Nd f a x.toNat d i := fun w => y (key.mpr (nd.mp w))
        show wb_M_normal_38 post k20 n x 0 (f (3 + x.toNat) 2) d ((q : Int) + 1) _ _
        obtain ⟨n', en⟩ : ∃ n', n = n' + 1 := ⟨n - 1, by omega⟩
        subst en
        rw [wb_M_normal_38]
        have fin := p0 (fun w => y2 (w i i1 i2)) _ _ (inv_el (o := 3 + x.toNat) (i := i) (z := ((pu (pus (pu ((0, b 0 24) : rS) (-lo d)) (ewl (a (3 + x.toNat) 5) (a (3 + x.toNat) 6) (a (3 + x.toNat) 7) ((i / 3 : Nat) : Int) (2 * ((i % 3 : Nat) : Int)) (gA f a (3 + x.toNat) ((i / 3 : Nat) : Int) (2 * ((i % 3 : Nat) : Int)))) ((a (3 + x.toNat) 7 (((i / 3 : Nat) : Int)).toNat).toNat + 1 + (a (3 + x.toNat) 7 (gA f a (3 + x.toNat) ((i / 3 : Nat) : Int) (2 * ((i % 3 : Nat) : Int))).toNat).toNat)) (lo d)).1 : Nat)) (R := (pu (pus (pu ((0, b 0 24) : rS) (-lo d)) (ewl (a (3 + x.toNat) 5) (a (3 + x.toNat) 6) (a (3 + x.toNat) 7) ((i / 3 : Nat) : Int) (2 * ((i % 3 : Nat) : Int)) (gA f a (3 + x.toNat) ((i / 3 : Nat) : Int) (2 * ((i % 3 : Nat) : Int)))) ((a (3 + x.toNat) 7 (((i / 3 : Nat) : Int)).toNat).toNat + 1 + (a (3 + x.toNat) 7 (gA f a (3 + x.toNat) ((i / 3 : Nat) : Int) (2 * ((i % 3 : Nat) : Int))).toNat).toNat)) (lo d)).2) hI)
        exact ⟨⟨by omega, by omega⟩, ⟨by omega, by omega⟩, fun _ => fin, fun _ => ⟨by decide, fun _ => fin, fun w => absurd rfl w⟩⟩
      · have y2 : Nd f a x.toNat d i := nd.mpr (key.mp y)
        show wb_M_normal_38 post k20 n x 1 (f (3 + x.toNat) 2) d ((q : Int) + 1) _ _
        have e : (q : Int) + 1 = ((q + 1 : Nat) : Int) := by omega
        rw [e]
        refine ih (q + 1) _ _ (inv_el hI) (by omega) (by omega) (fun j j1 j2 j3 => ?_)
        by_cases w : pg_n (pn (gA f a (3 + x.toNat)) (a (3 + x.toNat) 6)) j < q
        · exact g3 j j1 j2 w
        · have ej : j = i := pg_uniq j2 i2 (by omega)
          rw [ej]
          exact y2
theorem s_nrm {g : fS} {b : aS} (hI : Inv f a g b) (q1 : 0 ≤ x ∧ x < 4) (hx : ir x) (p1 : (∀ d, 0 ≤ d → d < 2 * f 0 0 → Na f a x.toNat d) → ∀ g b, Inv f a g b → post 1 g b) (p0 : ¬ (∀ d, 0 ≤ d → d < 2 * f 0 0 → Na f a x.toNat d) → ∀ g b, Inv f a g b → post 0 g b) : wp_M_normal post x g b := by
  obtain ⟨w1, w2, w3, w4, w5, w6⟩ := hI.1
  obtain ⟨k1, k2⟩ := hI.2 x.toNat (by omega)
  have nn := k1.1.1
  have er := k1.2.2.1
  have le := pg_le (pn (gA f a (3 + x.toNat)) (a (3 + x.toNat) 6)) (3 * (f (3 + x.toNat) 0).toNat)
  refine s_grpN hx (fun z => absurd q1 z) (fun _ => s_els (k := x.toNat) (by omega) (by omega) w1 w2 k1 k2 ?_)
  have outer : ∀ (n d : Nat) (g : fS) (b : aS), Inv f a g b → (d : Int) ≤ 2 * f 0 0 → 2 * f 0 0 < n + d → (∀ e : Int, 0 ≤ e → e < d → Na f a x.toNat e) → wb_M_normal_20 post n x 1 (f (3 + x.toNat) 2) (d : Int) g b := by
    intro n
    induction n with
    | zero => intro d g b hI g1 g2; omega
    | succ n ih =>
      intro d g b hI g1 g2 g3
      obtain ⟨v1, v2, v3, v4, v5, v6⟩ := hI.1
      rw [wb_M_normal_20, v2]
      refine ⟨⟨by omega, by omega⟩, ⟨by omega, by omega⟩, fun z => ⟨Or.inr rfl, p1 (fun e e0 e1 => g3 e e0 (by omega)) g b hI⟩, fun z => ⟨by decide, fun y => absurd y (by decide), fun _ => ?_⟩⟩
      refine ⟨_, s_nrm_in (post := post) (k20 := wb_M_normal_20 post n) q1 (d := (d : Int)) (by omega) (by omega) (fun hNa g' b' hI' => ?_) (fun hNa g' b' hI' => ?_) ((f (3 + x.toNat) 2).toNat + 1) 0 g b hI (by omega) (by omega) (fun i _ _ w => by omega)⟩
      · have e : (d : Int) + 1 = ((d + 1 : Nat) : Int) := by omega
        rw [e]
        refine ih (d + 1) g' b' hI' (by omega) (by omega) (fun e' e0 e1 => ?_)
        by_cases w : e' < d
        · exact g3 e' e0 w
        · have ee : e' = (d : Int) := by omega
          rw [ee]
          exact hNa
      · obtain ⟨n', en⟩ : ∃ n', n = n' + 1 := ⟨n - 1, by omega⟩
        subst en
        obtain ⟨u1, u2, u3, u4, u5, u6⟩ := hI'.1
        rw [wb_M_normal_20, u2]
        have fin := p0 (fun w => hNa (w d (by omega) (by omega))) g' b' hI'
        exact ⟨⟨by omega, by omega⟩, ⟨by omega, by omega⟩, fun _ => ⟨Or.inl rfl, fin⟩, fun _ => ⟨by decide, fun _ => ⟨Or.inl rfl, fin⟩, fun w => absurd rfl w⟩⟩
  exact ⟨_, outer 8 0 g b hI (by omega) (by omega) (fun e e0 e1 => by omega)⟩
end
theorem lies_fr {N : Int} {f : fS} {a a' : aS} {k : Nat} (h : fr8 k a a') {st : Int} : lies N f a' k k st ↔ lies N f a k k st := by
  have fk : ∀ q, q ≤ 7 → a' (3 + k) q = a (3 + k) q := fun q hq => h _ _ (by omega)
  unfold lies
  rw [gA_fr fk, fk 5 (by omega), fk 6 (by omega), fk 7 (by omega)]
theorem fr8_tr {k : Nat} {a a' a'' : aS} (h : fr8 k a a') (h' : fr8 k a' a'') : fr8 k a a'' := fun o q hoq => (h' o q hoq).trans (h o q hoq)
/-- what the reference asks is what nrm_iff decides -/
theorem Na_iff {N : Int} {f : fS} {a : aS} {k : Nat} (hN : 1 ≤ N ∧ N ≤ 3) (ho : gok N f a (3 + k)) : (∀ d, 0 ≤ d → d < 2 * N → Na f a k d) ↔ ((∀ v c, gA f a (3 + k) v c = -1) ∨ (cpl N (f (3 + k) 0) (gA f a (3 + k)) ∧ ∀ c, 0 ≤ c → c < 2 * N → c % 2 = 0 → lies N f a k k (gA f a (3 + k) 0 c))) := by
  refine Iff.trans ?_ (nrm_iff ho.1 hN.1)
  constructor
  · intro h d d0 d1 v c hc hn
    obtain ⟨b1, b2, b3, b4⟩ := ho.1.2.1 v c hn.1
    have x := cx_in (M := 2 * N) d0 d1 (by omega)
    have e1 : (((3 * v + c / 2).toNat / 3 : Nat) : Int) = v := by omega
    have e2 : 2 * (((3 * v + c / 2).toNat % 3 : Nat) : Int) = c := by omega
    have e3 : (3 * v + c / 2).toNat / 3 = v.toNat := by omega
    have q := h (cx d) x.1 x.2 (3 * v + c / 2).toNat (by omega) ((pn_at b1.1 b2.1 (by omega) hc).mpr hn)
    unfold Nd elL at q
    rw [e1, e2, e3, cx_cx] at q
    exact q
  · intro h d d0 d1 i i1 i2
    have x := cx_in (M := 2 * N) d0 d1 (by omega)
    have q := h (cx d) x.1 x.2 ((i / 3 : Nat) : Int) (2 * ((i % 3 : Nat) : Int)) (by omega) ((pn_iff _ _ _).mp i2)
    rw [Int.toNat_natCast] at q
    exact q
theorem no_edges {N : Int} {f : fS} {a : aS} {k : Nat} (hN : 1 ≤ N ∧ N ≤ 3) (ho : gok N f a (3 + k)) : f (3 + k) 1 = 0 ↔ ∀ v c, gA f a (3 + k) v c = -1 := by
  have ed := ho.2.1
  constructor
  · intro h
    have z : pg_n (pe (gA f a (3 + k))) (3 * (f (3 + k) 0).toNat) = 0 := by omega
    have half : ∀ v c, c % 2 = 0 → gA f a (3 + k) v c = -1 := by
      intro v c hc
      apply Classical.byContradiction
      intro q
      obtain ⟨b1, b2, b3, b4⟩ := ho.1.2.1 v c q
      have y := pg_zero z (3 * v + c / 2).toNat (by omega)
      unfold pe at y
      have e1 : (((3 * v + c / 2).toNat / 3 : Nat) : Int) = v := by omega
      have e2 : 2 * (((3 * v + c / 2).toNat % 3 : Nat) : Int) = c := by omega
      rw [e1, e2] at y
      exact (of_decide_eq_false y) q
    intro v c
    apply Classical.byContradiction
    intro q
    obtain ⟨b1, b2, b3, b4⟩ := ho.1.2.1 v c q
    by_cases e : c % 2 = 0
    · exact q (half v c e)
    · have y := half (gA f a (3 + k) v c) (cx c) (by unfold cx; omega)
      rw [b4] at y
      omega
  · intro h
    rw [ed, pg_none (fun i _ => by unfold pe; rw [h]; rfl)]
    rfl
theorem sim_normal (f : fS) (a : aS) (g : fS) (b : aS) (x : Int) (hI : Inv f a g b) (hx : ir x) : wp_X_normal (fun z f1 a1 => wp_M_normal (fun z2 g1 b1 => z = z2 ∧ Inv f1 a1 g1 b1) x g b) x f a := by
  obtain ⟨w1, w2, w3, w4, w5, w6⟩ := hI.1
  refine s_subN hx (fun q => s_grpN hx (fun _ => ⟨rfl, hI⟩) (fun z => absurd z q)) (fun q1 => ⟨q1, fun o eo => ?_⟩)
  subst eo
  obtain ⟨k1, k2⟩ := hI.2 x.toNat (by omega)
  have nn := k1.1.1
  have ed := k1.2.1
  have le := pg_le (pe (gA f a (3 + x.toNat))) (3 * (f (3 + x.toNat) 0).toNat)
  have iff := Na_iff w1 k1
  have ne := no_edges w1 k1
  have ci := cpl_iff k1.1 w1 (k := (f (3 + x.toNat) 0).toNat) (by omega)
  rw [← ed] at ci
  have yes : (∀ d, 0 ≤ d → d < 2 * f 0 0 → Na f a x.toNat d) → ∀ a', fr8 x.toNat a a' → wp_M_normal (fun z2 g1 b1 => 1 = z2 ∧ Inv f a' g1 b1) x g b := fun h a' hfr => s_nrm hI q1 hx (fun _ g1 b1 hI1 => ⟨rfl, inv_fr8 hI1 hfr⟩) (fun y => absurd h y)
  have no : ¬ (∀ d, 0 ≤ d → d < 2 * f 0 0 → Na f a x.toNat d) → ∀ a', fr8 x.toNat a a' → wp_M_normal (fun z2 g1 b1 => 0 = z2 ∧ Inv f a' g1 b1) x g b := fun h a' hfr => s_nrm hI q1 hx (fun y => absurd y h) (fun _ g1 b1 hI1 => ⟨rfl, inv_fr8 hI1 hfr⟩)
  have fr0 : fr8 x.toNat a a := fun _ _ _ => rfl
  refine ⟨⟨by omega, by omega⟩, fun z => ?_, fun z => yes (iff.mpr (Or.inl (ne.mp (Classical.byContradiction z)))) a fr0⟩
  refine s_cpl (k := x.toNat) (by omega) w1 k1 (fun y => n_0 (no (fun w => ?_) a fr0)) (fun y => n_1 ?_)
  · rcases iff.mp w with u | u
    · exact z (ne.mpr u)
    · exact y (ci.mpr u.1)
  · have hc := ci.mp y
    have loop : ∀ (n u : Nat) (a' : aS), fr8 x.toNat a a' → 1 ≤ u → (u : Int) ≤ f 0 0 + 1 → f 0 0 + 1 < n + u → (∀ c : Int, 0 ≤ c → c < 2 * (u : Int) - 2 → c % 2 = 0 → lies (f 0 0) f a x.toNat x.toNat (gA f a (3 + x.toNat) 0 c)) → wb_X_normal_38 (fun z f1 a1 => wp_M_normal (fun z2 g1 b1 => z = z2 ∧ Inv f1 a1 g1 b1) x g b) n (3 + x.toNat) (u : Int) f a' := by
      intro n
      induction n with
      | zero => intro u a' hfr g0 g1 g2; omega
      | succ n ih =>
        intro u a' hfr g0 g1 g2 g3
        rw [wb_X_normal_38]
        refine ⟨⟨by omega, by omega⟩, ⟨by omega, by omega⟩, fun w => yes (iff.mpr (Or.inr ⟨hc, fun c c0 c1 c2 => g3 c c0 (by omega) c2⟩)) a' hfr, fun w => ?_⟩
        have fk : ∀ q, q ≤ 7 → a' (3 + x.toNat) q = a (3 + x.toNat) q := fun q hq => hfr _ _ (by omega)
        have ok1 : gok (f 0 0) f a' (3 + x.toNat) := gok_congr (fun _ => rfl) fk k1
        have eA : gA f a' (3 + x.toNat) = gA f a (3 + x.toNat) := gA_fr fk
        have ec : co (u : Int) = 2 * (u : Int) - 2 := if_pos (by omega)
        refine s_code ⟨by omega, by omega⟩ ⟨⟨by omega, by omega⟩, ?_⟩
        rw [ec]
        refine s_way ⟨by omega, by omega⟩ ok1 (by omega) (by omega) (by omega) (by omega) ?_
        rw [eA]
        have q := hc 0 (2 * (u : Int) - 2) (by omega) (by omega) (by omega) (by omega)
        have r := (k1.1.2.1 _ _ q).2.2.1
        refine s_lies (k := x.toNat) (l := x.toNat) (by omega) (by omega) w1 ok1 ok1 r.1 r.2 (fun y2 a2 hfr2 => n_0 (no (fun v => y2 ?_) a2 (fr8_tr hfr hfr2))) (fun y2 a2 hfr2 => n_1 ?_)
        · rcases iff.mp v with v1 | v1
          · exact absurd (v1 0 (2 * (u : Int) - 2)) q
          · exact (lies_fr hfr).mpr (v1.2 _ (by omega) (by omega) (by omega))
        · have e : (u : Int) + 1 = ((u + 1 : Nat) : Int) := by omega
          rw [e]
          refine ih (u + 1) a2 (fr8_tr hfr hfr2) (by omega) (by omega) (by omega) (fun c c0 c1 c2 => ?_)
          by_cases v : c < 2 * (u : Int) - 2
          · exact g3 c c0 v c2
          · have ev : c = 2 * (u : Int) - 2 := by omega
            rw [ev]
            exact (lies_fr hfr).mp y2
    exact ⟨_, loop 5 1 a fr0 (by omega) (by omega) (by omega) (fun c c0 c1 c2 => by omega)⟩
