theorem nt_sym {N n : Int} {A : Int → Int → Int} {pa ar de : Nat → Int} (h : gi N n A pa ar de) {v c : Int} (q : nt A ar v c) : nt A ar (A v c) (cx c) := by
  obtain ⟨b1, b2, b3, b4⟩ := h.2.1 v c q.1
  exact ⟨by rw [b4]; omega, by rw [b4]; exact q.2.2, by rw [cx_cx]; exact q.2.1⟩
/-- the numbers beside the ways, when the places before j are done -/
noncomputable def itj (A : Int → Int → Int) (ar : Nat → Int) (j x d : Int) : Int := if (if d % 2 = 0 then 3 * x + d / 2 < j else 3 * A x d + d / 2 < j) then itm A ar x d else 0
theorem itj_in {A : Int → Int → Int} {ar : Nat → Int} {j x d : Int} (h : if d % 2 = 0 then 3 * x + d / 2 < j else 3 * A x d + d / 2 < j) : itj A ar j x d = itm A ar x d := if_pos h
theorem itj_out {A : Int → Int → Int} {ar : Nat → Int} {j x d : Int} (h : ¬ (if d % 2 = 0 then 3 * x + d / 2 < j else 3 * A x d + d / 2 < j)) : itj A ar j x d = 0 := if_neg h
theorem itj_z {A : Int → Int → Int} {ar : Nat → Int} {j x d : Int} (h : itm A ar x d = 0) : itj A ar j x d = 0 := by
  unfold itj
  rw [h]
  exact ite_self _
theorem itj_same {A : Int → Int → Int} {ar : Nat → Int} {j x d : Int} (h : ¬ (if d % 2 = 0 then 3 * x + d / 2 = j else 3 * A x d + d / 2 = j)) : itj A ar (j + 1) x d = itj A ar j x d := by
  unfold itj
  by_cases e : d % 2 = 0
  · rw [if_pos e] at h
    simp only [if_pos e]
    by_cases q : 3 * x + d / 2 < j
    · rw [if_pos q, if_pos (by omega)]
    · rw [if_neg q, if_neg (by omega)]
  · rw [if_neg e] at h
    simp only [if_neg e]
    by_cases q : 3 * A x d + d / 2 < j
    · rw [if_pos q, if_pos (by omega)]
    · rw [if_neg q, if_neg (by omega)]
section
variable {N n : Int} {A : Int → Int → Int} {pa ar de : Nat → Int}
theorem itj_0 (h : gi N n A pa ar de) {x d : Int} (x0 : 0 ≤ x) (d0 : 0 ≤ d) : itj A ar 0 x d = 0 := by
  by_cases q : nt A ar x d
  · obtain ⟨b1, b2, b3, b4⟩ := h.2.1 x d q.1
    refine itj_out (fun z => ?_)
    by_cases e : d % 2 = 0
    · rw [if_pos e] at z
      omega
    · rw [if_neg e] at z
      omega
  · exact itj_z (itm_no q)
theorem itj_n (h : gi N n A pa ar de) {x d : Int} (x1 : x < n) (d6 : d < 6) : itj A ar (3 * n) x d = itm A ar x d := by
  by_cases q : nt A ar x d
  · obtain ⟨b1, b2, b3, b4⟩ := h.2.1 x d q.1
    refine itj_in ?_
    by_cases e : d % 2 = 0
    · rw [if_pos e]
      omega
    · rw [if_neg e]
      omega
  · rw [itm_no q]
    exact itj_z (itm_no q)
theorem itj_no (h : gi N n A pa ar de) {v y x d : Int} (v0 : 0 ≤ v) (y0 : 0 ≤ y) (y3 : y < 3) (hq : ¬ nt A ar v (2 * y)) (d0 : 0 ≤ d) (d6 : d < 6) : itj A ar (3 * v + y + 1) x d = itj A ar (3 * v + y) x d := by
  by_cases q : nt A ar x d
  · obtain ⟨b1, b2, b3, b4⟩ := h.2.1 x d q.1
    refine itj_same (fun z => ?_)
    by_cases e : d % 2 = 0
    · rw [if_pos e] at z
      have e1 : x = v := by omega
      have e2 : d = 2 * y := by omega
      rw [e1, e2] at q
      exact hq q
    · rw [if_neg e] at z
      have e1 : A x d = v := by omega
      have e2 : cx d = 2 * y := by unfold cx; omega
      have r := nt_sym h q
      rw [e1, e2] at r
      exact hq r
  · rw [itj_z (itm_no q), itj_z (itm_no q)]
theorem itj_yes (h : gi N n A pa ar de) {v y x d : Int} (v0 : 0 ≤ v) (y0 : 0 ≤ y) (y3 : y < 3) (hq : nt A ar v (2 * y)) (x0 : 0 ≤ x) (d0 : 0 ≤ d) (d6 : d < 6) : itj A ar (3 * v + y + 1) x d = up2 (up2 (itj A ar (3 * v + y)) v (2 * y) ((pg_n (pn A ar) (3 * v + y).toNat : Int) + 1)) (A v (2 * y)) (cx (2 * y)) (-((pg_n (pn A ar) (3 * v + y).toNat : Int) + 1)) x d := by
  obtain ⟨b1, b2, b3, b4⟩ := h.2.1 _ _ hq.1
  have ec : cx (2 * y) = 2 * y + 1 := by unfold cx; omega
  by_cases z : x = A v (2 * y) ∧ d = cx (2 * y)
  · obtain ⟨rfl, rfl⟩ := z
    rw [up2_s]
    have r := nt_sym h hq
    rw [itj_in (by rw [ec, if_neg (by omega), ← ec, b4]; omega), itm_od r (by omega), b4]
    have e : (3 * v + cx (2 * y) / 2).toNat = (3 * v + y).toNat := by omega
    rw [e]
  · rw [up2_n _ _ z]
    by_cases w : x = v ∧ d = 2 * y
    · obtain ⟨rfl, rfl⟩ := w
      rw [up2_s, itj_in (by rw [if_pos (by omega)]; omega), itm_ev hq (by omega)]
      have e : (3 * x + 2 * y / 2).toNat = (3 * x + y).toNat := by omega
      rw [e]
    · rw [up2_n _ _ w]
      by_cases q : nt A ar x d
      · obtain ⟨c1, c2, c3, c4⟩ := h.2.1 x d q.1
        refine itj_same (fun u => ?_)
        by_cases e : d % 2 = 0
        · rw [if_pos e] at u
          exact w ⟨by omega, by omega⟩
        · rw [if_neg e] at u
          have e1 : A x d = v := by omega
          have e2 : d = 2 * y + 1 := by omega
          have e3 : cx d = 2 * y := by unfold cx; omega
          rw [e1, e3] at c4
          exact z ⟨c4.symm, by rw [ec]; exact e2⟩
      · rw [itj_z (itm_no q), itj_z (itm_no q)]
end
theorem s_basis {post : fS → aS → Prop} {N : Int} {f : fS} {a : aS} {o : Nat} (ho : 3 ≤ o ∧ o < 7) (hN : 1 ≤ N ∧ N ≤ 3) (g : gi N (f o 0) (gA f a o) (a o 5) (a o 6) (a o 7)) (h1 : f o 1 = 0) (h2 : f o 2 = 0) (h4 : ∀ i, i < 384 → a o 4 i = 0) (hp : ∀ f' a', (∀ o' i, ¬ (o' = o ∧ (i = 1 ∨ i = 2)) → f' o' i = f o' i) → (∀ o' i, ¬ (o' = o ∧ i = 4) → a' o' i = a o' i) → gok N f' a' o → post f' a') : wp_G_findBasis post o f a := by
  have nn := g.1
  have arr : ∀ v : Int, 0 ≤ v → v < f o 0 → ir (a o 6 v.toNat) := by
    intro v v0 v1
    rcases Int.lt_or_le 0 v with q | q
    · have := (gi_tree g (by omega) v1).2.2.2.1
      exact ⟨by omega, by omega⟩
    · have e : v = 0 := by omega
      have e0 : a o 6 (0 : Int).toNat = -1 := g.2.2.2.2.1
      rw [e, e0]
      decide
  have outer : ∀ (n v : Nat) (f1 : fS) (a1 : aS), v ≤ (f o 0).toNat → (f o 0).toNat < n + v → (∀ o' i, ¬ (o' = o ∧ (i = 1 ∨ i = 2)) → f1 o' i = f o' i) → (∀ o' i, ¬ (o' = o ∧ i = 4) → a1 o' i = a o' i) → f1 o 1 = (pg_n (pe (gA f a o)) (3 * v) : Nat) → f1 o 2 = (pg_n (pn (gA f a o) (a o 6)) (3 * v) : Nat) → (∀ x d : Int, 0 ≤ x → x < f o 0 → 0 ≤ d → d < 6 → a1 o 4 (6 * x + d).toNat = itj (gA f a o) (a o 6) (3 * (v : Int)) x d) → wb_G_findBasis_2 post n o (v : Int) f1 a1 := by
    intro n
    induction n with
    | zero => intro v f1 a1 g1 g2; omega
    | succ n ih =>
      intro v f1 a1 g1 g2 ff fa e1 e2 e4
      have f0 := ff o 0 (by omega)
      rw [wb_G_findBasis_2, f0]
      refine ⟨ho, ⟨by omega, by omega⟩, ⟨by omega, by omega⟩, fun q => ?_, fun q => ⟨4, ?_⟩⟩
      · have ev : v = (f o 0).toNat := by omega
        have a3 := fa o 3 (by omega)
        have a5 := fa o 5 (by omega)
        have a6 := fa o 6 (by omega)
        have a7 := fa o 7 (by omega)
        have eA : gA f1 a1 o = gA f a o := by
          show tb (a1 o 3) 0 (f1 o 0) = tb (a o 3) 0 (f o 0)
          rw [a3, f0]
        refine hp f1 a1 ff fa ⟨?_, ?_, ?_, fun x d x0 x1 d0 d6 => ?_⟩
        · rw [f0, eA, a5, a6, a7]
          exact g
        · rw [e1, f0, eA, ev]
        · rw [e2, f0, eA, a6, ev]
        · rw [f0] at x1
          rw [eA, a6, e4 x d x0 x1 d0 d6]
          have en : 3 * (v : Int) = 3 * f o 0 := by omega
          rw [en]
          exact itj_n g x1 d6
      · have inner : ∀ (n2 y : Nat) (f2 : fS) (a2 : aS), y ≤ 3 → 3 < n2 + y → (∀ o' i, ¬ (o' = o ∧ (i = 1 ∨ i = 2)) → f2 o' i = f o' i) → (∀ o' i, ¬ (o' = o ∧ i = 4) → a2 o' i = a o' i) → f2 o 1 = (pg_n (pe (gA f a o)) (3 * v + y) : Nat) → f2 o 2 = (pg_n (pn (gA f a o) (a o 6)) (3 * v + y) : Nat) → (∀ x d : Int, 0 ≤ x → x < f o 0 → 0 ≤ d → d < 6 → a2 o 4 (6 * x + d).toNat = itj (gA f a o) (a o 6) (3 * (v : Int) + y) x d) → wb_G_findBasis_12 post (wb_G_findBasis_2 post n) n2 o (v : Int) (2 * (y : Int)) f2 a2 := by
          intro n2
          induction n2 with
          | zero => intro y f2 a2 y1 y2; omega
          | succ n2 ih2 =>
            intro y f2 a2 y1 y2 ff2 fa2 d1 d2 d4
            rw [wb_G_findBasis_12]
            refine ⟨⟨by omega, by omega⟩, fun z => ?_, fun z => ⟨ho, ?_⟩⟩
            · have e3 : (v : Int) + 1 = ((v + 1 : Nat) : Int) := by omega
              have ey : 3 * v + y = 3 * (v + 1) := by omega
              rw [e3]
              refine ih (v + 1) f2 a2 (by omega) (by omega) ff2 fa2 (by rw [← ey]; exact d1) (by rw [← ey]; exact d2) (fun x d x0 x1 d0 d6 => ?_)
              rw [d4 x d x0 x1 d0 d6]
              have ez : 3 * (v : Int) + (y : Int) = 3 * ((v + 1 : Nat) : Int) := by omega
              rw [ez]
            · have e3 : 2 * (y : Int) + 2 = 2 * ((y + 1 : Nat) : Int) := by omega
              have e5 : 3 * v + (y + 1) = 3 * v + y + 1 := by omega
              have e6 : 3 * (v : Int) + ((y + 1 : Nat) : Int) = 3 * (v : Int) + y + 1 := by omega
              have p1 : (3 * v + y) / 3 = v := by omega
              have p2 : 2 * (((3 * v + y) % 3 : Nat) : Int) = 2 * (y : Int) := by omega
              have p3 : (3 * (v : Int) + (y : Int)).toNat = 3 * v + y := by omega
              have peq : pe (gA f a o) (3 * v + y) = true ↔ gA f a o (v : Int) (2 * (y : Int)) ≠ -1 := by
                unfold pe
                rw [p1, p2]
                exact decide_eq_true_iff
              have pnq : pn (gA f a o) (a o 6) (3 * v + y) = true ↔ nt (gA f a o) (a o 6) (v : Int) (2 * (y : Int)) := by
                rw [pn_iff, p1, p2]
              have le1 := pg_le (pe (gA f a o)) (3 * v + y)
              have le2 := pg_le (pn (gA f a o) (a o 6)) (3 * v + y)
              have a3 := fa2 o 3 (by omega)
              have a6 := fa2 o 6 (by omega)
              have ew := gA_at (f := f) (a := a) (o := o) (v := (v : Int)) (c := 2 * (y : Int)) (by omega) (by omega) (by omega) (by omega)
              refine ⟨ho, ⟨by omega, by omega⟩, ?_⟩
              rw [a3, ew]
              dsimp only
              rw [a6]
              have rn : gA f a o (v : Int) (2 * (y : Int)) = -1 ∨ (0 ≤ gA f a o (v : Int) (2 * (y : Int)) ∧ gA f a o (v : Int) (2 * (y : Int)) < f o 0) := by
                by_cases q : gA f a o (v : Int) (2 * (y : Int)) = -1
                · exact Or.inl q
                · exact Or.inr (g.2.1 _ _ q).2.2.1
              have go : ∀ (f3 : fS) (a3 : aS), (∀ o' i, ¬ (o' = o ∧ (i = 1 ∨ i = 2)) → f3 o' i = f o' i) → (∀ o' i, ¬ (o' = o ∧ i = 4) → a3 o' i = a o' i) → f3 o 1 = (pg_n (pe (gA f a o)) (3 * v + y + 1) : Nat) → f3 o 2 = (pg_n (pn (gA f a o) (a o 6)) (3 * v + y + 1) : Nat) → (∀ x d : Int, 0 ≤ x → x < f o 0 → 0 ≤ d → d < 6 → a3 o 4 (6 * x + d).toNat = itj (gA f a o) (a o 6) (3 * (v : Int) + y + 1) x d) → wb_G_findBasis_108 post (wb_G_findBasis_12 post (wb_G_findBasis_2 post n) n2) o (v : Int) (2 * (y : Int)) f3 a3 := by
                intro f3 a3 q1 q2 q3 q4 q5
                show wb_G_findBasis_12 post (wb_G_findBasis_2 post n) n2 o (v : Int) (2 * (y : Int) + 2) f3 a3
                rw [e3]
                refine ih2 (y + 1) f3 a3 (by omega) (by omega) q1 q2 (by rw [e5]; exact q3) (by rw [e5]; exact q4) (fun x d x0 x1 d0 d6 => ?_)
                rw [e6]
                exact q5 x d x0 x1 d0 d6
              refine ⟨⟨by omega, by omega⟩, fun w => ?_, fun w => ?_⟩
              · have rn2 : 0 ≤ gA f a o (v : Int) (2 * (y : Int)) ∧ gA f a o (v : Int) (2 * (y : Int)) < f o 0 := by omega
                have gf : ∀ o' i, ¬ (o' = o ∧ (i = 1 ∨ i = 2)) → setF f2 o 1 (f2 o 1 + 1) o' i = f o' i := fun o' i q => by
                  rw [← ff2 o' i q]
                  unfold setF
                  rw [if_neg (fun z => q ⟨z.1, Or.inl z.2⟩)]
                have ee : setF f2 o 1 (f2 o 1 + 1) o 1 = (pg_n (pe (gA f a o)) (3 * v + y + 1) : Nat) := by
                  rw [setF_s, d1, pg_yes (peq.mpr w)]
                  omega
                have tree : ¬ nt (gA f a o) (a o 6) (v : Int) (2 * (y : Int)) → wb_G_findBasis_108 post (wb_G_findBasis_12 post (wb_G_findBasis_2 post n) n2) o (v : Int) (2 * (y : Int)) (setF f2 o 1 (f2 o 1 + 1)) a2 := by
                  intro hq
                  refine go _ _ gf fa2 ee ?_ (fun x d x0 x1 d0 d6 => ?_)
                  · rw [setF_k _ _ (by omega), d2, pg_no (fun z => hq (pnq.mp z))]
                  · rw [d4 x d x0 x1 d0 d6, itj_no g (by omega) (by omega) (by omega) hq d0 d6]
                refine ⟨⟨by omega, by omega⟩, arr _ rn2.1 rn2.2, fun u => tree (fun q => q.2.1 u), fun u => ⟨⟨by omega, by omega⟩, ⟨by omega, by omega⟩, arr _ (by omega) (by omega), ?_, fun u2 => tree (fun q => q.2.2 u2), fun u2 => ?_⟩⟩
                · unfold cx
                  exact ⟨by omega, by omega⟩
                · have ec : cx (2 * (y : Int)) = 2 * (y : Int) + 1 := by unfold cx; omega
                  have hq : nt (gA f a o) (a o 6) (v : Int) (2 * (y : Int)) := ⟨w, u, u2⟩
                  refine ⟨⟨by omega, by omega⟩, ⟨by omega, by omega⟩, ?_⟩
                  rw [setA_ss]
                  refine go _ _ (fun o' i q => ?_) (fun o' i q => ?_) ?_ ?_ (fun x d x0 x1 d0 d6 => ?_)
                  · rw [← gf o' i q]
                    exact if_neg (fun z => q ⟨z.1, Or.inr z.2⟩)
                  · rw [← fa2 o' i q]
                    exact if_neg (fun z => q ⟨z.1, z.2⟩)
                  · rw [setF_k _ _ (by omega)]
                    exact ee
                  · rw [setF_s, d2, pg_yes (pnq.mpr hq)]
                    omega
                  · rw [setA_s, itj_yes g (v := (v : Int)) (y := (y : Int)) (by omega) (by omega) (by omega) hq x0 d0 d6, p3, d2]
                    unfold up2
                    by_cases z1 : x = gA f a o (v : Int) (2 * (y : Int)) ∧ d = cx (2 * (y : Int))
                    · rw [if_pos z1]
                      have ei : (6 * x + d).toNat = (gA f a o (v : Int) (2 * (y : Int)) * 6 + cx (2 * (y : Int))).toNat := by omega
                      rw [ei, va_up_self]
                    · rw [if_neg z1, va_up_ne _ _ (by omega)]
                      by_cases z2 : x = (v : Int) ∧ d = 2 * (y : Int)
                      · rw [if_pos z2]
                        have ei : (6 * x + d).toNat = ((v : Int) * 6 + 2 * (y : Int)).toNat := by omega
                        rw [ei, va_up_self]
                      · rw [if_neg z2, va_up_ne _ _ (by omega)]
                        exact d4 x d x0 x1 d0 d6
              · have w := Classical.byContradiction w
                have hq : ¬ nt (gA f a o) (a o 6) (v : Int) (2 * (y : Int)) := fun q => q.1 w
                refine go f2 a2 ff2 fa2 ?_ ?_ (fun x d x0 x1 d0 d6 => ?_)
                · rw [d1, pg_no (fun z => (peq.mp z) w)]
                · rw [d2, pg_no (fun z => hq (pnq.mp z))]
                · rw [d4 x d x0 x1 d0 d6, itj_no g (by omega) (by omega) (by omega) hq d0 d6]
        exact inner 4 0 f1 a1 (by omega) (by omega) ff fa e1 e2 (fun x d x0 x1 d0 d6 => by
          rw [e4 x d x0 x1 d0 d6]
          have ez : 3 * (v : Int) + ((0 : Nat) : Int) = 3 * (v : Int) := by omega
          rw [ez])
  exact ⟨_, outer ((f o 0).toNat + 1) 0 f a (by omega) (by omega) (fun _ _ _ => rfl) (fun _ _ _ => rfl) h1 h2 (fun x d x0 x1 d0 d6 => by
    rw [h4 _ (by omega)]
    exact (itj_0 g x0 d0).symm)⟩
