theorem unm_0 (nm : Nat → Int) (x y : Int) : unm 0 nm x y = nm := by
  funext v
  exact if_neg (fun z => by omega)
theorem unm_y {i : Nat} {nm : Nat → Int} {x y : Int} (h : nm i = y) : va_up (unm i nm x y) i x = unm (i + 1) nm x y := by
  funext v
  unfold va_up unm
  by_cases q : v = i
  · rw [if_pos q, q, if_pos ⟨by omega, h⟩]
  · rw [if_neg q]
    by_cases r : v < i ∧ nm v = y
    · rw [if_pos r, if_pos ⟨by omega, r.2⟩]
    · rw [if_neg r, if_neg (fun z => r ⟨by omega, z.2⟩)]
theorem unm_n {i : Nat} {nm : Nat → Int} {x y : Int} (h : ¬ nm i = y) : unm i nm x y = unm (i + 1) nm x y := by
  funext v
  unfold unm
  by_cases r : v < i ∧ nm v = y
  · rw [if_pos r, if_pos ⟨by omega, r.2⟩]
  · rw [if_neg r, if_neg (fun z => r ⟨by
      rcases Nat.lt_or_ge v i with w | w
      · exact w
      · have e : v = i := by omega
        rw [e] at z
        exact absurd z.2 h, z.2⟩)]
theorem unm_i (i : Nat) (nm : Nat → Int) (x y : Int) : unm i nm x y i = nm i := if_neg (fun z => by omega)
/-- only names and ways of the draft differ -/
def frN (a a' : aS) : Prop := ∀ o i, ¬ (o = 2 ∧ (i = 6 ∨ i = 7)) → a' o i = a o i
theorem frN_tr {a a' a'' : aS} (h : frN a a') (h' : frN a' a'') : frN a a'' := fun o i q => (h' o i q).trans (h o i q)
theorem frN_6 {a : aS} {w : Nat → Int} : frN a (setA a 2 6 w) := fun o i q => by
  unfold setA
  rw [if_neg (fun z => q ⟨z.1, Or.inl z.2⟩)]
theorem frN_7 {a : aS} {w : Nat → Int} : frN a (setA a 2 7 w) := fun o i q => by
  unfold setA
  rw [if_neg (fun z => q ⟨z.1, Or.inr z.2⟩)]
section
variable {m : Nat} {E : Int → Int → Int → Prop} {f : fS} {a : aS}
theorem s_unite {post : fS → aS → Prop} {x y : Int} (hm : f 2 0 = (m : Int)) (h64 : m ≤ 64) (hi : ∀ v, v < m → ir (a 2 6 v)) (hy : ir y) (hp : post f (setA a 2 6 (unm m (a 2 6) x y))) : wp_D_unite post x y f a := by
  have loop : ∀ n i : Nat, i ≤ m → m < n + i → wb_D_unite_2 post n x y (i : Int) f (setA a 2 6 (unm i (a 2 6) x y)) := by
    intro n
    induction n with
    | zero => intro i h1 h2; omega
    | succ n ih =>
      intro i h1 h2
      rw [wb_D_unite_2, setA_s, Int.toNat_natCast, unm_i, setA_ss]
      have e1 : (i : Int) + 1 = ((i + 1 : Nat) : Int) := by omega
      refine ⟨⟨by omega, by omega⟩, ⟨by omega, by omega⟩, fun q => ?_, fun q => ⟨⟨by omega, by omega⟩, hi i (by omega), hy, fun w => ?_, fun w => ?_⟩⟩
      · have e : i = m := by omega
        rw [e]
        exact hp
      · show wb_D_unite_2 post n x y ((i : Int) + 1) f _
        rw [e1, unm_n w]
        exact ih (i + 1) (by omega) (by omega)
      · show wb_D_unite_2 post n x y ((i : Int) + 1) f _
        rw [e1, unm_y (Classical.byContradiction w)]
        exact ih (i + 1) (by omega) (by omega)
  have q := loop (m + 1) 0 (by omega) (by omega)
  rw [unm_0, setA_id] at q
  exact ⟨_, q⟩
theorem tbD_at {x c : Int} (x0 : 0 ≤ x) (x1 : x < 64) (c0 : 0 ≤ c) (c1 : c < 6) (w : Nat → Int) : w (x * 6 + c).toNat = tb w 0 64 x c := by
  rw [tb_at _ _ x0 x1 c0 c1]
  have e : 0 + (6 * x + c).toNat = (x * 6 + c).toNat := by omega
  rw [e]
theorem tbD_up {x c y : Int} (x0 : 0 ≤ x) (x1 : x < 64) (c0 : 0 ≤ c) (c1 : c < 6) (w : Nat → Int) : tb (va_up w (x * 6 + c).toNat y) 0 64 = up2 (tb w 0 64) x c y := by
  have e : (x * 6 + c).toNat = 0 + (6 * x + c).toNat := by omega
  rw [e]
  exact tb_up w 0 y x0 x1 c0 c1
theorem s_lay {post : Int → fS → aS → Prop} {u c v : Int} (hm : f 2 0 = (m : Int)) (h64 : m ≤ 64) (hE : fo_in m E) (hc : 0 ≤ c ∧ c < 6) (hn : fo_nm m E (a 2 6)) (hw : fo_pw m E (tb (a 2 7) 0 64)) (he : E u c v)
    (hA : ∀ a', frN a a' → a' 2 6 = a 2 6 → fo_pw m E (tb (a' 2 7) 0 64) → (fo_ps E (a 2 6) (tb (a 2 7) 0 64) → fo_ps E (a 2 6) (tb (a' 2 7) 0 64) ∧ tb (a' 2 7) 0 64 (a 2 6 u.toNat) c = a 2 6 v.toNat ∧ ∀ p d q, E p d q → tb (a 2 7) 0 64 (a 2 6 p.toNat) d = a 2 6 q.toNat → tb (a' 2 7) 0 64 (a 2 6 p.toNat) d = a 2 6 q.toNat) → post 0 f a')
    (hB : ∀ a', frN a a' → fo_nm m E (a' 2 6) → cnt m (a' 2 6) < cnt m (a 2 6) → a' 2 7 = a 2 7 → post 1 f a') : wp_D_layWay post u c v f a := by
  obtain ⟨i1, i2, i3, i4⟩ := hE u c v he
  have nu := hn.1 u.toNat (by omega)
  have nv := hn.1 v.toNat (by omega)
  refine ⟨⟨by omega, by omega⟩, fun t ht => ?_⟩
  have et : a 2 7 t.toNat = tb (a 2 7) 0 64 (a 2 6 u.toNat) c := by
    rw [ht]
    exact tbD_at nu.1 (by omega) hc.1 hc.2 _
  rw [et]
  by_cases q : tb (a 2 7) 0 64 (a 2 6 u.toNat) c = -1
  · rw [q]
    refine ⟨⟨by omega, by omega⟩, by decide, fun z => absurd rfl z, fun _ => ⟨⟨by omega, by omega⟩, ?_⟩⟩
    have eW : tb (setA a 2 7 (va_up (a 2 7) t.toNat (a 2 6 v.toNat)) 2 7) 0 64 = up2 (tb (a 2 7) 0 64) (a 2 6 u.toNat) c (a 2 6 v.toNat) := by
      rw [setA_s, ht]
      exact tbD_up nu.1 (by omega) hc.1 hc.2 _
    refine hA _ frN_7 (setA_k _ _ (by omega)) ?_ (fun hs => ?_)
    · rw [eW]
      exact fo_pw_up hE hn hw he
    · rw [eW]
      exact ⟨fo_ps_up hs he, up2_s _ _ _ _, fun p d r h1 h2 => fo_keep hE hn he h1 h2 q⟩
  · obtain ⟨p1, p2, p3⟩ := hw _ _ q
    have nw := hn.1 (tb (a 2 7) 0 64 (a 2 6 u.toNat) c).toNat (by omega)
    refine ⟨⟨by omega, by omega⟩, ⟨by omega, by omega⟩, fun _ => ⟨⟨by omega, by omega⟩, fun t6 ht6 => ⟨⟨by omega, by omega⟩, ⟨by omega, by omega⟩, ⟨by omega, by omega⟩, fun z => ?_, fun z => ?_⟩⟩, fun z => absurd q z⟩
    · have r := fo_meet hE hn hw he q
      have un := un_ok (a := t6) (b := a 2 6 v.toNat) hn (by omega) (by omega) (by rw [ht6]; exact nw.2.2) nv.1 nv.2.1 nv.2.2 z (fun R hR => by rw [ht6]; exact r R hR)
      refine s_unite hm h64 (fun w hw' => by have := hn.1 w hw'; exact ⟨by omega, by omega⟩) ⟨by omega, by omega⟩ (hB _ frN_6 ?_ ?_ (setA_k _ _ (by omega)))
      · rw [setA_s]
        exact un.1
      · rw [setA_s]
        exact un.2
    · have z := Classical.byContradiction z
      refine hA a (fun _ _ _ => rfl) rfl hw (fun hs => ⟨hs, ?_, fun p d r h1 h2 => h2⟩)
      have e := (fo_ps_nm hE hn hs q).1
      rw [← e, ← ht6]
      exact z
theorem s_fold {post : fS → aS → Prop} {e : Int} (hd : dS f a (m : Int) E e) (he : e ≤ 195) (m1 : 1 ≤ m) (h64 : m ≤ 64) (hE : fo_in m E) (hc : ∀ u c v, E u c v → 0 ≤ c ∧ c < 6) (hb : 0 ≤ f 2 1 ∧ f 2 1 < m) (hp : ∀ a', frN a a' → fo_spec m E (a' 2 6) (tb (a' 2 7) 0 64) → post (setF f 2 1 (a' 2 6 (f 2 1).toNat)) a') : wp_D_fold post f a := by
  obtain ⟨d1, d2, d3⟩ := hd
  have ed : ∀ i : Nat, (i : Int) < f 2 2 → E (a 2 3 i) (a 2 4 i) (a 2 5 i) ∧ E (a 2 5 i) (cx (a 2 4 i)) (a 2 3 i) := fun i hi => ⟨(d3 _ _ _).mp ⟨i, by omega, Or.inl ⟨rfl, rfl, rfl⟩⟩, (d3 _ _ _).mp ⟨i, by omega, Or.inr ⟨rfl, rfl, rfl⟩⟩⟩
  -- one pass
  have pass : ∀ (k27 : Int → Int → fS → aS → Prop) (ps : Int) (c0 : Nat), (∀ a1, frN a a1 → fo_spec m E (a1 2 6) (tb (a1 2 7) 0 64) → cnt m (a1 2 6) = c0 → k27 0 (ps + 1) f a1) → (∀ a1, frN a a1 → fo_nm m E (a1 2 6) → cnt m (a1 2 6) < c0 → k27 1 (ps + 1) f a1) → ∀ (n i : Nat) (ch : Int) (a1 : aS), (i : Int) ≤ f 2 2 → f 2 2 < n + i → frN a a1 → fo_nm m E (a1 2 6) → fo_pw m E (tb (a1 2 7) 0 64) → ((ch = 0 ∧ cnt m (a1 2 6) = c0 ∧ fo_ps E (a1 2 6) (tb (a1 2 7) 0 64) ∧ ∀ j : Nat, j < i → tb (a1 2 7) 0 64 (a1 2 6 (a 2 3 j).toNat) (a 2 4 j) = a1 2 6 (a 2 5 j).toNat ∧ tb (a1 2 7) 0 64 (a1 2 6 (a 2 5 j).toNat) (cx (a 2 4 j)) = a1 2 6 (a 2 3 j).toNat) ∨ (ch = 1 ∧ cnt m (a1 2 6) < c0)) → wb_D_fold_49 post k27 n ch ps (i : Int) f a1 := by
    intro k27 ps c0 hk0 hk1 n
    induction n with
    | zero => intro i ch a1 h1 h2; omega
    | succ n ih =>
      intro i ch a1 h1 h2 hfr hn hw hst
      have f3 := hfr 2 3 (by omega)
      have f4 := hfr 2 4 (by omega)
      have f5 := hfr 2 5 (by omega)
      rw [wb_D_fold_49, f3, f4, f5, Int.toNat_natCast]
      have cir : ir ch := by
        rcases hst with z | z
        · rw [z.1]; decide
        · rw [z.1]; decide
      refine ⟨⟨by omega, by omega⟩, ⟨by omega, by omega⟩, fun q => ?_, fun q => ⟨⟨by omega, by omega⟩, ?_⟩⟩
      · rcases hst with ⟨z1, z2, z3, z4⟩ | ⟨z1, z2⟩
        · rw [z1]
          refine hk0 a1 hfr (fo_end hn z3 (fun u c v huv => ?_)) z2
          obtain ⟨j, j1, j2⟩ := (d3 u c v).mpr huv
          have w := z4 j (by omega)
          rcases j2 with ⟨x1, x2, x3⟩ | ⟨x1, x2, x3⟩
          · rw [← x1, ← x2, ← x3]
            exact w.1
          · rw [← x1, ← x2, ← x3]
            exact w.2
        · rw [z1]
          exact hk1 a1 hfr hn z2
      · obtain ⟨E1, E2⟩ := ed i (by omega)
        have c1 := hc _ _ _ E1
        have c2 := hc _ _ _ E2
        have e1 : (i : Int) + 1 = ((i + 1 : Nat) : Int) := by omega
        have yes : ∀ a3, frN a a3 → fo_nm m E (a3 2 6) → fo_pw m E (tb (a3 2 7) 0 64) → cnt m (a3 2 6) < c0 → wb_D_fold_121 post (wb_D_fold_49 post k27 n) ps (i : Int) f a3 := by
          intro a3 g1 g2 g3 g4
          show wb_D_fold_49 post k27 n 1 ps ((i : Int) + 1) f a3
          rw [e1]
          exact ih (i + 1) 1 a3 (by omega) (by omega) g1 g2 g3 (Or.inr ⟨rfl, g4⟩)
        refine s_lay d1 h64 hE c1 hn hw E1 (fun a2 fr2' nm2 pw2 st2 => ?_) (fun a2 fr2' nm2 cn2 w2 => ?_)
        · have fr2a := frN_tr hfr fr2'
          rw [fr2a 2 3 (by omega), fr2a 2 4 (by omega), fr2a 2 5 (by omega)]
          refine ⟨c1, ?_⟩
          have hn2 : fo_nm m E (a2 2 6) := by rw [nm2]; exact hn
          refine s_lay d1 h64 hE c2 hn2 pw2 E2 (fun a3 fr3' nm3 pw3 st3 => ?_) (fun a3 fr3' nm3 cn3 w3 => ?_)
          · have fr3a := frN_tr fr2a fr3'
            have hn3 : fo_nm m E (a3 2 6) := by rw [nm3]; exact hn2
            refine ⟨cir, fun z => ?_, fun z => ⟨by decide, fun y => absurd rfl y, fun _ => ⟨by decide, fun _ => ?_, fun y => absurd rfl y⟩⟩⟩
            · rcases hst with ⟨z1, z2, z3, z4⟩ | ⟨z1, z2⟩
              · exact absurd z1 z
              · refine yes a3 fr3a hn3 pw3 ?_
                rw [nm3, nm2]
                exact z2
            · rcases hst with ⟨z1, z2, z3, z4⟩ | ⟨z1, z2⟩
              · show wb_D_fold_49 post k27 n 0 ps ((i : Int) + 1) f a3
                rw [e1]
                obtain ⟨s1, s2, s3⟩ := st2 z3
                rw [nm2] at st3
                obtain ⟨t1, t2, t3⟩ := st3 s1
                have e6 : a3 2 6 = a1 2 6 := nm3.trans nm2
                refine ih (i + 1) 0 a3 (by omega) (by omega) fr3a hn3 pw3 (Or.inl ⟨rfl, by rw [e6]; exact z2, by rw [e6]; exact t1, fun j hj => ?_⟩)
                rw [e6]
                by_cases w : j = i
                · rw [w]
                  exact ⟨t3 _ _ _ E1 s2, t2⟩
                · obtain ⟨F1, F2⟩ := ed j (by omega)
                  have y := z4 j (by omega)
                  exact ⟨t3 _ _ _ F1 (s3 _ _ _ F1 y.1), t3 _ _ _ F2 (s3 _ _ _ F2 y.2)⟩
              · rw [z1] at z
                exact absurd (by decide) z
          · have fr3a := frN_tr fr2a fr3'
            have cn : cnt m (a3 2 6) < c0 := by
              rw [nm2] at cn3
              rcases hst with z | z
              · omega
              · omega
            have pw3 : fo_pw m E (tb (a3 2 7) 0 64) := by rw [w3]; exact pw2
            exact ⟨cir, fun _ => yes a3 fr3a nm3 pw3 cn, fun _ => ⟨by decide, fun y => absurd rfl y, fun _ => ⟨by decide, fun y => absurd y (by decide), fun _ => yes a3 fr3a nm3 pw3 cn⟩⟩⟩
        · have fr2a := frN_tr hfr fr2'
          rw [fr2a 2 3 (by omega), fr2a 2 4 (by omega), fr2a 2 5 (by omega)]
          refine ⟨c1, ?_⟩
          have cn : cnt m (a2 2 6) < c0 := by
            rcases hst with z | z
            · omega
            · omega
          have pw2 : fo_pw m E (tb (a2 2 7) 0 64) := by rw [w2]; exact hw
          refine s_lay d1 h64 hE c2 nm2 pw2 E2 (fun a3 fr3' nm3 pw3 st3 => ?_) (fun a3 fr3' nm3 cn3 w3 => ?_)
          · have fr3a := frN_tr fr2a fr3'
            have hn3 : fo_nm m E (a3 2 6) := by rw [nm3]; exact nm2
            have cn' : cnt m (a3 2 6) < c0 := by rw [nm3]; exact cn
            exact ⟨cir, fun _ => yes a3 fr3a hn3 pw3 cn', fun _ => ⟨by decide, fun _ => yes a3 fr3a hn3 pw3 cn', fun y => absurd (by decide) y⟩⟩
          · have fr3a := frN_tr fr2a fr3'
            have cn' : cnt m (a3 2 6) < c0 := by omega
            have pw3 : fo_pw m E (tb (a3 2 7) 0 64) := by rw [w3]; exact pw2
            exact ⟨cir, fun _ => yes a3 fr3a nm3 pw3 cn', fun _ => ⟨by decide, fun _ => yes a3 fr3a nm3 pw3 cn', fun y => absurd (by decide) y⟩⟩
  -- the passes
  have passes : ∀ (n ps : Nat) (ch : Int) (a1 : aS), ps ≤ 64 → 65 < n + ps → frN a a1 → fo_nm m E (a1 2 6) → ((ch = 0 ∧ fo_spec m E (a1 2 6) (tb (a1 2 7) 0 64)) ∨ (ch = 1 ∧ cnt m (a1 2 6) + ps ≤ m)) → wb_D_fold_27 post n ch (ps : Int) f a1 := by
    intro n
    induction n with
    | zero => intro ps ch a1 h1 h2; omega
    | succ n ih =>
      intro ps ch a1 h1 h2 hfr hn hst
      have fin : fo_spec m E (a1 2 6) (tb (a1 2 7) 0 64) → wb_D_fold_139 post f a1 := fun hs => ⟨⟨by omega, by omega⟩, hp a1 hfr hs⟩
      rw [wb_D_fold_27]
      refine ⟨⟨by omega, by omega⟩, fun q => ?_, fun q => ?_⟩
      · rcases hst with ⟨z1, z2⟩ | ⟨z1, z2⟩
        · exact fin z2
        · have := cnt_pos m1 hn
          omega
      · rcases hst with ⟨z1, z2⟩ | ⟨z1, z2⟩
        · subst z1
          exact ⟨by decide, fun _ => fin z2, fun y => absurd rfl y⟩
        · subst z1
          refine ⟨by decide, fun y => absurd y (by decide), fun _ => ?_⟩
          have e1 : (ps : Int) + 1 = ((ps + 1 : Nat) : Int) := by omega
          have w1 : ∀ x c, tb (setA a1 2 7 (fillA (a1 2 7) 384 (-1)) 2 7) 0 64 x c = -1 := by
            intro x c
            rw [setA_s]
            unfold tb
            by_cases r : (0 ≤ x ∧ x < 64) ∧ 0 ≤ c ∧ c < 6
            · rw [if_pos r]
              exact if_pos (by omega)
            · rw [if_neg r]
          have e6 : setA a1 2 7 (fillA (a1 2 7) 384 (-1)) 2 6 = a1 2 6 := setA_k _ _ (by omega)
          refine ⟨_, pass (wb_D_fold_27 post n) ps (cnt m (a1 2 6)) (fun a2 g1 g2 g3 => ?_) (fun a2 g1 g2 g3 => ?_) ((f 2 2).toNat + 1) 0 0 _ (by omega) (by omega) (frN_tr hfr frN_7) (by rw [e6]; exact hn) (fo_pw0 m E w1) (Or.inl ⟨rfl, by rw [e6], by rw [e6]; exact fo_ps0 E _ w1, fun j hj => by omega⟩)⟩
          · rw [e1]
            exact ih (ps + 1) 0 a2 (by omega) (by omega) g1 ⟨g2.1, g2.2.1⟩ (Or.inl ⟨rfl, g2⟩)
          · rw [e1]
            exact ih (ps + 1) 1 a2 (by omega) (by omega) g1 g2 (Or.inr ⟨rfl, by omega⟩)
  -- the names at first
  have names : ∀ (n i : Nat) (a1 : aS), i ≤ m → m < n + i → frN a a1 → (∀ v, v < i → a1 2 6 v = (v : Int)) → wb_D_fold_2 post n (i : Int) f a1 := by
    intro n
    induction n with
    | zero => intro i a1 h1 h2; omega
    | succ n ih =>
      intro i a1 h1 h2 hfr h4
      rw [wb_D_fold_2, Int.toNat_natCast]
      refine ⟨⟨by omega, by omega⟩, ⟨by omega, by omega⟩, fun q => ?_, fun q => ⟨⟨by omega, by omega⟩, ?_⟩⟩
      · have ei : i = m := by omega
        subst ei
        obtain ⟨s1, s2⟩ := fo_start i E h4
        exact ⟨_, passes 66 0 1 a1 (by omega) (by omega) hfr s1 (Or.inr ⟨rfl, by omega⟩)⟩
      · have e1 : (i : Int) + 1 = ((i + 1 : Nat) : Int) := by omega
        rw [e1]
        refine ih (i + 1) _ (by omega) (by omega) (frN_tr hfr frN_6) (fun v hv => ?_)
        rw [setA_s]
        by_cases z : v = i
        · rw [z, va_up_self]
        · rw [va_up_ne _ _ z]
          exact h4 v (by omega)
  exact ⟨_, names (m + 1) 0 a (by omega) (by omega) (fun _ _ _ => rfl) (fun v hv => by omega)⟩
end
