/-- only the images of graph k differ -/
def fr8 (k : Nat) (a a' : aS) : Prop := ∀ o q, ¬ (o = 3 + k ∧ q = 8) → a' o q = a o q
/-- graph k lies upon graph l from st on -/
def lies (N : Int) (f : fS) (a : aS) (k l : Nat) (st : Int) : Prop := mor (f (3 + k) 0) (gA f a (3 + k)) (a (3 + k) 5) (a (3 + k) 6) (a (3 + k) 7) (gA f a (3 + l)) (fun x => x ≠ -1) st
section
variable {post : Int → fS → aS → Prop} {N : Int} {f : fS} {a : aS} {k l : Nat} {st : Int}
theorem im_rng (ho : gok N f a (3 + k)) (hl : gok N f a (3 + l)) (s0 : 0 ≤ st) (s1 : st < f (3 + l) 0) {v : Int} (v0 : 0 ≤ v) (v1 : v < f (3 + k) 0) : ph (gA f a (3 + l)) st (a (3 + k) 5) (a (3 + k) 6) (a (3 + k) 7) v = -1 ∨ (0 ≤ ph (gA f a (3 + l)) st (a (3 + k) 5) (a (3 + k) 6) (a (3 + k) 7) v ∧ ph (gA f a (3 + l)) st (a (3 + k) 5) (a (3 + k) 6) (a (3 + k) 7) v < f (3 + l) 0) := by
  rcases Int.lt_or_le 0 v with q | q
  · rw [ph_s _ _ ho.1 (by omega) v1]
    exact gok_in hl _ _
  · have e : v = 0 := by omega
    rw [e, ph_0 _ _ ho.1]
    exact Or.inr ⟨s0, s1⟩
theorem s_lies (hk : k < 4) (hl : l < 4) (hN : 1 ≤ N ∧ N ≤ 3) (ho : gok N f a (3 + k)) (hl2 : gok N f a (3 + l)) (s0 : 0 ≤ st) (s1 : st < f (3 + l) 0) (h0 : ¬ lies N f a k l st → ∀ a', fr8 k a a' → post 0 f a') (h1 : lies N f a k l st → ∀ a', fr8 k a a' → post 1 f a') : wp_G_liesUpon post (3 + k) (3 + l) st f a := by
  have nn := ho.1.1
  have nl := hl2.1.1
  have fk : ∀ {a' : aS}, fr8 k a a' → ∀ q, q ≤ 7 → a' (3 + k) q = a (3 + k) q := fun h q hq => h _ _ (by omega)
  have fl : ∀ {a' : aS}, fr8 k a a' → ∀ q, q ≤ 7 → a' (3 + l) q = a (3 + l) q := fun h q hq => h _ _ (by omega)
  -- the second pair of loops
  have two : ∀ a', fr8 k a a' → (∀ v : Nat, (v : Int) < f (3 + k) 0 → a' (3 + k) 8 v = ph (gA f a (3 + l)) st (a (3 + k) 5) (a (3 + k) 6) (a (3 + k) 7) v ∧ ph (gA f a (3 + l)) st (a (3 + k) 5) (a (3 + k) 6) (a (3 + k) 7) v ≠ -1) → ∃ j, wb_G_liesUpon_64 post j (3 + k) (3 + l) 0 f a' := by
    intro a' hfr him
    have ok1 : gok N f a' (3 + k) := gok_congr (fun _ => rfl) (fk hfr) ho
    have ok2 : gok N f a' (3 + l) := gok_congr (fun _ => rfl) (fl hfr) hl2
    have eA : gA f a' (3 + k) = gA f a (3 + k) := gA_fr (fk hfr)
    have eB : gA f a' (3 + l) = gA f a (3 + l) := gA_fr (fl hfr)
    have imI : ∀ v : Int, 0 ≤ v → v < f (3 + k) 0 → a' (3 + k) 8 v.toNat = ph (gA f a (3 + l)) st (a (3 + k) 5) (a (3 + k) 6) (a (3 + k) 7) v ∧ ph (gA f a (3 + l)) st (a (3 + k) 5) (a (3 + k) 6) (a (3 + k) 7) v ≠ -1 := by
      intro v v0 v1
      have q := him v.toNat (by omega)
      have e : ((v.toNat : Nat) : Int) = v := by omega
      rw [e] at q
      exact q
    have outer : ∀ n u : Nat, u ≤ (f (3 + k) 0).toNat → (f (3 + k) 0).toNat < n + u → (∀ v c : Int, v < u → c % 2 = 0 → gA f a (3 + k) v c ≠ -1 → gA f a (3 + l) (ph (gA f a (3 + l)) st (a (3 + k) 5) (a (3 + k) 6) (a (3 + k) 7) v) c = ph (gA f a (3 + l)) st (a (3 + k) 5) (a (3 + k) 6) (a (3 + k) 7) (gA f a (3 + k) v c)) → wb_G_liesUpon_64 post n (3 + k) (3 + l) (u : Int) f a' := by
      intro n
      induction n with
      | zero => intro u g1 g2; omega
      | succ n ih =>
        intro u g1 g2 g3
        rw [wb_G_liesUpon_64]
        refine ⟨⟨by omega, by omega⟩, ⟨by omega, by omega⟩, ⟨by omega, by omega⟩, fun q => h1 ?_ a' hfr, fun q => ⟨4, ?_⟩⟩
        · refine mor_even ho.1 (int_back hl2.1) (fun v v0 v1 => (imI v v0 v1).2) (fun v c hc hv => g3 v c ?_ hc hv)
          have := (ho.1.2.1 v c hv).1
          omega
        · have inner : ∀ n2 y : Nat, y ≤ 3 → 3 < n2 + y → (∀ c : Int, c < 2 * y → c % 2 = 0 → gA f a (3 + k) u c ≠ -1 → gA f a (3 + l) (ph (gA f a (3 + l)) st (a (3 + k) 5) (a (3 + k) 6) (a (3 + k) 7) u) c = ph (gA f a (3 + l)) st (a (3 + k) 5) (a (3 + k) 6) (a (3 + k) 7) (gA f a (3 + k) u c)) → wb_G_liesUpon_75 post (wb_G_liesUpon_64 post n) n2 (3 + k) (3 + l) (u : Int) (2 * (y : Int)) f a' := by
            intro n2
            induction n2 with
            | zero => intro y y1 y2; omega
            | succ n2 ih2 =>
              intro y y1 y2 y3
              rw [wb_G_liesUpon_75]
              refine ⟨⟨by omega, by omega⟩, fun z => ?_, fun z => ⟨⟨by omega, by omega⟩, ?_⟩⟩
              · have e : (u : Int) + 1 = ((u + 1 : Nat) : Int) := by omega
                rw [e]
                refine ih (u + 1) (by omega) (by omega) (fun v c hv hc hq => ?_)
                by_cases w : v < u
                · exact g3 v c w hc hq
                · have ev : v = (u : Int) := by omega
                  rw [ev] at hq ⊢
                  have := (ho.1.2.1 _ _ hq).2.1
                  exact y3 c (by omega) hc hq
              · have go : (gA f a (3 + k) u (2 * (y : Int)) ≠ -1 → gA f a (3 + l) (ph (gA f a (3 + l)) st (a (3 + k) 5) (a (3 + k) 6) (a (3 + k) 7) u) (2 * (y : Int)) = ph (gA f a (3 + l)) st (a (3 + k) 5) (a (3 + k) 6) (a (3 + k) 7) (gA f a (3 + k) u (2 * (y : Int)))) → wb_G_liesUpon_121 post (wb_G_liesUpon_75 post (wb_G_liesUpon_64 post n) n2) (3 + k) (3 + l) (u : Int) (2 * (y : Int)) f a' := by
                  intro w
                  show wb_G_liesUpon_75 post (wb_G_liesUpon_64 post n) n2 (3 + k) (3 + l) (u : Int) (2 * (y : Int) + 2) f a'
                  have e : 2 * (y : Int) + 2 = 2 * ((y + 1 : Nat) : Int) := by omega
                  rw [e]
                  refine ih2 (y + 1) (by omega) (by omega) (fun c c1 c2 c3 => ?_)
                  by_cases x : c < 2 * (y : Int)
                  · exact y3 c x c2 c3
                  · have ec : c = 2 * (y : Int) := by omega
                    rw [ec] at c3 ⊢
                    exact w c3
                refine s_way ⟨by omega, by omega⟩ ok1 (by omega) (by omega) (by omega) (by omega) ?_
                rw [eA]
                refine ⟨gok_ir ho _ _, fun w => go (fun x => absurd w x), fun w => ⟨⟨by omega, by omega⟩, ⟨by omega, by omega⟩, ?_⟩⟩
                have bt := (ho.1.2.1 _ _ w).2.2.1
                obtain ⟨i1, i2⟩ := him u (by omega)
                obtain ⟨j1, j2⟩ := imI _ bt.1 bt.2
                have r := im_rng ho hl2 s0 s1 (v := (u : Int)) (by omega) (by omega)
                have r2 := im_rng ho hl2 s0 s1 bt.1 bt.2
                rw [Int.toNat_natCast, i1]
                refine s_way ⟨by omega, by omega⟩ ok2 (by omega) (by omega) (by omega) (by omega) ?_
                rw [eB, j1]
                refine ⟨⟨by omega, by omega⟩, gok_ir hl2 _ _, ⟨by omega, by omega⟩, fun x => go (fun _ => x), fun x => h0 (fun m => x ?_) a' hfr⟩
                exact m.2 _ _ w
          exact inner 4 0 (by omega) (by omega) (fun c c1 c2 c3 => by
            have := (ho.1.2.1 _ _ c3).2.1
            omega)
    exact ⟨_, outer ((f (3 + k) 0).toNat + 1) 0 (by omega) (by omega) (fun v c v1 c2 c3 => by
      have := (ho.1.2.1 _ _ c3).1
      omega)⟩
  have one : ∀ (n u : Nat) (a' : aS), 1 ≤ u → u ≤ (f (3 + k) 0).toNat → (f (3 + k) 0).toNat < n + u → fr8 k a a' → (∀ v : Nat, v < u → a' (3 + k) 8 v = ph (gA f a (3 + l)) st (a (3 + k) 5) (a (3 + k) 6) (a (3 + k) 7) v ∧ ph (gA f a (3 + l)) st (a (3 + k) 5) (a (3 + k) 6) (a (3 + k) 7) v ≠ -1) → wb_G_liesUpon_9 post n (3 + k) (3 + l) (u : Int) f a' := by
    intro n
    induction n with
    | zero => intro u a' g0 g1 g2; omega
    | succ n ih =>
      intro u a' g0 g1 g2 hfr g4
      rw [wb_G_liesUpon_9]
      refine ⟨⟨by omega, by omega⟩, ⟨by omega, by omega⟩, ⟨by omega, by omega⟩, fun q => two a' hfr (fun v hv => g4 v (by omega)), fun q => ?_⟩
      have ok2 : gok N f a' (3 + l) := gok_congr (fun _ => rfl) (fl hfr) hl2
      have eB : gA f a' (3 + l) = gA f a (3 + l) := gA_fr (fl hfr)
      obtain ⟨t1, t2, t3, t4, t5⟩ := gi_tree ho.1 (v := (u : Int)) (by omega) (by omega)
      have hs := ph_s (gA f a (3 + l)) st ho.1 (v := (u : Int)) (by omega) (by omega)
      rw [Int.toNat_natCast] at t1 t4 hs
      obtain ⟨p1, p2⟩ := g4 (a (3 + k) 5 u).toNat (by omega)
      have ep : (((a (3 + k) 5 u).toNat : Nat) : Int) = a (3 + k) 5 u := by omega
      rw [ep] at p1 p2
      have r := im_rng ho hl2 s0 s1 (v := a (3 + k) 5 u) t1.1 (by omega)
      rw [Int.toNat_natCast, fk hfr 5 (by omega), fk hfr 6 (by omega), p1]
      refine ⟨⟨by omega, by omega⟩, ⟨by omega, by omega⟩, ⟨by omega, by omega⟩, ?_⟩
      refine s_way ⟨by omega, by omega⟩ ok2 (by omega) (by omega) t4.1 (by omega) ?_
      rw [eB, ← hs, va_up_self]
      have r3 := im_rng ho hl2 s0 s1 (v := (u : Int)) (by omega) (by omega)
      have hfr2 : ∀ w, fr8 k a (setA a' (3 + k) 8 w) := by
        intro w o q hoq
        rw [← hfr o q hoq]
        unfold setA
        rw [if_neg hoq]
      refine ⟨⟨by omega, by omega⟩, fun w => ?_, fun w => h0 (fun m => w ?_) _ (hfr2 _)⟩
      · have e : (u : Int) + 1 = ((u + 1 : Nat) : Int) := by omega
        rw [e]
        refine ih (u + 1) _ (by omega) (by omega) (by omega) (hfr2 _) (fun v hv => ?_)
        rw [setA_s]
        by_cases z : v = u
        · rw [z, va_up_self]
          exact ⟨rfl, w⟩
        · rw [va_up_ne _ _ z]
          exact g4 v (by omega)
      · exact m.1 _ (by omega) (by omega)
  refine ⟨⟨by omega, by omega⟩, ⟨_, one ((f (3 + k) 0).toNat + 1) 1 _ (by omega) (by omega) (by omega) ?_ (fun v hv => ?_)⟩⟩
  · intro o q hoq
    unfold setA
    rw [if_neg hoq]
  · have e : v = 0 := by omega
    subst e
    rw [setA_s]
    have e2 : ph (gA f a (3 + l)) st (a (3 + k) 5) (a (3 + k) 6) (a (3 + k) 7) ((0 : Nat) : Int) = st := ph_0 _ _ ho.1
    rw [e2]
    exact ⟨va_up_self _ _ _, by omega⟩
end
