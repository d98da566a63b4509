theorem s_pair {post : Int → fS → aS → Prop} {f : fS} {a : aS} {l : prs} {x1 x2 : Int} (hx1 : ir x1) (hx2 : ir x2) (hl : f 2 0 = (l.length : Int)) (h64 : l.length ≤ 64) (h8 : ∀ (i : Nat) (q : Int × Int), l[i]? = some q → a 2 8 i = q.1 ∧ a 2 9 i = q.2) (hir : ∀ q : Int × Int, q ∈ l → ir q.1 ∧ ir q.2) (found : ∀ i : Nat, l[i]? = some (x1, x2) → post (i : Int) f a) (new : ¬ (x1, x2) ∈ l → l.length < 64 → post (l.length : Int) (setF f 2 0 ((l.length : Int) + 1)) (setA (setA a 2 8 (va_up (a 2 8) l.length x1)) 2 9 (va_up (a 2 9) l.length x2))) (full : ¬ (x1, x2) ∈ l → l.length = 64 → post (-1) f a) : wp_D_findOrAddPair post x1 x2 f a := by
  have loop : ∀ n i : Nat, i ≤ l.length → l.length < n + i → (∀ k, k < i → l[k]? ≠ some (x1, x2)) → wb_D_findOrAddPair_2 post n x1 x2 (i : Int) f a := by
    intro n
    induction n with
    | zero => intro i h1 h2; omega
    | succ n ih =>
      intro i h1 h2 h3
      rw [wb_D_findOrAddPair_2, hl]
      refine ⟨⟨by omega, by omega⟩, ⟨by omega, by omega⟩, fun z => ?_, fun z => ?_⟩
      · have nm : ¬ (x1, x2) ∈ l := by
          intro hm
          obtain ⟨k, hk⟩ := List.getElem?_of_mem hm
          obtain ⟨lt, _⟩ := List.getElem?_eq_some_iff.mp hk
          exact h3 k (by omega) hk
        refine ⟨fun y => ⟨⟨by omega, by omega⟩, ?_⟩, fun y => full nm (by omega)⟩
        have e : (l.length : Int) + 1 - 1 = l.length := by omega
        rw [e, Int.toNat_natCast]
        exact new nm (by omega)
      · rw [Int.toNat_natCast]
        have hq : l[i]? = some (l[i]'(by omega)) := List.getElem?_eq_getElem _
        generalize l[i]'(by omega) = q at hq
        obtain ⟨e8, e9⟩ := h8 i q hq
        rw [e8, e9]
        have hi := hir q (List.mem_of_getElem? hq)
        have e1 : (i : Int) + 1 = ((i + 1 : Nat) : Int) := by omega
        have next : q ≠ (x1, x2) → wb_D_findOrAddPair_32 post (wb_D_findOrAddPair_2 post n) x1 x2 (i : Int) f a := by
          intro ne
          show wb_D_findOrAddPair_2 post n x1 x2 ((i : Int) + 1) f a
          rw [e1]
          refine ih (i + 1) (by omega) (by omega) (fun k hk => ?_)
          by_cases y : k = i
          · rw [y, hq]
            exact fun w => ne (Option.some.inj w)
          · exact h3 k (by omega)
        refine ⟨⟨by omega, by omega⟩, hi.1, hx1, fun y => next (fun w => y (by rw [w])), fun y => ⟨hi.2, hx2, fun y' => next (fun w => y' (by rw [w])), fun y' => found i ?_⟩⟩
        rw [hq]
        exact congrArg some (Prod.ext (Classical.byContradiction y) (Classical.byContradiction y'))
  exact ⟨_, loop (l.length + 1) 0 (by omega) (by omega) (fun k hk => by omega)⟩
/-- the class's pairs after j looks -/
def cS (A B : Int → Int → Int) (f0 : fS) (a0 : aS) (bz : Int) (j : Nat) (l : prs) (f : fS) (a : aS) : Prop :=
  mrun A B j l ∧ f 2 0 = (l.length : Int) ∧ f 2 1 = bz ∧ fr2 f0 f a0 a ∧ (∀ (i : Nat) (q : Int × Int), l[i]? = some q → a 2 8 i = q.1 ∧ a 2 9 i = q.2) ∧ ij A B j l (tb (a 2 7) 0 64)
theorem gi_rng {N n : Int} {A : Int → Int → Int} {pa ar de : Nat → Int} (h : gi N n A pa ar de) : ∀ v c, A v c ≠ -1 → 0 ≤ A v c ∧ A v c < n := fun v c q => (h.2.1 v c q).2.2.1
theorem s_pairs {post : Int → fS → aS → Prop} {N : Int} {o1 o2 : Nat} {f0 f : fS} {a0 a : aS} (ho1 : 3 ≤ o1 ∧ o1 < 7) (ho2 : 3 ≤ o2 ∧ o2 < 7) (hN : 1 ≤ N ∧ N ≤ 3) (g1 : gok N f0 a0 o1) (g2 : gok N f0 a0 o2) (h : fr2 f0 f a0 a) (h0 : f 2 0 = 1) (hz : ∀ x c, tb (a 2 7) 0 64 x c = -1)
    (full : mfull (gA f0 a0 o1) (gA f0 a0 o2) → ∀ f' a', fr2 f0 f' a0 a' → post 0 f' a')
    (done : ∀ (f' : fS) (a' : aS) (l : prs), fr2 f0 f' a0 a' → mfin (gA f0 a0 o1) (gA f0 a0 o2) l → msi (f0 o1 0) (f0 o2 0) (gA f0 a0 o1) (gA f0 a0 o2) (6 * l.length) l → ism (gA f0 a0 o1) (gA f0 a0 o2) l (tb (a' 2 7) 0 64) → f' 2 0 = (l.length : Int) → f' 2 1 = f 2 1 → post 1 f' a') : wp_D_addPairs post o1 o2 f a := by
  have n1 := g1.1.1
  have n2 := g2.1.1
  have ms : ∀ (j : Nat) (l : prs), mrun (gA f0 a0 o1) (gA f0 a0 o2) j l → msi (f0 o1 0) (f0 o2 0) (gA f0 a0 o1) (gA f0 a0 o2) j l := fun j l hr => msi_of (gi_rng g1.1) (gi_rng g2.1) (by omega) (by omega) j l hr.1 hr.2
  have outer : ∀ (n p : Nat) (l : prs) (f1 : fS) (a1 : aS), p ≤ l.length → 64 < n + p → cS (gA f0 a0 o1) (gA f0 a0 o2) f0 a0 (f 2 1) (6 * p) l f1 a1 → wb_D_addPairs_16 post n o1 o2 (p : Int) f1 a1 := by
    intro n
    induction n with
    | zero =>
      intro p l f1 a1 k1 k2 hc
      have := (ms _ _ hc.1).2.1
      omega
    | succ n ih =>
      intro p l f1 a1 k1 k2 hc
      have hms := ms _ _ hc.1
      have l64 := hms.2.1
      have fin : p = l.length → wb_D_addPairs_127 post f1 a1 := by
        intro ep
        subst ep
        exact done f1 a1 l hc.2.2.2.1 hc.1 hms (ij_end hc.2.2.2.2.2 (fun v c q => by have := (g1.1.2.1 v c q).2.1; omega)) hc.2.1 hc.2.2.1
      have el := hc.2.1
      rw [wb_D_addPairs_16, el]
      refine ⟨⟨by omega, by omega⟩, fun z => fin (by omega), fun z => ⟨⟨by omega, by omega⟩, fun y => fin (by omega), fun y => ⟨7, ?_⟩⟩⟩
      have inner : ∀ (m c : Nat) (l : prs) (f2 : fS) (a2 : aS), c ≤ 6 → 6 < m + c → p < l.length → cS (gA f0 a0 o1) (gA f0 a0 o2) f0 a0 (f 2 1) (6 * p + c) l f2 a2 → wb_D_addPairs_33 post (wb_D_addPairs_16 post n) m o1 o2 (p : Int) (c : Int) f2 a2 := by
        intro m
        induction m with
        | zero => intro c l f2 a2 c1 c2; omega
        | succ m ih2 =>
          intro c l f2 a2 c1 c2 pl hc2
          have hms2 := ms _ _ hc2.1
          have l642 := hms2.2.1
          obtain ⟨r1, r2, r3, r4, r5, r6⟩ := hc2
          rw [wb_D_addPairs_33]
          refine ⟨⟨by omega, by omega⟩, fun z => ?_, fun z => ⟨⟨by omega, by omega⟩, ho1, ?_⟩⟩
          · have e1 : (p : Int) + 1 = ((p + 1 : Nat) : Int) := by omega
            have e2 : 6 * p + c = 6 * (p + 1) := by omega
            rw [e1]
            rw [e2] at r1 r6
            exact ih (p + 1) l f2 a2 (by omega) (by omega) ⟨r1, r2, r3, r4, r5, r6⟩
          · have c6 : c < 6 := by omega
            have hq : l[p]? = some (l[p]'pl) := List.getElem?_eq_getElem _
            generalize l[p]'pl = q at hq
            obtain ⟨e8, e9⟩ := r5 p q hq
            obtain ⟨⟨qa, qb⟩, qc, qd⟩ := hms2.2.2.2.1 q (List.mem_of_getElem? hq)
            have eA := fr2_gA (o := o1) (by omega) r4
            have eB := fr2_gA (o := o2) (by omega) r4
            have f1e := (r4 o1 0 (by omega)).1
            have f2e := (r4 o2 0 (by omega)).1
            have ec : (c : Int) + 1 = ((c + 1 : Nat) : Int) := by omega
            rw [Int.toNat_natCast, e8]
            refine s_way ho1 (fr2_gok (by omega) r4 g1) qa (by omega) (by omega) (by omega) ⟨ho2, ?_⟩
            rw [e9]
            refine s_way ho2 (fr2_gok (by omega) r4 g2) qc (by omega) (by omega) (by omega) ?_
            rw [eA, eB]
            have no : (gA f0 a0 o1 q.1 c = -1 ∨ gA f0 a0 o2 q.2 c = -1) → wb_D_addPairs_115 post (wb_D_addPairs_33 post (wb_D_addPairs_16 post n) m) o1 o2 (p : Int) (c : Int) f2 a2 := by
              intro hn
              show wb_D_addPairs_33 post (wb_D_addPairs_16 post n) m o1 o2 (p : Int) ((c : Int) + 1) f2 a2
              rw [ec]
              exact ih2 (c + 1) l f2 a2 (by omega) (by omega) pl ⟨mr_no r1 c6 hq hn, r2, r3, r4, r5, ij_no r6 c6 hq hn⟩
            refine ⟨gok_ir g1 _ _, fun w => no (Or.inl w), fun w => ⟨gok_ir g2 _ _, fun w' => ?_, fun w' => no (Or.inr (Classical.byContradiction w'))⟩⟩
            have hn : ¬ (gA f0 a0 o1 q.1 c = -1 ∨ gA f0 a0 o2 q.2 c = -1) := fun k => k.elim w w'
            have pc : ((p : Int) * 6 + (c : Int)) < 384 := by omega
            refine s_pair (l := l) (gok_ir g1 _ _) (gok_ir g2 _ _) r2 l642 r5 (fun y hy => ?_) (fun i hi => ?_) (fun hm hl => ?_) (fun hm hl => ?_)
            · have := hms2.2.2.2.1 y hy
              exact ⟨⟨by omega, by omega⟩, ⟨by omega, by omega⟩⟩
            · obtain ⟨il, _⟩ := List.getElem?_eq_some_iff.mp hi
              refine ⟨⟨by omega, by omega⟩, fun _ => ⟨⟨by omega, pc⟩, ?_⟩, fun k => absurd (by omega : ¬ (i : Int) = -1) k⟩
              show wb_D_addPairs_33 post (wb_D_addPairs_16 post n) m o1 o2 (p : Int) ((c : Int) + 1) f2 _
              rw [ec]
              refine ih2 (c + 1) l f2 _ (by omega) (by omega) pl ⟨mr_old r1 c6 hq (List.mem_of_getElem? hi), r2, r3, fr2_A r4, fun x y hy => ?_, ?_⟩
              · rw [setA_k _ _ (by omega), setA_k _ _ (by omega)]
                exact r5 x y hy
              · rw [setA_s, tbD_up (by omega) (by omega) (by omega) (by omega)]
                exact ij_up r6 c6 hq w w' (fun _ _ k => k) hi
            · refine ⟨⟨by omega, by omega⟩, fun _ => ⟨⟨by omega, pc⟩, ?_⟩, fun k => absurd (by omega : ¬ (l.length : Int) = -1) k⟩
              show wb_D_addPairs_33 post (wb_D_addPairs_16 post n) m o1 o2 (p : Int) ((c : Int) + 1) _ _
              rw [ec]
              refine ih2 (c + 1) (l ++ [(gA f0 a0 o1 q.1 c, gA f0 a0 o2 q.2 c)]) _ _ (by omega) (by omega) (by rw [List.length_append]; omega) ⟨mr_new r1 c6 hq hn hm (by omega), ?_, (setF_k _ _ (by omega)).trans r3, fr2_A (fr2_A (fr2_A (fr2_F r4))), fun x y hy => ?_, ?_⟩
              · rw [setF_s, List.length_append]
                exact (by simp)
              · rw [setA_k _ _ (by omega), setA_k _ _ (by omega), setA_s, setA_k _ _ (by omega), setA_s]
                by_cases k : x = l.length
                · subst k
                  rw [app_i] at hy
                  have e3 := Option.some.inj hy
                  subst e3
                  rw [va_up_self, va_up_self]
                  exact ⟨rfl, rfl⟩
                · rw [va_up_ne _ _ k, va_up_ne _ _ k]
                  exact r5 x y (app_b k hy)
              · rw [setA_s, setA_k _ _ (by omega), setA_k _ _ (by omega), tbD_up (by omega) (by omega) (by omega) (by omega)]
                exact ij_up r6 c6 hq w w' (fun _ _ k => app_l k) (app_i _ _)
            · refine ⟨⟨by omega, by omega⟩, fun k => absurd rfl k, fun _ => full (mr_full r1 c6 hq hn hm hl) f2 a2 r4⟩
      exact inner 7 0 l f1 a1 (by omega) (by omega) (by omega) hc
  refine ⟨_, outer 66 0 [(0, 0)] f _ (by simp) (by omega) ⟨⟨rfl, fun i hi => by omega⟩, ?_, rfl, fr2_A (fr2_A h), fun x y hy => ?_, ?_⟩⟩
  · rw [h0]
    rfl
  · rw [setA_k _ _ (by omega), setA_s, setA_s]
    obtain ⟨lt, _⟩ := List.getElem?_eq_some_iff.mp hy
    have lt : x < 1 := lt
    have ex : x = 0 := by omega
    subst ex
    have e3 := Option.some.inj hy
    subst e3
    exact ⟨va_up_self _ _ _, va_up_self _ _ _⟩
  · rw [setA_k _ _ (by omega), setA_k _ _ (by omega)]
    exact ij_0 hz
