theorem s_pairM {post : Int → fS → aS → Prop} {g : fS} {b : aS} {l : prs} {x1 x2 : Int} (hx1 : ir x1) (hx2 : ir x2) (hl : g 0 8 = (l.length : Int)) (h64 : l.length ≤ 64) (h8 : ∀ (i : Nat) (q : Int × Int), l[i]? = some q → b 0 18 i = q.1 ∧ b 0 19 i = q.2) (hir : ∀ q : Int × Int, q ∈ l → ir q.1 ∧ ir q.2) (found : ∀ i : Nat, l[i]? = some (x1, x2) → post (i : Int) g b) (new : ¬ (x1, x2) ∈ l → post (l.length : Int) g b) : wp_M_pair post x1 x2 g b := by
  have loop : ∀ n i : Nat, i ≤ l.length → l.length < n + i → (∀ k, k < i → l[k]? ≠ some (x1, x2)) → wb_M_pair_2 post n x1 x2 (i : Int) g b := by
    intro n
    induction n with
    | zero => intro i h1 h2; omega
    | succ n ih =>
      intro i h1 h2 h3
      rw [wb_M_pair_2, hl]
      refine ⟨⟨by omega, by omega⟩, ⟨by omega, by omega⟩, fun z => ?_, fun z => ?_⟩
      · have nm : ¬ (x1, x2) ∈ l := by
          intro hm
          obtain ⟨k, hk⟩ := List.getElem?_of_mem hm
          obtain ⟨lt, _⟩ := List.getElem?_eq_some_iff.mp hk
          exact h3 k (by omega) hk
        have e : i = l.length := by omega
        subst e
        exact new nm
      · rw [Int.toNat_natCast]
        have hq : l[i]? = some (l[i]'(by omega)) := List.getElem?_eq_getElem _
        generalize l[i]'(by omega) = q at hq
        obtain ⟨e8, e9⟩ := h8 i q hq
        rw [e8, e9]
        have hi := hir q (List.mem_of_getElem? hq)
        have e1 : (i : Int) + 1 = ((i + 1 : Nat) : Int) := by omega
        have next : q ≠ (x1, x2) → wb_M_pair_30 post (wb_M_pair_2 post n) x1 x2 (i : Int) g b := by
          intro ne
          show wb_M_pair_2 post n x1 x2 ((i : Int) + 1) g b
          rw [e1]
          refine ih (i + 1) (by omega) (by omega) (fun k hk => ?_)
          by_cases y : k = i
          · rw [y, hq]
            exact fun w => ne (Option.some.inj w)
          · exact h3 k (by omega)
        refine ⟨⟨by omega, by omega⟩, hi.1, hx1, fun y => next (fun w => y (by rw [w])), fun y => ⟨hi.2, hx2, fun y' => found i ?_, fun y' => next (fun w => y' (by rw [w]))⟩⟩
        rw [hq]
        exact congrArg some (Prod.ext (Classical.byContradiction y) y')
  exact ⟨_, loop (l.length + 1) 0 (by omega) (by omega) (fun k hk => by omega)⟩
/-- the reference's pairs after j looks -/
def qS (A B : Int → Int → Int) (g0 : fS) (b0 : aS) (e : Int) (j : Nat) (l : prs) (g : fS) (b : aS) : Prop :=
  mrun A B j l ∧ frM g0 g b0 b ∧ g 0 9 = 0 ∧ (∀ (i : Nat) (q : Int × Int), l[i]? = some q → b 0 18 i = q.1 ∧ b 0 19 i = q.2) ∧ ∃ W, ij A B j l W ∧ mS g b (l.length : Int) (EW W) e
theorem s_meetM {post : Int → fS → aS → Prop} {N s : Int} {k2 k3 : Nat} {f : fS} {a : aS} {g0 g : fS} {b0 b : aS} (hk2 : k2 < 4) (hk3 : k3 < 4) (hN : 1 ≤ N ∧ N ≤ 3) (o2 : gok N f a (3 + k2)) (o3 : gok N f a (3 + k3)) (r2 : grel f a g0 b0 k2) (r3 : grel f a g0 b0 k3) (h : frM g0 g b0 b) (hd : mS g b 1 (fun _ _ _ => False) 0) (h9 : g 0 9 = 0)
    (full : mfull (gA f a (3 + k2)) (gA f a (3 + k3)) → ∀ g' b', frM g0 g' b0 b' → post (-2) g' b')
    (done : ∀ (g' : fS) (b' : aS) (l : prs) (W : Int → Int → Int), frM g0 g' b0 b' → mfin (gA f a (3 + k2)) (gA f a (3 + k3)) l → ism (gA f a (3 + k2)) (gA f a (3 + k3)) l W → mS g' b' (l.length : Int) (EW W) 200 → g' 0 9 = 0 → wp_M_fold (fun f19 a20 => wp_M_trim (fun f22 a23 => wp_M_settle post s f22 a23) f19 a20) g' b') :
    ∃ j, wb_M_meet_45 post j s (k2 : Int) (k3 : Int) 0 g (setA (setA b 0 18 (va_up (b 0 18) (Int.toNat 0) 0)) 0 19 (va_up (b 0 19) (Int.toNat 0) 0)) := by
  have n1 := o2.1.1
  have n2 := o3.1.1
  have ms : ∀ (j : Nat) (l : prs), mrun (gA f a (3 + k2)) (gA f a (3 + k3)) j l → msi (f (3 + k2) 0) (f (3 + k3) 0) (gA f a (3 + k2)) (gA f a (3 + k3)) j l := fun j l hr => msi_of (gi_rng o2.1) (gi_rng o3.1) (by omega) (by omega) j l hr.1 hr.2
  have outer : ∀ (n p : Nat) (l : prs) (g1 : fS) (b1 : aS), p ≤ l.length → 64 < n + p → qS (gA f a (3 + k2)) (gA f a (3 + k3)) g0 b0 (3 * (p : Int)) (6 * p) l g1 b1 → wb_M_meet_45 post n s (k2 : Int) (k3 : Int) (p : Int) g1 b1 := by
    intro n
    induction n with
    | zero =>
      intro p l g1 b1 u1 u2 hc
      have := (ms _ _ hc.1).2.1
      omega
    | succ n ih =>
      intro p l g1 b1 u1 u2 hc
      have hms := ms _ _ hc.1
      have l64 := hms.2.1
      have el : g1 0 8 = (l.length : Int) := by
        obtain ⟨_, _, _, _, W, _, y⟩ := hc
        exact y.1
      rw [wb_M_meet_45, el]
      refine ⟨⟨by omega, by omega⟩, ⟨by omega, by omega⟩, fun z => ?_, fun z => ⟨7, ?_⟩⟩
      · have ep : p = l.length := by omega
        subst ep
        obtain ⟨y1, y2, y3, y4, W, y5, y6⟩ := hc
        exact done g1 b1 l W y2 y1 (ij_end y5 (fun v c q => by have := (o2.1.2.1 v c q).2.1; omega)) (mS_iff y6 (fun _ _ _ => Iff.rfl) (by omega)) y3
      have inner : ∀ (m c : Nat) (l : prs) (g2 : fS) (b2 : aS), c ≤ 6 → 6 < m + c → p < l.length → qS (gA f a (3 + k2)) (gA f a (3 + k3)) g0 b0 (3 * (p : Int) + ((c : Int) + 1) / 2) (6 * p + c) l g2 b2 → wb_M_meet_57 post (wb_M_meet_45 post n) m s (k2 : Int) (k3 : Int) (p : Int) (c : Int) g2 b2 := by
        intro m
        induction m with
        | zero => intro c l g2 b2 c1 c2; omega
        | succ m ih2 =>
          intro c l g2 b2 c1 c2 pl hc2
          have hms2 := ms _ _ hc2.1
          have l642 := hms2.2.1
          obtain ⟨t1, t2, t3, t4, W, t5, t6⟩ := hc2
          rw [wb_M_meet_57]
          refine ⟨⟨by omega, by omega⟩, fun z => ?_, fun z => ⟨⟨by omega, by omega⟩, ?_⟩⟩
          · have e1 : (p : Int) + 1 = ((p + 1 : Nat) : Int) := by omega
            have e2 : 6 * p + c = 6 * (p + 1) := by omega
            rw [e1]
            rw [e2] at t1 t5
            exact ih (p + 1) l g2 b2 (by omega) (by omega) ⟨t1, t2, t3, t4, W, t5, mS_iff t6 (fun _ _ _ => Iff.rfl) (by omega)⟩
          · have c6 : c < 6 := by omega
            have hq : l[p]? = some (l[p]'pl) := List.getElem?_eq_getElem _
            generalize l[p]'pl = q at hq
            obtain ⟨e8, e9⟩ := t4 p q hq
            obtain ⟨⟨qa, qb⟩, qc, qd⟩ := hms2.2.2.2.1 q (List.mem_of_getElem? hq)
            have ec : (c : Int) + 1 = ((c + 1 : Nat) : Int) := by omega
            rw [Int.toNat_natCast, e8]
            refine s_wayM rfl hk2 o2 (frM_grel t2 r2) qa qb (by omega) (by omega) ?_
            rw [e9]
            refine s_wayM rfl hk3 o3 (frM_grel t2 r3) qc qd (by omega) (by omega) ?_
            have gA2 := gok_in o2 q.1 (c : Int)
            have gA3 := gok_in o3 q.2 (c : Int)
            have no : (gA f a (3 + k2) q.1 c = -1 ∨ gA f a (3 + k3) q.2 c = -1) → wb_M_meet_190 post (wb_M_meet_57 post (wb_M_meet_45 post n) m) s (k2 : Int) (k3 : Int) (p : Int) (c : Int) g2 b2 := by
              intro hn
              show wb_M_meet_57 post (wb_M_meet_45 post n) m s (k2 : Int) (k3 : Int) (p : Int) ((c : Int) + 1) g2 b2
              rw [ec]
              exact ih2 (c + 1) l g2 b2 (by omega) (by omega) pl ⟨mr_no t1 c6 hq hn, t2, t3, t4, W, ij_no t5 c6 hq hn, mS_iff t6 (fun _ _ _ => Iff.rfl) (by omega)⟩
            refine ⟨gok_ir o2 _ _, fun w => no (Or.inl (by omega)), fun w => ⟨gok_ir o3 _ _, fun w' => no (Or.inr (by omega)), fun w' => ?_⟩⟩
            have wa : gA f a (3 + k2) q.1 c ≠ -1 := by omega
            have wb : gA f a (3 + k3) q.2 c ≠ -1 := by omega
            have hn : ¬ (gA f a (3 + k2) q.1 c = -1 ∨ gA f a (3 + k3) q.2 c = -1) := fun k => k.elim wa wb
            have nextM : ∀ (l' : prs) (i : Nat) (y1 : Int), (∀ (x : Nat) (y : Int × Int), l[x]? = some y → l'[x]? = some y) → (∀ (x : Nat) (y : Int × Int), x ≠ i → l'[x]? = some y → l[x]? = some y) → l'[i]? = some (gA f a (3 + k2) q.1 c, gA f a (3 + k3) q.2 c) → mrun (gA f a (3 + k2)) (gA f a (3 + k3)) (6 * p + c + 1) l' → y1 = (l'.length : Int) → wb_M_meet_167 post (wb_M_meet_57 post (wb_M_meet_45 post n) m) s (k2 : Int) (k3 : Int) (p : Int) (c : Int) (i : Int) y1 g2 (setA (setA b2 0 18 (va_up (b2 0 18) i (gA f a (3 + k2) q.1 c))) 0 19 (va_up (b2 0 19) i (gA f a (3 + k3) q.2 c))) := by
              intro l' i y1 hl hlb hi hmr hy1
              have pl' : p < l'.length := by
                obtain ⟨lt, _⟩ := List.getElem?_eq_some_iff.mp (hl p q hq)
                exact lt
              have fr9 : frM g0 (setF g2 0 8 y1) b0 (setA (setA b2 0 18 (va_up (b2 0 18) i (gA f a (3 + k2) q.1 c))) 0 19 (va_up (b2 0 19) i (gA f a (3 + k3) q.2 c))) := frM_A (by omega) (frM_A (by omega) (frM_F (by omega) t2))
              have z9 : setF g2 0 8 y1 0 9 = 0 := (setF_k _ _ (by omega)).trans t3
              have q9 : ∀ (x : Nat) (y : Int × Int), l'[x]? = some y → (setA (setA b2 0 18 (va_up (b2 0 18) i (gA f a (3 + k2) q.1 c))) 0 19 (va_up (b2 0 19) i (gA f a (3 + k3) q.2 c))) 0 18 x = y.1 ∧ (setA (setA b2 0 18 (va_up (b2 0 18) i (gA f a (3 + k2) q.1 c))) 0 19 (va_up (b2 0 19) i (gA f a (3 + k3) q.2 c))) 0 19 x = y.2 := by
                intro x y hy
                rw [setA_k _ _ (by omega), setA_s, setA_s]
                by_cases k : x = i
                · subst k
                  rw [hi] at hy
                  have e3 := Option.some.inj hy
                  subst e3
                  rw [va_up_self, va_up_self]
                  exact ⟨rfl, rfl⟩
                · rw [va_up_ne _ _ k, va_up_ne _ _ k]
                  exact t4 x y (hlb x y k hy)
              have m9 : mS (setF g2 0 8 y1) (setA (setA b2 0 18 (va_up (b2 0 18) i (gA f a (3 + k2) q.1 c))) 0 19 (va_up (b2 0 19) i (gA f a (3 + k3) q.2 c))) (l'.length : Int) (EW W) (3 * (p : Int) + ((c : Int) + 1) / 2) := by
                refine ⟨(setF_s _ _ _ _).trans hy1, ?_, fun u d v => ?_⟩
                · rw [setF_k _ _ (by omega)]
                  exact t6.2.1
                · rw [setF_k _ _ (by omega), setA_k _ _ (by omega), setA_k _ _ (by omega), setA_k (k' := 12) _ _ (by omega), setA_k (k' := 12) _ _ (by omega), setA_k (k' := 13) _ _ (by omega), setA_k (k' := 13) _ _ (by omega)]
                  exact t6.2.2 u d v
              have u9 := ij_up t5 c6 hq wa wb hl hi
              have wpc : W (p : Int) (c : Int) = -1 := Classical.byContradiction (fun k => by
                have := (t5.1 _ _ k).1
                omega)
              refine ⟨⟨by omega, by omega⟩, ⟨by omega, by omega⟩, fun k => ?_, fun k => ?_⟩
              · show wb_M_meet_57 post (wb_M_meet_45 post n) m s (k2 : Int) (k3 : Int) (p : Int) ((c : Int) + 1) _ _
                rw [ec]
                exact ih2 (c + 1) l' _ _ (by omega) (by omega) pl' ⟨hmr, fr9, z9, q9, _, u9, mS_iff m9 (EW_odd _ k) (by omega)⟩
              · have lc := lo_in (N := 3) (c := (c : Int)) (by omega) (by omega)
                refine s_loM (by omega) (by omega) (s_edgeM ⟨by omega, by omega⟩ lc.1 fr9 m9 (by omega) (fun g4 b4 v1 v2 v3 v4 => ?_))
                show wb_M_meet_57 post (wb_M_meet_45 post n) m s (k2 : Int) (k3 : Int) (p : Int) ((c : Int) + 1) _ _
                rw [ec]
                refine ih2 (c + 1) l' _ _ (by omega) (by omega) pl' ⟨hmr, v1, v3.trans z9, fun x y hy => ?_, _, u9, mS_iff v2 (fun u d v => ?_) (by omega)⟩
                · rw [v4 18 (by omega), v4 19 (by omega)]
                  exact q9 x y hy
                · rw [co_lo (by omega)]
                  exact EW_even (Classical.byContradiction k) wpc (by omega) u d v
            refine s_pairM (l := l) (gok_ir o2 _ _) (gok_ir o3 _ _) t6.1 l642 t4 (fun y hy => ?_) (fun i hi => ?_) (fun hm => ?_)
            · have := hms2.2.2.2.1 y hy
              exact ⟨⟨by omega, by omega⟩, ⟨by omega, by omega⟩⟩
            · obtain ⟨il, _⟩ := List.getElem?_eq_some_iff.mp hi
              have e88 := t6.1
              rw [e88, Int.toNat_natCast]
              refine ⟨⟨by omega, by omega⟩, fun _ => ⟨⟨by omega, by omega⟩, ⟨by omega, by omega⟩, fun _ => ?_, fun k => absurd (by omega : ¬ (i : Int) = (l.length : Int)) k⟩, fun k => absurd (by omega : ¬ (i : Int) = 64) k⟩
              exact nextM l i _ (fun _ _ k => k) (fun _ _ _ k => k) hi (mr_old t1 c6 hq (List.mem_of_getElem? hi)) rfl
            · have e88 := t6.1
              rw [e88, Int.toNat_natCast]
              refine ⟨⟨by omega, by omega⟩, fun w64 => ⟨⟨by omega, by omega⟩, ⟨by omega, by omega⟩, fun k => absurd rfl k, fun _ => ?_⟩, fun w64 => full (mr_full t1 c6 hq hn hm (by omega)) g2 b2 t2⟩
              exact nextM (l ++ [(gA f a (3 + k2) q.1 c, gA f a (3 + k3) q.2 c)]) l.length _ (fun _ _ k => app_l k) (fun _ _ n k => app_b n k) (app_i _ _) (mr_new t1 c6 hq hn hm (by omega)) (by rw [List.length_append]; simp)
      exact inner 7 0 l g1 b1 (by omega) (by omega) (by omega) (by
        obtain ⟨y1, y2, y3, y4, W, y5, y6⟩ := hc
        exact ⟨y1, y2, y3, y4, W, y5, mS_iff y6 (fun _ _ _ => Iff.rfl) (by omega)⟩)
  refine ⟨_, outer 66 0 [(0, 0)] g _ (by simp) (by omega) ⟨⟨rfl, fun i hi => by omega⟩, frM_A (by omega) (frM_A (by omega) h), h9, fun x y hy => ?_, fun _ _ => -1, ij_0 (fun _ _ => rfl), ?_⟩⟩
  · rw [setA_k _ _ (by omega), setA_s, setA_s]
    obtain ⟨lt, _⟩ := List.getElem?_eq_some_iff.mp hy
    have lt : x < 1 := lt
    have ex : x = 0 := by omega
    subst ex
    have e3 := Option.some.inj hy
    subst e3
    exact ⟨va_up_self _ _ _, va_up_self _ _ _⟩
  · refine ⟨hd.1, hd.2.1, fun u d v => ?_⟩
    rw [setA_k _ _ (by omega), setA_k _ _ (by omega), setA_k (k' := 12) _ _ (by omega), setA_k (k' := 12) _ _ (by omega), setA_k (k' := 13) _ _ (by omega), setA_k (k' := 13) _ _ (by omega), hd.2.2]
    exact ⟨fun k => k.elim, fun ⟨_, _, _, k, _⟩ => absurd rfl k⟩
