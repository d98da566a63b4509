section
variable {post : Int → fS → aS → Prop} {N : Int} {f : fS} {a : aS} {g : fS} {b : aS} {k : Nat} {s : Int}
theorem s_find_in {k5 : Int → Int → Int → Int → fS → aS → Prop} {kk : Int} (hkk : ir kk) (hs : s = (k : Int)) (hk : k < 4) (hN : 1 ≤ N ∧ N ≤ 3) (hg : g 0 0 = N) (ho : gok N f a (3 + k)) (hr : grel f a g b k)
    (hf : ∀ i : Nat, i < 3 * (f (3 + k) 0).toNat → pn (gA f a (3 + k)) (a (3 + k) 6) i = true → (pg_n (pn (gA f a (3 + k)) (a (3 + k) 6)) i : Int) = kk → post 1 (setF (setF (setF g 0 20 ((i / 3 : Nat) : Int)) 0 21 ((i % 3 : Nat) + 1 : Int)) 0 22 (gA f a (3 + k) ((i / 3 : Nat) : Int) (2 * ((i % 3 : Nat) : Int)))) b) {u : Nat} (hu : (u : Int) < f (3 + k) 0)
    (hk5 : (∀ i : Nat, i < 3 * u + 3 → pn (gA f a (3 + k)) (a (3 + k) 6) i = true → (pg_n (pn (gA f a (3 + k)) (a (3 + k) 6)) i : Int) ≠ kk) → k5 s kk (pg_n (pn (gA f a (3 + k)) (a (3 + k) 6)) (3 * u + 3) : Nat) ((u : Int) + 1) g b) :
    ∀ n y : Nat, 1 ≤ y → (y : Int) ≤ N + 1 → 4 < n + y → (∀ i : Nat, i < 3 * u + y - 1 → pn (gA f a (3 + k)) (a (3 + k) 6) i = true → (pg_n (pn (gA f a (3 + k)) (a (3 + k) 6)) i : Int) ≠ kk) → wb_M_find_19 post k5 n s kk (pg_n (pn (gA f a (3 + k)) (a (3 + k) 6)) (3 * u + y - 1) : Nat) (u : Int) (y : Int) g b := by
  have nn := ho.1.1
  intro n
  induction n with
  | zero => intro y h1 h2 h3; omega
  | succ n ih =>
    intro y h1 h2 h3 h4
    rw [wb_M_find_19]
    refine ⟨⟨by omega, by omega⟩, ⟨by omega, by omega⟩, fun z => ?_, fun z => ?_⟩
    · have e : 3 * u + y - 1 = 3 * u + (y - 1) := by omega
      rw [e, ← pn_row ho u (y := y - 1) (by omega) (by omega)]
      refine hk5 (fun i hi p => ?_)
      by_cases q : i < 3 * u + y - 1
      · exact h4 i q p
      · rw [pn_out ho (i := i) (by omega)] at p
        exact Bool.noConfusion p
    · obtain ⟨ec, hp⟩ := at_place hN ho (u := u) (y := y) h1 (by omega)
      have e1 : ((y + 1 : Nat) : Int) = (y : Int) + 1 := by omega
      have e2 : 3 * u + (y + 1) - 1 = 3 * u + y - 1 + 1 := by omega
      have le := pg_le (pn (gA f a (3 + k)) (a (3 + k) 6)) (3 * u + y - 1)
      have go : (pn (gA f a (3 + k)) (a (3 + k) 6) (3 * u + y - 1) = true → (pg_n (pn (gA f a (3 + k)) (a (3 + k) 6)) (3 * u + y - 1) : Int) ≠ kk) → wb_M_find_19 post k5 n s kk (pg_n (pn (gA f a (3 + k)) (a (3 + k) 6)) (3 * u + y - 1 + 1) : Nat) (u : Int) ((y : Int) + 1) g b := by
        intro q
        have g1 := ih (y + 1) (by omega) (by omega) (by omega) (fun i hi p => by
          by_cases w : i = 3 * u + y - 1
          · rw [w] at p ⊢
            exact q p
          · exact h4 i (by omega) p)
        rw [e1, e2] at g1
        exact g1
      refine s_codeM ⟨by omega, by omega⟩ (s_wayM hs hk ho hr (by omega) hu (by omega) (by omega) ⟨gok_ir ho _ _, fun z2 => ?_, fun z2 => ?_⟩)
      · have q : ¬ pn (gA f a (3 + k)) (a (3 + k) 6) (3 * u + y - 1) = true := fun w => (hp.mp w).1 (by have := gok_in ho (u : Int) (co (y : Int)); omega)
        have go := go (fun w => absurd w q)
        rw [pg_no q] at go
        exact go
      · have hq : gA f a (3 + k) (u : Int) (co (y : Int)) ≠ -1 := by omega
        refine s_codeM ⟨by omega, by omega⟩ (s_isTree hs hk hN.2 ho hr hq (fun w => n_0 ?_) (fun w => n_1 ?_))
        · refine ⟨⟨by omega, by omega⟩, hkk, fun w2 => ?_, fun w2 => ?_⟩
          · have go := go (fun _ => w2)
            rw [pg_yes (hp.mpr w)] at go
            have e3 : ((pg_n (pn (gA f a (3 + k)) (a (3 + k) 6)) (3 * u + y - 1) + 1 : Nat) : Int) = (pg_n (pn (gA f a (3 + k)) (a (3 + k) 6)) (3 * u + y - 1) : Int) + 1 := by omega
            rw [e3] at go
            exact go
          · have q := hf (3 * u + y - 1) (by omega) (hp.mpr w) (Classical.byContradiction w2)
            have d1 : (3 * u + y - 1) / 3 = u := by omega
            have d2 : (((3 * u + y - 1) % 3 : Nat) : Int) + 1 = (y : Int) := by omega
            have d3 : 2 * (((3 * u + y - 1) % 3 : Nat) : Int) = co (y : Int) := by omega
            rw [d2, d3, d1] at q
            exact q
        · have q : ¬ pn (gA f a (3 + k)) (a (3 + k) 6) (3 * u + y - 1) = true := fun z => w (hp.mp z)
          have go := go (fun w => absurd w q)
          rw [pg_no q] at go
          exact go
theorem s_find {kk : Int} (hkk : ir kk) (hs : s = (k : Int)) (hk : k < 4) (hN : 1 ≤ N ∧ N ≤ 3) (hg : g 0 0 = N) (ho : gok N f a (3 + k)) (hr : grel f a g b k)
    (hf : ∀ i : Nat, i < 3 * (f (3 + k) 0).toNat → pn (gA f a (3 + k)) (a (3 + k) 6) i = true → (pg_n (pn (gA f a (3 + k)) (a (3 + k) 6)) i : Int) = kk → post 1 (setF (setF (setF g 0 20 ((i / 3 : Nat) : Int)) 0 21 ((i % 3 : Nat) + 1 : Int)) 0 22 (gA f a (3 + k) ((i / 3 : Nat) : Int) (2 * ((i % 3 : Nat) : Int)))) b)
    (h0 : ¬ (0 ≤ kk ∧ kk < f (3 + k) 2) → post 0 g b) : wp_M_find post s kk g b := by
  have nn := ho.1.1
  have es : s.toNat = k := by omega
  have e1 : b 0 3 s.toNat = f (3 + k) 0 := by rw [es]; exact hr.1
  have out : ∀ n u : Nat, u ≤ (f (3 + k) 0).toNat → (f (3 + k) 0).toNat < n + u → (∀ i : Nat, i < 3 * u → pn (gA f a (3 + k)) (a (3 + k) 6) i = true → (pg_n (pn (gA f a (3 + k)) (a (3 + k) 6)) i : Int) ≠ kk) → wb_M_find_5 post n s kk (pg_n (pn (gA f a (3 + k)) (a (3 + k) 6)) (3 * u) : Nat) (u : Int) g b := by
    intro n
    induction n with
    | zero => intro u h1 h2; omega
    | succ n ih =>
      intro u h1 h2 h3
      rw [wb_M_find_5, e1]
      refine ⟨⟨by omega, by omega⟩, ⟨by omega, by omega⟩, ⟨by omega, by omega⟩, fun z => h0 (fun w => ?_), fun z => ⟨5, ?_⟩⟩
      · rw [ho.2.2.1] at w
        obtain ⟨i, i1, i2, i3⟩ := pg_find (pn (gA f a (3 + k)) (a (3 + k) 6)) (3 * (f (3 + k) 0).toNat) kk.toNat (by omega)
        exact h3 i (by omega) i2 (by omega)
      · have q := s_find_in (post := post) (k5 := wb_M_find_5 post n) hkk hs hk hN hg ho hr hf (u := u) (by omega) (fun h => ?_) 5 1 (by omega) (by omega) (by omega) (fun i hi p => h3 i (by omega) p)
        · exact q
        · have e4 : (u : Int) + 1 = ((u + 1 : Nat) : Int) := by omega
          have e5 : 3 * u + 3 = 3 * (u + 1) := by omega
          rw [e4, e5]
          exact ih (u + 1) (by omega) (by omega) (fun i hi p => h i (by omega) p)
  exact ⟨_, out ((f (3 + k) 0).toNat + 1) 0 (by omega) (by omega) (fun i hi => by omega)⟩
theorem itm_ir (ho : gok N f a (3 + k)) {v c : Int} (v0 : 0 ≤ v) (v1 : v < f (3 + k) 0) (c0 : 0 ≤ c) (c6 : c < 6) : ir (itm (gA f a (3 + k)) (a (3 + k) 6) v c) := by
  have nn := ho.1.1
  by_cases q : nt (gA f a (3 + k)) (a (3 + k) 6) v c
  · obtain ⟨b1, b2, b3, b4⟩ := ho.1.2.1 v c q.1
    by_cases e : c % 2 = 0
    · rw [itm_ev q e]
      have := pg_le (pn (gA f a (3 + k)) (a (3 + k) 6)) (3 * v + c / 2).toNat
      exact ⟨by omega, by omega⟩
    · rw [itm_od q e]
      have := pg_le (pn (gA f a (3 + k)) (a (3 + k) 6)) (3 * gA f a (3 + k) v c + c / 2).toNat
      exact ⟨by omega, by omega⟩
  · rw [itm_no q]
    decide
theorem items_at (ho : gok N f a (3 + k)) {x : Int} (x0 : 0 ≤ x) (x1 : x < f (3 + k) 0 * 6) : a (3 + k) 4 x.toNat = itm (gA f a (3 + k)) (a (3 + k) 6) (x / 6) (x % 6) := by
  have q := ho.2.2.2 (x / 6) (x % 6) (by omega) (by omega) (by omega) (by omega)
  have e : (6 * (x / 6) + x % 6).toNat = x.toNat := by omega
  rw [e] at q
  exact q
theorem s_slot {kk : Int} (hkk : ir kk) (hk : k < 4) (hN : 1 ≤ N ∧ N ≤ 3) (ho : gok N f a (3 + k))
    (hf : ∀ i : Nat, i < 3 * (f (3 + k) 0).toNat → pn (gA f a (3 + k)) (a (3 + k) 6) i = true → (pg_n (pn (gA f a (3 + k)) (a (3 + k) 6)) i : Int) = kk → post (6 * ((i / 3 : Nat) : Int) + 2 * ((i % 3 : Nat) : Int)) f a)
    (h0 : ¬ (0 ≤ kk ∧ kk < f (3 + k) 2) → post (-1) f a) : wp_G_slotOfElement post (3 + k) kk f a := by
  have nn := ho.1.1
  have hr := ho.2.2.1
  have le := pg_le (pn (gA f a (3 + k)) (a (3 + k) 6)) (3 * (f (3 + k) 0).toNat)
  refine ⟨hkk, fun z => h0 (by omega), fun z => ⟨⟨by omega, by omega⟩, ⟨by omega, by omega⟩, fun z2 => ?_, fun z2 => h0 (by omega)⟩⟩
  obtain ⟨i, i1, i2, i3⟩ := pg_find (pn (gA f a (3 + k)) (a (3 + k) 6)) (3 * (f (3 + k) 0).toNat) kk.toNat (by omega)
  have hit := (pn_iff _ _ _).mp i2
  have ev : itm (gA f a (3 + k)) (a (3 + k) 6) ((i / 3 : Nat) : Int) (2 * ((i % 3 : Nat) : Int)) = kk + 1 := by
    rw [itm_ev hit (by omega)]
    have e : (3 * ((i / 3 : Nat) : Int) + 2 * ((i % 3 : Nat) : Int) / 2).toNat = i := by omega
    rw [e]
    omega
  have loop : ∀ n x : Nat, x ≤ 6 * (i / 3) + 2 * (i % 3) → 6 * (i / 3) + 2 * (i % 3) < n + x → wb_G_slotOfElement_16 post n (3 + k) kk (x : Int) f a := by
    intro n
    induction n with
    | zero => intro x h1 h2; omega
    | succ n ih =>
      intro x h1 h2
      have it := items_at ho (x := (x : Int)) (by omega) (by omega)
      rw [wb_G_slotOfElement_16]
      refine ⟨⟨by omega, by omega⟩, ⟨by omega, by omega⟩, ⟨by omega, by omega⟩, fun q => by omega, fun q => ⟨⟨by omega, by omega⟩, ?_, ⟨by omega, by omega⟩, fun q2 => ?_, fun q2 => ?_⟩⟩
      · rw [it]
        exact itm_ir ho (by omega) (by omega) (by omega) (by omega)
      · have e : (x : Int) + 1 = ((x + 1 : Nat) : Int) := by omega
        rw [e]
        refine ih (x + 1) ?_ (by omega)
        rcases Nat.lt_or_ge x (6 * (i / 3) + 2 * (i % 3)) with y | y
        · omega
        · exfalso
          apply q2
          rw [it]
          have e1 : (x : Int) / 6 = ((i / 3 : Nat) : Int) := by omega
          have e2 : (x : Int) % 6 = 2 * ((i % 3 : Nat) : Int) := by omega
          rw [e1, e2]
          exact ev
      · have q3 : a (3 + k) 4 (x : Int).toNat = kk + 1 := Classical.byContradiction q2
        rw [it] at q3
        have hn : nt (gA f a (3 + k)) (a (3 + k) 6) ((x : Int) / 6) ((x : Int) % 6) := itm_iff.mp (by omega)
        have hc : ((x : Int) % 6) % 2 = 0 := by
          apply Classical.byContradiction
          intro w
          rw [itm_od hn w] at q3
          omega
        rw [itm_ev hn hc] at q3
        have e1 : (((3 * ((x : Int) / 6) + (x : Int) % 6 / 2).toNat / 3 : Nat) : Int) = (x : Int) / 6 := by omega
        have e2 : 2 * (((3 * ((x : Int) / 6) + (x : Int) % 6 / 2).toNat % 3 : Nat) : Int) = (x : Int) % 6 := by omega
        have r := hf (3 * ((x : Int) / 6) + (x : Int) % 6 / 2).toNat (by omega) ((pn_at (by omega) (by omega) (by omega) hc).mpr hn) (by omega)
        rw [e1, e2] at r
        have e3 : 6 * ((x : Int) / 6) + (x : Int) % 6 = (x : Int) := by omega
        rw [e3] at r
        exact r
  exact ⟨_, loop (6 * (i / 3) + 2 * (i % 3) + 1) 0 (by omega) (by omega)⟩
end
/-- what written answers, from vertex v on, when p elements are passed -/
noncomputable def wrt (A : Int → Int → Int) (ar w : Nat → Int) (i : Int) : Nat → Int → Int → Nat → Int
  | 0, _, _, _ => 0
  | r + 1, v, p, j => if itm A ar v (co (w j)) = 0 then wrt A ar w i r (A v (co (w j))) p (j + 1) else if p = i then itm A ar v (co (w j)) else wrt A ar w i r (A v (co (w j))) (p + 1) (j + 1)
section
variable {post : Int → fS → aS → Prop} {N : Int} {f : fS} {a : aS} {g : fS} {b : aS} {k : Nat} {s : Int}
theorem wrt_congr {A : Int → Int → Int} {ar w w' : Nat → Int} {i : Int} : ∀ (r : Nat) (v p : Int) (j : Nat), (∀ q, j ≤ q → q < j + r → w q = w' q) → wrt A ar w i r v p j = wrt A ar w' i r v p j := by
  intro r
  induction r with
  | zero => intros; rfl
  | succ r ih =>
    intro v p j h
    simp only [wrt]
    rw [h j (by omega) (by omega), ih _ p (j + 1) (fun q q1 q2 => h q (by omega) (by omega)), ih _ (p + 1) (j + 1) (fun q q1 q2 => h q (by omega) (by omega))]
theorem s_wrt_X {i : Int} (hi : ir i) (hk : k < 4) (hN : N ≤ 3) (ho : gok N f a (3 + k)) (hL : 0 ≤ f 1 1 ∧ f 1 1 ≤ 24) (hw : wok N (a 1 0) (f 1 1).toNat) (hm : rg (gA f a (3 + k)) 0 (fun j => co (a 1 0 j)) (f 1 1).toNat = 0) : ∀ n r j : Nat, ∀ p : Int, r + j = (f 1 1).toNat → r < n → 0 ≤ p → p ≤ j → post (wrt (gA f a (3 + k)) (a (3 + k) 6) (a 1 0) i r (rg (gA f a (3 + k)) 0 (fun j => co (a 1 0 j)) j) p j) f a → wb_X_written_26 post n i (3 + k) (rg (gA f a (3 + k)) 0 (fun j => co (a 1 0 j)) j) p (j : Int) f a := by
  have nn := ho.1.1
  intro n
  induction n with
  | zero => intro r j p h1 h2; omega
  | succ n ih =>
    intro r j p h1 h2 h3 h4 hp
    rw [wb_X_written_26]
    refine ⟨⟨by omega, by omega⟩, ⟨by omega, by omega⟩, fun z => ?_, fun z => ⟨⟨by omega, by omega⟩, ?_⟩⟩
    · have e : r = 0 := by omega
      rw [e] at hp
      exact hp
    · obtain ⟨r', er⟩ : ∃ r', r = r' + 1 := ⟨r - 1, by omega⟩
      subst er
      obtain ⟨l1, l2, l3⟩ := hw.1 j (by omega)
      have c := co_in l1 l2 l3
      have v : 0 ≤ rg (gA f a (3 + k)) 0 (fun j => co (a 1 0 j)) j ∧ rg (gA f a (3 + k)) 0 (fun j => co (a 1 0 j)) j < f (3 + k) 0 := by
        rcases rg_in ho (fun j => co (a 1 0 j)) j with q | q
        · have e := rg_m1 (gi_m1 ho.1) q ((f 1 1).toNat - j)
          have e2 : j + ((f 1 1).toNat - j) = (f 1 1).toNat := by omega
          rw [e2, hm] at e
          omega
        · exact q
      have it := ho.2.2.2 _ _ v.1 v.2 c.1 (by omega)
      have e6 : (rg (gA f a (3 + k)) 0 (fun j => co (a 1 0 j)) j * 6 + co (a 1 0 j)).toNat = (6 * rg (gA f a (3 + k)) 0 (fun j => co (a 1 0 j)) j + co (a 1 0 j)).toNat := by omega
      have e3 : (j : Int) + 1 = ((j + 1 : Nat) : Int) := by omega
      rw [Int.toNat_natCast]
      refine s_code ⟨by omega, by omega⟩ ⟨⟨by omega, by omega⟩, ⟨by omega, by omega⟩, fun t ht => ?_⟩
      rw [e6, it] at ht
      have go : ∀ p2 : Int, 0 ≤ p2 → p2 ≤ ((j + 1 : Nat) : Int) → post (wrt (gA f a (3 + k)) (a (3 + k) 6) (a 1 0) i r' (rg (gA f a (3 + k)) 0 (fun j => co (a 1 0 j)) (j + 1)) p2 (j + 1)) f a → wb_X_written_85 post (wb_X_written_26 post n) i (3 + k) (rg (gA f a (3 + k)) 0 (fun j => co (a 1 0 j)) j) p2 (j : Int) (co (a 1 0 j)) f a := by
        intro p2 p0 p1 hp2
        refine ⟨⟨by omega, by omega⟩, s_way ⟨by omega, by omega⟩ ho v.1 v.2 c.1 (by omega) ?_⟩
        rw [e3]
        exact ih r' (j + 1) p2 (by omega) (by omega) p0 p1 hp2
      have hp : post (if itm (gA f a (3 + k)) (a (3 + k) 6) (rg (gA f a (3 + k)) 0 (fun j => co (a 1 0 j)) j) (co (a 1 0 j)) = 0 then wrt (gA f a (3 + k)) (a (3 + k) 6) (a 1 0) i r' (rg (gA f a (3 + k)) 0 (fun j => co (a 1 0 j)) (j + 1)) p (j + 1) else if p = i then itm (gA f a (3 + k)) (a (3 + k) 6) (rg (gA f a (3 + k)) 0 (fun j => co (a 1 0 j)) j) (co (a 1 0 j)) else wrt (gA f a (3 + k)) (a (3 + k) 6) (a 1 0) i r' (rg (gA f a (3 + k)) 0 (fun j => co (a 1 0 j)) (j + 1)) (p + 1) (j + 1)) f a := hp
      refine ⟨by rw [ht]; exact itm_ir ho v.1 v.2 c.1 (by omega), fun q => ?_, fun q => ⟨⟨by omega, by omega⟩, hi, fun q2 => ?_, fun q2 => ?_⟩⟩
      · rw [ht] at q
        rw [if_pos q] at hp
        exact go p h3 (by omega) hp
      · rw [ht] at q
        rw [if_neg q, if_neg q2] at hp
        exact go (p + 1) (by omega) (by omega) hp
      · rw [ht] at q
        rw [if_neg q, if_pos (Classical.byContradiction q2)] at hp
        rw [ht]
        exact hp
theorem s_wrt_M {i : Int} (hi : ir i) (hs : s = (k : Int)) (hk : k < 4) (hN : 1 ≤ N ∧ N ≤ 3) (hg : g 0 0 = N) (ho : gok N f a (3 + k)) (hr : grel f a g b k) (hL : 0 ≤ g 0 1 ∧ g 0 1 ≤ 24) (hw : wok N (b 0 2) (g 0 1).toNat) (hm : rg (gA f a (3 + k)) 0 (fun j => co (b 0 2 j)) (g 0 1).toNat = 0) : ∀ n r j : Nat, ∀ p : Int, r + j = (g 0 1).toNat → r < n → 0 ≤ p → p ≤ j → post (wrt (gA f a (3 + k)) (a (3 + k) 6) (b 0 2) i r (rg (gA f a (3 + k)) 0 (fun j => co (b 0 2 j)) j) p j) g b → wb_M_written_25 post n s i (rg (gA f a (3 + k)) 0 (fun j => co (b 0 2 j)) j) p (j : Int) g b := by
  have nn := ho.1.1
  intro n
  induction n with
  | zero => intro r j p h1 h2; omega
  | succ n ih =>
    intro r j p h1 h2 h3 h4 hp
    rw [wb_M_written_25]
    refine ⟨⟨by omega, by omega⟩, ⟨by omega, by omega⟩, fun z => ?_, fun z => ⟨⟨by omega, by omega⟩, ?_⟩⟩
    · have e : r = 0 := by omega
      rw [e] at hp
      exact hp
    · obtain ⟨r', er⟩ : ∃ r', r = r' + 1 := ⟨r - 1, by omega⟩
      subst er
      obtain ⟨l1, l2, l3⟩ := hw.1 j (by omega)
      have c := co_in l1 l2 l3
      have vv : ∀ q : Nat, q ≤ (g 0 1).toNat → 0 ≤ rg (gA f a (3 + k)) 0 (fun j => co (b 0 2 j)) q ∧ rg (gA f a (3 + k)) 0 (fun j => co (b 0 2 j)) q < f (3 + k) 0 := by
        intro q hq
        rcases rg_in ho (fun j => co (b 0 2 j)) q with y | y
        · have e := rg_m1 (gi_m1 ho.1) y ((g 0 1).toNat - q)
          have e2 : q + ((g 0 1).toNat - q) = (g 0 1).toNat := by omega
          rw [e2, hm] at e
          omega
        · exact y
      have v := vv j (by omega)
      have v2 := vv (j + 1) (by omega)
      have v2 : 0 ≤ gA f a (3 + k) (rg (gA f a (3 + k)) 0 (fun j => co (b 0 2 j)) j) (co (b 0 2 j)) ∧ gA f a (3 + k) (rg (gA f a (3 + k)) 0 (fun j => co (b 0 2 j)) j) (co (b 0 2 j)) < f (3 + k) 0 := v2
      have e3 : (j : Int) + 1 = ((j + 1 : Nat) : Int) := by omega
      rw [Int.toNat_natCast]
      have hp : post (if itm (gA f a (3 + k)) (a (3 + k) 6) (rg (gA f a (3 + k)) 0 (fun j => co (b 0 2 j)) j) (co (b 0 2 j)) = 0 then wrt (gA f a (3 + k)) (a (3 + k) 6) (b 0 2) i r' (rg (gA f a (3 + k)) 0 (fun j => co (b 0 2 j)) (j + 1)) p (j + 1) else if p = i then itm (gA f a (3 + k)) (a (3 + k) 6) (rg (gA f a (3 + k)) 0 (fun j => co (b 0 2 j)) j) (co (b 0 2 j)) else wrt (gA f a (3 + k)) (a (3 + k) 6) (b 0 2) i r' (rg (gA f a (3 + k)) 0 (fun j => co (b 0 2 j)) (j + 1)) (p + 1) (j + 1)) g b := hp
      have go : ∀ p2 : Int, 0 ≤ p2 → p2 ≤ ((j + 1 : Nat) : Int) → post (wrt (gA f a (3 + k)) (a (3 + k) 6) (b 0 2) i r' (rg (gA f a (3 + k)) 0 (fun j => co (b 0 2 j)) (j + 1)) p2 (j + 1)) g b → wb_M_written_125 post (wb_M_written_25 post n) s i p2 (j : Int) (gA f a (3 + k) (rg (gA f a (3 + k)) 0 (fun j => co (b 0 2 j)) j) (co (b 0 2 j))) g b := by
        intro p2 p0 p1 hp2
        show wb_M_written_25 post n s i _ p2 ((j : Int) + 1) g b
        rw [e3]
        exact ih r' (j + 1) p2 (by omega) (by omega) p0 p1 hp2
      refine s_codeM ⟨by omega, by omega⟩ (s_wayM hs hk ho hr v.1 v.2 c.1 (by omega) ?_)
      refine s_isTree hs hk hN.2 ho hr (by omega) (fun q => n_0 ?_) (fun q => n_1 ?_)
      · have q0 := itm_iff.mpr q
        rw [if_neg q0] at hp
        refine ⟨⟨by omega, by omega⟩, hi, fun q2 => ?_, fun q2 => ⟨⟨by omega, by omega⟩, fun q3 => ?_, fun q3 => ?_⟩⟩
        · rw [if_neg q2] at hp
          exact go (p + 1) (by omega) (by omega) hp
        · rw [if_pos (Classical.byContradiction q2)] at hp
          have ec : co (b 0 2 j) = -2 * b 0 2 j - 1 := if_neg (by omega)
          rw [itm_od q (by omega)] at hp
          refine s_eb hs hk hN hg ho hr v2.1 v2.2 (by omega) (by omega) ?_
          have e4 : (3 * gA f a (3 + k) (rg (gA f a (3 + k)) 0 (fun j => co (b 0 2 j)) j) (co (b 0 2 j)) + co (b 0 2 j) / 2).toNat = 3 * (gA f a (3 + k) (rg (gA f a (3 + k)) 0 (fun j => co (b 0 2 j)) j) (co (b 0 2 j))).toNat + (-b 0 2 j).toNat - 1 := by omega
          rw [e4] at hp
          have e5 : ∀ z : Int, -(z + 1) = -z - 1 := fun z => by omega
          rw [e5] at hp
          exact hp
        · rw [if_pos (Classical.byContradiction q2)] at hp
          have ec : co (b 0 2 j) = 2 * b 0 2 j - 2 := if_pos (by omega)
          rw [itm_ev q (by omega)] at hp
          refine s_eb hs hk hN hg ho hr v.1 v.2 (by omega) (by omega) ?_
          have e4 : (3 * rg (gA f a (3 + k)) 0 (fun j => co (b 0 2 j)) j + co (b 0 2 j) / 2).toNat = 3 * (rg (gA f a (3 + k)) 0 (fun j => co (b 0 2 j)) j).toNat + (b 0 2 j).toNat - 1 := by omega
          rw [e4] at hp
          exact hp
      · rw [if_pos (itm_no q)] at hp
        exact go p h3 (by omega) hp
end
theorem sim_written (f : fS) (a : aS) (g : fS) (b : aS) (x1 x2 : Int) (hI : Inv f a g b) (h1 : ir x1) (h2 : ir x2) : wp_X_written (fun z f1 a1 => wp_M_written (fun z2 g1 b1 => z = z2 ∧ Inv f1 a1 g1 b1) x1 x2 g b) x1 x2 f a := by
  obtain ⟨w1, w2, w3, w4, w5, w6⟩ := hI.1
  refine s_member hI h1 (fun h => n_0 ?_) (fun h => n_1 ⟨h.1, fun o eo => ?_⟩)
  · refine s_grpB h1 (fun _ => ⟨rfl, hI⟩) (fun q => s_walk hI q ⟨trd_ir hI q, fun q2 => absurd ⟨q, q2⟩ h, fun _ => ⟨rfl, hI⟩⟩)
  · subst eo
    obtain ⟨k1, k2⟩ := hI.2 x1.toNat (by omega)
    have hm : rg (gA f a (3 + x1.toNat)) 0 (fun j => co (a 1 0 j)) (f 1 1).toNat = 0 := h.2
    have e : (g 0 1).toNat = (f 1 1).toNat := by omega
    have hb : wok (f 0 0) (b 0 2) (g 0 1).toNat := by
      rw [e]
      exact wok_congr w5 (fun i hi => w6 i (by omega))
    have hm2 : rg (gA f a (3 + x1.toNat)) 0 (fun j => co (b 0 2 j)) (g 0 1).toNat = 0 := by
      rw [e]
      refine Eq.trans (rg_congr _ _ (fun i hi => ?_)) hm
      show co (b 0 2 i) = co (a 1 0 i)
      rw [w6 i (by omega)]
    refine ⟨_, s_wrt_X h2 (by omega) w1.2 k1 w3 w5 hm ((f 1 1).toNat + 1) (f 1 1).toNat 0 0 (by omega) (by omega) (by omega) (by omega) ?_⟩
    refine s_grpB h1 (fun z => absurd h.1 z) (fun q => s_walk hI q ?_)
    have ht := h.2
    rw [ht]
    refine b_0 ⟨_, s_wrt_M (s := x1) h2 (k := x1.toNat) (by omega) (by omega) w1 w2 k1 k2 (by omega) hb hm2 ((g 0 1).toNat + 1) (g 0 1).toNat 0 0 (by omega) (by omega) (by omega) (by omega) ⟨?_, hI⟩⟩
    rw [e]
    exact wrt_congr _ _ _ _ (fun q q1 q2 => (w6 q (by omega)).symm)
