section
variable {N n : Int} {A : Int → Int → Int} {pa ar de : Nat → Int}
theorem gi_m1 (h : gi N n A pa ar de) (c : Int) : A (-1) c = -1 := by
  apply Classical.byContradiction
  intro q
  have := (h.2.1 (-1) c q).1
  omega
theorem int_back (h : gi N n A pa ar de) : back N A (fun x => x ≠ -1) := by
  refine ⟨fun z c _ _ _ q => (h.2.1 z c q).2.2.2, fun z c q => ?_⟩
  have e : z = -1 := Classical.byContradiction q
  rw [e]
  exact fun r => r (gi_m1 h c)
/-- every vertex has every way -/
def cpl (N n : Int) (A : Int → Int → Int) : Prop := ∀ v c, 0 ≤ v → v < n → 0 ≤ c → c < 2 * N → A v c ≠ -1
theorem cpl_rg (h : gi N n A pa ar de) (hc : cpl N n A) {x : Int} (x0 : 0 ≤ x) (x1 : x < n) {w : Nat → Int} {j : Nat} (hw : ∀ i, i < j → 0 ≤ w i ∧ w i < 2 * N) : rg (rd A) (x, []) w j = (rg A x w j, []) ∧ 0 ≤ rg A x w j ∧ rg A x w j < n := by
  induction j with
  | zero => exact ⟨rfl, x0, x1⟩
  | succ j ih =>
    obtain ⟨i1, i2, i3⟩ := ih (fun i hi => hw i (by omega))
    have g := hw j (by omega)
    have q := hc _ _ i2 i3 g.1 g.2
    obtain ⟨b1, b2, b3, b4⟩ := h.2.1 _ _ q
    refine ⟨?_, b3⟩
    show rd A (rg (rd A) (x, []) w j) (w j) = (A (rg A x w j) (w j), [])
    rw [i1]
    simp only [rd]
    rw [if_neg q]
theorem cpl_ph (h : gi N n A pa ar de) (hc : cpl N n A) {s : Int} (s0 : 0 ≤ s) (s1 : s < n) : ∀ k : Nat, (k : Int) < n → 0 ≤ ph A s pa ar de k ∧ ph A s pa ar de k < n := by
  intro k
  induction k using Nat.strongRecOn with
  | ind k ih =>
    intro hk
    rcases Nat.eq_zero_or_pos k with z | z
    · subst z
      have e : ph A s pa ar de ((0 : Nat) : Int) = s := ph_0 A s h
      rw [e]
      exact ⟨s0, s1⟩
    · obtain ⟨t1, t2, t3, t4, t5⟩ := gi_tree h (v := (k : Int)) (by omega) hk
      rw [Int.toNat_natCast] at t1 t4
      rw [ph_s A s h (v := (k : Int)) (by omega) hk, Int.toNat_natCast]
      have g := ih (pa k).toNat (by omega) (by omega)
      have e : (((pa k).toNat : Nat) : Int) = pa k := by omega
      rw [e] at g
      exact (h.2.1 _ _ (hc _ _ g.1 g.2 t4.1 t4.2)).2.2.1
theorem cpl_phI (h : gi N n A pa ar de) (hc : cpl N n A) {s v : Int} (s0 : 0 ≤ s) (s1 : s < n) (v0 : 0 ≤ v) (v1 : v < n) : 0 ≤ ph A s pa ar de v ∧ ph A s pa ar de v < n := by
  have g := cpl_ph h hc s0 s1 v.toNat (by omega)
  have e : ((v.toNat : Nat) : Int) = v := by omega
  rw [e] at g
  exact g
theorem mor_inv (h : gi N n A pa ar de) (hc : cpl N n A) {c : Int} (c0 : 0 ≤ c) (c1 : c < 2 * N) (hm : mor n A pa ar de A (fun x => x ≠ -1) (A 0 c)) : mor n A pa ar de A (fun x => x ≠ -1) (A 0 (cx c)) := by
  have x := cx_in (M := 2 * N) c0 c1 (by omega)
  have n1 := h.1
  obtain ⟨p1, p2, p3, p4⟩ := h.2.1 0 c (hc 0 c (by omega) (by omega) c0 c1)
  obtain ⟨q1, q2, q3, q4⟩ := h.2.1 0 (cx c) (hc 0 (cx c) (by omega) (by omega) x.1 x.2)
  rw [cx_cx] at q4
  have hq : ph A (A 0 c) pa ar de (A 0 (cx c)) = 0 := by
    have e1 := hm.2 (A 0 (cx c)) c (by rw [q4]; omega)
    rw [q4, ph_0 A _ h] at e1
    have r := cpl_phI h hc p3.1 p3.2 q3.1 q3.2
    have e2 := (h.2.1 (ph A (A 0 c) pa ar de (A 0 (cx c))) c (hc _ _ r.1 r.2 c0 c1)).2.2.2
    rw [e1, p4] at e2
    exact e2.symm
  have onto : ∀ k : Nat, (k : Int) < n → ∃ u : Nat, (u : Int) < n ∧ ph A (A 0 c) pa ar de u = k := by
    intro k
    induction k using Nat.strongRecOn with
    | ind k ih =>
      intro hk
      rcases Nat.eq_zero_or_pos k with z | z
      · subst z
        refine ⟨(A 0 (cx c)).toNat, by omega, ?_⟩
        have e : (((A 0 (cx c)).toNat : Nat) : Int) = A 0 (cx c) := by omega
        rw [e]
        exact hq
      · obtain ⟨t1, t2, t3, t4, t5⟩ := gi_tree h (v := (k : Int)) (by omega) hk
        rw [Int.toNat_natCast] at t1 t2 t4
        obtain ⟨u, u1, u2⟩ := ih (pa k).toNat (by omega) (by omega)
        have e : (((pa k).toNat : Nat) : Int) = pa k := by omega
        rw [e] at u2
        have r := hc (u : Int) (ar k) (by omega) u1 t4.1 t4.2
        have s := hm.2 (u : Int) (ar k) r
        rw [u2, t2] at s
        have b := (h.2.1 _ _ r).2.2.1
        refine ⟨(A u (ar k)).toNat, by omega, ?_⟩
        have e2 : (((A u (ar k)).toNat : Nat) : Int) = A u (ar k) := by omega
        rw [e2]
        exact s.symm
  have inj : ∀ a b : Int, 0 ≤ a → a < n → 0 ≤ b → b < n → ph A (A 0 c) pa ar de a = ph A (A 0 c) pa ar de b → a = b := by
    intro a b a0 a1 b0 b1 e
    have g := pg_onto (n := n.toNat) (fun k => (ph A (A 0 c) pa ar de (k : Int)).toNat) (fun i hi => by
      have r := cpl_ph h hc p3.1 p3.2 i (by omega)
      show (ph A (A 0 c) pa ar de (i : Int)).toNat < n.toNat
      omega) (fun j hj => by
      obtain ⟨u, u1, u2⟩ := onto j (by omega)
      refine ⟨u, by omega, ?_⟩
      show (ph A (A 0 c) pa ar de (u : Int)).toNat = j
      omega) a.toNat b.toNat (by omega) (by omega) (by
      have ea : ((a.toNat : Nat) : Int) = a := by omega
      have eb : ((b.toNat : Nat) : Int) = b := by omega
      show (ph A (A 0 c) pa ar de ((a.toNat : Nat) : Int)).toNat = (ph A (A 0 c) pa ar de ((b.toNat : Nat) : Int)).toNat
      rw [ea, eb, e])
    omega
  have inv : ∀ k : Nat, (k : Int) < n → ph A (A 0 c) pa ar de (ph A (A 0 (cx c)) pa ar de k) = k := by
    intro k
    induction k using Nat.strongRecOn with
    | ind k ih =>
      intro hk
      rcases Nat.eq_zero_or_pos k with z | z
      · subst z
        have e : ph A (A 0 (cx c)) pa ar de ((0 : Nat) : Int) = A 0 (cx c) := ph_0 A _ h
        rw [e]
        exact hq
      · obtain ⟨t1, t2, t3, t4, t5⟩ := gi_tree h (v := (k : Int)) (by omega) hk
        rw [Int.toNat_natCast] at t1 t2 t4
        rw [ph_s A _ h (v := (k : Int)) (by omega) hk, Int.toNat_natCast]
        have g := ih (pa k).toNat (by omega) (by omega)
        have e : (((pa k).toNat : Nat) : Int) = pa k := by omega
        rw [e] at g
        have r := cpl_phI h hc q3.1 q3.2 t1.1 (v := pa k) (by omega)
        rw [← hm.2 _ _ (hc _ _ r.1 r.2 t4.1 t4.2), g, t2]
  have invI : ∀ v, 0 ≤ v → v < n → ph A (A 0 c) pa ar de (ph A (A 0 (cx c)) pa ar de v) = v := by
    intro v v0 v1
    have g := inv v.toNat (by omega)
    have e : ((v.toNat : Nat) : Int) = v := by omega
    rw [e] at g
    exact g
  refine ⟨fun v v0 v1 => ?_, fun v d hd => ?_⟩
  · have r := cpl_phI h hc q3.1 q3.2 v0 v1
    show ph A (A 0 (cx c)) pa ar de v ≠ -1
    omega
  · obtain ⟨b1, b2, b3, b4⟩ := h.2.1 v d hd
    have r := cpl_phI h hc q3.1 q3.2 b1.1 b1.2
    have r2 := cpl_phI h hc q3.1 q3.2 b3.1 b3.2
    have q := hc _ _ r.1 r.2 b2.1 b2.2
    have s := (h.2.1 _ _ q).2.2.1
    refine inj _ _ s.1 s.2 r2.1 r2.2 ?_
    rw [← hm.2 _ _ q, invI v b1.1 b1.2, invI _ b3.1 b3.2]
/-- normal: by the elements beside the base, or as the class finds it -/
theorem nrm_iff (h : gi N n A pa ar de) (hN : 1 ≤ N) : (∀ d, 0 ≤ d → d < 2 * N → ∀ v c, c % 2 = 0 → nt A ar v c → rg (rd A) (rd A (0, []) d) (ew pa ar de v c (A v c)) ((de v.toNat).toNat + 1 + (de (A v c).toNat).toNat) = rd A (0, []) d) ↔ ((∀ v c, A v c = -1) ∨ (cpl N n A ∧ ∀ c, 0 ≤ c → c < 2 * N → c % 2 = 0 → mor n A pa ar de A (fun x => x ≠ -1) (A 0 c))) := by
  have n1 := h.1
  constructor
  · intro hall
    by_cases q : ∀ v c, A v c = -1
    · exact Or.inl q
    · have hc : cpl N n A := by
        intro v c v0 v1 c0 c1 hv
        apply q
        intro u e
        apply Classical.byContradiction
        intro he
        exact nrm_inc h he v0 v1 c0 c1 hv hall
      refine Or.inr ⟨hc, fun c c0 c1 _ => ?_⟩
      have z := hc 0 c (by omega) (by omega) c0 c1
      refine mor_of h (int_back h) z (fun v d hd hn => ?_)
      have g := hall c c0 c1 v d hd hn
      have e : rd A (0, []) c = (A 0 c, []) := by
        simp only [rd]
        rw [if_neg z]
      have b := (h.2.1 0 c z).2.2.1
      rw [e, (cpl_rg h hc b.1 b.2 (fun i hi => ew_in h hn hi)).1] at g
      exact congrArg Prod.fst g
  · intro hor d d0 d1 v c hc2 hn
    rcases hor with q | ⟨hc, hm⟩
    · exact absurd (q v c) hn.1
    · have z := hc 0 d (by omega) (by omega) d0 d1
      have e : rd A (0, []) d = (A 0 d, []) := by
        simp only [rd]
        rw [if_neg z]
      have b := (h.2.1 0 d z).2.2.1
      have m : mor n A pa ar de A (fun x => x ≠ -1) (A 0 d) := by
        by_cases q : d % 2 = 0
        · exact hm d d0 d1 q
        · have x := cx_in (M := 2 * N) d0 d1 (by omega)
          have g := mor_inv h hc x.1 x.2 (hm (cx d) x.1 x.2 (by unfold cx; omega))
          rw [cx_cx] at g
          exact g
      rw [e, (cpl_rg h hc b.1 b.2 (fun i hi => ew_in h hn hi)).1, lps_of h (int_back h) m v c hc2 hn]
end
