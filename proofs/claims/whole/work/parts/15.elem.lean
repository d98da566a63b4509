/-- letter of a code, code of a letter -/
def lo (c : Int) : Int := if c % 2 = 0 then c / 2 + 1 else -(c / 2) - 1
def co (x : Int) : Int := if 0 < x then 2 * x - 2 else -2 * x - 1
theorem co_lo {c : Int} (h : 0 ≤ c) : co (lo c) = c := by
  unfold co lo
  split <;> split <;> omega
theorem lo_co {x : Int} (h : x ≠ 0) : lo (co x) = x := by
  unfold co lo
  split <;> split <;> omega
theorem lo_cx (c : Int) : lo (cx c) = -lo c := by
  unfold lo cx
  split <;> split <;> omega
theorem co_neg {x : Int} (h : x ≠ 0) : co (-x) = cx (co x) := by
  unfold co cx
  split <;> split <;> omega
theorem co_in {N x : Int} (h : x ≠ 0) (h1 : -N ≤ x) (h2 : x ≤ N) : 0 ≤ co x ∧ co x < 2 * N := by
  unfold co
  split <;> omega
theorem lo_in {N c : Int} (h0 : 0 ≤ c) (h1 : c < 2 * N) : lo c ≠ 0 ∧ -N ≤ lo c ∧ lo c ≤ N := by
  unfold lo
  split <;> omega
theorem lo_inj {c d : Int} (hc : 0 ≤ c) (hd : 0 ≤ d) (h : lo c = lo d) : c = d := by
  rw [← co_lo hc, ← co_lo hd, h]
/-- up the tree -/
def clb (pa : Nat → Int) (v : Int) : Nat → Int
  | 0 => v
  | j + 1 => pa (clb pa v j).toNat
theorem clb_s (pa : Nat → Int) (v : Int) (j : Nat) : clb pa v (j + 1) = clb pa (pa v.toNat) j := by
  induction j with
  | zero => rfl
  | succ j ih =>
    show pa (clb pa v (j + 1)).toNat = pa (clb pa (pa v.toNat) j).toNat
    rw [ih]
/-- the codes of the tree's way to v, of an element -/
def tw (pa ar de : Nat → Int) (v : Int) (j : Nat) : Int := ar (clb pa v (de v.toNat - 1 - (j : Int)).toNat).toNat
def ew (pa ar de : Nat → Int) (v c t : Int) (j : Nat) : Int :=
  if (j : Int) < de v.toNat then tw pa ar de v j
  else if (j : Int) = de v.toNat then c
  else cx (ar (clb pa t ((j : Int) - de v.toNat - 1).toNat).toNat)
/-- a way outside the tree -/
def nt (A : Int → Int → Int) (ar : Nat → Int) (v c : Int) : Prop := A v c ≠ -1 ∧ ar (A v c).toNat ≠ c ∧ ar v.toNat ≠ cx c
/-- reading -/
def rg {σ : Type} (st : σ → Int → σ) (z : σ) (w : Nat → Int) : Nat → σ
  | 0 => z
  | j + 1 => st (rg st z w j) (w j)
theorem rg_congr {σ : Type} (st : σ → Int → σ) (z : σ) {w w' : Nat → Int} {j : Nat} (h : ∀ i, i < j → w i = w' i) : rg st z w j = rg st z w' j := by
  induction j with
  | zero => rfl
  | succ j ih =>
    show st (rg st z w j) (w j) = st (rg st z w' j) (w' j)
    rw [ih (fun i hi => h i (by omega)), h j (by omega)]
/-- where the tree's way to v leads from z -/
def ph {σ : Type} (st : σ → Int → σ) (z : σ) (pa ar de : Nat → Int) (v : Int) : σ := rg st z (tw pa ar de v) (de v.toNat).toNat
section
variable {N n : Int} {A : Int → Int → Int} {pa ar de : Nat → Int}
theorem gi_de (h : gi N n A pa ar de) : ∀ k : Nat, (k : Int) < n → 0 ≤ de k ∧ de k ≤ k ∧ (1 ≤ k → 1 ≤ de k) := by
  intro k
  induction k using Nat.strongRecOn with
  | ind k ih =>
    intro hk
    rcases Nat.eq_zero_or_pos k with z | z
    · subst z
      have := h.2.2.2.1
      exact ⟨by omega, by omega, by omega⟩
    · obtain ⟨g1, g2, g3⟩ := h.2.2.1 k z hk
      have q := ih (pa k).toNat (by omega) (by omega)
      have e : (((pa k).toNat : Nat) : Int) = pa k := by omega
      exact ⟨by omega, by omega, by omega⟩
theorem gi_deI (h : gi N n A pa ar de) {v : Int} (h0 : 0 ≤ v) (h1 : v < n) : 0 ≤ de v.toNat ∧ de v.toNat ≤ v ∧ de v.toNat ≤ 63 ∧ (1 ≤ v → 1 ≤ de v.toNat) := by
  have g := gi_de h v.toNat (by omega)
  have q := h.1
  exact ⟨g.1, by omega, by omega, fun z => g.2.2 (by omega)⟩
theorem gi_tree (h : gi N n A pa ar de) {v : Int} (h0 : 1 ≤ v) (h1 : v < n) : (0 ≤ pa v.toNat ∧ pa v.toNat < v) ∧ A (pa v.toNat) (ar v.toNat) = v ∧ A v (cx (ar v.toNat)) = pa v.toNat ∧ (0 ≤ ar v.toNat ∧ ar v.toNat < 2 * N) ∧ de v.toNat = de (pa v.toNat).toNat + 1 := by
  obtain ⟨g1, g2, g3⟩ := h.2.2.1 v.toNat (by omega) (by omega)
  have e : ((v.toNat : Nat) : Int) = v := by omega
  rw [e] at g1 g2
  obtain ⟨q1, q2, q3, q4⟩ := h.2.1 (pa v.toNat) (ar v.toNat) (by rw [g2]; omega)
  rw [g2] at q4
  exact ⟨g1, g2, q4, q2, g3⟩
theorem gi_clb (h : gi N n A pa ar de) : ∀ (j : Nat) (v : Int), 0 ≤ v → v < n → (j : Int) ≤ de v.toNat → (0 ≤ clb pa v j ∧ clb pa v j < n ∧ clb pa v j ≤ v) ∧ de (clb pa v j).toNat = de v.toNat - j := by
  intro j
  induction j with
  | zero =>
    intro v h0 h1 _
    show (0 ≤ v ∧ v < n ∧ v ≤ v) ∧ de v.toNat = de v.toNat - ((0 : Nat) : Int)
    exact ⟨⟨h0, h1, Int.le_refl v⟩, by omega⟩
  | succ j ih =>
    intro v h0 h1 hj
    obtain ⟨⟨a1, a2, a3⟩, a4⟩ := ih v h0 h1 (by omega)
    show (0 ≤ pa (clb pa v j).toNat ∧ pa (clb pa v j).toNat < n ∧ pa (clb pa v j).toNat ≤ v) ∧ de (pa (clb pa v j).toNat).toNat = de v.toNat - ((j + 1 : Nat) : Int)
    have hu : 1 ≤ clb pa v j := by
      rcases Int.lt_or_le 0 (clb pa v j) with z | z
      · omega
      · have e : clb pa v j = 0 := by omega
        rw [e] at a4
        have e0 : de (0 : Int).toNat = 0 := h.2.2.2.1
        omega
    obtain ⟨g1, g2, g3, g4, g5⟩ := gi_tree h hu a2
    exact ⟨⟨by omega, by omega, by omega⟩, by omega⟩
theorem clb_end (h : gi N n A pa ar de) {v : Int} (h0 : 0 ≤ v) (h1 : v < n) : clb pa v (de v.toNat).toNat = 0 := by
  have d := gi_deI h h0 h1
  obtain ⟨⟨a1, a2, a3⟩, a4⟩ := gi_clb h (de v.toNat).toNat v h0 h1 (by omega)
  have q := (gi_deI h a1 a2).2.2.2
  omega
theorem clb_pos (h : gi N n A pa ar de) {v : Int} {j : Nat} (h0 : 0 ≤ v) (h1 : v < n) (hj : (j : Int) < de v.toNat) : 1 ≤ clb pa v j ∧ clb pa v j < n := by
  obtain ⟨⟨a1, a2, a3⟩, a4⟩ := gi_clb h j v h0 h1 (by omega)
  refine ⟨?_, a2⟩
  rcases Int.lt_or_le 0 (clb pa v j) with z | z
  · omega
  · have e : clb pa v j = 0 := by omega
    rw [e] at a4
    have e0 : de (0 : Int).toNat = 0 := h.2.2.2.1
    omega
theorem ph_0 {σ : Type} (st : σ → Int → σ) (z : σ) (h : gi N n A pa ar de) : ph st z pa ar de 0 = z := by
  have e : de (0 : Int).toNat = 0 := h.2.2.2.1
  unfold ph
  rw [e]
  rfl
theorem ph_s {σ : Type} (st : σ → Int → σ) (z : σ) (h : gi N n A pa ar de) {v : Int} (h0 : 1 ≤ v) (h1 : v < n) : ph st z pa ar de v = st (ph st z pa ar de (pa v.toNat)) (ar v.toNat) := by
  obtain ⟨g1, g2, g3, g4, g5⟩ := gi_tree h h0 h1
  have d := gi_deI h g1.1 (by omega)
  have e : (de v.toNat).toNat = (de (pa v.toNat).toNat).toNat + 1 := by omega
  unfold ph
  rw [e]
  show st (rg st z (tw pa ar de v) (de (pa v.toNat).toNat).toNat) (tw pa ar de v (de (pa v.toNat).toNat).toNat) = _
  have e1 : tw pa ar de v (de (pa v.toNat).toNat).toNat = ar v.toNat := by
    unfold tw
    have q : (de v.toNat - 1 - ((de (pa v.toNat).toNat).toNat : Int)).toNat = 0 := by omega
    rw [q]
    rfl
  rw [e1]
  congr 1
  refine rg_congr st z (fun i hi => ?_)
  unfold tw
  have q : (de v.toNat - 1 - (i : Int)).toNat = (de (pa v.toNat).toNat - 1 - (i : Int)).toNat + 1 := by omega
  rw [q, clb_s]
theorem gi_below (h : gi N n A pa ar de) : ∀ (k : Nat) (v : Int), 1 ≤ v → v < n → n - v ≤ k → ∃ (u c : Int) (j : Nat), (0 ≤ u ∧ u < n) ∧ ((j : Int) ≤ de u.toNat ∧ clb pa u j = v) ∧ nt A ar u c := by
  intro k
  induction k with
  | zero => intro v h0 h1 h2; omega
  | succ k ih =>
    intro v h0 h1 h2
    obtain ⟨g1, g2, g3, g4, g5⟩ := gi_tree h h0 h1
    obtain ⟨c, c1, c2⟩ := h.2.2.2.2.2 v (cx (ar v.toNat)) (by rw [g3]; omega) (by omega)
    have d := gi_deI h (v := v) (by omega) h1
    by_cases q : ar (A v c).toNat = c
    · obtain ⟨b1, b2, b3, b4⟩ := h.2.1 v c c2
      have ht : 1 ≤ A v c := by
        rcases Int.lt_or_le 0 (A v c) with z | z
        · omega
        · have e : A v c = 0 := by omega
          rw [e] at q
          have e0 : ar (0 : Int).toNat = -1 := h.2.2.2.2.1
          omega
      obtain ⟨t1, t2, t3, t4, t5⟩ := gi_tree h ht b3.2
      rw [q, b4] at t3
      obtain ⟨u, e, j, u1, ⟨u2, u3⟩, u4⟩ := ih (A v c) ht b3.2 (by omega)
      have w := (gi_clb h j u u1.1 u1.2 u2).2
      rw [u3] at w
      have dd := (gi_deI h b3.1 b3.2).2.2.2 ht
      refine ⟨u, e, j + 1, u1, ⟨by omega, ?_⟩, u4⟩
      show pa (clb pa u j).toNat = v
      rw [u3]
      exact t3.symm
    · refine ⟨v, c, 0, ⟨by omega, h1⟩, ⟨by omega, rfl⟩, c2, q, fun z => c1 ?_⟩
      rw [z, cx_cx]
end
section
variable {N n : Int} {A : Int → Int → Int} {pa ar de : Nat → Int} {σ : Type} {st : σ → Int → σ} {ok : σ → Prop} {z : σ}
/-- a way of going that can be gone back -/
def back (N : Int) (st : σ → Int → σ) (ok : σ → Prop) : Prop := (∀ z c, 0 ≤ c → c < 2 * N → ok z → ok (st z c) → st (st z c) (cx c) = z) ∧ ∀ z c, ¬ ok z → ¬ ok (st z c)
theorem rg_ok (hb : back N st ok) {w : Nat → Int} {i : Nat} : ∀ j, ok (rg st z w (i + j)) → ok (rg st z w i) := by
  intro j
  induction j with
  | zero => exact fun h => h
  | succ j ih =>
    intro h
    refine ih (Classical.byContradiction fun q => hb.2 _ (w (i + j)) q h)
theorem ph_up (h : gi N n A pa ar de) (hb : back N st ok) {u : Int} (h0 : 0 ≤ u) (h1 : u < n) (hu : ok (ph st z pa ar de u)) : ∀ j : Nat, (j : Int) ≤ de u.toNat → ok (ph st z pa ar de (clb pa u j)) := by
  intro j
  induction j with
  | zero => intro _; exact hu
  | succ j ih =>
    intro hj
    have q := ih (by omega)
    obtain ⟨a1, a2⟩ := clb_pos h (j := j) h0 h1 (by omega)
    rw [ph_s st z h a1 a2] at q
    exact Classical.byContradiction fun r => hb.2 _ _ r q
theorem ew_1 {v c t : Int} {j : Nat} (hj : (j : Int) ≤ de v.toNat) : rg st z (ew pa ar de v c t) j = rg st z (tw pa ar de v) j := by
  refine rg_congr st z (fun i hi => ?_)
  unfold ew
  rw [if_pos (by omega)]
theorem ew_2 {v c t : Int} (h0 : 0 ≤ de v.toNat) : rg st z (ew pa ar de v c t) ((de v.toNat).toNat + 1) = st (ph st z pa ar de v) c := by
  show st (rg st z (ew pa ar de v c t) (de v.toNat).toNat) (ew pa ar de v c t (de v.toNat).toNat) = _
  rw [ew_1 (by omega)]
  have e : ew pa ar de v c t (de v.toNat).toNat = c := by
    unfold ew
    rw [if_neg (by omega), if_pos (by omega)]
  rw [e]
  rfl
theorem ew_3 {v c t : Int} (h0 : 0 ≤ de v.toNat) (q : Nat) : rg st z (ew pa ar de v c t) ((de v.toNat).toNat + 1 + q + 1) = st (rg st z (ew pa ar de v c t) ((de v.toNat).toNat + 1 + q)) (cx (ar (clb pa t q).toNat)) := by
  show st _ (ew pa ar de v c t ((de v.toNat).toNat + 1 + q)) = _
  congr 1
  unfold ew
  rw [if_neg (by omega), if_neg (by omega)]
  have e : (((((de v.toNat).toNat + 1 + q : Nat)) : Int) - de v.toNat - 1).toNat = q := by omega
  rw [e]
/-- all elements loop at z -/
def lps (n : Int) (A : Int → Int → Int) (pa ar de : Nat → Int) (st : σ → Int → σ) (z : σ) : Prop := ∀ v c, c % 2 = 0 → nt A ar v c → rg st z (ew pa ar de v c (A v c)) ((de v.toNat).toNat + 1 + (de (A v c).toNat).toNat) = z
/-- the graph goes onto what comes from z -/
def mor (n : Int) (A : Int → Int → Int) (pa ar de : Nat → Int) (st : σ → Int → σ) (ok : σ → Prop) (z : σ) : Prop := (∀ v, 0 ≤ v → v < n → ok (ph st z pa ar de v)) ∧ ∀ v c, A v c ≠ -1 → st (ph st z pa ar de v) c = ph st z pa ar de (A v c)
theorem lps_of (h : gi N n A pa ar de) (hb : back N st ok) (hm : mor n A pa ar de st ok z) : lps n A pa ar de st z := by
  intro v c _ hn
  obtain ⟨b1, b2, b3, b4⟩ := h.2.1 v c hn.1
  have dv := gi_deI h b1.1 b1.2
  have dt := gi_deI h b3.1 b3.2
  have key : ∀ q : Nat, (q : Int) ≤ de (A v c).toNat → rg st z (ew pa ar de v c (A v c)) ((de v.toNat).toNat + 1 + q) = ph st z pa ar de (clb pa (A v c) q) := by
    intro q
    induction q with
    | zero =>
      intro _
      show rg st z (ew pa ar de v c (A v c)) ((de v.toNat).toNat + 1) = _
      rw [ew_2 dv.1]
      exact hm.2 v c hn.1
    | succ q ih =>
      intro hq
      obtain ⟨a1, a2⟩ := clb_pos h (j := q) b3.1 b3.2 (by omega)
      show rg st z (ew pa ar de v c (A v c)) ((de v.toNat).toNat + 1 + q + 1) = ph st z pa ar de (pa (clb pa (A v c) q).toNat)
      rw [ew_3 dv.1, ih (by omega)]
      obtain ⟨t1, t2, t3, t4, t5⟩ := gi_tree h a1 a2
      rw [hm.2 _ (cx (ar (clb pa (A v c) q).toNat)) (by rw [t3]; omega), t3]
  rw [key _ (by omega), clb_end h b3.1 b3.2, ph_0 st z h]
theorem mor_of (h : gi N n A pa ar de) (hb : back N st ok) (hz : ok z) (hl : lps n A pa ar de st z) : mor n A pa ar de st ok z := by
  have key : ∀ v c, c % 2 = 0 → nt A ar v c → (ok (ph st z pa ar de v) ∧ ok (ph st z pa ar de (A v c))) ∧ st (ph st z pa ar de v) c = ph st z pa ar de (A v c) := by
    intro v c hc hn
    obtain ⟨b1, b2, b3, b4⟩ := h.2.1 v c hn.1
    have dv := gi_deI h b1.1 b1.2
    have dt := gi_deI h b3.1 b3.2
    have hL := hl v c hc hn
    have hok : ∀ i, i ≤ (de v.toNat).toNat + 1 + (de (A v c).toNat).toNat → ok (rg st z (ew pa ar de v c (A v c)) i) := by
      intro i hi
      refine rg_ok hb ((de v.toNat).toNat + 1 + (de (A v c).toNat).toNat - i) ?_
      have e : i + ((de v.toNat).toNat + 1 + (de (A v c).toNat).toNat - i) = (de v.toNat).toNat + 1 + (de (A v c).toNat).toNat := by omega
      rw [e, hL]
      exact hz
    have down : ∀ i q : Nat, q + i = (de (A v c).toNat).toNat → rg st z (ew pa ar de v c (A v c)) ((de v.toNat).toNat + 1 + q) = ph st z pa ar de (clb pa (A v c) q) := by
      intro i
      induction i with
      | zero =>
        intro q hq
        have e : q = (de (A v c).toNat).toNat := by omega
        rw [e, hL, clb_end h b3.1 b3.2, ph_0 st z h]
      | succ i ih =>
        intro q hq
        have r := ih (q + 1) (by omega)
        obtain ⟨a1, a2⟩ := clb_pos h (j := q) b3.1 b3.2 (by omega)
        obtain ⟨t1, t2, t3, t4, t5⟩ := gi_tree h a1 a2
        have o1 := hok ((de v.toNat).toNat + 1 + q) (by omega)
        have o2 := hok ((de v.toNat).toNat + 1 + q + 1) (by omega)
        have x := cx_in (M := 2 * N) t4.1 t4.2 (by omega)
        have e3 := ew_3 (st := st) (z := z) (pa := pa) (ar := ar) (c := c) (t := A v c) dv.1 q
        have s := hb.1 (rg st z (ew pa ar de v c (A v c)) ((de v.toNat).toNat + 1 + q)) (cx (ar (clb pa (A v c) q).toNat)) x.1 x.2 o1 (by rw [← e3]; exact o2)
        rw [← e3, cx_cx] at s
        have r : rg st z (ew pa ar de v c (A v c)) ((de v.toNat).toNat + 1 + q + 1) = ph st z pa ar de (pa (clb pa (A v c) q).toNat) := r
        rw [r, ← ph_s st z h a1 a2] at s
        exact s.symm
    have r := down (de (A v c).toNat).toNat 0 (by omega)
    have r : rg st z (ew pa ar de v c (A v c)) ((de v.toNat).toNat + 1) = ph st z pa ar de (A v c) := r
    have o1 := hok (de v.toNat).toNat (by omega)
    have o2 := hok ((de v.toNat).toNat + 1) (by omega)
    rw [ew_1 (by omega)] at o1
    rw [r] at o2
    rw [ew_2 dv.1] at r
    exact ⟨⟨o1, o2⟩, r⟩
  have key2 : ∀ v c, nt A ar v c → (ok (ph st z pa ar de v) ∧ ok (ph st z pa ar de (A v c))) ∧ st (ph st z pa ar de v) c = ph st z pa ar de (A v c) := by
    intro v c hn
    by_cases q : c % 2 = 0
    · exact key v c q hn
    · obtain ⟨b1, b2, b3, b4⟩ := h.2.1 v c hn.1
      have r := key (A v c) (cx c) (by unfold cx; omega) ⟨by rw [b4]; omega, by rw [b4]; exact hn.2.2, by rw [cx_cx]; exact hn.2.1⟩
      rw [b4] at r
      obtain ⟨⟨r1, r2⟩, r3⟩ := r
      have x := cx_in (M := 2 * N) b2.1 b2.2 (by omega)
      have s := hb.1 (ph st z pa ar de (A v c)) (cx c) x.1 x.2 r1 (by rw [r3]; exact r2)
      rw [r3, cx_cx] at s
      exact ⟨⟨r2, r1⟩, s⟩
  have all : ∀ v, 0 ≤ v → v < n → ok (ph st z pa ar de v) := by
    intro v h0 h1
    rcases Int.lt_or_le 0 v with q | q
    · obtain ⟨u, c, j, u1, ⟨u2, u3⟩, u4⟩ := gi_below h (n - v).toNat v (by omega) h1 (by omega)
      have r := ph_up (z := z) h hb u1.1 u1.2 (key2 u c u4).1.1 j u2
      rw [u3] at r
      exact r
    · have e : v = 0 := by omega
      rw [e, ph_0 st z h]
      exact hz
  refine ⟨all, fun v c hv => ?_⟩
  obtain ⟨b1, b2, b3, b4⟩ := h.2.1 v c hv
  by_cases q1 : ar (A v c).toNat = c
  · have ht : 1 ≤ A v c := by
      rcases Int.lt_or_le 0 (A v c) with y | y
      · omega
      · have e : A v c = 0 := by omega
        rw [e] at q1
        have e0 : ar (0 : Int).toNat = -1 := h.2.2.2.2.1
        omega
    obtain ⟨t1, t2, t3, t4, t5⟩ := gi_tree h ht b3.2
    rw [q1, b4] at t3
    rw [ph_s st z h ht b3.2, q1, ← t3]
  · by_cases q2 : ar v.toNat = cx c
    · have hv1 : 1 ≤ v := by
        rcases Int.lt_or_le 0 v with y | y
        · omega
        · have e : v = 0 := by omega
          rw [e] at q2
          have e0 : ar (0 : Int).toNat = -1 := h.2.2.2.2.1
          have x := cx_in (M := 2 * N) b2.1 b2.2 (by omega)
          omega
      obtain ⟨t1, t2, t3, t4, t5⟩ := gi_tree h hv1 b1.2
      rw [q2, cx_cx] at t3
      have o1 := all (pa v.toNat) t1.1 (by omega)
      have o2 := all v b1.1 b1.2
      rw [ph_s st z h hv1 b1.2] at o2
      have s := hb.1 (ph st z pa ar de (pa v.toNat)) (ar v.toNat) t4.1 t4.2 o1 o2
      rw [q2, cx_cx] at s
      rw [ph_s st z h hv1 b1.2, q2, t3]
      exact s
    · exact (key2 v c ⟨hv, q1, q2⟩).2
end
