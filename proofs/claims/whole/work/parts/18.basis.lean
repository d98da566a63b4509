section
variable {N n : Int} {A : Int → Int → Int} {pa ar de : Nat → Int}
theorem mor_even {σ : Type} {st : σ → Int → σ} {ok : σ → Prop} {z : σ} (h : gi N n A pa ar de) (hb : back N st ok) (h1 : ∀ v, 0 ≤ v → v < n → ok (ph st z pa ar de v)) (h2 : ∀ v c, c % 2 = 0 → A v c ≠ -1 → st (ph st z pa ar de v) c = ph st z pa ar de (A v c)) : mor n A pa ar de st ok z := by
  refine ⟨h1, fun v c hv => ?_⟩
  by_cases q : c % 2 = 0
  · exact h2 v c q hv
  · obtain ⟨b1, b2, b3, b4⟩ := h.2.1 v c hv
    have x := cx_in (M := 2 * N) b2.1 b2.2 (by omega)
    have g := h2 (A v c) (cx c) (by unfold cx; omega) (by rw [b4]; omega)
    rw [b4] at g
    have s := hb.1 (ph st z pa ar de (A v c)) (cx c) x.1 x.2 (h1 _ b3.1 b3.2) (by rw [g]; exact h1 _ b1.1 b1.2)
    rw [g, cx_cx] at s
    exact s
end
theorem pg_mono (P : Nat → Bool) {i j : Nat} (h : i ≤ j) : pg_n P i ≤ pg_n P j := by
  induction j with
  | zero =>
    have e : i = 0 := by omega
    rw [e]
    exact Nat.le_refl _
  | succ j ih =>
    by_cases e : i = j + 1
    · rw [e]
      exact Nat.le_refl _
    · have g := ih (by omega)
      simp only [pg_n]
      omega
theorem pg_find (P : Nat → Bool) : ∀ (m k : Nat), k < pg_n P m → ∃ i, i < m ∧ P i = true ∧ pg_n P i = k := by
  intro m
  induction m with
  | zero =>
    intro k h
    simp [pg_n] at h
  | succ m ih =>
    intro k h
    by_cases q : k < pg_n P m
    · obtain ⟨i, i1, i2⟩ := ih k q
      exact ⟨i, by omega, i2⟩
    · simp only [pg_n] at h
      by_cases p : P m = true
      · rw [if_pos p] at h
        exact ⟨m, by omega, p, by omega⟩
      · rw [if_neg p] at h
        omega
theorem pg_lt {P : Nat → Bool} {i m : Nat} (h : i < m) (p : P i = true) : pg_n P i < pg_n P m := by
  have g := pg_mono P (i := i + 1) (j := m) (by omega)
  simp only [pg_n] at g
  rw [if_pos p] at g
  omega
theorem pg_uniq {P : Nat → Bool} {i j : Nat} (pi : P i = true) (pj : P j = true) (e : pg_n P i = pg_n P j) : i = j := by
  rcases Nat.lt_trichotomy i j with z | z | z
  · have := pg_lt z pi
    omega
  · exact z
  · have := pg_lt z pj
    omega
/-- place i is vertex i / 3 and letter i % 3 + 1: its way there is an element's, is there -/
noncomputable def pn (A : Int → Int → Int) (ar : Nat → Int) (i : Nat) : Bool := @decide (nt A ar ((i / 3 : Nat) : Int) (2 * ((i % 3 : Nat) : Int))) (Classical.propDecidable _)
def pe (A : Int → Int → Int) (i : Nat) : Bool := decide (A ((i / 3 : Nat) : Int) (2 * ((i % 3 : Nat) : Int)) ≠ -1)
def po (A : Int → Int → Int) (i : Nat) : Bool := decide (A ((i / 3 : Nat) : Int) (2 * ((i % 3 : Nat) : Int) + 1) ≠ -1)
def p6 (A : Int → Int → Int) (j : Nat) : Bool := decide (A ((j / 6 : Nat) : Int) ((j % 6 : Nat) : Int) ≠ -1)
theorem pn_iff (A : Int → Int → Int) (ar : Nat → Int) (i : Nat) : pn A ar i = true ↔ nt A ar ((i / 3 : Nat) : Int) (2 * ((i % 3 : Nat) : Int)) := by
  unfold pn
  exact @decide_eq_true_iff _ (Classical.propDecidable _)
theorem pn_at {A : Int → Int → Int} {ar : Nat → Int} {v c : Int} (v0 : 0 ≤ v) (c0 : 0 ≤ c) (c6 : c < 6) (ce : c % 2 = 0) : pn A ar (3 * v + c / 2).toNat = true ↔ nt A ar v c := by
  rw [pn_iff]
  have e1 : (((3 * v + c / 2).toNat / 3 : Nat) : Int) = v := by omega
  have e2 : 2 * (((3 * v + c / 2).toNat % 3 : Nat) : Int) = c := by omega
  rw [e1, e2]
/-- the number beside a way: k + 1 at element k's own edge, -(k + 1) against it -/
noncomputable def itm (A : Int → Int → Int) (ar : Nat → Int) (v c : Int) : Int :=
  @ite _ (nt A ar v c) (Classical.propDecidable _) (if c % 2 = 0 then (pg_n (pn A ar) (3 * v + c / 2).toNat : Int) + 1 else -((pg_n (pn A ar) (3 * A v c + c / 2).toNat : Int) + 1)) 0
theorem itm_no {A : Int → Int → Int} {ar : Nat → Int} {v c : Int} (h : ¬ nt A ar v c) : itm A ar v c = 0 := by
  unfold itm
  exact @if_neg _ (Classical.propDecidable _) h _ _ _
theorem itm_ev {A : Int → Int → Int} {ar : Nat → Int} {v c : Int} (h : nt A ar v c) (q : c % 2 = 0) : itm A ar v c = (pg_n (pn A ar) (3 * v + c / 2).toNat : Int) + 1 := by
  unfold itm
  rw [@if_pos _ (Classical.propDecidable _) h, if_pos q]
theorem itm_od {A : Int → Int → Int} {ar : Nat → Int} {v c : Int} (h : nt A ar v c) (q : ¬ c % 2 = 0) : itm A ar v c = -((pg_n (pn A ar) (3 * A v c + c / 2).toNat : Int) + 1) := by
  unfold itm
  rw [@if_pos _ (Classical.propDecidable _) h, if_neg q]
theorem itm_iff {A : Int → Int → Int} {ar : Nat → Int} {v c : Int} : itm A ar v c ≠ 0 ↔ nt A ar v c := by
  constructor
  · intro h
    apply Classical.byContradiction
    intro q
    exact h (itm_no q)
  · intro h
    by_cases q : c % 2 = 0
    · rw [itm_ev h q]
      omega
    · rw [itm_od h q]
      omega
theorem pg_6 (P : Nat → Bool) (m : Nat) : pg_n P (m + 6) = pg_n P m + (if P m = true then 1 else 0) + (if P (m + 1) = true then 1 else 0) + (if P (m + 2) = true then 1 else 0) + (if P (m + 3) = true then 1 else 0) + (if P (m + 4) = true then 1 else 0) + (if P (m + 5) = true then 1 else 0) := rfl
theorem pg_3 (P : Nat → Bool) (m : Nat) : pg_n P (m + 3) = pg_n P m + (if P m = true then 1 else 0) + (if P (m + 1) = true then 1 else 0) + (if P (m + 2) = true then 1 else 0) := rfl
theorem p6_at (A : Int → Int → Int) (k i : Nat) (h : i < 6) : p6 A (6 * k + i) = decide (A (k : Int) (i : Int) ≠ -1) := by
  unfold p6
  have e1 : (6 * k + i) / 6 = k := by omega
  have e2 : (6 * k + i) % 6 = i := by omega
  rw [e1, e2]
theorem pe_at (A : Int → Int → Int) (k i : Nat) (h : i < 3) : pe A (3 * k + i) = decide (A (k : Int) (2 * (i : Int)) ≠ -1) := by
  unfold pe
  have e1 : (3 * k + i) / 3 = k := by omega
  have e2 : (3 * k + i) % 3 = i := by omega
  rw [e1, e2]
theorem po_at (A : Int → Int → Int) (k i : Nat) (h : i < 3) : po A (3 * k + i) = decide (A (k : Int) (2 * (i : Int) + 1) ≠ -1) := by
  unfold po
  have e1 : (3 * k + i) / 3 = k := by omega
  have e2 : (3 * k + i) % 3 = i := by omega
  rw [e1, e2]
theorem p6_split (A : Int → Int → Int) (k : Nat) : pg_n (p6 A) (6 * k) = pg_n (pe A) (3 * k) + pg_n (po A) (3 * k) := by
  induction k with
  | zero => rfl
  | succ k ih =>
    have e1 : 6 * (k + 1) = 6 * k + 6 := by omega
    have e2 : 3 * (k + 1) = 3 * k + 3 := by omega
    rw [e1, e2, pg_6, pg_3, pg_3, ih]
    have a0 := p6_at A k 0 (by omega)
    have a1 := p6_at A k 1 (by omega)
    have a2 := p6_at A k 2 (by omega)
    have a3 := p6_at A k 3 (by omega)
    have a4 := p6_at A k 4 (by omega)
    have a5 := p6_at A k 5 (by omega)
    have b0 := pe_at A k 0 (by omega)
    have b1 := pe_at A k 1 (by omega)
    have b2 := pe_at A k 2 (by omega)
    have c0 := po_at A k 0 (by omega)
    have c1 := po_at A k 1 (by omega)
    have c2 := po_at A k 2 (by omega)
    have a0 : p6 A (6 * k) = pe A (3 * k) := a0.trans b0.symm
    have a1 : p6 A (6 * k + 1) = po A (3 * k) := a1.trans c0.symm
    have a2 : p6 A (6 * k + 2) = pe A (3 * k + 1) := a2.trans b1.symm
    have a3 : p6 A (6 * k + 3) = po A (3 * k + 1) := a3.trans c1.symm
    have a4 : p6 A (6 * k + 4) = pe A (3 * k + 2) := a4.trans b2.symm
    have a5 : p6 A (6 * k + 5) = po A (3 * k + 2) := a5.trans c2.symm
    rw [a0, a1, a2, a3, a4, a5]
    omega
section
variable {N n : Int} {A : Int → Int → Int} {pa ar de : Nat → Int}
theorem pe_po (h : gi N n A pa ar de) (hN : N ≤ 3) {k : Nat} (hk : (k : Int) = n) : pg_n (pe A) (3 * k) = pg_n (po A) (3 * k) := by
  apply Nat.le_antisymm
  · refine pg_inj (3 * k) (pe A) (po A) (3 * k) (fun i => 3 * (A ((i / 3 : Nat) : Int) (2 * ((i % 3 : Nat) : Int))).toNat + i % 3) (fun i hi hp => ?_) (fun i j hi hj hp hq e => ?_)
    · have hp : A ((i / 3 : Nat) : Int) (2 * ((i % 3 : Nat) : Int)) ≠ -1 := of_decide_eq_true hp
      obtain ⟨b1, b2, b3, b4⟩ := h.2.1 _ _ hp
      refine ⟨by show 3 * (A ((i / 3 : Nat) : Int) (2 * ((i % 3 : Nat) : Int))).toNat + i % 3 < 3 * k; omega, ?_⟩
      show po A (3 * (A ((i / 3 : Nat) : Int) (2 * ((i % 3 : Nat) : Int))).toNat + i % 3) = true
      rw [po_at A _ _ (by omega)]
      apply decide_eq_true
      have e1 : (((A ((i / 3 : Nat) : Int) (2 * ((i % 3 : Nat) : Int))).toNat : Nat) : Int) = A ((i / 3 : Nat) : Int) (2 * ((i % 3 : Nat) : Int)) := by omega
      have e2 : cx (2 * ((i % 3 : Nat) : Int)) = 2 * ((i % 3 : Nat) : Int) + 1 := by unfold cx; omega
      rw [e1, ← e2, b4]
      omega
    · have hp : A ((i / 3 : Nat) : Int) (2 * ((i % 3 : Nat) : Int)) ≠ -1 := of_decide_eq_true hp
      have hq : A ((j / 3 : Nat) : Int) (2 * ((j % 3 : Nat) : Int)) ≠ -1 := of_decide_eq_true hq
      obtain ⟨b1, b2, b3, b4⟩ := h.2.1 _ _ hp
      obtain ⟨d1, d2, d3, d4⟩ := h.2.1 _ _ hq
      have e : 3 * (A ((i / 3 : Nat) : Int) (2 * ((i % 3 : Nat) : Int))).toNat + i % 3 = 3 * (A ((j / 3 : Nat) : Int) (2 * ((j % 3 : Nat) : Int))).toNat + j % 3 := e
      have e1 : i % 3 = j % 3 := by omega
      have e2 : A ((i / 3 : Nat) : Int) (2 * ((i % 3 : Nat) : Int)) = A ((j / 3 : Nat) : Int) (2 * ((j % 3 : Nat) : Int)) := by omega
      rw [e2, e1] at b4
      rw [d4] at b4
      omega
  · refine pg_inj (3 * k) (po A) (pe A) (3 * k) (fun i => 3 * (A ((i / 3 : Nat) : Int) (2 * ((i % 3 : Nat) : Int) + 1)).toNat + i % 3) (fun i hi hp => ?_) (fun i j hi hj hp hq e => ?_)
    · have hp : A ((i / 3 : Nat) : Int) (2 * ((i % 3 : Nat) : Int) + 1) ≠ -1 := of_decide_eq_true hp
      obtain ⟨b1, b2, b3, b4⟩ := h.2.1 _ _ hp
      refine ⟨by show 3 * (A ((i / 3 : Nat) : Int) (2 * ((i % 3 : Nat) : Int) + 1)).toNat + i % 3 < 3 * k; omega, ?_⟩
      show pe A (3 * (A ((i / 3 : Nat) : Int) (2 * ((i % 3 : Nat) : Int) + 1)).toNat + i % 3) = true
      rw [pe_at A _ _ (by omega)]
      apply decide_eq_true
      have e1 : (((A ((i / 3 : Nat) : Int) (2 * ((i % 3 : Nat) : Int) + 1)).toNat : Nat) : Int) = A ((i / 3 : Nat) : Int) (2 * ((i % 3 : Nat) : Int) + 1) := by omega
      have e2 : cx (2 * ((i % 3 : Nat) : Int) + 1) = 2 * ((i % 3 : Nat) : Int) := by unfold cx; omega
      rw [e2] at b4
      rw [e1, b4]
      omega
    · have hp : A ((i / 3 : Nat) : Int) (2 * ((i % 3 : Nat) : Int) + 1) ≠ -1 := of_decide_eq_true hp
      have hq : A ((j / 3 : Nat) : Int) (2 * ((j % 3 : Nat) : Int) + 1) ≠ -1 := of_decide_eq_true hq
      obtain ⟨b1, b2, b3, b4⟩ := h.2.1 _ _ hp
      obtain ⟨d1, d2, d3, d4⟩ := h.2.1 _ _ hq
      have e : 3 * (A ((i / 3 : Nat) : Int) (2 * ((i % 3 : Nat) : Int) + 1)).toNat + i % 3 = 3 * (A ((j / 3 : Nat) : Int) (2 * ((j % 3 : Nat) : Int) + 1)).toNat + j % 3 := e
      have e1 : i % 3 = j % 3 := by omega
      have e2 : A ((i / 3 : Nat) : Int) (2 * ((i % 3 : Nat) : Int) + 1) = A ((j / 3 : Nat) : Int) (2 * ((j % 3 : Nat) : Int) + 1) := by omega
      rw [e2, e1] at b4
      rw [d4] at b4
      omega
theorem p6_two (h : gi N n A pa ar de) (hN : N ≤ 3) {k : Nat} (hk : (k : Int) = n) : pg_n (p6 A) (6 * k) = 2 * pg_n (pe A) (3 * k) := by
  rw [p6_split, ← pe_po h hN hk]
  omega
end
theorem row_c (x0 x1 x2 : Bool) : ∀ N : Fin 4, 1 ≤ N.val → (N.val ≤ 1 → x1 = false) → (N.val ≤ 2 → x2 = false) → ((if x0 = true then 1 else 0) + (if x1 = true then 1 else 0) + (if x2 = true then 1 else 0) ≤ N.val ∧ ((if x0 = true then 1 else 0) + (if x1 = true then 1 else 0) + (if x2 = true then 1 else 0) = N.val ↔ (x0 = true ∧ (1 < N.val → x1 = true) ∧ (2 < N.val → x2 = true)))) := by
  revert x0 x1 x2
  decide
section
variable {N n : Int} {A : Int → Int → Int} {pa ar de : Nat → Int}
/-- complete, by counting the edges -/
theorem cpl_iff (h : gi N n A pa ar de) (hN : 1 ≤ N ∧ N ≤ 3) {k : Nat} (hk : (k : Int) = n) : (pg_n (pe A) (3 * k) : Int) = n * N ↔ cpl N n A := by
  obtain ⟨M, hM⟩ : ∃ M : Nat, N = (M : Int) := ⟨N.toNat, by omega⟩
  have out : ∀ i, N ≤ ((i % 3 : Nat) : Int) → pe A i = false := by
    intro i hi
    apply decide_eq_false
    intro q
    have := (h.2.1 _ _ q).2.1
    omega
  have key : ∀ j : Nat, pg_n (pe A) (3 * j) ≤ M * j ∧ (pg_n (pe A) (3 * j) = M * j ↔ ∀ i, i < 3 * j → i % 3 < M → pe A i = true) := by
    intro j
    induction j with
    | zero => exact ⟨Nat.zero_le _, fun _ i hi => absurd hi (by omega), fun _ => by simp [pg_n]⟩
    | succ j ih =>
      obtain ⟨i1, i2⟩ := ih
      have e1 : 3 * (j + 1) = 3 * j + 3 := by omega
      have e2 : M * (j + 1) = M * j + M := Nat.mul_succ M j
      obtain ⟨r1, r2⟩ := row_c (pe A (3 * j)) (pe A (3 * j + 1)) (pe A (3 * j + 2)) ⟨M, by omega⟩ (by show 1 ≤ M; omega) (fun q => out _ (by have q : M ≤ 1 := q; omega)) (fun q => out _ (by have q : M ≤ 2 := q; omega))
      have r1 : (if pe A (3 * j) = true then 1 else 0) + (if pe A (3 * j + 1) = true then 1 else 0) + (if pe A (3 * j + 2) = true then 1 else 0) ≤ M := r1
      have r2 : (if pe A (3 * j) = true then 1 else 0) + (if pe A (3 * j + 1) = true then 1 else 0) + (if pe A (3 * j + 2) = true then 1 else 0) = M ↔ (pe A (3 * j) = true ∧ (1 < M → pe A (3 * j + 1) = true) ∧ (2 < M → pe A (3 * j + 2) = true)) := r2
      have all : (∀ i, i < 3 * j + 3 → i % 3 < M → pe A i = true) ↔ ((∀ i, i < 3 * j → i % 3 < M → pe A i = true) ∧ (pe A (3 * j) = true ∧ (1 < M → pe A (3 * j + 1) = true) ∧ (2 < M → pe A (3 * j + 2) = true))) := by
        constructor
        · intro g
          exact ⟨fun i hi => g i (by omega), g _ (by omega) (by omega), fun q => g _ (by omega) (by omega), fun q => g _ (by omega) (by omega)⟩
        · rintro ⟨g, g0, g1, g2⟩ i hi hm
          by_cases q : i < 3 * j
          · exact g i q hm
          · obtain rfl | rfl | rfl : i = 3 * j ∨ i = 3 * j + 1 ∨ i = 3 * j + 2 := by omega
            · exact g0
            · exact g1 (by omega)
            · exact g2 (by omega)
      rw [e1, e2, pg_3, all, ← i2, ← r2]
      generalize (if pe A (3 * j) = true then 1 else 0) = y0 at *
      generalize (if pe A (3 * j + 1) = true then 1 else 0) = y1 at *
      generalize (if pe A (3 * j + 2) = true then 1 else 0) = y2 at *
      exact ⟨by omega, by omega⟩
  have g := (key k).2
  have c : cpl N n A ↔ ∀ i, i < 3 * k → i % 3 < M → pe A i = true := by
    constructor
    · intro q i hi hm
      exact decide_eq_true (q _ _ (by omega) (by omega) (by omega) (by omega))
    · intro q v c v0 v1 c0 c1
      have half : ∀ v c, 0 ≤ v → v < n → 0 ≤ c → c < 2 * N → c % 2 = 0 → A v c ≠ -1 := by
        intro v c v0 v1 c0 c1 ce
        have g := of_decide_eq_true (q (3 * v + c / 2).toNat (by omega) (by omega))
        have e1 : (((3 * v + c / 2).toNat / 3 : Nat) : Int) = v := by omega
        have e2 : 2 * (((3 * v + c / 2).toNat % 3 : Nat) : Int) = c := by omega
        rw [e1, e2] at g
        exact g
      by_cases ce : c % 2 = 0
      · exact half v c v0 v1 c0 c1 ce
      · have two := pe_po h hN.2 hk
        have ge : pg_n (pe A) (3 * k) = M * k := g.mpr q
        have key2 : ∀ j : Nat, pg_n (po A) (3 * j) ≤ M * j ∧ (pg_n (po A) (3 * j) = M * j → ∀ i, i < 3 * j → i % 3 < M → po A i = true) := by
          intro j
          induction j with
          | zero => exact ⟨Nat.zero_le _, fun _ i hi => absurd hi (by omega)⟩
          | succ j ih =>
            obtain ⟨i1, i2⟩ := ih
            have e1 : 3 * (j + 1) = 3 * j + 3 := by omega
            have e2 : M * (j + 1) = M * j + M := Nat.mul_succ M j
            have out2 : ∀ i, N ≤ ((i % 3 : Nat) : Int) → po A i = false := by
              intro i hi
              apply decide_eq_false
              intro q
              have := (h.2.1 _ _ q).2.1
              omega
            obtain ⟨r1, r2⟩ := row_c (po A (3 * j)) (po A (3 * j + 1)) (po A (3 * j + 2)) ⟨M, by omega⟩ (by show 1 ≤ M; omega) (fun q => out2 _ (by have q : M ≤ 1 := q; omega)) (fun q => out2 _ (by have q : M ≤ 2 := q; omega))
            have r1 : (if po A (3 * j) = true then 1 else 0) + (if po A (3 * j + 1) = true then 1 else 0) + (if po A (3 * j + 2) = true then 1 else 0) ≤ M := r1
            have r2 : (if po A (3 * j) = true then 1 else 0) + (if po A (3 * j + 1) = true then 1 else 0) + (if po A (3 * j + 2) = true then 1 else 0) = M ↔ (po A (3 * j) = true ∧ (1 < M → po A (3 * j + 1) = true) ∧ (2 < M → po A (3 * j + 2) = true)) := r2
            rw [e1, e2, pg_3]
            refine ⟨by omega, fun s i hi hm => ?_⟩
            have s1 : pg_n (po A) (3 * j) = M * j := by omega
            obtain ⟨g0, g1, g2⟩ := r2.mp (by omega)
            by_cases q : i < 3 * j
            · exact i2 s1 i q hm
            · obtain rfl | rfl | rfl : i = 3 * j ∨ i = 3 * j + 1 ∨ i = 3 * j + 2 := by omega
              · exact g0
              · exact g1 (by omega)
              · exact g2 (by omega)
        have go := (key2 k).2 (by omega) (3 * v + c / 2).toNat (by omega) (by omega)
        have go := of_decide_eq_true go
        have e1 : (((3 * v + c / 2).toNat / 3 : Nat) : Int) = v := by omega
        have e2 : 2 * (((3 * v + c / 2).toNat % 3 : Nat) : Int) + 1 = c := by omega
        rw [e1, e2] at go
        exact go
  rw [c, ← g]
  have e : n * N = ((M * k : Nat) : Int) := by
    rw [← hk, hM, Int.mul_comm]
    exact (Int.natCast_mul M k).symm
  rw [e]
  omega
end
