/-- the pairs of a meeting, in the order in which they are come to -/
abbrev prs : Type := List (Int × Int)
def mst (A B : Int → Int → Int) (p c : Nat) (l : prs) : Option prs :=
  match l[p]? with
  | none => some l
  | some q => if A q.1 c = -1 ∨ B q.2 c = -1 then some l else if (A q.1 c, B q.2 c) ∈ l then some l else if l.length = 64 then none else some (l ++ [(A q.1 c, B q.2 c)])
def msl (A B : Int → Int → Int) : Nat → Option prs
  | 0 => some [(0, 0)]
  | j + 1 => (msl A B j).bind (mst A B (j / 6) (j % 6))
/-- all looks are done -/
def mfin (A B : Int → Int → Int) (l : prs) : Prop := msl A B (6 * l.length) = some l ∧ ∀ i, i < 6 * l.length → ∃ l', msl A B i = some l' ∧ i / 6 < l'.length
/-- too many -/
def mfull (A B : Int → Int → Int) : Prop := ∃ j, msl A B j = none ∧ ∀ i, i < j → ∃ l', msl A B i = some l' ∧ i / 6 < l'.length
theorem msl_none {A B : Int → Int → Int} {j : Nat} (h : msl A B j = none) : ∀ i, msl A B (j + i) = none := by
  intro i
  induction i with
  | zero => exact h
  | succ i ih =>
    show (msl A B (j + i)).bind (mst A B ((j + i) / 6) ((j + i) % 6)) = none
    rw [ih]
    rfl
theorem mfin_uniq {A B : Int → Int → Int} {l l' : prs} (h : mfin A B l) (h' : mfin A B l') : l = l' := by
  have key : ∀ l l' : prs, mfin A B l → mfin A B l' → ¬ l.length < l'.length := by
    intro l l' h h' z
    obtain ⟨k, k1, k2⟩ := h'.2 (6 * l.length) (by omega)
    rw [h.1] at k1
    have e : l = k := Option.some.inj k1
    rw [← e] at k2
    omega
  have e : l.length = l'.length := by
    have a := key l l' h h'
    have b := key l' l h' h
    omega
  have g := h.1
  rw [e, h'.1] at g
  exact (Option.some.inj g).symm
theorem mfin_full {A B : Int → Int → Int} {l : prs} (h : mfin A B l) (h' : mfull A B) : False := by
  obtain ⟨j, j1, j2⟩ := h'
  by_cases q : j ≤ 6 * l.length
  · have g := msl_none j1 (6 * l.length - j)
    have e : j + (6 * l.length - j) = 6 * l.length := by omega
    rw [e, h.1] at g
    cases g
  · obtain ⟨k, k1, k2⟩ := j2 (6 * l.length) (by omega)
    rw [h.1] at k1
    have e : l = k := Option.some.inj k1
    rw [← e] at k2
    omega
/-- what holds after j looks -/
def msi (nA nB : Int) (A B : Int → Int → Int) (j : Nat) (l : prs) : Prop :=
  l[0]? = some (0, 0) ∧ l.length ≤ 64 ∧ (∀ (i k : Nat) (q : Int × Int), l[i]? = some q → l[k]? = some q → i = k) ∧
  (∀ q : Int × Int, q ∈ l → (0 ≤ q.1 ∧ q.1 < nA) ∧ 0 ≤ q.2 ∧ q.2 < nB) ∧
  ∀ i, i < j → i / 6 < l.length ∧ ∀ q : Int × Int, l[i / 6]? = some q → A q.1 ((i % 6 : Nat) : Int) ≠ -1 → B q.2 ((i % 6 : Nat) : Int) ≠ -1 → (A q.1 ((i % 6 : Nat) : Int), B q.2 ((i % 6 : Nat) : Int)) ∈ l
theorem msi_0 {nA nB : Int} {A B : Int → Int → Int} (hA : 0 < nA) (hB : 0 < nB) : msi nA nB A B 0 [(0, 0)] := by
  refine ⟨rfl, by decide, ?_, ?_, ?_⟩
  · intro i k q hi hk
    have a := (List.getElem?_eq_some_iff.mp hi).1
    have b := (List.getElem?_eq_some_iff.mp hk).1
    simp only [List.length_cons, List.length_nil] at a b
    omega
  · intro q hq
    have e : q = (0, 0) := List.mem_singleton.mp hq
    rw [e]
    exact ⟨⟨Int.le_refl 0, hA⟩, Int.le_refl 0, hB⟩
  · intro i hi
    omega
theorem msi_step {nA nB : Int} {A B : Int → Int → Int} (hA : ∀ v c, A v c ≠ -1 → 0 ≤ A v c ∧ A v c < nA) (hB : ∀ v c, B v c ≠ -1 → 0 ≤ B v c ∧ B v c < nB) {j : Nat} {l l' : prs} (h : msi nA nB A B j l) (hj : j / 6 < l.length) (hs : mst A B (j / 6) (j % 6) l = some l') : msi nA nB A B (j + 1) l' := by
  obtain ⟨h1, h2, h3, h4, h5⟩ := h
  obtain ⟨q, hq⟩ : ∃ q, l[j / 6]? = some q := ⟨l[j / 6], List.getElem?_eq_getElem hj⟩
  unfold mst at hs
  rw [hq] at hs
  simp only at hs
  have same : (A q.1 ((j % 6 : Nat) : Int) ≠ -1 → B q.2 ((j % 6 : Nat) : Int) ≠ -1 → (A q.1 ((j % 6 : Nat) : Int), B q.2 ((j % 6 : Nat) : Int)) ∈ l) → msi nA nB A B (j + 1) l := by
    intro g
    refine ⟨h1, h2, h3, h4, fun i hi => ?_⟩
    by_cases z : i = j
    · subst z
      refine ⟨hj, fun r hr => ?_⟩
      rw [hq] at hr
      have e : q = r := Option.some.inj hr
      rw [← e]
      exact g
    · exact h5 i (by omega)
  by_cases c1 : A q.1 ((j % 6 : Nat) : Int) = -1 ∨ B q.2 ((j % 6 : Nat) : Int) = -1
  · rw [if_pos c1] at hs
    have e : l = l' := Option.some.inj hs
    rw [← e]
    refine same (fun a b => ?_)
    rcases c1 with z | z
    · exact absurd z a
    · exact absurd z b
  · rw [if_neg c1] at hs
    by_cases c2 : (A q.1 ((j % 6 : Nat) : Int), B q.2 ((j % 6 : Nat) : Int)) ∈ l
    · rw [if_pos c2] at hs
      have e : l = l' := Option.some.inj hs
      rw [← e]
      exact same (fun _ _ => c2)
    · rw [if_neg c2] at hs
      by_cases c3 : l.length = 64
      · rw [if_pos c3] at hs
        cases hs
      · rw [if_neg c3] at hs
        have e : l ++ [(A q.1 ((j % 6 : Nat) : Int), B q.2 ((j % 6 : Nat) : Int))] = l' := Option.some.inj hs
        have a0 : A q.1 ((j % 6 : Nat) : Int) ≠ -1 := fun z => c1 (Or.inl z)
        have b0 : B q.2 ((j % 6 : Nat) : Int) ≠ -1 := fun z => c1 (Or.inr z)
        generalize hp : (A q.1 ((j % 6 : Nat) : Int), B q.2 ((j % 6 : Nat) : Int)) = np at e c2
        have old : ∀ i, i < l.length → l'[i]? = l[i]? := fun i hi => by rw [← e]; exact List.getElem?_append_left hi
        have len : l'.length = l.length + 1 := by rw [← e, List.length_append]; rfl
        have new : l'[l.length]? = some np := by rw [← e]; exact List.getElem?_concat_length
        have sp : ∀ i r, l'[i]? = some r → (i < l.length ∧ l[i]? = some r) ∨ (i = l.length ∧ r = np) := by
          intro i r hr
          have a := (List.getElem?_eq_some_iff.mp hr).1
          by_cases z : i < l.length
          · rw [old i z] at hr
            exact Or.inl ⟨z, hr⟩
          · have y : i = l.length := by omega
            rw [y, new] at hr
            exact Or.inr ⟨y, (Option.some.inj hr).symm⟩
        refine ⟨by rw [old 0 (by omega)]; exact h1, by omega, ?_, ?_, ?_⟩
        · intro i k r hi hk
          rcases sp i r hi with ⟨x1, x2⟩ | ⟨x1, x2⟩ <;> rcases sp k r hk with ⟨y1, y2⟩ | ⟨y1, y2⟩
          · exact h3 i k r x2 y2
          · exact absurd (List.mem_of_getElem? x2) (by rw [y2]; exact c2)
          · exact absurd (List.mem_of_getElem? y2) (by rw [x2]; exact c2)
          · omega
        · intro r hr
          rw [← e] at hr
          rcases List.mem_append.mp hr with z | z
          · exact h4 r z
          · have y : r = np := List.mem_singleton.mp z
            rw [y, ← hp]
            exact ⟨hA _ _ a0, hB _ _ b0⟩
        · intro i hi
          by_cases z : i = j
          · subst z
            refine ⟨by omega, fun r hr _ _ => ?_⟩
            rw [old _ hj, hq] at hr
            have y : q = r := Option.some.inj hr
            rw [← y, hp, ← e]
            exact List.mem_append_right _ (List.mem_singleton.mpr rfl)
          · obtain ⟨g1, g2⟩ := h5 i (by omega)
            refine ⟨by omega, fun r hr a b => ?_⟩
            rw [old _ g1] at hr
            rw [← e]
            exact List.mem_append_left _ (g2 r hr a b)
theorem msi_of {nA nB : Int} {A B : Int → Int → Int} (hA : ∀ v c, A v c ≠ -1 → 0 ≤ A v c ∧ A v c < nA) (hB : ∀ v c, B v c ≠ -1 → 0 ≤ B v c ∧ B v c < nB) (pA : 0 < nA) (pB : 0 < nB) : ∀ (j : Nat) (l : prs), msl A B j = some l → (∀ i, i < j → ∃ l', msl A B i = some l' ∧ i / 6 < l'.length) → msi nA nB A B j l := by
  intro j
  induction j with
  | zero =>
    intro l hl _
    have e : [(0, 0)] = l := Option.some.inj hl
    rw [← e]
    exact msi_0 pA pB
  | succ j ih =>
    intro l hl hi
    obtain ⟨l', a, b⟩ := hi j (by omega)
    have hl : (msl A B j).bind (mst A B (j / 6) (j % 6)) = some l := hl
    rw [a] at hl
    exact msi_step hA hB (ih l' a (fun i hi' => hi i (by omega))) b hl
/-- the table of the pairs -/
def ism (A B : Int → Int → Int) (l : prs) (W : Int → Int → Int) : Prop :=
  (∀ p c, W p c ≠ -1 → ∃ q : Int × Int, 0 ≤ p ∧ 0 ≤ W p c ∧ l[p.toNat]? = some q ∧ A q.1 c ≠ -1 ∧ B q.2 c ≠ -1 ∧ l[(W p c).toNat]? = some (A q.1 c, B q.2 c)) ∧
  ∀ (p c : Int) (q : Int × Int), 0 ≤ p → l[p.toNat]? = some q → A q.1 c ≠ -1 → B q.2 c ≠ -1 → W p c ≠ -1
theorem ism_inv {nA nB N : Int} {A B W : Int → Int → Int} {l : prs} {j : Nat} {pa ar de pa' ar' de' : Nat → Int} (hN : N ≤ 3) (gA : gi N nA A pa ar de) (gB : gi N nB B pa' ar' de') (hl : msi nA nB A B j l) (h : ism A B l W) : ∀ x c, W x c ≠ -1 → (0 ≤ x ∧ x < l.length) ∧ (0 ≤ c ∧ c < 2 * N) ∧ (0 ≤ W x c ∧ W x c < l.length) ∧ W (W x c) (cx c) = x := by
  intro x c hx
  obtain ⟨q, h1, h2, h3, h4, h5, h6⟩ := h.1 x c hx
  obtain ⟨a1, a2, a3, a4⟩ := gA.2.1 _ _ h4
  obtain ⟨b1, b2, b3, b4⟩ := gB.2.1 _ _ h5
  have l1 := (List.getElem?_eq_some_iff.mp h3).1
  have l2 := (List.getElem?_eq_some_iff.mp h6).1
  refine ⟨⟨h1, by omega⟩, a2, ⟨h2, by omega⟩, ?_⟩
  have g := h.2 (W x c) (cx c) _ h2 h6 (by show A (A q.1 c) (cx c) ≠ -1; rw [a4]; omega) (by show B (B q.2 c) (cx c) ≠ -1; rw [b4]; omega)
  obtain ⟨r, r1, r2, r3, r4, r5, r6⟩ := h.1 _ _ g
  rw [h6] at r3
  have e : (A q.1 c, B q.2 c) = r := Option.some.inj r3
  rw [← e] at r6
  have r6 : l[(W (W x c) (cx c)).toNat]? = some (A (A q.1 c) (cx c), B (B q.2 c) (cx c)) := r6
  rw [a4, b4] at r6
  have y := hl.2.2.1 _ _ _ r6 h3
  omega
theorem ism_uniq {nA nB : Int} {A B W W' : Int → Int → Int} {l : prs} {j : Nat} (hl : msi nA nB A B j l) (h : ism A B l W) (h' : ism A B l W') : W = W' := by
  funext x c
  by_cases q : W x c = -1
  · by_cases q' : W' x c = -1
    · rw [q, q']
    · obtain ⟨r, h1, h2, h3, h4, h5, h6⟩ := h'.1 x c q'
      exact absurd q (h.2 x c r h1 h3 h4 h5)
  · obtain ⟨r, h1, h2, h3, h4, h5, h6⟩ := h.1 x c q
    have q' := h'.2 x c r h1 h3 h4 h5
    obtain ⟨r', i1, i2, i3, i4, i5, i6⟩ := h'.1 x c q'
    rw [h3] at i3
    have e : r = r' := Option.some.inj i3
    rw [← e] at i6
    have y := hl.2.2.1 _ _ _ h6 i6
    omega
/-- a table that goes back is its own folding -/
theorem fo_self {m : Nat} {E : Int → Int → Int → Prop} {W : Int → Int → Int} (hE : ∀ u c v, E u c v ↔ (W u c = v ∧ v ≠ -1)) (hW : ∀ x c, W x c ≠ -1 → 0 ≤ x ∧ x < (m : Int) ∧ 0 ≤ W x c ∧ W x c < m) : fo_spec m E (fun v => (v : Int)) W := by
  refine ⟨fun v hv => ⟨by show 0 ≤ (v : Int); omega, by show (v : Int) < m; omega, by rw [Int.toNat_natCast]⟩, fun R hR v _ => hR.1 _, fun u c v he => ?_, fun x c hx => ?_⟩
  · obtain ⟨e1, e2⟩ := (hE u c v).mp he
    have g := hW u c (by rw [e1]; exact e2)
    have a : ((u.toNat : Nat) : Int) = u := by omega
    have b : ((v.toNat : Nat) : Int) = v := by omega
    show W ((u.toNat : Nat) : Int) c = ((v.toNat : Nat) : Int)
    rw [a, b, e1]
  · have g := hW x c hx
    refine ⟨x, W x c, (hE _ _ _).mpr ⟨rfl, hx⟩, ?_, ?_⟩
    · show ((x.toNat : Nat) : Int) = x
      omega
    · show W x c = (((W x c).toNat : Nat) : Int)
      omega
