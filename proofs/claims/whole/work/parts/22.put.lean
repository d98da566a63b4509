/-- a row of letters: how many, and which; one more is put to its end, or cancels -/
abbrev rS : Type := Nat × (Nat → Int)
def pu (s : rS) (x : Int) : rS := if 1 ≤ s.1 ∧ s.2 (s.1 - 1) = -x then (s.1 - 1, s.2) else (s.1 + 1, va_up s.2 s.1 x)
def pus (s : rS) (w : Nat → Int) : Nat → rS
  | 0 => s
  | j + 1 => pu (pus s w j) (w j)
theorem pus_le (s : rS) (w : Nat → Int) (j : Nat) : (pus s w j).1 ≤ s.1 + j := by
  induction j with
  | zero => exact Nat.le_refl _
  | succ j ih =>
    show (pu (pus s w j) (w j)).1 ≤ s.1 + (j + 1)
    unfold pu
    split
    · show (pus s w j).1 - 1 ≤ s.1 + (j + 1)
      omega
    · show (pus s w j).1 + 1 ≤ s.1 + (j + 1)
      omega
theorem pus_red {s : rS} {w : Nat → Int} {L : Nat} (h0 : s.1 = 0) (hr : ∀ i, i + 1 < L → w (i + 1) ≠ -w i) : ∀ j, j ≤ L → (pus s w j).1 = j ∧ ∀ i, i < j → (pus s w j).2 i = w i := by
  intro j
  induction j with
  | zero => intro _; exact ⟨h0, fun i hi => absurd hi (by omega)⟩
  | succ j ih =>
    intro hj
    obtain ⟨i1, i2⟩ := ih (by omega)
    have hn : ¬ (1 ≤ (pus s w j).1 ∧ (pus s w j).2 ((pus s w j).1 - 1) = -w j) := by
      rintro ⟨a, b⟩
      rw [i1] at a b
      rw [i2 (j - 1) (by omega)] at b
      have g := hr (j - 1) (by omega)
      have e : j - 1 + 1 = j := by omega
      rw [e] at g
      omega
    have e : pus s w (j + 1) = ((pus s w j).1 + 1, va_up (pus s w j).2 (pus s w j).1 (w j)) := if_neg hn
    rw [e]
    refine ⟨by show (pus s w j).1 + 1 = j + 1; omega, fun i hi => ?_⟩
    show va_up (pus s w j).2 (pus s w j).1 (w j) i = w i
    rw [i1]
    by_cases z : i = j
    · rw [z, va_up_self]
    · rw [va_up_ne _ _ z]
      exact i2 i (by omega)
/-- a row in order -/
def okr (N : Int) (s : rS) : Prop := wok N s.2 s.1
def cfr (A : Int → Int → Int) (s : rS) : cfg := rg (rd A) (0, []) (fun i => co (s.2 i)) s.1
section
variable {N n : Int} {A : Int → Int → Int}
theorem rg_okc (hA : gr_ok2 A n (2 * N)) {z : cfg} (hz : okc A n (2 * N) z) {w : Nat → Int} {j : Nat} (h : ∀ i, i < j → 0 ≤ w i ∧ w i < 2 * N) : okc A n (2 * N) (rg (rd A) z w j) := by
  induction j with
  | zero => exact hz
  | succ j ih =>
    have g := h j (by omega)
    exact rd_ok hA g.1 g.2 _ (ih (fun i hi => h i (by omega)))
theorem cfr_ok (hA : gr_ok2 A n (2 * N)) (hn : 1 ≤ n) {s : rS} (hs : okr N s) : okc A n (2 * N) (cfr A s) := by
  refine rg_okc hA (z := (0, [])) ⟨by omega, by omega⟩ (fun i hi => ?_)
  obtain ⟨a, b, c⟩ := hs.1 i hi
  exact co_in a b c
theorem pu_cfg (hA : gr_ok2 A n (2 * N)) (hn : 1 ≤ n) {s : rS} (hs : okr N s) {x : Int} (x0 : x ≠ 0) (x1 : -N ≤ x) (x2 : x ≤ N) : okr N (pu s x) ∧ cfr A (pu s x) = rd A (cfr A s) (co x) := by
  obtain ⟨m, g⟩ := s
  have hs : wok N g m := hs
  by_cases q : 1 ≤ m ∧ g (m - 1) = -x
  · have e : pu (m, g) x = (m - 1, g) := if_pos q
    rw [e]
    refine ⟨⟨fun i hi => hs.1 i (by have : i < m - 1 := hi; omega), fun i hi => hs.2 i (by have : i + 1 < m - 1 := hi; omega)⟩, ?_⟩
    have e1 : cfr A (m, g) = rd A (cfr A (m - 1, g)) (co (g (m - 1))) := by
      obtain ⟨k, hk⟩ : ∃ k, m = k + 1 := ⟨m - 1, by omega⟩
      subst hk
      rfl
    have c0 := co_in (N := N) (x := -x) (by omega) (by omega) (by omega)
    have e2 : co x = cx (co (-x)) := by rw [← co_neg (by omega), Int.neg_neg]
    rw [e1, q.2, e2]
    refine (rd_back hA c0.1 c0.2 _ ?_).symm
    exact cfr_ok hA hn (s := (m - 1, g)) ⟨fun i hi => hs.1 i (by have : i < m - 1 := hi; omega), fun i hi => hs.2 i (by have : i + 1 < m - 1 := hi; omega)⟩
  · have e : pu (m, g) x = (m + 1, va_up g m x) := if_neg q
    rw [e]
    refine ⟨⟨fun i hi => ?_, fun i hi => ?_⟩, ?_⟩
    · show va_up g m x i ≠ 0 ∧ -N ≤ va_up g m x i ∧ va_up g m x i ≤ N
      by_cases z : i = m
      · rw [z, va_up_self]
        exact ⟨x0, x1, x2⟩
      · rw [va_up_ne _ _ z]
        exact hs.1 i (by have : i < m + 1 := hi; omega)
    · have hi : i + 1 < m + 1 := hi
      show va_up g m x (i + 1) ≠ -va_up g m x i
      rw [va_up_ne g x (by omega : i ≠ m)]
      by_cases z : i + 1 = m
      · rw [z, va_up_self]
        intro y
        apply q
        have e3 : m - 1 = i := by omega
        exact ⟨by omega, by rw [e3]; omega⟩
      · rw [va_up_ne _ _ z]
        exact hs.2 i (by omega)
    · show rd A (rg (rd A) (0, []) (fun i => co (va_up g m x i)) m) (co (va_up g m x m)) = rd A (rg (rd A) (0, []) (fun i => co (g i)) m) (co x)
      rw [va_up_self]
      congr 1
      refine rg_congr _ _ (fun i hi => ?_)
      show co (va_up g m x i) = co (g i)
      rw [va_up_ne _ _ (by omega)]
theorem pus_cfg (hA : gr_ok2 A n (2 * N)) (hn : 1 ≤ n) {s : rS} (hs : okr N s) {w : Nat → Int} {j : Nat} (hw : ∀ i, i < j → w i ≠ 0 ∧ -N ≤ w i ∧ w i ≤ N) : okr N (pus s w j) ∧ cfr A (pus s w j) = rg (rd A) (cfr A s) (fun i => co (w i)) j := by
  induction j with
  | zero => exact ⟨hs, rfl⟩
  | succ j ih =>
    obtain ⟨i1, i2⟩ := ih (fun i hi => hw i (by omega))
    obtain ⟨a, b, c⟩ := hw j (by omega)
    obtain ⟨p1, p2⟩ := pu_cfg hA hn i1 a b c
    exact ⟨p1, by show cfr A (pu (pus s w j) (w j)) = _; rw [p2, i2]; rfl⟩
/-- a reduced word leads back in the graph just where it does in the hanging trees -/
theorem red_read (h1 : ∀ c, A (-1) c = -1) {w : Nat → Int} {m : Nat} (hr : ∀ i, i + 1 < m → w (i + 1) ≠ cx (w i)) : ∀ i, i ≤ m → (rg A 0 w i ≠ -1 ∧ rg (rd A) (0, []) w i = (rg A 0 w i, [])) ∨ (rg A 0 w i = -1 ∧ 1 ≤ i ∧ ∃ v s, rg (rd A) (0, []) w i = (v, w (i - 1) :: s)) := by
  intro i
  induction i with
  | zero => intro _; exact Or.inl ⟨by show (0 : Int) ≠ -1; omega, rfl⟩
  | succ i ih =>
    intro hi
    have ea : rg A 0 w (i + 1) = A (rg A 0 w i) (w i) := rfl
    have ec : rg (rd A) (0, []) w (i + 1) = rd A (rg (rd A) (0, []) w i) (w i) := rfl
    rw [ea, ec]
    rcases ih (by omega) with ⟨p1, p2⟩ | ⟨p1, p2, v, s, p3⟩
    · rw [p2]
      by_cases q : A (rg A 0 w i) (w i) = -1
      · refine Or.inr ⟨q, by omega, rg A 0 w i, [], ?_⟩
        simp only [rd]
        rw [if_pos q]
        rfl
      · refine Or.inl ⟨q, ?_⟩
        simp only [rd]
        rw [if_neg q]
    · refine Or.inr ⟨by rw [p1, h1], by omega, v, w (i - 1) :: s, ?_⟩
      have g := hr (i - 1) (by omega)
      have e : i - 1 + 1 = i := by omega
      rw [e] at g
      rw [p3]
      simp only [rd]
      rw [if_neg g]
      rfl
theorem red_back (h1 : ∀ c, A (-1) c = -1) {w : Nat → Int} {m : Nat} (hr : ∀ i, i + 1 < m → w (i + 1) ≠ cx (w i)) : rg A 0 w m = 0 ↔ rg (rd A) (0, []) w m = (0, []) := by
  rcases red_read h1 hr m (Nat.le_refl m) with ⟨p1, p2⟩ | ⟨p1, p2, v, s, p3⟩
  · rw [p2]
    constructor
    · intro e
      rw [e]
    · intro e
      exact congrArg Prod.fst e
  · rw [p1, p3]
    constructor
    · intro e
      omega
    · intro e
      have e1 := congrArg (fun z : cfg => z.2.length) e
      simp at e1
theorem okr_cx {s : rS} (hs : okr N s) : ∀ i, i + 1 < s.1 → co (s.2 (i + 1)) ≠ cx (co (s.2 i)) := by
  intro i hi z
  obtain ⟨a, b, c⟩ := hs.1 i (by omega)
  obtain ⟨a', b', c'⟩ := hs.1 (i + 1) hi
  apply hs.2 i hi
  rw [← co_neg a] at z
  rw [← lo_co a', z, lo_co (by omega)]
/-- the reference's question of normal: letter d back, the element, letter d -/
theorem nrm_put (hA : gr_ok2 A n (2 * N)) (hn : 1 ≤ n) (h1 : ∀ c, A (-1) c = -1) {s : rS} (h0 : s.1 = 0) {w : Nat → Int} {L : Nat} (hw : ∀ i, i < L → 0 ≤ w i ∧ w i < 2 * N) {d : Int} (d0 : 0 ≤ d) (d1 : d < 2 * N) : (let r := pu (pus (pu s (-lo d)) (fun i => lo (w i)) L) (lo d); rg A 0 (fun i => co (r.2 i)) r.1 = 0) ↔ rg (rd A) (rd A (0, []) (cx d)) w L = rd A (0, []) (cx d) := by
  have hs : okr N s := by
    obtain ⟨m, g⟩ := s
    have h0 : m = 0 := h0
    subst h0
    exact ⟨fun i hi => absurd hi (by show ¬ i < 0; omega), fun i hi => absurd hi (by show ¬ i + 1 < 0; omega)⟩
  have c0 : cfr A s = (0, []) := by
    unfold cfr
    rw [h0]
    rfl
  have l := lo_in d0 d1
  obtain ⟨a1, a2⟩ := pu_cfg hA hn hs (x := -lo d) (by omega) (by omega) (by omega)
  obtain ⟨b1, b2⟩ := pus_cfg hA hn a1 (w := fun i => lo (w i)) (j := L) (fun i hi => lo_in (hw i hi).1 (hw i hi).2)
  obtain ⟨e1, e2⟩ := pu_cfg hA hn b1 (x := lo d) l.1 l.2.1 l.2.2
  have x := cx_in (M := 2 * N) d0 d1 (by omega)
  have ed1 : co (-lo d) = cx d := by rw [co_neg l.1, co_lo d0]
  have ed2 : co (lo d) = d := co_lo d0
  have er1 : rg (rd A) (rd A (0, []) (cx d)) (fun i => co (lo (w i))) L = rg (rd A) (rd A (0, []) (cx d)) w L := rg_congr _ _ (fun i hi => co_lo (hw i hi).1)
  rw [c0, ed1] at a2
  rw [a2, er1] at b2
  rw [b2, ed2] at e2
  show rg A 0 (fun i => co ((pu (pus (pu s (-lo d)) (fun i => lo (w i)) L) (lo d)).2 i)) (pu (pus (pu s (-lo d)) (fun i => lo (w i)) L) (lo d)).1 = 0 ↔ _
  rw [red_back h1 (okr_cx e1)]
  show cfr A (pu (pus (pu s (-lo d)) (fun i => lo (w i)) L) (lo d)) = (0, []) ↔ _
  rw [e2]
  have k0 : okc A n (2 * N) (0, []) := ⟨by omega, by omega⟩
  have kz := rg_okc hA (rd_ok hA x.1 x.2 _ k0) hw
  constructor
  · intro e
    have g := rd_back hA d0 d1 _ kz
    rw [e] at g
    exact g.symm
  · intro e
    rw [e]
    have g := rd_back hA x.1 x.2 _ k0
    rw [cx_cx] at g
    exact g
end
