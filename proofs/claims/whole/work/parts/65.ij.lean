/-- the run of looks so far -/
def mrun (A B : Int → Int → Int) (j : Nat) (l : prs) : Prop := msl A B j = some l ∧ ∀ i, i < j → ∃ l', msl A B i = some l' ∧ i / 6 < l'.length
/-- the table of the pairs after j looks -/
def ij (A B : Int → Int → Int) (j : Nat) (l : prs) (W : Int → Int → Int) : Prop :=
  (∀ p c, W p c ≠ -1 → (0 ≤ p ∧ 0 ≤ c ∧ c < 6 ∧ 6 * p + c < j) ∧ ∃ q : Int × Int, 0 ≤ W p c ∧ l[p.toNat]? = some q ∧ A q.1 c ≠ -1 ∧ B q.2 c ≠ -1 ∧ l[(W p c).toNat]? = some (A q.1 c, B q.2 c)) ∧
  ∀ (p c : Int) (q : Int × Int), 0 ≤ p → 0 ≤ c → c < 6 → 6 * p + c < j → l[p.toNat]? = some q → A q.1 c ≠ -1 → B q.2 c ≠ -1 → W p c ≠ -1
theorem app_l {l : prs} {q : Int × Int} {x : Nat} {y : Int × Int} (h : l[x]? = some y) : (l ++ [q])[x]? = some y := by
  obtain ⟨lt, _⟩ := List.getElem?_eq_some_iff.mp h
  rw [List.getElem?_append_left lt]
  exact h
theorem app_i (l : prs) (q : Int × Int) : (l ++ [q])[l.length]? = some q := by simp
theorem app_b {l : prs} {q : Int × Int} {x : Nat} {y : Int × Int} (n : x ≠ l.length) (h : (l ++ [q])[x]? = some y) : l[x]? = some y := by
  obtain ⟨lt, _⟩ := List.getElem?_eq_some_iff.mp h
  rw [List.length_append] at lt
  have lt : x < l.length + 1 := lt
  rw [List.getElem?_append_left (by omega)] at h
  exact h
section
variable {A B : Int → Int → Int} {l : prs} {p c : Nat} {q : Int × Int} {W : Int → Int → Int}
theorem ij_0 (h : ∀ x d, W x d = -1) : ij A B 0 l W := ⟨fun x d z => absurd (h x d) z, fun x d _ x0 d0 _ z => by omega⟩
theorem mr_run (h : mrun A B (6 * p + c) l) (c6 : c < 6) (hq : l[p]? = some q) : ∀ i, i < 6 * p + c + 1 → ∃ l', msl A B i = some l' ∧ i / 6 < l'.length := by
  intro i hi
  by_cases z : i < 6 * p + c
  · exact h.2 i z
  · have e : i = 6 * p + c := by omega
    obtain ⟨lt, _⟩ := List.getElem?_eq_some_iff.mp hq
    refine ⟨l, by rw [e]; exact h.1, by omega⟩
theorem mr_step (h : mrun A B (6 * p + c) l) (c6 : c < 6) : msl A B (6 * p + c + 1) = mst A B p c l := by
  have e1 : (6 * p + c) / 6 = p := by omega
  have e2 : (6 * p + c) % 6 = c := by omega
  show (msl A B (6 * p + c)).bind (mst A B ((6 * p + c) / 6) ((6 * p + c) % 6)) = _
  rw [h.1, e1, e2]
  rfl
theorem mr_no (h : mrun A B (6 * p + c) l) (c6 : c < 6) (hq : l[p]? = some q) (hn : A q.1 c = -1 ∨ B q.2 c = -1) : mrun A B (6 * p + c + 1) l := by
  refine ⟨?_, mr_run h c6 hq⟩
  rw [mr_step h c6]
  simp only [mst, hq]
  rw [if_pos hn]
theorem mr_old (h : mrun A B (6 * p + c) l) (c6 : c < 6) (hq : l[p]? = some q) (hm : (A q.1 c, B q.2 c) ∈ l) : mrun A B (6 * p + c + 1) l := by
  refine ⟨?_, mr_run h c6 hq⟩
  rw [mr_step h c6]
  simp only [mst, hq]
  by_cases hn : A q.1 c = -1 ∨ B q.2 c = -1
  · rw [if_pos hn]
  · rw [if_neg hn, if_pos hm]
theorem mr_new (h : mrun A B (6 * p + c) l) (c6 : c < 6) (hq : l[p]? = some q) (hn : ¬ (A q.1 c = -1 ∨ B q.2 c = -1)) (hm : ¬ (A q.1 c, B q.2 c) ∈ l) (h64 : ¬ l.length = 64) : mrun A B (6 * p + c + 1) (l ++ [(A q.1 c, B q.2 c)]) := by
  refine ⟨?_, mr_run h c6 hq⟩
  rw [mr_step h c6]
  simp only [mst, hq]
  rw [if_neg hn, if_neg hm, if_neg h64]
theorem mr_full (h : mrun A B (6 * p + c) l) (c6 : c < 6) (hq : l[p]? = some q) (hn : ¬ (A q.1 c = -1 ∨ B q.2 c = -1)) (hm : ¬ (A q.1 c, B q.2 c) ∈ l) (h64 : l.length = 64) : mfull A B := by
  refine ⟨6 * p + c + 1, ?_, mr_run h c6 hq⟩
  rw [mr_step h c6]
  simp only [mst, hq]
  rw [if_neg hn, if_neg hm, if_pos h64]
theorem ij_no (h : ij A B (6 * p + c) l W) (c6 : c < 6) (hq : l[p]? = some q) (hn : A q.1 c = -1 ∨ B q.2 c = -1) : ij A B (6 * p + c + 1) l W := by
  refine ⟨fun x d z => ⟨?_, (h.1 x d z).2⟩, fun x d y x0 d0 d6 lt hy ha hb => ?_⟩
  · have := (h.1 x d z).1
    omega
  · by_cases z : 6 * x + d < ((6 * p + c : Nat) : Int)
    · exact h.2 x d y x0 d0 d6 z hy ha hb
    · have e1 : x = (p : Int) := by omega
      have e2 : d = (c : Int) := by omega
      subst e1
      subst e2
      rw [Int.toNat_natCast, hq] at hy
      have e3 := Option.some.inj hy
      subst e3
      exact absurd hn (fun k => k.elim ha hb)
theorem ij_up {l' : prs} {i : Nat} (h : ij A B (6 * p + c) l W) (c6 : c < 6) (hq : l[p]? = some q) (ha : A q.1 c ≠ -1) (hb : B q.2 c ≠ -1) (hl : ∀ (x : Nat) (y : Int × Int), l[x]? = some y → l'[x]? = some y) (hi : l'[i]? = some (A q.1 c, B q.2 c)) : ij A B (6 * p + c + 1) l' (up2 W p c i) := by
  obtain ⟨lt, _⟩ := List.getElem?_eq_some_iff.mp hq
  refine ⟨fun x d z => ?_, fun x d y x0 d0 d6 le hy ha' hb' => ?_⟩
  · by_cases k : x = (p : Int) ∧ d = (c : Int)
    · obtain ⟨rfl, rfl⟩ := k
      rw [up2_s]
      refine ⟨by omega, q, by omega, ?_, ha, hb, ?_⟩
      · rw [Int.toNat_natCast]
        exact hl p q hq
      · rw [Int.toNat_natCast]
        exact hi
    · rw [up2_n _ _ k] at z ⊢
      obtain ⟨r, y, y1, y2, y3, y4, y5⟩ := h.1 x d z
      exact ⟨by omega, y, y1, hl _ _ y2, y3, y4, hl _ _ y5⟩
  · by_cases k : x = (p : Int) ∧ d = (c : Int)
    · obtain ⟨rfl, rfl⟩ := k
      rw [up2_s]
      omega
    · rw [up2_n _ _ k]
      have z : 6 * x + d < ((6 * p + c : Nat) : Int) := by omega
      have e0 : l[x.toNat]? = some (l[x.toNat]'(by omega)) := List.getElem?_eq_getElem _
      have e1 := hl _ _ e0
      rw [hy] at e1
      have e2 := Option.some.inj e1
      rw [← e2] at e0
      exact h.2 x d y x0 d0 d6 z e0 ha' hb'
theorem ij_end (h : ij A B (6 * l.length) l W) (hA : ∀ v c, A v c ≠ -1 → 0 ≤ c ∧ c < 6) : ism A B l W := by
  refine ⟨fun x d z => ?_, fun x d y x0 hy ha hb => ?_⟩
  · obtain ⟨r, y, y1, y2, y3, y4, y5⟩ := h.1 x d z
    exact ⟨y, r.1, y1, y2, y3, y4, y5⟩
  · obtain ⟨lt, _⟩ := List.getElem?_eq_some_iff.mp hy
    have := hA _ _ ha
    exact h.2 x d y x0 this.1 this.2 (by omega) hy ha hb
/-- the edges that the reference lays -/
def EW (W : Int → Int → Int) (u c v : Int) : Prop := ∃ p d, d % 2 = 0 ∧ W p d ≠ -1 ∧ ed p d (W p d) u c v
theorem EW_odd {x d : Int} (y : Int) (h : ¬ d % 2 = 0) (u e v : Int) : EW W u e v ↔ EW (up2 W x d y) u e v := by
  constructor
  · rintro ⟨p', d', e1, e2, e3⟩
    have k : ¬ (p' = x ∧ d' = d) := fun z => h (by rw [← z.2]; exact e1)
    refine ⟨p', d', e1, ?_, ?_⟩
    · rw [up2_n _ _ k]; exact e2
    · rw [up2_n _ _ k]; exact e3
  · rintro ⟨p', d', e1, e2, e3⟩
    have k : ¬ (p' = x ∧ d' = d) := fun z => h (by rw [← z.2]; exact e1)
    rw [up2_n _ _ k] at e2 e3
    exact ⟨p', d', e1, e2, e3⟩
theorem EW_even {x d y : Int} (h : d % 2 = 0) (hw : W x d = -1) (hy : y ≠ -1) (u e v : Int) : (EW W u e v ∨ ed x d y u e v) ↔ EW (up2 W x d y) u e v := by
  constructor
  · rintro (⟨p', d', e1, e2, e3⟩ | e3)
    · have k : ¬ (p' = x ∧ d' = d) := fun z => e2 (by rw [z.1, z.2]; exact hw)
      refine ⟨p', d', e1, ?_, ?_⟩
      · rw [up2_n _ _ k]; exact e2
      · rw [up2_n _ _ k]; exact e3
    · refine ⟨x, d, h, ?_, ?_⟩
      · rw [up2_s]; exact hy
      · rw [up2_s]; exact e3
  · rintro ⟨p', d', e1, e2, e3⟩
    by_cases k : p' = x ∧ d' = d
    · obtain ⟨rfl, rfl⟩ := k
      rw [up2_s] at e3
      exact Or.inr e3
    · rw [up2_n _ _ k] at e2 e3
      exact Or.inl ⟨p', d', e1, e2, e3⟩
theorem EW_all (hW : ∀ x c, W x c ≠ -1 → 0 ≤ c ∧ 0 ≤ W x c ∧ W (W x c) (cx c) = x ∧ 0 ≤ x) (u c v : Int) : EW W u c v ↔ (W u c = v ∧ v ≠ -1) := by
  constructor
  · rintro ⟨p, d, e1, e2, ⟨rfl, rfl, rfl⟩ | ⟨rfl, rfl, rfl⟩⟩
    · exact ⟨rfl, e2⟩
    · have := hW _ _ e2
      exact ⟨this.2.2.1, by omega⟩
  · rintro ⟨e1, e2⟩
    have z : W u c ≠ -1 := by rw [e1]; exact e2
    have r := hW u c z
    by_cases k : c % 2 = 0
    · exact ⟨u, c, k, z, Or.inl ⟨rfl, rfl, e1.symm⟩⟩
    · have ck : cx (cx c) = c ∧ cx c % 2 = 0 := by
        unfold cx
        constructor
        · omega
        · omega
      refine ⟨W u c, cx c, ck.2, ?_, Or.inr ⟨?_, ck.1.symm, ?_⟩⟩
      · rw [r.2.2.1]
        omega
      · exact r.2.2.1.symm
      · exact e1.symm
end
