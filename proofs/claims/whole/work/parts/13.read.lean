/-- a table completed by hanging trees: a vertex and the codes gone beyond it, the last first -/
abbrev cfg : Type := Int × List Int
def rd (A : Int → Int → Int) : cfg → Int → cfg
  | (v, []), c => if A v c = -1 then (v, [c]) else (A v c, [])
  | (v, e :: s), c => if c = cx e then (v, s) else (v, c :: e :: s)
def rds (A : Int → Int → Int) (z : cfg) (w : List Int) : cfg := w.foldl (rd A) z
/-- n vertices, M codes; going back is the inverse code -/
def gr_ok2 (A : Int → Int → Int) (n M : Int) : Prop := ∀ v c, 0 ≤ v → v < n → 0 ≤ c → c < M → A v c = -1 ∨ (0 ≤ A v c ∧ A v c < n ∧ A (A v c) (cx c) = v)
def okl (A : Int → Int → Int) (n M v : Int) : List Int → Prop
  | [] => 0 ≤ v ∧ v < n
  | c :: s => (0 ≤ c ∧ c < M) ∧ (match s with | [] => A v c = -1 | e :: _ => c ≠ cx e) ∧ okl A n M v s
abbrev okc (A : Int → Int → Int) (n M : Int) (z : cfg) : Prop := okl A n M z.1 z.2
theorem cx_cx (c : Int) : cx (cx c) = c := by unfold cx; omega
theorem cx_in {c M : Int} (h0 : 0 ≤ c) (h1 : c < M) (hM : M % 2 = 0) : 0 ≤ cx c ∧ cx c < M := by unfold cx; omega
theorem okc_tail {A : Int → Int → Int} {n M v e : Int} {s : List Int} (h : okc A n M (v, e :: s)) : okc A n M (v, s) := h.2.2
theorem rd_ok {A : Int → Int → Int} {n M c : Int} (hA : gr_ok2 A n M) (h0 : 0 ≤ c) (h1 : c < M) : ∀ z : cfg, okc A n M z → okc A n M (rd A z c)
  | (v, []), h => by
    simp only [rd]
    by_cases q : A v c = -1
    · rw [if_pos q]
      exact ⟨⟨h0, h1⟩, q, h⟩
    · rw [if_neg q]
      rcases hA v c h.1 h.2 h0 h1 with g | g
      · exact absurd g q
      · exact ⟨g.1, g.2.1⟩
  | (v, e :: s), h => by
    simp only [rd]
    by_cases q : c = cx e
    · rw [if_pos q]
      exact okc_tail h
    · rw [if_neg q]
      exact ⟨⟨h0, h1⟩, q, h⟩
theorem rd_back {A : Int → Int → Int} {n M c : Int} (hA : gr_ok2 A n M) (h0 : 0 ≤ c) (h1 : c < M) : ∀ z : cfg, okc A n M z → rd A (rd A z c) (cx c) = z
  | (v, []), h => by
    by_cases q : A v c = -1
    · have e1 : rd A (v, []) c = (v, [c]) := if_pos q
      rw [e1]
      exact if_pos rfl
    · have e1 : rd A (v, []) c = (A v c, []) := if_neg q
      rw [e1]
      rcases hA v c h.1 h.2 h0 h1 with g | ⟨g1, g2, g3⟩
      · exact absurd g q
      · have e2 : rd A (A v c, []) (cx c) = (A (A v c) (cx c), []) := if_neg (by rw [g3]; have := h.1; omega)
        rw [e2, g3]
  | (v, e :: s), h => by
    by_cases q : c = cx e
    · have q2 : cx c = e := by rw [q, cx_cx]
      have e1 : rd A (v, e :: s) c = (v, s) := if_pos q
      rw [e1, q2]
      cases s with
      | nil => exact if_pos h.2.1
      | cons d s => exact if_neg h.2.1
    · have e1 : rd A (v, e :: s) c = (v, c :: e :: s) := if_neg q
      rw [e1]
      exact if_pos rfl
