/-- only the reference's scratch differs -/
def frM (g0 g : fS) (b0 b : aS) : Prop := g 0 0 = g0 0 0 ∧ g 0 1 = g0 0 1 ∧ ∀ i, i ≤ 7 → b 0 i = b0 0 i
def mS (g : fS) (b : aS) (m : Int) (E : Int → Int → Int → Prop) (e : Int) : Prop := g 0 8 = m ∧ (0 ≤ g 0 10 ∧ g 0 10 ≤ e) ∧ ∀ u c v, er (g 0 10).toNat (b 0 11) (fun i => 2 * b 0 12 i - 2) (b 0 13) u c v ↔ E u c v
theorem mS_iff {f : fS} {a : aS} {m e e' : Int} {E E' : Int → Int → Int → Prop} (h : mS f a m E e) (hE : ∀ u c v, E u c v ↔ E' u c v) (he : e ≤ e') : mS f a m E' e' := ⟨h.1, ⟨h.2.1.1, by have := h.2.1.2; omega⟩, fun u c v => (h.2.2 u c v).trans (hE u c v)⟩
theorem va_up_map (w : Nat → Int) (k : Nat) (y : Int) : (fun i => 2 * va_up w k y i - 2) = va_up (fun i => 2 * w i - 2) k (2 * y - 2) := by
  funext i
  unfold va_up
  split <;> rfl
section
variable {post : fS → aS → Prop} {g0 g : fS} {b0 b : aS} {m e : Int} {E : Int → Int → Int → Prop}
theorem frM_F {k : Nat} {v : Int} (hk : 2 ≤ k) (h : frM g0 g b0 b) : frM g0 (setF g 0 k v) b0 b := ⟨(setF_k _ _ (by omega)).trans h.1, (setF_k _ _ (by omega)).trans h.2.1, h.2.2⟩
theorem frM_A {k : Nat} {w : Nat → Int} (hk : 8 ≤ k) (h : frM g0 g b0 b) : frM g0 g b0 (setA b 0 k w) := ⟨h.1, h.2.1, fun i hi => (setA_k _ _ (by omega)).trans (h.2.2 i hi)⟩
theorem s_edgeM {x1 x2 x3 : Int} (hx : ir x2) (h0 : x2 ≠ 0) (h : frM g0 g b0 b) (hd : mS g b m E e) (he : e < 256) (hp : ∀ g' b', frM g0 g' b0 b' → mS g' b' m (fun u c v => E u c v ∨ ed x1 (co x2) x3 u c v) (e + 1) → g' 0 9 = g 0 9 → (∀ i, 14 ≤ i → b' 0 i = b 0 i) → post g' b') : wp_M_addEdge post x1 x2 x3 g b := by
  obtain ⟨d1, d2, d3⟩ := hd
  have fin : ∀ f3 y t : Int, (∀ u c v, ed f3 (2 * y - 2) t u c v ↔ ed x1 (co x2) x3 u c v) → post (setF g 0 10 (g 0 10 + 1)) (setA (setA (setA b 0 11 (va_up (b 0 11) (g 0 10).toNat f3)) 0 12 (va_up (b 0 12) (g 0 10).toNat y)) 0 13 (va_up (b 0 13) (g 0 10).toNat t)) := by
    intro f3 y t hed
    refine hp _ _ (frM_A (by omega) (frM_A (by omega) (frM_A (by omega) (frM_F (by omega) h)))) ⟨by rw [setF_k _ _ (by omega)]; exact d1, by rw [setF_s]; exact ⟨by omega, by omega⟩, fun u c v => ?_⟩ (setF_k _ _ (by omega)) (fun i hi => by rw [setA_k _ _ (by omega), setA_k _ _ (by omega), setA_k _ _ (by omega)])
    have e1 : (setF g 0 10 (g 0 10 + 1) 0 10).toNat = (g 0 10).toNat + 1 := by rw [setF_s]; omega
    have e11 : setA (setA (setA b 0 11 (va_up (b 0 11) (g 0 10).toNat f3)) 0 12 (va_up (b 0 12) (g 0 10).toNat y)) 0 13 (va_up (b 0 13) (g 0 10).toNat t) 0 11 = va_up (b 0 11) (g 0 10).toNat f3 := by rw [setA_k _ _ (by omega), setA_k _ _ (by omega), setA_s]
    have e12 : setA (setA (setA b 0 11 (va_up (b 0 11) (g 0 10).toNat f3)) 0 12 (va_up (b 0 12) (g 0 10).toNat y)) 0 13 (va_up (b 0 13) (g 0 10).toNat t) 0 12 = va_up (b 0 12) (g 0 10).toNat y := by rw [setA_k _ _ (by omega), setA_s]
    rw [e1, e11, e12, setA_s, va_up_map, er_add, d3, hed]
  have c12 : ∀ w, setA b 0 11 w 0 12 = b 0 12 := fun w => setA_k _ _ (by omega)
  have c13 : ∀ w w', setA (setA b 0 11 w) 0 12 w' 0 13 = b 0 13 := fun w w' => (setA_k _ _ (by omega)).trans (setA_k _ _ (by omega))
  refine ⟨hx, fun q => ⟨⟨by omega, by omega⟩, hx, fun _ => ?_, fun z => by omega⟩, fun q => ⟨⟨by omega, by omega⟩, hx, fun z => by omega, fun _ => ?_⟩⟩
  · rw [wb_M_addEdge_36, c12]
    refine ⟨⟨by omega, by omega⟩, hx, fun _ => ⟨⟨by omega, by omega⟩, ?_⟩, fun z => by omega⟩
    rw [c13]
    refine fin x3 (-x2) x1 (fun u c v => ?_)
    have ec : co x2 = cx (2 * -x2 - 2) := by
      unfold co cx
      rw [if_neg (by omega)]
      omega
    rw [ec]
    exact ed_flip _ _ _ _ _ _
  · rw [wb_M_addEdge_36, c12]
    refine ⟨⟨by omega, by omega⟩, hx, fun z => by omega, fun _ => ⟨⟨by omega, by omega⟩, ?_⟩⟩
    rw [c13]
    refine fin x1 x2 x3 (fun u c v => ?_)
    have ec : co x2 = 2 * x2 - 2 := if_pos (by omega)
    rw [ec]
theorem cpi_skip {N : Int} {f : fS} {a : aS} {o : Nat} (ho : gok N f a o) {sh : Int} {v : Nat} {y : Nat} (hy : N ≤ y) (h3 : y ≤ 3) (u c w : Int) : cpi (gA f a o) sh (3 * v + y) u c w ↔ cpi (gA f a o) sh (3 * (v + 1)) u c w := by
  have out : ∀ i : Nat, N ≤ ((i % 3 : Nat) : Int) → pe (gA f a o) i = false := by
    intro i hi
    apply decide_eq_false
    intro q
    have := (ho.1.2.1 _ _ q).2.1
    omega
  have e3 : 3 * (v + 1) = 3 * v + 3 := by omega
  rw [e3]
  obtain rfl | rfl | rfl | rfl : y = 0 ∨ y = 1 ∨ y = 2 ∨ y = 3 := by omega
  · rw [cpi_no (j := 3 * v + 2) (out _ (by omega)), cpi_no (j := 3 * v + 1) (out _ (by omega)), cpi_no (j := 3 * v) (out _ (by omega))]
    exact Iff.rfl
  · rw [cpi_no (j := 3 * v + 2) (out _ (by omega)), cpi_no (j := 3 * v + 1) (out _ (by omega))]
  · rw [cpi_no (j := 3 * v + 2) (out _ (by omega))]
  · exact Iff.rfl
theorem frM_grel {f : fS} {a : aS} {k : Nat} (h : frM g0 g b0 b) (hr : grel f a g0 b0 k) : grel f a g b k := grel_congr (fun _ => rfl) (fun _ _ => rfl) (fun i _ i2 => h.2.2 i i2) hr
theorem s_copyM {N s : Int} {f : fS} {a : aS} {k : Nat} {sh : Int} (hs : s = (k : Int)) (hk : k < 4) (hN : 1 ≤ N ∧ N ≤ 3) (hg : g0 0 0 = N) (ok : gok N f a (3 + k)) (hr : grel f a g0 b0 k) (h : frM g0 g b0 b) (hd : mS g b m E e) (he : e + 3 * f (3 + k) 0 ≤ 255) (e0 : 0 ≤ e) (hp : ∀ g' b', frM g0 g' b0 b' → mS g' b' m (fun u c v => E u c v ∨ cp (gA f a (3 + k)) sh u c v) (e + 3 * f (3 + k) 0) → g' 0 9 = g 0 9 → post g' b') : wp_M_addCopy post s sh g b := by
  have nn := ok.1.1
  have es : s.toNat = k := by omega
  have outer : ∀ (n v : Nat) (g1 : fS) (b1 : aS), v ≤ (f (3 + k) 0).toNat → (f (3 + k) 0).toNat < n + v → frM g0 g1 b0 b1 → mS g1 b1 m (fun u c w => E u c w ∨ cpi (gA f a (3 + k)) sh (3 * v) u c w) (e + 3 * (v : Int)) → g1 0 9 = g 0 9 → wb_M_addCopy_2 post n s sh (v : Int) g1 b1 := by
    intro n
    induction n with
    | zero => intro v g1 b1 h1 h2; omega
    | succ n ih =>
      intro v g1 b1 h1 h2 h3 h4 h5
      have e1 : b1 0 3 s.toNat = f (3 + k) 0 := by rw [es, h3.2.2 3 (by omega)]; exact hr.1
      rw [wb_M_addCopy_2, e1]
      refine ⟨⟨by omega, by omega⟩, ⟨by omega, by omega⟩, ⟨by omega, by omega⟩, fun q => ?_, fun q => ⟨5, ?_⟩⟩
      · have ev : v = (f (3 + k) 0).toNat := by omega
        refine hp g1 b1 h3 (mS_iff h4 (fun u c w => ?_) (by omega)) h5
        rw [ev, cpi_all ok.1 hN.2 (k := (f (3 + k) 0).toNat) (by omega)]
      · have inner : ∀ (n2 y : Nat) (g2 : fS) (b2 : aS), (y : Int) ≤ N → 4 < n2 + y → frM g0 g2 b0 b2 → mS g2 b2 m (fun u c w => E u c w ∨ cpi (gA f a (3 + k)) sh (3 * v + y) u c w) (e + 3 * (v : Int) + y) → g2 0 9 = g 0 9 → wb_M_addCopy_15 post (wb_M_addCopy_2 post n) n2 s sh (v : Int) ((y : Int) + 1) g2 b2 := by
          intro n2
          induction n2 with
          | zero => intro y g2 b2 y1 y2; omega
          | succ n2 ih2 =>
            intro y g2 b2 y1 y2 y3 y4 y5
            have eN : g2 0 0 = N := y3.1.trans hg
            have hr2 := frM_grel y3 hr
            rw [wb_M_addCopy_15, eN]
            refine ⟨⟨by omega, by omega⟩, ⟨by omega, by omega⟩, fun z => ?_, fun z => ?_⟩
            · have e2 : (v : Int) + 1 = ((v + 1 : Nat) : Int) := by omega
              rw [e2]
              refine ih (v + 1) g2 b2 (by omega) (by omega) y3 (mS_iff y4 (fun u c w => ?_) (by omega)) y5
              rw [cpi_skip ok (y := y) (by omega) (by omega)]
            · have ec : co ((y : Int) + 1) = 2 * (y : Int) := by
                unfold co
                rw [if_pos (by omega)]
                omega
              have d1 : (3 * v + y) / 3 = v := by omega
              have d2 : 2 * (((3 * v + y) % 3 : Nat) : Int) = 2 * (y : Int) := by omega
              have e3 : (y : Int) + 1 + 1 = ((y + 1 : Nat) : Int) + 1 := by omega
              have e4 : 3 * v + (y + 1) = 3 * v + y + 1 := by omega
              refine s_codeM ⟨by omega, by omega⟩ ?_
              rw [ec]
              refine s_wayM hs hk ok hr2 (by omega) (by omega) (by omega) (by omega) ⟨gok_ir ok _ _, fun w => ?_, fun w => ?_⟩
              · show wb_M_addCopy_15 post (wb_M_addCopy_2 post n) n2 s sh (v : Int) ((y : Int) + 1 + 1) g2 b2
                rw [e3]
                refine ih2 (y + 1) g2 b2 (by omega) (by omega) y3 (mS_iff y4 (fun u c x => ?_) (by omega)) y5
                have w' : gA f a (3 + k) (v : Int) (2 * (y : Int)) = -1 := by
                  have := gok_in ok (v : Int) (2 * (y : Int))
                  omega
                rw [e4, cpi_no (by unfold pe; rw [d1, d2]; exact decide_eq_false (fun k => k w'))]
              · have w' : gA f a (3 + k) (v : Int) (2 * (y : Int)) ≠ -1 := by omega
                have go : ∀ x1 x3 : Int, x1 = shf sh (v : Int) → x3 = shf sh (gA f a (3 + k) (v : Int) (2 * (y : Int))) → wb_M_addCopy_69 post (wb_M_addCopy_15 post (wb_M_addCopy_2 post n) n2) s sh (v : Int) ((y : Int) + 1) x1 ((y : Int) + 1) x3 g2 b2 := by
                  intro x1 x3 hx1 hx3
                  refine s_edgeM ⟨by omega, by omega⟩ (by omega) y3 y4 (by omega) (fun g3 b3 z1 z2 z3 _ => ?_)
                  show wb_M_addCopy_15 post (wb_M_addCopy_2 post n) n2 s sh (v : Int) ((y : Int) + 1 + 1) g3 b3
                  rw [e3]
                  refine ih2 (y + 1) g3 b3 (by omega) (by omega) z1 (mS_iff z2 (fun u c x => ?_) (by omega)) (z3.trans y5)
                  rw [ec, e4, cpi_yes (by unfold pe; rw [d1, d2]; exact decide_eq_true w'), d1, d2, hx1, hx3]
                  exact or_assoc
                have go2 : ∀ x1 : Int, x1 = shf sh (v : Int) → wb_M_addCopy_54 post (wb_M_addCopy_15 post (wb_M_addCopy_2 post n) n2) s sh (v : Int) ((y : Int) + 1) (gA f a (3 + k) (v : Int) (2 * (y : Int))) x1 g2 b2 := by
                  intro x1 hx1
                  refine ⟨gok_ir ok _ _, fun k => go _ _ hx1 ?_, fun k => go _ _ hx1 ?_⟩
                  · unfold shf
                    rw [if_neg k]
                  · unfold shf
                    rw [if_pos (Classical.byContradiction k)]
                refine ⟨⟨by omega, by omega⟩, fun k => go2 _ ?_, fun k => go2 _ ?_⟩
                · unfold shf
                  rw [if_neg k]
                · unfold shf
                  rw [if_pos (Classical.byContradiction k)]
        exact inner 5 0 g1 b1 (by omega) (by omega) h3 (mS_iff h4 (fun u c w => Iff.rfl) (by omega)) h5
  refine ⟨_, outer ((f (3 + k) 0).toNat + 1) 0 g b (by omega) (by omega) h (mS_iff hd (fun u c w => ⟨Or.inl, fun z => ?_⟩) (by omega)) rfl⟩
  rcases z with z | ⟨i, hi, _⟩
  · exact z
  · omega
end
