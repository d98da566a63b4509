/-- only the draft differs -/
def fr2 (f0 f : fS) (a0 a : aS) : Prop := ∀ o i, o ≠ 2 → f o i = f0 o i ∧ a o i = a0 o i
/-- the draft: m vertices, the edges E, at most e of them -/
def dS (f : fS) (a : aS) (m : Int) (E : Int → Int → Int → Prop) (e : Int) : Prop := f 2 0 = m ∧ (0 ≤ f 2 2 ∧ f 2 2 ≤ e) ∧ ∀ u c v, er (f 2 2).toNat (a 2 3) (a 2 4) (a 2 5) u c v ↔ E u c v
theorem dS_iff {f : fS} {a : aS} {m e e' : Int} {E E' : Int → Int → Int → Prop} (h : dS f a m E e) (hE : ∀ u c v, E u c v ↔ E' u c v) (he : e ≤ e') : dS f a m E' e' := ⟨h.1, ⟨h.2.1.1, by have := h.2.1.2; omega⟩, fun u c v => (h.2.2 u c v).trans (hE u c v)⟩
theorem fr2_rf (f : fS) (a : aS) : fr2 f f a a := fun _ _ _ => ⟨rfl, rfl⟩
section
variable {post : fS → aS → Prop} {f0 f : fS} {a0 a : aS} {m e b : Int} {E : Int → Int → Int → Prop}
theorem fr2_F {k : Nat} {v : Int} (h : fr2 f0 f a0 a) : fr2 f0 (setF f 2 k v) a0 a := fun o i ho => ⟨(setF_o f v ho).trans (h o i ho).1, (h o i ho).2⟩
theorem fr2_A {k : Nat} {w : Nat → Int} (h : fr2 f0 f a0 a) : fr2 f0 f a0 (setA a 2 k w) := fun o i ho => ⟨(h o i ho).1, (setA_o a w ho).trans (h o i ho).2⟩
theorem fr2_gok {N : Int} {o : Nat} (ho : o ≠ 2) (h : fr2 f0 f a0 a) (g : gok N f0 a0 o) : gok N f a o := gok_congr (fun i => (h o i ho).1) (fun i _ => (h o i ho).2) g
theorem fr2_gA {o : Nat} (ho : o ≠ 2) (h : fr2 f0 f a0 a) : gA f a o = gA f0 a0 o := by
  show tb (a o 3) 0 (f o 0) = tb (a0 o 3) 0 (f0 o 0)
  rw [(h o 3 ho).2, (h o 0 ho).1]
theorem s_begin (h : fr2 f0 f a0 a) (hp : ∀ f' a', fr2 f0 f' a0 a' → dS f' a' 1 (fun _ _ _ => False) 0 → f' 2 1 = 0 → (∀ x c, tb (a' 2 7) 0 64 x c = -1) → post f' a') : wp_D_begin post f a := by
  refine hp _ _ (fr2_A (fr2_F (fr2_F (fr2_F h)))) ⟨by simp [setF], ⟨by simp [setF], by simp [setF]⟩, fun u c v => ⟨fun q => ?_, fun q => q.elim⟩⟩ (by simp [setF]) (fun x c => ?_)
  · have e : ((setF (setF (setF f 2 0 1) 2 1 0) 2 2 0) 2 2).toNat = 0 := by simp [setF]
    rw [e] at q
    exact er_0 _ _ _ _ _ _ q
  · rw [setA_s]
    unfold tb
    by_cases q : (0 ≤ x ∧ x < 64) ∧ 0 ≤ c ∧ c < 6
    · rw [if_pos q]
      exact if_pos (by omega)
    · rw [if_neg q]
theorem s_edge {x1 x2 x3 : Int} (h : fr2 f0 f a0 a) (hd : dS f a m E e) (he : e < 195) (hp : ∀ f' a', fr2 f0 f' a0 a' → dS f' a' m (fun u c v => E u c v ∨ ed x1 x2 x3 u c v) (e + 1) → f' 2 1 = f 2 1 → post f' a') : wp_D_addEdge post x1 x2 x3 f a := by
  obtain ⟨d1, d2, d3⟩ := hd
  refine ⟨⟨by omega, by omega⟩, fun q => by omega, fun q => ⟨⟨by omega, by omega⟩, ?_⟩⟩
  refine hp _ _ (fr2_A (fr2_A (fr2_A (fr2_F h)))) ⟨by rw [setF_k _ _ (by omega)]; exact d1, by rw [setF_s]; exact ⟨by omega, by omega⟩, fun u c v => ?_⟩ (setF_k _ _ (by omega))
  have e1 : (setF f 2 2 (f 2 2 + 1) 2 2).toNat = (f 2 2).toNat + 1 := by rw [setF_s]; omega
  rw [e1, setA_s, setA_k (k := 5) (k' := 4) _ _ (by omega), setA_s, setA_k (k := 5) (k' := 3) _ _ (by omega), setA_k (k := 4) (k' := 3) _ _ (by omega), setA_s, er_add, d3]
theorem s_copy {N : Int} {o : Nat} (ho : 3 ≤ o ∧ o < 7) (hN : 1 ≤ N ∧ N ≤ 3) (g : gok N f0 a0 o) (h : fr2 f0 f a0 a) (hd : dS f a m E e) (m1 : 1 ≤ m) (he : e + 3 * f0 o 0 ≤ 195) (e0 : 0 ≤ e) (hp : ∀ f' a', fr2 f0 f' a0 a' → dS f' a' (m + f0 o 0 - 1) (fun u c v => E u c v ∨ cp (gA f0 a0 o) (m - 1) u c v) (e + 3 * f0 o 0) → f' 2 1 = f 2 1 → post f' a') : wp_D_addCopy post o f a := by
  have nn := g.1.1
  have o2 : o ≠ 2 := by omega
  intro t ht
  have ht : t = m - 1 := by rw [ht, hd.1]
  subst ht
  have outer : ∀ (n v : Nat) (f1 : fS) (a1 : aS), v ≤ (f0 o 0).toNat → (f0 o 0).toNat < n + v → fr2 f0 f1 a0 a1 → dS f1 a1 m (fun u c w => E u c w ∨ cpi (gA f0 a0 o) (m - 1) (3 * v) u c w) (e + 3 * (v : Int)) → f1 2 1 = f 2 1 → wb_D_addCopy_9 post n o (m - 1) (v : Int) f1 a1 := by
    intro n
    induction n with
    | zero => intro v f1 a1 h1 h2; omega
    | succ n ih =>
      intro v f1 a1 h1 h2 h3 h4 h5
      have ef := (h3 o 0 o2).1
      rw [wb_D_addCopy_9, ef]
      refine ⟨ho, ⟨by omega, by omega⟩, ⟨by omega, by omega⟩, fun q => ?_, fun q => ⟨4, ?_⟩⟩
      · have ev : v = (f0 o 0).toNat := by omega
        refine hp _ _ (fr2_F h3) ⟨?_, ?_, fun u c w => ?_⟩ ((setF_k _ _ (by omega)).trans h5)
        · rw [setF_s, h4.1]
          omega
        · rw [setF_k _ _ (by omega)]
          have := h4.2.1
          exact ⟨by omega, by omega⟩
        · rw [setF_k _ _ (by omega), h4.2.2]
          show (E u c w ∨ cpi (gA f0 a0 o) (m - 1) (3 * v) u c w) ↔ (E u c w ∨ cp (gA f0 a0 o) (m - 1) u c w)
          rw [ev, cpi_all g.1 hN.2 (k := (f0 o 0).toNat) (by omega)]
      · have inner : ∀ (n2 y : Nat) (f2 : fS) (a2 : aS), y ≤ 3 → 3 < n2 + y → fr2 f0 f2 a0 a2 → dS f2 a2 m (fun u c w => E u c w ∨ cpi (gA f0 a0 o) (m - 1) (3 * v + y) u c w) (e + 3 * (v : Int) + y) → f2 2 1 = f 2 1 → wb_D_addCopy_20 post (wb_D_addCopy_9 post n) n2 o (m - 1) (v : Int) (2 * (y : Int)) f2 a2 := by
          intro n2
          induction n2 with
          | zero => intro y f2 a2 y1 y2; omega
          | succ n2 ih2 =>
            intro y f2 a2 y1 y2 y3 y4 y5
            rw [wb_D_addCopy_20]
            refine ⟨⟨by omega, by omega⟩, fun z => ?_, fun z => ⟨ho, ?_⟩⟩
            · have e1 : (v : Int) + 1 = ((v + 1 : Nat) : Int) := by omega
              rw [e1]
              refine ih (v + 1) f2 a2 (by omega) (by omega) y3 (dS_iff y4 (fun u c w => ?_) (by omega)) y5
              have e2 : 3 * v + y = 3 * (v + 1) := by omega
              rw [e2]
            · have ok1 := fr2_gok o2 y3 g
              have eA := fr2_gA o2 y3
              have d1 : (3 * v + y) / 3 = v := by omega
              have d2 : 2 * (((3 * v + y) % 3 : Nat) : Int) = 2 * (y : Int) := by omega
              have e3 : 2 * (y : Int) + 2 = 2 * ((y + 1 : Nat) : Int) := by omega
              have e4 : 3 * v + (y + 1) = 3 * v + y + 1 := by omega
              refine s_way ho ok1 (by omega) (by rw [(y3 o 0 o2).1]; omega) (by omega) (by omega) ?_
              rw [eA]
              refine ⟨gok_ir g _ _, fun w => ?_, fun w => ?_⟩
              · show wb_D_addCopy_20 post (wb_D_addCopy_9 post n) n2 o (m - 1) (v : Int) (2 * (y : Int) + 2) f2 a2
                rw [e3]
                refine ih2 (y + 1) f2 a2 (by omega) (by omega) y3 (dS_iff y4 (fun u c x => ?_) (by omega)) y5
                rw [e4, cpi_no (by unfold pe; rw [d1, d2]; exact decide_eq_false (fun k => k w))]
              · have go : ∀ x1 x3 : Int, x1 = shf (m - 1) (v : Int) → x3 = shf (m - 1) (gA f0 a0 o (v : Int) (2 * (y : Int))) → wb_D_addCopy_69 post (wb_D_addCopy_20 post (wb_D_addCopy_9 post n) n2) o (m - 1) (v : Int) (2 * (y : Int)) x1 (2 * (y : Int)) x3 f2 a2 := by
                  intro x1 x3 hx1 hx3
                  refine s_edge y3 y4 (by omega) (fun f3 a3 z1 z2 z3 => ?_)
                  show wb_D_addCopy_20 post (wb_D_addCopy_9 post n) n2 o (m - 1) (v : Int) (2 * (y : Int) + 2) f3 a3
                  rw [e3]
                  refine ih2 (y + 1) f3 a3 (by omega) (by omega) z1 (dS_iff z2 (fun u c x => ?_) (by omega)) (z3.trans y5)
                  rw [e4, cpi_yes (by unfold pe; rw [d1, d2]; exact decide_eq_true w), d1, d2, hx1, hx3]
                  exact or_assoc
                have go2 : ∀ x1 : Int, x1 = shf (m - 1) (v : Int) → wb_D_addCopy_54 post (wb_D_addCopy_20 post (wb_D_addCopy_9 post n) n2) o (m - 1) (v : Int) (2 * (y : Int)) (gA f0 a0 o (v : Int) (2 * (y : Int))) x1 f2 a2 := by
                  intro x1 hx1
                  refine ⟨gok_ir g _ _, fun k => go _ _ hx1 ?_, fun k => go _ _ hx1 ?_⟩
                  · unfold shf
                    rw [if_neg k]
                  · unfold shf
                    rw [if_pos (Classical.byContradiction k)]
                refine ⟨⟨by omega, by omega⟩, fun k => go2 _ ?_, fun k => go2 _ ?_⟩
                · unfold shf
                  rw [if_neg k]
                · unfold shf
                  rw [if_pos (Classical.byContradiction k)]
        exact inner 4 0 f1 a1 (by omega) (by omega) h3 (dS_iff h4 (fun u c w => Iff.rfl) (by omega)) h5
  refine ⟨_, outer ((f0 o 0).toNat + 1) 0 f a (by omega) (by omega) h (dS_iff hd (fun u c w => ⟨Or.inl, fun z => ?_⟩) (by omega)) rfl⟩
  rcases z with z | ⟨i, hi, _⟩
  · exact z
  · omega
theorem s_row {post : Int → fS → aS → Prop} {N : Int} {L : Nat} (hN : N ≤ 3) (h : fr2 f0 f a0 a) (hd : dS f a m E e) (hL : L ≤ (f0 1 1).toNat) (h24 : f0 1 1 ≤ 24) (hw : wok N (a0 1 0) (f0 1 1).toNat) (he : e + L ≤ 195) (e0 : 0 ≤ e) (hp : ∀ f' a', fr2 f0 f' a0 a' → dS f' a' (m + L) (fun u c v => E u c v ∨ rwr m (a0 1 0) L u c v) (e + L) → f' 2 1 = f 2 1 → post (rend m L) f' a') : wp_D_addRow post (L : Int) f a := by
  have loop : ∀ (n i : Nat) (f1 : fS) (a1 : aS), i ≤ L → L < n + i → fr2 f0 f1 a0 a1 → dS f1 a1 (m + i) (fun u c v => E u c v ∨ rwr m (a0 1 0) i u c v) (e + i) → f1 2 1 = f 2 1 → wb_D_addRow_5 post n (L : Int) (rend m i) (i : Int) f1 a1 := by
    intro n
    induction n with
    | zero => intro i f1 a1 h1 h2; omega
    | succ n ih =>
      intro i f1 a1 h1 h2 h3 h4 h5
      rw [wb_D_addRow_5]
      refine ⟨⟨by omega, by omega⟩, ⟨by omega, by omega⟩, fun q => ?_, fun q => ⟨⟨by omega, by omega⟩, ?_⟩⟩
      · have ei : i = L := by omega
        subst ei
        exact hp f1 a1 h3 h4 h5
      · have ew := (h3 1 0 (by omega)).2
        rw [ew, Int.toNat_natCast]
        obtain ⟨l1, l2, l3⟩ := hw.1 i (by omega)
        refine s_code ⟨by omega, by omega⟩ (s_edge h3 h4 (by omega) (fun f3 a3 z1 z2 z3 => fun t ht => ?_))
        have e1 : (i : Int) + 1 = ((i + 1 : Nat) : Int) := by omega
        have e2 : t = rend m (i + 1) := by
          rw [ht, z2.1]
          unfold rend
          rw [if_neg (by omega)]
          omega
        rw [e1, e2]
        refine ih (i + 1) _ _ (by omega) (by omega) (fr2_F z1) ⟨?_, ?_, fun u c v => ?_⟩ ((setF_k _ _ (by omega)).trans (z3.trans h5))
        · rw [setF_s, z2.1]
          omega
        · rw [setF_k _ _ (by omega)]
          have := z2.2.1
          exact ⟨by omega, by omega⟩
        · rw [setF_k _ _ (by omega), z2.2.2]
          show ((E u c v ∨ rwr m (a0 1 0) i u c v) ∨ ed (rend m i) (co (a0 1 0 i)) (f1 2 0) u c v) ↔ (E u c v ∨ rwr m (a0 1 0) (i + 1) u c v)
          rw [rwr_s, h4.1]
          exact or_assoc
  refine ⟨_, loop (L + 1) 0 f a (by omega) (by omega) h ⟨by rw [hd.1]; omega, by have := hd.2.1; exact ⟨by omega, by omega⟩, fun u c v => ?_⟩ rfl⟩
  rw [hd.2.2]
  exact ⟨Or.inl, fun z => z.elim id (fun y => absurd y (rwr_0 _ _ _ _ _))⟩
theorem s_ring {N : Int} (hN : N ≤ 3) (h : fr2 f0 f a0 a) (hd : dS f a m E e) (h24 : 0 ≤ f0 1 1 ∧ f0 1 1 ≤ 24) (hw : wok N (a0 1 0) (f0 1 1).toNat) (he : e + f0 1 1 ≤ 195) (e0 : 0 ≤ e) (hp : ∀ f' a', fr2 f0 f' a0 a' → dS f' a' (if f0 1 1 = 0 then m else m + f0 1 1 - 1) (fun u c v => E u c v ∨ rng m (a0 1 0) (f0 1 1).toNat u c v) (e + f0 1 1) → f' 2 1 = f 2 1 → post f' a') : wp_D_addRing post f a := by
  have e1 := (h 1 1 (by omega)).1
  unfold wp_D_addRing
  rw [e1]
  refine ⟨⟨by omega, by omega⟩, fun q => ?_, fun q => ?_⟩
  · have z : f0 1 1 = 0 := by omega
    refine hp f a h ?_ rfl
    rw [if_pos z]
    refine dS_iff hd (fun u c v => ⟨Or.inl, fun y => y.elim id (fun y => ?_)⟩) (by omega)
    have := y.1
    omega
  · have e2 : f0 1 1 - 1 = ((f0 1 1).toNat - 1 : Nat) := by omega
    rw [e2]
    refine s_row hN h hd (by omega) h24.2 hw (by omega) e0 (fun f1 a1 h1 h2 h3 => ?_)
    have g1 := (h1 1 1 (by omega)).1
    have g2 := (h1 1 0 (by omega)).2
    show (0 ≤ f1 1 1 - 1 ∧ f1 1 1 - 1 < 24) ∧ _
    rw [g1, g2, e2, Int.toNat_natCast]
    obtain ⟨l1, l2, l3⟩ := hw.1 ((f0 1 1).toNat - 1) (by omega)
    refine ⟨⟨by omega, by omega⟩, s_code ⟨by omega, by omega⟩ (s_edge h1 h2 (by omega) (fun f3 a3 z1 z2 z3 => hp f3 a3 z1 ?_ (z3.trans h3)))⟩
    have em : (if f0 1 1 = 0 then m else m + f0 1 1 - 1) = m + (((f0 1 1).toNat - 1 : Nat) : Int) := by
      rw [if_neg (by omega)]
      omega
    rw [em]
    refine dS_iff z2 (fun u c v => ?_) (by omega)
    unfold rng
    constructor
    · rintro ((y | y) | y)
      · exact Or.inl y
      · exact Or.inr ⟨by omega, Or.inl y⟩
      · exact Or.inr ⟨by omega, Or.inr y⟩
    · rintro (y | ⟨_, y | y⟩)
      · exact Or.inl (Or.inl y)
      · exact Or.inl (Or.inr y)
      · exact Or.inr y
theorem s_move {N : Int} (hN : N ≤ 3) (h : fr2 f0 f a0 a) (hd : dS f a m E e) (h24 : 0 ≤ f0 1 1 ∧ f0 1 1 ≤ 24) (hw : wok N (a0 1 0) (f0 1 1).toNat) (he : e + f0 1 1 ≤ 195) (e0 : 0 ≤ e) (hp : ∀ f' a', fr2 f0 f' a0 a' → dS f' a' (m + f0 1 1) (fun u c v => E u c v ∨ rwr m (a0 1 0) (f0 1 1).toNat u c v) (e + f0 1 1) → f' 2 1 = rend m (f0 1 1).toNat → post f' a') : wp_D_moveBaseAlong post f a := by
  have e1 := (h 1 1 (by omega)).1
  have e2 : f0 1 1 = ((f0 1 1).toNat : Int) := by omega
  unfold wp_D_moveBaseAlong
  rw [e1, e2]
  refine s_row hN h hd (Nat.le_refl _) h24.2 hw (by omega) e0 (fun f1 a1 h1 h2 h3 => ?_)
  refine hp _ _ (fr2_F h1) ⟨?_, ?_, fun u c v => ?_⟩ (setF_s _ _ _ _)
  · rw [setF_k _ _ (by omega), h2.1]
    omega
  · rw [setF_k _ _ (by omega)]
    have := h2.2.1
    exact ⟨by omega, by omega⟩
  · rw [setF_k _ _ (by omega), h2.2.2]
end
