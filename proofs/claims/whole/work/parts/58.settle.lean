theorem va_up_sh (w : Nat → Int) {p q n : Nat} (y : Int) (h : p = q + n) : (fun i => va_up w p y (q + i)) = va_up (fun i => w (q + i)) n y := by
  funext i
  unfold va_up
  by_cases z : i = n
  · rw [if_pos (by omega), if_pos z]
  · rw [if_neg (by omega), if_neg z]
/-- what settle leaves of the other groups -/
def frS (k : Nat) (b b1 : aS) : Prop := b1 0 2 = b 0 2 ∧ b1 0 15 = b 0 15 ∧ ∀ i, 5 ≤ i → i ≤ 7 → ∀ j, (j < 64 * k ∨ 64 * k + 64 ≤ j) → b1 0 i j = b 0 i j
/-- the reference's numbering after j looks -/
def stS (T : Int → Int → Int) (S0 : bS) (k : Nat) (b : aS) (j n : Nat) (b1 : aS) : Prop :=
  bfr T S0 j = (n, b1 0 16, b1 0 17, fun i => b1 0 5 (64 * k + i), fun i => b1 0 6 (64 * k + i), fun i => b1 0 7 (64 * k + i)) ∧ frS k b b1 ∧ b1 0 3 = b 0 3 ∧ b1 0 4 = b 0 4 ∧ ∀ i, i < j → i / 6 < (bfr T S0 i).1
theorem s_settle {post : Int → fS → aS → Prop} {m k : Nat} {s bs : Int} {g : fS} {b : aS} (hs : s = (k : Int)) (hk : k < 4) (h64 : m ≤ 64) (hb : g 0 9 = bs) (b0 : 0 ≤ bs ∧ bs < m) (hT0 : ∀ x c, tb (b 0 15) 0 64 x c = -1 ∨ (0 ≤ tb (b 0 15) 0 64 x c ∧ tb (b 0 15) 0 64 x c < m)) (hp : ∀ (b' : aS) (S0 : bS) (n : Nat) (nu od : Nat → Int), bst m bs S0 → bf_fin (tb (b 0 15) 0 64) S0 (n, nu, od, fun i => b' 0 5 (64 * k + i), fun i => b' 0 6 (64 * k + i), fun i => b' 0 7 (64 * k + i)) → b' 0 3 k = (n : Int) → tb (b' 0 4) (384 * k) n = stA n nu od (tb (b 0 15) 0 64) → frS k b b' → (∀ j, j ≠ k → b' 0 3 j = b 0 3 j) → (∀ j, (j < 384 * k ∨ 384 * k + 384 ≤ j) → b' 0 4 j = b 0 4 j) → post (n : Int) g b') : wp_M_settle post s g b := by
  have es : s.toNat = k := by omega
  -- behind the filling of the numbers
  have main : ∀ b1 : aS, (∀ i, i ≠ 16 → b1 0 i = b 0 i) → (∀ v, v < 64 → b1 0 16 v = -1) → ∃ j, wb_M_settle_55 post j s 1 0 g (setA (setA (setA b1 0 16 (va_up (b1 0 16) (g 0 9).toNat 0)) 0 17 (va_up (b1 0 17) (Int.toNat 0) (g 0 9))) 0 7 (va_up (b1 0 7) (64 * s).toNat 0)) := by
    intro b1 hb1 h16
    rw [hb]
    have c17 : ∀ w, setA b1 0 16 w 0 17 = b1 0 17 := fun w => setA_k _ _ (by omega)
    generalize ha5 : setA (setA (setA b1 0 16 (va_up (b1 0 16) bs.toNat 0)) 0 17 (va_up (b1 0 17) (Int.toNat 0) bs)) 0 7 (va_up (b1 0 7) (64 * s).toNat 0) = a5
    have y16 : a5 0 16 = va_up (b1 0 16) bs.toNat 0 := by rw [← ha5]; simp [setA]
    have y17 : a5 0 17 0 = bs := by rw [← ha5]; simp [setA, va_up]
    have y7 : a5 0 7 = va_up (b1 0 7) (64 * s).toNat 0 := by rw [← ha5]; simp [setA]
    have yo : ∀ i, i ≠ 16 → i ≠ 17 → i ≠ 7 → a5 0 i = b 0 i := by
      intro i i1 i2 i3
      rw [← ha5, setA_k _ _ i3, setA_k _ _ i2, setA_k _ _ i1]
      exact hb1 i i1
    have e64 : (64 * s).toNat = 64 * k := by omega
    have y70 : a5 0 7 (64 * k + 0) = 0 := by rw [y7, e64]; exact va_up_self _ _ _
    have frs : frS k b a5 := by
      refine ⟨yo 2 (by omega) (by omega) (by omega), yo 15 (by omega) (by omega) (by omega), fun i i1 i2 j hj => ?_⟩
      by_cases z : i = 7
      · rw [z, y7, va_up_ne _ _ (by omega), hb1 7 (by omega)]
      · rw [yo i (by omega) (by omega) z]
    have hS0 : bst m bs (1, a5 0 16, a5 0 17, fun i => a5 0 5 (64 * k + i), fun i => a5 0 6 (64 * k + i), fun i => a5 0 7 (64 * k + i)) := by
      refine ⟨rfl, y17, b0, ?_, fun x hx hxb => ?_, y70⟩
      · rw [y16]; exact va_up_self _ _ _
      · rw [y16, va_up_ne _ _ hxb]
        exact h16 x (by omega)
    have allinv := bf_inv_all hT0 (bst_inv (tb (b 0 15) 0 64) hS0)
    generalize hS : ((1, a5 0 16, a5 0 17, fun i => a5 0 5 (64 * k + i), fun i => a5 0 6 (64 * k + i), fun i => a5 0 7 (64 * k + i)) : bS) = S0 at hS0 allinv
    -- the ways
    have ways : ∀ (n : Nat) (b2 : aS), n ≤ 64 → bf_fin (tb (b 0 15) 0 64) S0 (n, b2 0 16, b2 0 17, fun i => b2 0 5 (64 * k + i), fun i => b2 0 6 (64 * k + i), fun i => b2 0 7 (64 * k + i)) → frS k b b2 → b2 0 3 = b 0 3 → b2 0 4 = b 0 4 → ∃ j, wb_M_settle_186 post j s (n : Int) 0 g b2 := by
      intro n b2 hn hfin hfr h3 h4
      have inv : bf_inv m bs (tb (b 0 15) 0 64) (6 * n) (n, b2 0 16, b2 0 17, fun i => b2 0 5 (64 * k + i), fun i => b2 0 6 (64 * k + i), fun i => b2 0 7 (64 * k + i)) := by
        have q := allinv (6 * n) hfin.2
        have e : (n, b2 0 16, b2 0 17, (fun i => b2 0 5 (64 * k + i)), (fun i => b2 0 6 (64 * k + i)), (fun i => b2 0 7 (64 * k + i))) = bfr (tb (b 0 15) 0 64) S0 (6 * n) := hfin.1
        rw [e]
        exact q
      obtain ⟨i1, i2, i3, i4, i5, i6, i7⟩ := inv
      have outer : ∀ (q v : Nat) (b3 : aS), v ≤ n → n < q + v → (∀ i, i ≠ 4 → b3 0 i = b2 0 i) → (∀ j, (j < 384 * k ∨ 384 * k + 384 ≤ j) → b3 0 4 j = b 0 4 j) → (∀ x c : Int, 0 ≤ x → x < v → 0 ≤ c → c < 6 → tb (b3 0 4) (384 * k) 64 x c = if tb (b 0 15) 0 64 (b2 0 17 x.toNat) c = -1 then -1 else b2 0 16 (tb (b 0 15) 0 64 (b2 0 17 x.toNat) c).toNat) → wb_M_settle_186 post q s (n : Int) (v : Int) g b3 := by
        intro q
        induction q with
        | zero => intro v b3 g1 g2; omega
        | succ q ih =>
          intro v b3 g1 g2 hf ho hw
          rw [wb_M_settle_186]
          refine ⟨⟨by omega, by omega⟩, ⟨by omega, by omega⟩, fun z => ⟨⟨by omega, by omega⟩, ?_⟩, fun z => ⟨7, ?_⟩⟩
          · have ev : v = n := by omega
            subst ev
            rw [es]
            have s5 : ∀ i, i ≠ 3 → i ≠ 4 → setA b3 0 3 (va_up (b3 0 3) k v) 0 i = b2 0 i := fun i z3 z4 => (setA_k _ _ z3).trans (hf i z4)
            refine hp _ S0 v (b2 0 16) (b2 0 17) hS0 ?_ (by rw [setA_s]; exact va_up_self _ _ _) ?_ ⟨?_, ?_, fun i z1 z2 j hj => ?_⟩ (fun j hj => ?_) (fun j hj => ?_)
            · rw [s5 5 (by omega) (by omega), s5 6 (by omega) (by omega), s5 7 (by omega) (by omega)]
              exact hfin
            · funext x c
              rw [setA_k _ _ (by omega)]
              unfold stA
              by_cases u : 0 ≤ x ∧ x < (v : Int)
              · by_cases u2 : 0 ≤ c ∧ c < 6
                · have t := hw x c u.1 u.2 u2.1 u2.2
                  rw [tb_at _ _ u.1 (by omega) u2.1 u2.2] at t
                  rw [tb_at _ _ u.1 u.2 u2.1 u2.2, t]
                  have r := hT0 (b2 0 17 x.toNat) c
                  by_cases u3 : 0 ≤ tb (b 0 15) 0 64 (b2 0 17 x.toNat) c
                  · rw [if_neg (by omega), if_pos ⟨u, u3⟩]
                  · rw [if_pos (by omega), if_neg (fun y => u3 y.2)]
                · have z1 : tb (b3 0 4) (384 * k) (v : Int) x c = -1 := if_neg (fun y => u2 y.2)
                  have z2 : tb (b 0 15) 0 64 (b2 0 17 x.toNat) c = -1 := if_neg (fun y => u2 y.2)
                  rw [z1, z2, if_neg (fun y => by have := y.2; omega)]
              · have z1 : tb (b3 0 4) (384 * k) (v : Int) x c = -1 := if_neg (fun y => u y.1)
                rw [z1, if_neg (fun y => u y.1)]
            · rw [s5 2 (by omega) (by omega)]
              exact hfr.1
            · rw [s5 15 (by omega) (by omega)]
              exact hfr.2.1
            · rw [s5 i (by omega) (by omega)]
              exact hfr.2.2 i z1 z2 j hj
            · rw [setA_s, va_up_ne _ _ hj, hf 3 (by omega), h3]
            · rw [setA_k _ _ (by omega)]
              exact ho j hj
          · have ov := i4 v (by omega)
            have inner : ∀ (q2 d : Nat) (b4 : aS), d ≤ 6 → 6 < q2 + d → (∀ i, i ≠ 4 → b4 0 i = b2 0 i) → (∀ j, (j < 384 * k ∨ 384 * k + 384 ≤ j) → b4 0 4 j = b 0 4 j) → (∀ x c : Int, 0 ≤ x → 0 ≤ c → c < 6 → 6 * x + c < ((6 * v + d : Nat) : Int) → tb (b4 0 4) (384 * k) 64 x c = if tb (b 0 15) 0 64 (b2 0 17 x.toNat) c = -1 then -1 else b2 0 16 (tb (b 0 15) 0 64 (b2 0 17 x.toNat) c).toNat) → wb_M_settle_194 post (wb_M_settle_186 post q) q2 s (n : Int) (v : Int) (d : Int) g b4 := by
              intro q2
              induction q2 with
              | zero => intro d b4 y1 y2; omega
              | succ q2 ih2 =>
                intro d b4 y1 y2 hf4 ho4 hw4
                rw [wb_M_settle_194, hf4 17 (by omega), hf4 16 (by omega), hf4 15 (by omega), hfr.2.1, Int.toNat_natCast]
                refine ⟨⟨by omega, by omega⟩, fun y => ?_, fun y => ⟨⟨by omega, by omega⟩, ⟨by omega, by omega⟩, fun t htt => ?_⟩⟩
                · have e1 : (v : Int) + 1 = ((v + 1 : Nat) : Int) := by omega
                  rw [e1]
                  exact ih (v + 1) b4 (by omega) (by omega) hf4 ho4 (fun x c x0 x1 c0 c1 => hw4 x c x0 c0 c1 (by omega))
                · rw [tbM_at (c := (d : Int)) ov.1 (by omega) (by omega) (by omega) (b 0 15)] at htt
                  have rt := hT0 (b2 0 17 v) (d : Int)
                  have e9 : (d : Int) + 1 = ((d + 1 : Nat) : Int) := by omega
                  have fin : ∀ y2 : Int, (y2 = if tb (b 0 15) 0 64 (b2 0 17 v) (d : Int) = -1 then -1 else b2 0 16 (tb (b 0 15) 0 64 (b2 0 17 v) (d : Int)).toNat) → wb_M_settle_253 post (wb_M_settle_194 post (wb_M_settle_186 post q) q2) s (n : Int) (v : Int) (d : Int) (384 * s + 6 * (v : Int) + (d : Int)) y2 g b4 := by
                    intro y2 hy2
                    refine ⟨⟨by omega, by omega⟩, ?_⟩
                    rw [e9]
                    have ei : (384 * s + 6 * (v : Int) + (d : Int)).toNat = 384 * k + (6 * (v : Int) + (d : Int)).toNat := by omega
                    refine ih2 (d + 1) _ (by omega) (by omega) (fun i hi => (setA_k _ _ hi).trans (hf4 i hi)) (fun j hj => ?_) (fun x c x0 c0 c1 hxc => ?_)
                    · rw [setA_s, va_up_ne _ _ (by omega)]
                      exact ho4 j hj
                    · rw [setA_s, ei, tb_up _ _ _ (by omega) (by omega) (by omega) (by omega)]
                      unfold up2
                      by_cases u : x = (v : Int) ∧ c = (d : Int)
                      · rw [if_pos u, u.1, u.2, Int.toNat_natCast]
                        exact hy2
                      · rw [if_neg u]
                        exact hw4 x c x0 c0 c1 (by omega)
                  refine ⟨⟨by omega, by omega⟩, fun u => ⟨⟨by omega, by omega⟩, fin _ ?_⟩, fun u => fin _ ?_⟩
                  · rw [if_neg (by omega), htt]
                  · rw [if_pos (by omega)]
            exact inner 7 0 b3 (by omega) (by omega) hf ho (fun x c x0 c0 c1 hxc => hw x c x0 (by omega) c0 c1)
      exact ⟨_, outer (n + 1) 0 b2 (by omega) (by omega) (fun _ _ => rfl) (fun j _ => by rw [h4]) (fun x c x0 x1 => by omega)⟩
    -- the looks
    have looks : ∀ (v : Nat) (k55 : Int → Int → Int → fS → aS → Prop), (∀ (n : Nat) (b2 : aS), stS (tb (b 0 15) 0 64) S0 k b (6 * v + 6) n b2 → k55 s (n : Int) ((v : Int) + 1) g b2) → ∀ (q d n : Nat) (b2 : aS), d ≤ 6 → 6 < q + d → v < n → stS (tb (b 0 15) 0 64) S0 k b (6 * v + d) n b2 → wb_M_settle_63 post k55 q s (n : Int) (v : Int) (d : Int) g b2 := by
      intro v k55 hk5 q
      induction q with
      | zero => intro d n b2 g1 g2; omega
      | succ q ih =>
        intro d n b2 g1 g2 hv hst
        have hst0 := hst
        obtain ⟨eS, hfr, h3, h4, lk⟩ := hst
        have inv := allinv (6 * v + d) lk
        rw [eS] at inv
        obtain ⟨i1, i2, i3, i4, i5, i6, i7⟩ := inv
        have ov := i4 v (by omega)
        have le : n ≤ m := by
          have z := bf_inv_le (allinv (6 * v + d) lk)
          rw [eS] at z
          exact z
        have ev : (v : Int).toNat = v := by omega
        rw [wb_M_settle_63, hfr.2.1, ev]
        refine ⟨⟨by omega, by omega⟩, fun z => ?_, fun z => ⟨⟨by omega, by omega⟩, ⟨by omega, by omega⟩, fun t htt => ?_⟩⟩
        · have ed : d = 6 := by omega
          subst ed
          exact hk5 n b2 hst0
        · rw [tbM_at (c := (d : Int)) ov.1 (by omega) (by omega) (by omega) (b 0 15)] at htt
          have rt := hT0 (b2 0 17 v) (d : Int)
          have e9 : (d : Int) + 1 = ((d + 1 : Nat) : Int) := by omega
          have j1 : (6 * v + d) / 6 = v := by omega
          have j2 : (6 * v + d) % 6 = d := by omega
          have bs' : bfr (tb (b 0 15) 0 64) S0 (6 * v + (d + 1)) = bf (tb (b 0 15) 0 64) v d (n, b2 0 16, b2 0 17, fun i => b2 0 5 (64 * k + i), fun i => b2 0 6 (64 * k + i), fun i => b2 0 7 (64 * k + i)) := by
            show bf (tb (b 0 15) 0 64) ((6 * v + d) / 6) ((6 * v + d) % 6) (bfr (tb (b 0 15) 0 64) S0 (6 * v + d)) = _
            rw [j1, j2, eS]
          have lk2 : ∀ i, i < 6 * v + (d + 1) → i / 6 < (bfr (tb (b 0 15) 0 64) S0 i).1 := by
            intro i hi
            by_cases w : i = 6 * v + d
            · rw [w, eS, j1]
              exact hv
            · exact lk i (by omega)
          have same : ¬ (0 ≤ tb (b 0 15) 0 64 (b2 0 17 v) (d : Int) ∧ b2 0 16 (tb (b 0 15) 0 64 (b2 0 17 v) (d : Int)).toNat < 0) → wb_M_settle_172 post (wb_M_settle_63 post k55 q) s (n : Int) (v : Int) (d : Int) g b2 := by
            intro hc
            show wb_M_settle_63 post k55 q s (n : Int) (v : Int) ((d : Int) + 1) g b2
            rw [e9]
            refine ih (d + 1) n b2 (by omega) (by omega) hv ⟨?_, hfr, h3, h4, lk2⟩
            rw [bs']
            simp only [bf]
            rw [if_neg hc]
          refine ⟨⟨by omega, by omega⟩, fun w => same (fun u => by omega), fun w => ?_⟩
          have rnu : b2 0 16 t.toNat = -1 ∨ (0 ≤ b2 0 16 t.toNat ∧ b2 0 16 t.toNat < n) := by
            rcases i5 t.toNat (by omega) with u | ⟨k', u1, u2, u3⟩
            · exact Or.inl u
            · exact Or.inr ⟨by omega, by omega⟩
          refine ⟨⟨by omega, by omega⟩, ⟨by omega, by omega⟩, fun y => same (fun u => by rw [← htt] at u; omega), fun y => ?_⟩
          have cond : 0 ≤ tb (b 0 15) 0 64 (b2 0 17 v) (d : Int) ∧ b2 0 16 (tb (b 0 15) 0 64 (b2 0 17 v) (d : Int)).toNat < 0 := by
            rw [← htt]
            omega
          have bs2 : bfr (tb (b 0 15) 0 64) S0 (6 * v + (d + 1)) = (n + 1, va_up (b2 0 16) t.toNat n, va_up (b2 0 17) n t, va_up (fun i => b2 0 5 (64 * k + i)) n v, va_up (fun i => b2 0 6 (64 * k + i)) n d, va_up (fun i => b2 0 7 (64 * k + i)) n (b2 0 7 (64 * k + v) + 1)) := by
            rw [bs']
            simp only [bf]
            rw [if_pos cond, ← htt]
          have le2 : n + 1 ≤ m := by
            have z := bf_inv_le (allinv (6 * v + (d + 1)) lk2)
            rw [bs2] at z
            exact z
          refine ⟨⟨by omega, by omega⟩, ⟨by omega, by omega⟩, ⟨by omega, by omega⟩, ?_⟩
          have en : (n : Int).toNat = n := by omega
          have ep : (64 * s + (n : Int)).toNat = 64 * k + n := by omega
          have eq : (64 * s + (v : Int)).toNat = 64 * k + v := by omega
          rw [en, ep, eq]
          show wb_M_settle_63 post k55 q s ((n : Int) + 1) (v : Int) ((d : Int) + 1) g _
          have e10 : (n : Int) + 1 = ((n + 1 : Nat) : Int) := by omega
          rw [e9, e10]
          generalize hc9 : setA (setA (setA (setA (setA b2 0 16 (va_up (b2 0 16) t.toNat n)) 0 17 (va_up (b2 0 17) n t)) 0 5 (va_up (b2 0 5) (64 * k + n) v)) 0 6 (va_up (b2 0 6) (64 * k + n) d)) 0 7 (va_up (b2 0 7) (64 * k + n) (b2 0 7 (64 * k + v) + 1)) = b9
          have w16 : b9 0 16 = va_up (b2 0 16) t.toNat n := by rw [← hc9]; simp [setA]
          have w17 : b9 0 17 = va_up (b2 0 17) n t := by rw [← hc9]; simp [setA]
          have w5 : b9 0 5 = va_up (b2 0 5) (64 * k + n) v := by rw [← hc9]; simp [setA]
          have w6 : b9 0 6 = va_up (b2 0 6) (64 * k + n) d := by rw [← hc9]; simp [setA]
          have w7 : b9 0 7 = va_up (b2 0 7) (64 * k + n) (b2 0 7 (64 * k + v) + 1) := by rw [← hc9]; simp [setA]
          have wo : ∀ i, i ≠ 16 → i ≠ 17 → i ≠ 5 → i ≠ 6 → i ≠ 7 → b9 0 i = b2 0 i := fun i u1 u2 u3 u4 u5 => by rw [← hc9, setA_k _ _ u5, setA_k _ _ u4, setA_k _ _ u3, setA_k _ _ u2, setA_k _ _ u1]
          refine ih (d + 1) (n + 1) b9 (by omega) (by omega) (by omega) ⟨?_, ⟨?_, ?_, fun i u1 u2 j hj => ?_⟩, ?_, ?_, lk2⟩
          · rw [bs2, w16, w17, w5, w6, w7, va_up_sh _ _ rfl, va_up_sh _ _ rfl, va_up_sh _ _ rfl]
          · rw [wo 2 (by omega) (by omega) (by omega) (by omega) (by omega)]
            exact hfr.1
          · rw [wo 15 (by omega) (by omega) (by omega) (by omega) (by omega)]
            exact hfr.2.1
          · rw [← hfr.2.2 i u1 u2 j hj]
            obtain rfl | rfl | rfl : i = 5 ∨ i = 6 ∨ i = 7 := by omega
            · rw [w5, va_up_ne _ _ (by omega)]
            · rw [w6, va_up_ne _ _ (by omega)]
            · rw [w7, va_up_ne _ _ (by omega)]
          · rw [wo 3 (by omega) (by omega) (by omega) (by omega) (by omega)]
            exact h3
          · rw [wo 4 (by omega) (by omega) (by omega) (by omega) (by omega)]
            exact h4
    have outer : ∀ (q v n : Nat) (b2 : aS), v ≤ n → 65 < q + v → stS (tb (b 0 15) 0 64) S0 k b (6 * v) n b2 → wb_M_settle_55 post q s (n : Int) (v : Int) g b2 := by
      intro q
      induction q with
      | zero =>
        intro v n b2 g1 g2 hst
        have z := bf_inv_le (allinv (6 * v) hst.2.2.2.2)
        rw [hst.1] at z
        have z : n ≤ m := z
        omega
      | succ q ih =>
        intro v n b2 g1 g2 hst
        have le : n ≤ m := by
          have z := bf_inv_le (allinv (6 * v) hst.2.2.2.2)
          rw [hst.1] at z
          exact z
        rw [wb_M_settle_55]
        refine ⟨⟨by omega, by omega⟩, ⟨by omega, by omega⟩, fun z => ?_, fun z => ?_⟩
        · have ev : v = n := by omega
          subst ev
          exact ways v b2 (by omega) ⟨hst.1.symm, hst.2.2.2.2⟩ hst.2.1 hst.2.2.1 hst.2.2.2.1
        · refine ⟨_, looks v (wb_M_settle_55 post q) (fun n2 b3 h2 => ?_) 7 0 n b2 (by omega) (by omega) (by omega) hst⟩
          have e4 : (v : Int) + 1 = ((v + 1 : Nat) : Int) := by omega
          have e5 : 6 * v + 6 = 6 * (v + 1) := by omega
          rw [e4]
          rw [e5] at h2
          refine ih (v + 1) n2 b3 ?_ (by omega) h2
          have i2' := allinv (6 * (v + 1)) h2.2.2.2.2
          rw [h2.1] at i2'
          have := (i2'.2.2.2.2.2.2 (6 * v) (by omega)).1
          omega
    have q := outer 66 0 1 a5 (by omega) (by omega) ⟨by rw [← hS]; rfl, frs, yo 3 (by omega) (by omega) (by omega), yo 4 (by omega) (by omega) (by omega), fun i hi => by omega⟩
    exact ⟨_, q⟩
  have fill : ∀ (n i : Nat) (b1 : aS), i ≤ 64 → 64 < n + i → (∀ j, j ≠ 16 → b1 0 j = b 0 j) → (∀ v, v < i → b1 0 16 v = -1) → wb_M_settle_2 post n s (i : Int) g b1 := by
    intro n
    induction n with
    | zero => intro i b1 g1 g2; omega
    | succ n ih =>
      intro i b1 g1 g2 hf hz
      rw [wb_M_settle_2, Int.toNat_natCast]
      refine ⟨⟨by omega, by omega⟩, fun q => ⟨⟨by omega, by omega⟩, ⟨by omega, by omega⟩, main b1 hf (fun v hv => hz v (by omega))⟩, fun q => ⟨⟨by omega, by omega⟩, ?_⟩⟩
      have e1 : (i : Int) + 1 = ((i + 1 : Nat) : Int) := by omega
      rw [e1]
      refine ih (i + 1) _ (by omega) (by omega) (fun j hj => (setA_k _ _ hj).trans (hf j hj)) (fun v hv => ?_)
      rw [setA_s]
      by_cases z : v = i
      · rw [z, va_up_self]
      · rw [va_up_ne _ _ z]
        exact hz v (by omega)
  exact ⟨_, fill 65 0 b (by omega) (by omega) (fun _ _ => rfl) (fun v hv => by omega)⟩
