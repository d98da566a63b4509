section
variable {m : Nat} {g : fS} {b : aS} {bs : Int}
theorem s_onlyM {post : Int → fS → aS → Prop} {v : Int} (v0 : 0 ≤ v) (v1 : v < 64) (hr : ∀ x c, tb (b 0 15) 0 64 x c = -1 ∨ (0 ≤ tb (b 0 15) 0 64 x c ∧ tb (b 0 15) 0 64 x c < 64)) (h0 : (∀ c, ¬ one (tb (b 0 15) 0 64) v c) → post (-1) g b) (h1 : ∀ c, 0 ≤ c → c < 6 → one (tb (b 0 15) 0 64) v c → post c g b) : wp_M_onlyWay post v g b := by
  have loop : ∀ (n d : Nat) (on ct : Int), d ≤ 6 → 6 < n + d → (0 ≤ ct ∧ ct ≤ d) → ((ct = 0 ∧ on = -1 ∧ ∀ c, c < (d : Int) → tb (b 0 15) 0 64 v c = -1) ∨ (ct = 1 ∧ (0 ≤ on ∧ on < d) ∧ tb (b 0 15) 0 64 v on ≠ -1 ∧ ∀ c, c < (d : Int) → tb (b 0 15) 0 64 v c ≠ -1 → c = on) ∨ (2 ≤ ct ∧ ∃ c1 c2, c1 ≠ c2 ∧ tb (b 0 15) 0 64 v c1 ≠ -1 ∧ tb (b 0 15) 0 64 v c2 ≠ -1)) → wb_M_onlyWay_7 post n v on ct (d : Int) g b := by
    intro n
    induction n with
    | zero => intro d on ct h2 h3; omega
    | succ n ih =>
      intro d on ct h2 h3 hct h4
      have e1 : (d : Int) + 1 = ((d + 1 : Nat) : Int) := by omega
      rw [wb_M_onlyWay_7]
      refine ⟨⟨by omega, by omega⟩, fun q => ?_, fun q => ?_⟩
      · have ed : d = 6 := by omega
        subst ed
        rcases h4 with ⟨g0, g1, g2⟩ | ⟨g0, g1, g2, g3⟩ | ⟨g0, c1, c2, g1, g2, g3⟩
        · refine ⟨⟨by omega, by omega⟩, fun _ => h0 (fun c hc => hc.1 (g2 c ?_)), fun z => by omega⟩
          have := tb_c hc.1
          omega
        · refine ⟨⟨by omega, by omega⟩, fun z => absurd g0 z, fun _ => h1 on g1.1 (by omega) ⟨g2, fun c hc => g3 c ?_ hc⟩⟩
          have := tb_c hc
          omega
        · refine ⟨⟨by omega, by omega⟩, fun _ => h0 (fun c hc => g1 ?_), fun z => by omega⟩
          rw [hc.2 c1 g2, hc.2 c2 g3]
      · have et := tbM_at v0 v1 (c := (d : Int)) (by omega) (by omega) (b 0 15)
        rw [et]
        have r := hr v d
        refine ⟨⟨by omega, by omega⟩, ⟨by omega, by omega⟩, fun z => ?_, fun z => ?_⟩
        · have z' : tb (b 0 15) 0 64 v d = -1 := by omega
          show wb_M_onlyWay_7 post n v on ct ((d : Int) + 1) g b
          rw [e1]
          refine ih (d + 1) on ct (by omega) (by omega) (by omega) ?_
          rcases h4 with ⟨g0, g1, g2⟩ | ⟨g0, g1, g2, g3⟩ | g4
          · refine Or.inl ⟨g0, g1, fun c hc => ?_⟩
            by_cases w : c = (d : Int)
            · rw [w]; exact z'
            · exact g2 c (by omega)
          · refine Or.inr (Or.inl ⟨g0, ⟨g1.1, by omega⟩, g2, fun c hc hq => ?_⟩)
            by_cases w : c = (d : Int)
            · rw [w] at hq; exact absurd z' hq
            · exact g3 c (by omega) hq
          · exact Or.inr (Or.inr g4)
        · have z' : tb (b 0 15) 0 64 v d ≠ -1 := by omega
          show wb_M_onlyWay_7 post n v (d : Int) (ct + 1) ((d : Int) + 1) g b
          rw [e1]
          refine ih (d + 1) d (ct + 1) (by omega) (by omega) (by omega) ?_
          rcases h4 with ⟨g0, g1, g2⟩ | ⟨g0, g1, g2, g3⟩ | ⟨g0, c1, c2, g1, g2, g3⟩
          · refine Or.inr (Or.inl ⟨by omega, ⟨by omega, by omega⟩, z', fun c hc hq => ?_⟩)
            by_cases w : c = (d : Int)
            · exact w
            · exact absurd (g2 c (by omega)) hq
          · exact Or.inr (Or.inr ⟨by omega, on, d, by omega, g2, z'⟩)
          · exact Or.inr (Or.inr ⟨by omega, c1, c2, g1, g2, g3⟩)
  exact ⟨_, loop 7 0 (-1) 0 (by omega) (by omega) (by omega) (Or.inl ⟨rfl, rfl, fun c hc => by
    apply Classical.byContradiction
    intro q
    have := tb_c q
    omega⟩)⟩
theorem s_trimM {post : fS → aS → Prop} (hm : g 0 8 = (m : Int)) (h64 : m ≤ 64) (hb : g 0 9 = bs) (b0 : 0 ≤ bs ∧ bs < m) (hW : inv2 m (tb (b 0 15) 0 64)) (hp : ∀ b', frT b b' → tr_spec bs (tb (b 0 15) 0 64) (tb (b' 0 15) 0 64) → post g b') : wp_M_trim post g b := by
  have pass : ∀ (k2 : Int → fS → aS → Prop) (c0 : Nat), (∀ b1, frT b b1 → tr_inv bs (tb (b 0 15) 0 64) (tb (b1 0 15) 0 64) → (∀ x c, x ≠ bs → ¬ one (tb (b1 0 15) 0 64) x c) → k2 0 g b1) → (∀ b1, frT b b1 → tr_inv bs (tb (b 0 15) 0 64) (tb (b1 0 15) 0 64) → cvw m (tb (b1 0 15) 0 64) < c0 → k2 1 g b1) → ∀ (n v : Nat) (ch : Int) (b1 : aS), v ≤ m → m < n + v → frT b b1 → tr_inv bs (tb (b 0 15) 0 64) (tb (b1 0 15) 0 64) → ((ch = 0 ∧ cvw m (tb (b1 0 15) 0 64) ≤ c0 ∧ ∀ u : Int, 0 ≤ u → u < v → u ≠ bs → ∀ c, ¬ one (tb (b1 0 15) 0 64) u c) ∨ (ch = 1 ∧ cvw m (tb (b1 0 15) 0 64) < c0)) → wb_M_trim_10 post k2 n ch (v : Int) g b1 := by
    intro k2 c0 hk0 hk1 n
    induction n with
    | zero => intro v ch b1 g1 g2; omega
    | succ n ih =>
      intro v ch b1 g1 g2 hfr ht hst
      have e1 : (v : Int) + 1 = ((v + 1 : Nat) : Int) := by omega
      have skip : (((v : Int) ≠ bs) → ∀ c, ¬ one (tb (b1 0 15) 0 64) v c) → v < m → wb_M_trim_82 post (wb_M_trim_10 post k2 n) ch (v : Int) g b1 := by
        intro hv hvm
        show wb_M_trim_10 post k2 n ch ((v : Int) + 1) g b1
        rw [e1]
        refine ih (v + 1) ch b1 (by omega) (by omega) hfr ht ?_
        rcases hst with ⟨z1, z2, z3⟩ | z
        · refine Or.inl ⟨z1, z2, fun u u0 u1 ub => ?_⟩
          by_cases w : u = (v : Int)
          · rw [w] at ub ⊢
            exact hv ub
          · exact z3 u u0 (by omega) ub
        · exact Or.inr z
      rw [wb_M_trim_10]
      refine ⟨⟨by omega, by omega⟩, ⟨by omega, by omega⟩, fun q => ?_, fun q => ⟨⟨by omega, by omega⟩, fun z => ?_, fun z => ?_⟩⟩
      · rcases hst with ⟨z1, z2, z3⟩ | ⟨z1, z2⟩
        · rw [z1]
          refine hk0 b1 hfr ht (fun x c xb hc => ?_)
          have t := (ht.1 x c hc.1).1
          have w := hW x c (by rw [← t]; exact hc.1)
          exact z3 x w.1.1 (by omega) xb c hc
        · rw [z1]
          exact hk1 b1 hfr ht z2
      · refine s_onlyM (by omega) (by omega) (tr_rng h64 hW ht) (fun y => ⟨by decide, fun _ => skip (fun _ => y) (by omega), fun w => absurd w (by decide)⟩) (fun c c0' c1 hc => ?_)
        obtain ⟨t1, t2⟩ := ht.1 v c hc.1
        obtain ⟨w1, w2, w3, w4⟩ := hW v c (by rw [← t1]; exact hc.1)
        have x := cx_in (M := 6) c0' c1 (by omega)
        have et := tbM_at (x := (v : Int)) (by omega) (by omega) c0' c1 (b1 0 15)
        refine ⟨⟨by omega, by omega⟩, fun y => by omega, fun _ => ⟨⟨by omega, by omega⟩, fun t htt => ⟨⟨c0', c1⟩, ?_⟩⟩⟩
        rw [et] at htt
        have eT : tb (setA b1 0 15 (va_up (va_up (b1 0 15) (6 * (v : Int) + c).toNat (-1)) (6 * t + cx c).toNat (-1)) 0 15) 0 64 = cut (tb (b1 0 15) 0 64) v c := by
          rw [setA_s, tbM_up (by omega) (by omega) x.1 x.2, tbM_up (by omega) (by omega) c0' c1, htt]
          rfl
        refine ⟨⟨by omega, by omega⟩, ?_⟩
        rw [setA_ss]
        show wb_M_trim_10 post k2 n 1 ((v : Int) + 1) g _
        rw [e1]
        refine ih (v + 1) 1 _ (by omega) (by omega) (frT_tr hfr frT_15) ?_ (Or.inr ⟨rfl, ?_⟩)
        · rw [eT]
          exact tr_step hW ht (fun y => z (y.trans hb.symm)) hc
        · rw [eT]
          have := cvw_cut hW ht hc
          rcases hst with y | y
          · omega
          · omega
      · have z := Classical.byContradiction z
        exact ⟨by decide, fun _ => skip (fun y => absurd (z.trans hb) y) (by omega), fun w => absurd w (by decide)⟩
  have passes : ∀ (n : Nat) (ch : Int) (b1 : aS), frT b b1 → tr_inv bs (tb (b 0 15) 0 64) (tb (b1 0 15) 0 64) → ((ch = 0 ∧ (∀ x c, x ≠ bs → ¬ one (tb (b1 0 15) 0 64) x c) ∧ 0 < n) ∨ (ch = 1 ∧ cvw m (tb (b1 0 15) 0 64) + 1 < n)) → wb_M_trim_2 post n ch g b1 := by
    intro n
    induction n with
    | zero => intro ch b1 hfr ht hst; omega
    | succ n ih =>
      intro ch b1 hfr ht hst
      rw [wb_M_trim_2]
      rcases hst with ⟨z1, z2, z3⟩ | ⟨z1, z2⟩
      · subst z1
        exact ⟨by decide, fun _ => hp b1 hfr (tr_end hW ht z2), fun y => absurd rfl y⟩
      · subst z1
        refine ⟨by decide, fun y => absurd y (by decide), fun _ => ?_⟩
        exact ⟨_, pass (wb_M_trim_2 post n) (cvw m (tb (b1 0 15) 0 64)) (fun b2 f2 t2 o2 => ih 0 b2 f2 t2 (Or.inl ⟨rfl, o2, by omega⟩)) (fun b2 f2 t2 c2 => ih 1 b2 f2 t2 (Or.inr ⟨rfl, by omega⟩)) (m + 1) 0 0 b1 (by omega) (by omega) hfr ht (Or.inl ⟨rfl, Nat.le_refl _, fun u u0 u1 => by omega⟩)⟩
  exact ⟨_, passes (cvw m (tb (b 0 15) 0 64) + 2) 1 b (fun _ _ _ => rfl) (tr_start hW) (Or.inr ⟨rfl, by omega⟩)⟩
end
