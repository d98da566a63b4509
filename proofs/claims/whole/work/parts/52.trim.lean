theorem tb_c {w : Nat → Int} {k : Nat} {n x c : Int} (h : tb w k n x c ≠ -1) : (0 ≤ x ∧ x < n) ∧ 0 ≤ c ∧ c < 6 := by
  apply Classical.byContradiction
  intro q
  exact h (if_neg q)
theorem one_cut {b x c : Int} {m : Nat} {W T : Int → Int → Int} (hW : inv2 m W) (h : tr_inv b W T) (ho : one T x c) {u d : Int} (hu : u ≠ T x c) (hd : one (cut T x c) u d) : u ≠ x ∧ one T u d := by
  obtain ⟨o1, o2⟩ := hd
  obtain ⟨k1, k2, k3, k4⟩ := cut_le o1
  by_cases q : u = x
  · rw [q] at k1 k3
    exact absurd ⟨rfl, ho.2 d k1⟩ k3
  · refine ⟨q, k1, fun c' hc' => o2 c' ?_⟩
    rw [cut_eq (fun z => q z.1) (fun z => hu z.1)]
    exact hc'
section
variable {m : Nat} {W : Int → Int → Int} {f : fS} {a : aS} {b : Int}
theorem s_only {post : Int → fS → aS → Prop} {v : Int} (v0 : 0 ≤ v) (v1 : v < 64) (hr : ∀ x c, tb (a 2 7) 0 64 x c = -1 ∨ (0 ≤ tb (a 2 7) 0 64 x c ∧ tb (a 2 7) 0 64 x c < 64)) (h0 : (∀ c, ¬ one (tb (a 2 7) 0 64) v c) → post (-1) f a) (h1 : ∀ c, 0 ≤ c → c < 6 → one (tb (a 2 7) 0 64) v c → post c f a) : wp_D_onlyWay post v f a := by
  have loop : ∀ (n d : Nat) (on : Int), d ≤ 6 → 6 < n + d → ((on = -1 ∧ ∀ c, c < (d : Int) → tb (a 2 7) 0 64 v c = -1) ∨ ((0 ≤ on ∧ on < d) ∧ tb (a 2 7) 0 64 v on ≠ -1 ∧ ∀ c, c < (d : Int) → tb (a 2 7) 0 64 v c ≠ -1 → c = on)) → wb_D_onlyWay_4 post n v on (d : Int) f a := by
    intro n
    induction n with
    | zero => intro d on h2 h3; omega
    | succ n ih =>
      intro d on h2 h3 h4
      have e1 : (d : Int) + 1 = ((d + 1 : Nat) : Int) := by omega
      rw [wb_D_onlyWay_4]
      refine ⟨⟨by omega, by omega⟩, fun q => ?_, fun q => ?_⟩
      · have ed : d = 6 := by omega
        subst ed
        rcases h4 with ⟨g1, g2⟩ | ⟨g1, g2, g3⟩
        · rw [g1]
          refine h0 (fun c hc => hc.1 (g2 c ?_))
          have := tb_c hc.1
          omega
        · refine h1 on g1.1 (by omega) ⟨g2, fun c hc => g3 c ?_ hc⟩
          have := tb_c hc
          omega
      · have et := tbD_at v0 v1 (c := (d : Int)) (by omega) (by omega) (a 2 7)
        rw [et]
        have r := hr v d
        refine ⟨⟨by omega, by omega⟩, ⟨by omega, by omega⟩, fun z => ?_, fun z => ⟨?_, fun y => ?_, fun y => ?_⟩⟩
        · show wb_D_onlyWay_4 post n v on ((d : Int) + 1) f a
          rw [e1]
          refine ih (d + 1) on (by omega) (by omega) ?_
          rcases h4 with ⟨g1, g2⟩ | ⟨g1, g2, g3⟩
          · refine Or.inl ⟨g1, fun c hc => ?_⟩
            by_cases w : c = (d : Int)
            · rw [w]; exact z
            · exact g2 c (by omega)
          · refine Or.inr ⟨⟨g1.1, by omega⟩, g2, fun c hc hq => ?_⟩
            by_cases w : c = (d : Int)
            · rw [w] at hq; exact absurd z hq
            · exact g3 c (by omega) hq
        · rcases h4 with g | g
          · rw [g.1]; decide
          · exact ⟨by omega, by omega⟩
        · show wb_D_onlyWay_4 post n v (d : Int) ((d : Int) + 1) f a
          rw [e1]
          refine ih (d + 1) d (by omega) (by omega) (Or.inr ⟨⟨by omega, by omega⟩, z, fun c hc hq => ?_⟩)
          rcases h4 with ⟨g1, g2⟩ | ⟨g1, g2, g3⟩
          · by_cases w : c = (d : Int)
            · exact w
            · exact absurd (g2 c (by omega)) hq
          · omega
        · rcases h4 with ⟨g1, g2⟩ | ⟨g1, g2, g3⟩
          · exact absurd g1 y
          · refine h0 (fun c hc => ?_)
            have q1 := hc.2 on g2
            have q2 := hc.2 d z
            omega
  exact ⟨_, loop 7 0 (-1) (by omega) (by omega) (Or.inl ⟨rfl, fun c hc => by
    apply Classical.byContradiction
    intro q
    have := tb_c q
    omega⟩)⟩
theorem tr_rng (h64 : m ≤ 64) (hW : inv2 m W) {T : Int → Int → Int} (h : tr_inv b W T) : ∀ x c, T x c = -1 ∨ (0 ≤ T x c ∧ T x c < 64) := by
  intro x c
  by_cases q : T x c = -1
  · exact Or.inl q
  · have t := (h.1 x c q).1
    have w := hW x c (by rw [← t]; exact q)
    exact Or.inr ⟨by omega, by omega⟩
theorem s_trimF {post : fS → aS → Prop} {s : Nat} (hm : f 2 0 = (m : Int)) (h64 : m ≤ 64) (hb : f 2 1 = b) (b0 : 0 ≤ b ∧ b < m) (hW : inv2 m W) (hs : s < m) (h : tr_inv b W (tb (a 2 7) 0 64)) (hu : ∀ u : Int, 0 ≤ u → u < s → u ≠ b → ∀ c, ¬ one (tb (a 2 7) 0 64) u c) (hp : ∀ a', frN a a' → tr_inv b W (tb (a' 2 7) 0 64) → (∀ u : Int, 0 ≤ u → u ≤ s → u ≠ b → ∀ c, ¬ one (tb (a' 2 7) 0 64) u c) → post f a') : wp_D_trimFrom post (s : Int) f a := by
  have loop : ∀ (n k : Nat) (v : Int) (a1 : aS), k ≤ m → m < n + k → 0 ≤ v → v < m → frN a a1 → tr_inv b W (tb (a1 2 7) 0 64) → cvw m (tb (a1 2 7) 0 64) + k ≤ m → (∀ u : Int, 0 ≤ u → u ≤ s → u ≠ b → u ≠ v → ∀ c, ¬ one (tb (a1 2 7) 0 64) u c) → wb_D_trimFrom_4 post n v (k : Int) f a1 := by
    intro n
    induction n with
    | zero => intro k v a1 g1 g2; omega
    | succ n ih =>
      intro k v a1 g1 g2 v0 v1 hfr ht hcv hun
      have fin : (v ≠ b → ∀ c, ¬ one (tb (a1 2 7) 0 64) v c) → post f a1 := by
        intro hv
        refine hp a1 hfr ht (fun u u0 u1 ub => ?_)
        by_cases q : u = v
        · rw [q] at ub ⊢
          exact hv ub
        · exact hun u u0 u1 ub q
      rw [wb_D_trimFrom_4]
      refine ⟨⟨by omega, by omega⟩, ⟨by omega, by omega⟩, fun q => fin (fun _ c hc => hc.1 ?_), fun q => ⟨⟨by omega, by omega⟩, ⟨by omega, by omega⟩, fun z => fin (fun y => absurd (z.trans hb) y), fun z => ?_⟩⟩
      · exact cvw_zero (m := m) (by omega) v0 v1
      · refine s_only v0 (by omega) (tr_rng h64 hW ht) (fun y => ⟨by decide, fun w => absurd rfl w, fun _ => fin (fun _ => y)⟩) (fun c c0 c1 hc => ?_)
        obtain ⟨t1, t2⟩ := ht.1 v c hc.1
        obtain ⟨w1, w2, w3, w4⟩ := hW v c (by rw [← t1]; exact hc.1)
        have x := cx_in (M := 6) c0 c1 (by omega)
        have et := tbD_at v0 (by omega) c0 c1 (a1 2 7)
        refine ⟨⟨by omega, by omega⟩, fun _ => ⟨⟨by omega, by omega⟩, fun t htt => ?_⟩, fun y => by omega⟩
        rw [et] at htt
        have e1 : (k : Int) + 1 = ((k + 1 : Nat) : Int) := by omega
        rw [e1, setA_ss]
        have eT : tb (setA a1 2 7 (va_up (va_up (a1 2 7) (v * 6 + c).toNat (-1)) (t * 6 + cx c).toNat (-1)) 2 7) 0 64 = cut (tb (a1 2 7) 0 64) v c := by
          rw [setA_s, tbD_up (by omega) (by omega) x.1 x.2, tbD_up v0 (by omega) c0 c1, htt]
          rfl
        refine ⟨⟨c0, c1⟩, ⟨by omega, by omega⟩, ih (k + 1) t _ (by omega) (by omega) (by omega) (by omega) (frN_tr hfr frN_7) ?_ ?_ (fun u u0 u1 ub ut d hd => ?_)⟩
        · rw [eT]
          exact tr_step hW ht (fun y => z (y.trans hb.symm)) hc
        · rw [eT]
          have := cvw_cut hW ht hc
          omega
        · rw [eT] at hd
          obtain ⟨p1, p2⟩ := one_cut hW ht hc (by rw [← htt]; exact ut) hd
          exact hun u u0 u1 ub p1 d p2
  have hc0 : cvw m (tb (a 2 7) 0 64) + 0 ≤ m := pg_le _ _
  exact ⟨_, loop (m + 1) 0 s a (by omega) (by omega) (by omega) (by omega) (fun _ _ _ => rfl) h hc0 (fun u u0 u1 ub us => hu u u0 (by omega) ub)⟩
theorem s_trim {post : fS → aS → Prop} (hm : f 2 0 = (m : Int)) (h64 : m ≤ 64) (hb : f 2 1 = b) (b0 : 0 ≤ b ∧ b < m) (hW : inv2 m (tb (a 2 7) 0 64)) (hp : ∀ a', frN a a' → tr_spec b (tb (a 2 7) 0 64) (tb (a' 2 7) 0 64) → post f a') : wp_D_trim post f a := by
  have loop : ∀ (n s : Nat) (a1 : aS), s ≤ m → m < n + s → frN a a1 → tr_inv b (tb (a 2 7) 0 64) (tb (a1 2 7) 0 64) → (∀ u : Int, 0 ≤ u → u < s → u ≠ b → ∀ c, ¬ one (tb (a1 2 7) 0 64) u c) → wb_D_trim_2 post n (s : Int) f a1 := by
    intro n
    induction n with
    | zero => intro s a1 g1 g2; omega
    | succ n ih =>
      intro s a1 g1 g2 hfr ht hu
      rw [wb_D_trim_2]
      refine ⟨⟨by omega, by omega⟩, ⟨by omega, by omega⟩, fun q => hp a1 hfr (tr_end hW ht (fun x c xb hc => ?_)), fun q => ?_⟩
      · have t := (ht.1 x c hc.1).1
        have w := hW x c (by rw [← t]; exact hc.1)
        exact hu x w.1.1 (by omega) xb c hc
      · have e1 : (s : Int) + 1 = ((s + 1 : Nat) : Int) := by omega
        refine s_trimF hm h64 hb b0 hW (by omega) ht hu (fun a2 f2' t2 u2 => ?_)
        rw [e1]
        exact ih (s + 1) a2 (by omega) (by omega) (frN_tr hfr f2') t2 (fun u u0 u1 => u2 u u0 (by omega))
  exact ⟨_, loop (m + 1) 0 a (by omega) (by omega) (fun _ _ _ => rfl) (tr_start hW) (fun u u0 u1 => by omega)⟩
end
