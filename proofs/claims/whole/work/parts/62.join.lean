theorem sim_join (f : fS) (a : aS) (g : fS) (b : aS) (x1 x2 x3 : Int) (hI : Inv f a g b) (h1 : ir x1) (h2 : ir x2) (h3 : ir x3) : wp_X_join (fun z f1 a1 => wp_M_join (fun z2 g1 b1 => z = z2 ∧ Inv f1 a1 g1 b1) x1 x2 x3 g b) x1 x2 x3 f a := by
  obtain ⟨w1, w2, w3, w4, w5, w6⟩ := hI.1
  refine s_subB h1 (fun q => s_grpB h1 (fun _ => ⟨rfl, hI⟩) (fun z => absurd z q)) (fun q1 => ?_)
  refine s_subB h2 (fun q => s_grpB h1 (fun z => absurd q1 z) (fun _ => s_grpB h2 (fun _ => ⟨rfl, hI⟩) (fun z => absurd z q))) (fun q2 => ?_)
  refine s_subN h3 (fun q => s_grpB h1 (fun z => absurd q1 z) (fun _ => s_grpB h2 (fun z => absurd q2 z) (fun _ => s_grpN h3 (fun _ => ⟨rfl, hI⟩) (fun z => absurd z q)))) (fun q3 => ⟨q2, q3, ?_⟩)
  obtain ⟨k, rfl⟩ : ∃ k : Nat, x1 = (k : Int) := ⟨x1.toNat, by omega⟩
  obtain ⟨k2, rfl⟩ : ∃ k : Nat, x2 = (k : Int) := ⟨x2.toNat, by omega⟩
  obtain ⟨k3, rfl⟩ : ∃ k : Nat, x3 = (k : Int) := ⟨x3.toNat, by omega⟩
  have hk : k < 4 := by omega
  have hk2 : k2 < 4 := by omega
  have hk3 : k3 < 4 := by omega
  obtain ⟨ok2, hr2⟩ := hI.2 k2 hk2
  obtain ⟨ok3, hr3⟩ := hI.2 k3 hk3
  have n2 := ok2.1.1
  have n3 := ok3.1.1
  rw [Int.toNat_natCast, Int.toNat_natCast, Int.toNat_natCast]
  refine ⟨⟨by omega, by omega⟩, fun q => ?_, fun q => ?_⟩
  · obtain ⟨m, hm⟩ : ∃ m : Nat, f (3 + k2) 0 + f (3 + k3) 0 - 1 = (m : Int) := ⟨(f (3 + k2) 0 + f (3 + k3) 0 - 1).toNat, by omega⟩
    have m64 : m ≤ 64 := by omega
    have hin : ∀ u c v, (cp (gA f a (3 + k2)) 0 u c v ∨ cp (gA f a (3 + k3)) (f (3 + k2) 0 - 1) u c v) → (0 ≤ u ∧ u < (m : Int)) ∧ (0 ≤ c ∧ c < 2 * f 0 0) ∧ 0 ≤ v ∧ v < (m : Int) := by
      rintro u c v (y | y)
      · have := cp_in ok2.1 (Int.le_refl 0) y
        omega
      · have := cp_in ok3.1 (by omega) y
        omega
    generalize hEE : (fun u c v => cp (gA f a (3 + k2)) 0 u c v ∨ cp (gA f a (3 + k3)) (f (3 + k2) 0 - 1) u c v) = E
    have hin' : ∀ u c v, E u c v → (0 ≤ u ∧ u < (m : Int)) ∧ (0 ≤ c ∧ c < 2 * f 0 0) ∧ 0 ≤ v ∧ v < (m : Int) := by
      rw [← hEE]
      exact hin
    have hE : fo_in m E := fun u c v y => by have := hin' u c v y; omega
    have hc : ∀ u c v, E u c v → 0 ≤ c ∧ c < 2 * f 0 0 := fun u c v y => (hin' u c v y).2.1
    have hc6 : ∀ u c v, E u c v → 0 ≤ c ∧ c < 6 := fun u c v y => by have := hc u c v y; omega
    have h2w : ∀ u : Nat, 1 ≤ u → u < m → ∃ c c' v v', c ≠ c' ∧ E u c v ∧ E u c' v' := by
      intro u u1 u2
      rw [← hEE]
      by_cases z : (u : Int) < f (3 + k2) 0
      · obtain ⟨c, c', v, v', y1, y2, y3⟩ := cp_two ok2.1 0 (x := (u : Int)) (by omega) z
        rw [Int.add_zero] at y2 y3
        exact ⟨c, c', v, v', y1, Or.inl y2, Or.inl y3⟩
      · obtain ⟨c, c', v, v', y1, y2, y3⟩ := cp_two ok3.1 (f (3 + k2) 0 - 1) (x := (u : Int) - (f (3 + k2) 0 - 1)) (by omega) (by omega)
        rw [Int.sub_add_cancel] at y2 y3
        exact ⟨c, c', v, v', y1, Or.inr y2, Or.inr y3⟩
    refine s_begin (fr2_rf f a) (fun f1 a1 h1' d1 z1 _ => ?_)
    refine s_copy ⟨by omega, by omega⟩ w1 ok2 h1' d1 (by omega) (by omega) (by omega) (fun f2 a2 h2' d2 z2 => ?_)
    refine s_copy ⟨by omega, by omega⟩ w1 ok3 h2' d2 (by omega) (by omega) (by omega) (fun f3 a3 h3' d3 z3 => ?_)
    have e1 : 1 + f (3 + k2) 0 - 1 = f (3 + k2) 0 := by omega
    rw [e1, hm] at d3
    have d4 : dS f3 a3 (m : Int) E 195 := by
      refine dS_iff d3 (fun u c v => ?_) (by omega)
      rw [← hEE]
      exact ⟨fun y => y.elim (fun y => y.elim (fun y => y.elim) Or.inl) Or.inr, fun y => y.elim (fun y => Or.inl (Or.inr y)) Or.inr⟩
    have zb : f3 2 1 = 0 := z3.trans (z2.trans z1)
    refine s_fold d4 (by omega) (by omega) m64 hE hc6 (by omega) (fun a4 n4 sp => ⟨q1, ?_⟩)
    rw [zb]
    have ht : tbl (f 0 0) m (a4 2 6 0) (tb (a4 2 7) 0 64) := tbl_fold hE (dS_sym d4) hc h2w sp
    have s0 := sp.1 0 (by omega)
    refine c_num ⟨by omega, by omega⟩ w1 m64 (fr2_F (fr2_N h3' n4)) (setF_s _ _ _ _) ⟨s0.1, s0.2.1⟩ ht (fun f5 a5 hc5 => ?_)
    refine s_grpB h1 (fun z => absurd q1 z) (fun _ => s_grpB h2 (fun z => absurd q2 z) (fun _ => s_grpN h3 (fun z => absurd q3 z) (fun _ => ⟨q2, q3, fun t ht' => ?_⟩)))
    rw [Int.toNat_natCast, Int.toNat_natCast, hr2.1, hr3.1, hm] at ht'
    subst ht'
    refine ⟨⟨by omega, by omega⟩, fun _ => ?_, fun z => by omega⟩
    refine s_beginM (fun g1 v1 v2 v3 => s_copyM (sh := 0) rfl hk2 w1 w2 ok2 hr2 v1 v2 (by omega) (by omega) (fun g2 b2 y1 y2 y3 => ?_))
    rw [Int.toNat_natCast, y1.2.2 3 (by omega), hr2.1]
    refine s_copyM rfl hk3 w1 w2 ok3 hr3 y1 y2 (by omega) (by omega) (fun g3 b3 u1 u2 u3 => ?_)
    refine m_foldP hI hk rfl rfl (by omega) m64 hE hc6 sp ht hc5 u1 (mS_iff (e' := 256) u2 (fun u c v => ?_) (by omega)) (by omega) (u3.trans (y3.trans v3)) (fun _ _ _ q => q)
    rw [← hEE]
    exact ⟨fun y => y.elim (fun y => y.elim (fun y => y.elim) Or.inl) Or.inr, fun y => y.elim (fun y => Or.inl (Or.inr y)) Or.inr⟩
  · refine s_grpB h1 (fun z => absurd q1 z) (fun _ => s_grpB h2 (fun z => absurd q2 z) (fun _ => s_grpN h3 (fun z => absurd q3 z) (fun _ => ⟨q2, q3, fun t ht' => ?_⟩)))
    rw [Int.toNat_natCast, Int.toNat_natCast, hr2.1, hr3.1] at ht'
    subst ht'
    exact ⟨⟨by omega, by omega⟩, fun z => absurd z q, fun _ => ⟨rfl, hI⟩⟩
