theorem s_beginM {post : fS → aS → Prop} {g : fS} {b : aS} {y : Int} (hp : ∀ g', frM g g' b b → mS g' b y (fun _ _ _ => False) 0 → g' 0 9 = 0 → post g' b) : wp_M_begin post y g b := by
  refine hp _ ⟨by simp [setF], by simp [setF], fun _ _ => rfl⟩ ⟨by simp [setF], ⟨by simp [setF], by simp [setF]⟩, fun u c v => ⟨fun q => ?_, fun q => q.elim⟩⟩ (by simp [setF])
  have e : ((setF (setF (setF g 0 8 y) 0 9 0) 0 10 0) 0 10).toNat = 0 := by simp [setF]
  rw [e] at q
  exact er_0 _ _ _ _ _ _ q
theorem sim_generate (f : fS) (a : aS) (g : fS) (b : aS) (x : Int) (hI : Inv f a g b) (hx : ir x) : wp_X_generate (fun z f1 a1 => wp_M_generate (fun z2 g1 b1 => z = z2 ∧ Inv f1 a1 g1 b1) x g b) x f a := by
  refine s_subN hx (fun h => s_grpN hx (fun _ => ⟨rfl, hI⟩) (fun h' => absurd h' h)) (fun h => ?_)
  obtain ⟨w1, w2, w3, w4, w5, w6⟩ := hI.1
  obtain ⟨k, rfl⟩ : ∃ k : Nat, x = (k : Int) := ⟨x.toNat, by omega⟩
  have hk : k < 4 := by omega
  obtain ⟨ok, hr⟩ := hI.2 k hk
  have nn := ok.1.1
  rw [Int.toNat_natCast]
  refine ⟨⟨by omega, by omega⟩, fun t ht => ⟨⟨by omega, by omega⟩, ⟨by omega, by omega⟩, fun q => ?_, fun q => ?_⟩⟩
  · obtain ⟨m, hm⟩ : ∃ m : Nat, (if f 1 1 = 0 then f (3 + k) 0 else f (3 + k) 0 + f 1 1 - 1) = (m : Int) := ⟨(if f 1 1 = 0 then f (3 + k) 0 else f (3 + k) 0 + f 1 1 - 1).toNat, by split <;> omega⟩
    have hm0 : f 1 1 = 0 → (m : Int) = f (3 + k) 0 := fun z => by rw [← hm, if_pos z]
    have hm1 : ¬ f 1 1 = 0 → (m : Int) = f (3 + k) 0 + f 1 1 - 1 := fun z => by rw [← hm, if_neg z]
    have m64 : m ≤ 64 := by
      by_cases z : f 1 1 = 0
      · have := hm0 z; omega
      · have := hm1 z; omega
    have mn : f (3 + k) 0 ≤ (m : Int) := by
      by_cases z : f 1 1 = 0
      · have := hm0 z; omega
      · have := hm1 z; omega
    have hin : ∀ u c v, (cp (gA f a (3 + k)) 0 u c v ∨ rng (f (3 + k) 0) (a 1 0) (f 1 1).toNat u c v) → (0 ≤ u ∧ u < (m : Int)) ∧ (0 ≤ c ∧ c < 2 * f 0 0) ∧ 0 ≤ v ∧ v < (m : Int) := by
      rintro u c v (y | y)
      · have := cp_in ok.1 (Int.le_refl 0) y
        omega
      · have y1 := y.1
        have := rng_in w5 nn.1 y
        have := hm1 (by omega)
        omega
    generalize hEE : (fun u c v => cp (gA f a (3 + k)) 0 u c v ∨ rng (f (3 + k) 0) (a 1 0) (f 1 1).toNat u c v) = E
    have hin' : ∀ u c v, E u c v → (0 ≤ u ∧ u < (m : Int)) ∧ (0 ≤ c ∧ c < 2 * f 0 0) ∧ 0 ≤ v ∧ v < (m : Int) := by
      rw [← hEE]
      exact hin
    have hE : fo_in m E := fun u c v y => by have := hin' u c v y; omega
    have hc : ∀ u c v, E u c v → 0 ≤ c ∧ c < 2 * f 0 0 := fun u c v y => (hin' u c v y).2.1
    have hc6 : ∀ u c v, E u c v → 0 ≤ c ∧ c < 6 := fun u c v y => by have := hc u c v y; omega
    have h2 : ∀ u : Nat, 1 ≤ u → u < m → ∃ c c' v v', c ≠ c' ∧ E u c v ∧ E u c' v' := by
      intro u u1 u2
      rw [← hEE]
      by_cases z : (u : Int) < f (3 + k) 0
      · obtain ⟨c, c', v, v', y1, y2, y3⟩ := cp_two ok.1 0 (x := (u : Int)) (by omega) z
        rw [Int.add_zero] at y2 y3
        exact ⟨c, c', v, v', y1, Or.inl y2, Or.inl y3⟩
      · have z0 : ¬ f 1 1 = 0 := fun z0 => by have := hm0 z0; omega
        have := hm1 z0
        obtain ⟨c, c', v, v', y1, y2, y3⟩ := rng_two w5 nn.1 (i := u - (f (3 + k) 0).toNat) (by omega)
        have e1 : f (3 + k) 0 + ((u - (f (3 + k) 0).toNat : Nat) : Int) = (u : Int) := by omega
        rw [e1] at y2 y3
        exact ⟨c, c', v, v', y1, Or.inr y2, Or.inr y3⟩
    refine s_begin (fr2_rf f a) (fun f1 a1 h1 d1 z1 _ => ?_)
    refine s_copy ⟨by omega, by omega⟩ w1 ok h1 d1 (by omega) (by omega) (by omega) (fun f2 a2 h2' d2 z2 => ?_)
    refine s_ring w1.2 h2' d2 w3 w5 (by omega) (by omega) (fun f3 a3 h3 d3 z3 => ?_)
    have e1 : 1 + f (3 + k) 0 - 1 = f (3 + k) 0 := by omega
    rw [e1, hm] at d3
    have d4 : dS f3 a3 (m : Int) E 195 := by
      refine dS_iff d3 (fun u c v => ?_) (by omega)
      rw [← hEE]
      exact ⟨fun y => y.elim (fun y => y.elim (fun y => y.elim) Or.inl) Or.inr, fun y => y.elim (fun y => Or.inl (Or.inr y)) Or.inr⟩
    have zb : f3 2 1 = 0 := z3.trans (z2.trans z1)
    refine s_fold d4 (by omega) (by omega) m64 hE hc6 (by omega) (fun a4 n4 sp => ?_)
    rw [zb]
    have ht : tbl (f 0 0) m (a4 2 6 0) (tb (a4 2 7) 0 64) := tbl_fold hE (dS_sym d4) hc h2 sp
    have s0 := sp.1 0 (by omega)
    refine c_num ⟨by omega, by omega⟩ w1 m64 (fr2_F (fr2_N h3 n4)) (setF_s _ _ _ _) ⟨s0.1, s0.2.1⟩ ht (fun f5 a5 hc5 => ?_)
    refine s_grpN hx (fun h' => absurd h h') (fun _ => ⟨h, fun t6 h6 => ?_⟩)
    rw [Int.toNat_natCast, hr.1] at h6
    subst h6
    have fin : ∀ (q : Nat) (g3 : fS) (b3 : aS), frM g g3 b b3 → mS g3 b3 (m : Int) E 256 → g3 0 9 = 0 → wb_M_generate_70 (fun z2 g1 b1 => f5 (3 + k) 0 = z2 ∧ Inv f5 a5 g1 b1) (q + 1) (k : Int) (f (3 + k) 0) (f 1 1) g3 b3 := by
      intro q g3 b3 y1 y2 y3
      rw [wb_M_generate_70, y1.2.1, w4]
      exact ⟨⟨by omega, by omega⟩, ⟨by omega, by omega⟩, fun _ => m_foldP hI hk rfl rfl (by omega) m64 hE hc6 sp ht hc5 y1 y2 (by omega) y3 (fun _ _ _ q => q), fun z => absurd (Int.le_refl _) z⟩
    have loop : ∀ (q i : Nat) (g3 : fS) (b3 : aS), (i : Int) < f 1 1 → f 1 1 < q + i → frM g g3 b b3 → mS g3 b3 (m : Int) (fun u c v => cp (gA f a (3 + k)) 0 u c v ∨ rwr (f (3 + k) 0) (a 1 0) i u c v) (3 * f (3 + k) 0 + i) → g3 0 9 = 0 → wb_M_generate_70 (fun z2 g1 b1 => f5 (3 + k) 0 = z2 ∧ Inv f5 a5 g1 b1) q (k : Int) (f (3 + k) 0) (i : Int) g3 b3 := by
      intro q
      induction q with
      | zero => intro i g3 b3 i1 i2; omega
      | succ q ih =>
        intro i g3 b3 i1 i2 y1 y2 y3
        obtain ⟨l1, l2, l3⟩ := w5.1 i (by omega)
        have step : wb_M_generate_92 (fun z2 g1 b1 => f5 (3 + k) 0 = z2 ∧ Inv f5 a5 g1 b1) (wb_M_generate_70 (fun z2 g1 b1 => f5 (3 + k) 0 = z2 ∧ Inv f5 a5 g1 b1) q) (k : Int) (f (3 + k) 0) (i : Int) (rend (f (3 + k) 0) i) g3 b3 := by
          rw [wb_M_generate_92, y1.2.1, w4, Int.toNat_natCast, y1.2.2 2 (by omega), w6 i i1]
          refine ⟨⟨by omega, by omega⟩, ⟨by omega, by omega⟩, ⟨by omega, by omega⟩, fun z => ?_, fun z => ?_⟩
          · refine s_edgeM ⟨by omega, by omega⟩ l1 y1 y2 (by omega) (fun g4 b4 v1 v2 v3 _ => ?_)
            have e2 : (i : Int) + 1 = ((i + 1 : Nat) : Int) := by omega
            rw [e2]
            refine ih (i + 1) g4 b4 (by omega) (by omega) v1 (mS_iff v2 (fun u c v => ?_) (by omega)) (v3.trans y3)
            rw [rwr_s]
            exact or_assoc
          · have ei : (i : Int) + 1 = f 1 1 := by omega
            obtain ⟨q', rfl⟩ : ∃ q', q = q' + 1 := ⟨q - 1, by omega⟩
            refine s_edgeM ⟨by omega, by omega⟩ l1 y1 y2 (by omega) (fun g4 b4 v1 v2 v3 _ => ?_)
            rw [ei]
            refine fin q' g4 b4 v1 (mS_iff v2 (fun u c v => ?_) (by omega)) (v3.trans y3)
            have e3 : (f 1 1).toNat - 1 = i := by omega
            rw [← hEE]
            show _ ↔ (cp (gA f a (3 + k)) 0 u c v ∨ rng (f (3 + k) 0) (a 1 0) (f 1 1).toNat u c v)
            unfold rng
            rw [e3]
            constructor
            · rintro ((y | y) | y)
              · exact Or.inl y
              · exact Or.inr ⟨by omega, Or.inl y⟩
              · exact Or.inr ⟨by omega, Or.inr y⟩
            · rintro (y | ⟨_, y | y⟩)
              · exact Or.inl (Or.inl y)
              · exact Or.inl (Or.inr y)
              · exact Or.inr y
        rw [wb_M_generate_70, y1.2.1, w4]
        refine ⟨⟨by omega, by omega⟩, ⟨by omega, by omega⟩, fun z => by omega, fun z => ⟨fun z' => ?_, fun z' => ?_⟩⟩
        · have er : rend (f (3 + k) 0) i = f (3 + k) 0 + (i : Int) - 1 := if_neg (by omega)
          rw [← er]
          exact step
        · have er : rend (f (3 + k) 0) i = 0 := if_pos (by omega)
          rw [← er]
          exact step
    have m59 : wb_M_generate_59 (fun z2 g1 b1 => f5 (3 + k) 0 = z2 ∧ Inv f5 a5 g1 b1) (k : Int) (f (3 + k) 0) (m : Int) g b := by
      refine s_beginM (fun g1 v1 v2 v3 => s_copyM (sh := 0) rfl hk w1 w2 ok hr v1 v2 (by omega) (by omega) (fun g2 b2 y1 y2 y3 => ?_))
      by_cases z : f 1 1 = 0
      · have r := fin 0 g2 b2 y1 (mS_iff y2 (fun u c v => ?_) (by omega)) (y3.trans v3)
        · rw [z] at r
          exact ⟨_, r⟩
        · rw [← hEE]
          refine ⟨fun y => y.elim (fun y => y.elim) Or.inl, fun y => y.elim Or.inr (fun y => ?_)⟩
          have := y.1
          omega
      · refine ⟨_, loop (f 1 1).toNat.succ 0 g2 b2 (by omega) (by omega) y1 (mS_iff y2 (fun u c v => ?_) (by omega)) (y3.trans v3)⟩
        exact ⟨fun y => y.elim (fun y => y.elim) Or.inl, fun y => y.elim Or.inr (fun y => absurd y (rwr_0 _ _ _ _ _))⟩
    have m39 : wb_M_generate_39 (fun z2 g1 b1 => f5 (3 + k) 0 = z2 ∧ Inv f5 a5 g1 b1) (k : Int) (f (3 + k) 0) g b := by
      rw [wb_M_generate_39, w4]
      refine ⟨⟨by omega, by omega⟩, fun z => ?_, fun z => ?_⟩
      · rw [hm0 (by omega)] at m59
        exact m59
      · rw [hm1 (by omega)] at m59
        exact m59
    rw [w4]
    exact ⟨⟨by omega, by omega⟩, fun _ => m39, fun z => ⟨⟨by omega, by omega⟩, fun _ => m39, fun z' => by omega⟩⟩
  · refine s_grpN hx (fun h' => absurd h h') (fun _ => ⟨h, fun t6 h6 => ?_⟩)
    rw [Int.toNat_natCast, hr.1] at h6
    subst h6
    rw [w4]
    exact ⟨⟨by omega, by omega⟩, fun z => by omega, fun z => ⟨⟨by omega, by omega⟩, fun z' => by omega, fun _ => ⟨rfl, hI⟩⟩⟩
