theorem mS_9 {g : fS} {b : aS} {m e y : Int} {E : Int → Int → Int → Prop} (h : mS g b m E e) : mS (setF g 0 9 y) b m E e := by
  refine ⟨(setF_k _ _ (by omega)).trans h.1, ?_, fun u c v => ?_⟩
  · rw [setF_k _ _ (by omega)]
    exact h.2.1
  · rw [setF_k _ _ (by omega)]
    exact h.2.2 u c v
theorem sim_conjugate (f : fS) (a : aS) (g : fS) (b : aS) (x1 x2 : Int) (hI : Inv f a g b) (h1 : ir x1) (h2 : ir x2) : wp_X_conjugate (fun z f1 a1 => wp_M_conjugate (fun z2 g1 b1 => z = z2 ∧ Inv f1 a1 g1 b1) x1 x2 g b) x1 x2 f a := by
  obtain ⟨w1, w2, w3, w4, w5, w6⟩ := hI.1
  refine s_subB h1 (fun q => s_grpB h1 (fun _ => ⟨rfl, hI⟩) (fun z => absurd z q)) (fun q1 => ?_)
  refine s_subN h2 (fun q => s_grpB h1 (fun z => absurd q1 z) (fun _ => s_grpN h2 (fun _ => ⟨rfl, hI⟩) (fun z => absurd z q))) (fun q2 => ⟨q2, ?_⟩)
  obtain ⟨k, rfl⟩ : ∃ k : Nat, x1 = (k : Int) := ⟨x1.toNat, by omega⟩
  obtain ⟨k2, rfl⟩ : ∃ k : Nat, x2 = (k : Int) := ⟨x2.toNat, by omega⟩
  have hk : k < 4 := by omega
  have hk2 : k2 < 4 := by omega
  obtain ⟨ok, hr⟩ := hI.2 k2 hk2
  have nn := ok.1.1
  rw [Int.toNat_natCast, Int.toNat_natCast]
  refine ⟨⟨by omega, by omega⟩, fun q => ?_, fun q => ?_⟩
  · obtain ⟨m, hm⟩ : ∃ m : Nat, f (3 + k2) 0 + f 1 1 = (m : Int) := ⟨(f (3 + k2) 0 + f 1 1).toNat, by omega⟩
    have m64 : m ≤ 64 := by omega
    obtain ⟨bi, hbi⟩ : ∃ bi : Nat, rend (f (3 + k2) 0) (f 1 1).toNat = (bi : Int) := by
      refine ⟨(rend (f (3 + k2) 0) (f 1 1).toNat).toNat, ?_⟩
      unfold rend
      split <;> omega
    have bm : bi < m := by
      unfold rend at hbi
      split at hbi <;> omega
    have hin : ∀ u c v, (cp (gA f a (3 + k2)) 0 u c v ∨ rwr (f (3 + k2) 0) (a 1 0) (f 1 1).toNat u c v) → (0 ≤ u ∧ u < (m : Int)) ∧ (0 ≤ c ∧ c < 2 * f 0 0) ∧ 0 ≤ v ∧ v < (m : Int) := by
      rintro u c v (y | y)
      · have := cp_in ok.1 (Int.le_refl 0) y
        omega
      · have := rwr_in w5 (Nat.le_refl _) nn.1 y
        omega
    generalize hEE : (fun u c v => cp (gA f a (3 + k2)) 0 u c v ∨ rwr (f (3 + k2) 0) (a 1 0) (f 1 1).toNat u c v) = E
    have hin' : ∀ u c v, E u c v → (0 ≤ u ∧ u < (m : Int)) ∧ (0 ≤ c ∧ c < 2 * f 0 0) ∧ 0 ≤ v ∧ v < (m : Int) := by
      rw [← hEE]
      exact hin
    have hE : fo_in m E := fun u c v y => by have := hin' u c v y; omega
    have hc : ∀ u c v, E u c v → 0 ≤ c ∧ c < 2 * f 0 0 := fun u c v y => (hin' u c v y).2.1
    have hc6 : ∀ u c v, E u c v → 0 ≤ c ∧ c < 6 := fun u c v y => by have := hc u c v y; omega
    refine s_begin (fr2_rf f a) (fun f1 a1 h1' d1 z1 _ => ?_)
    refine s_copy ⟨by omega, by omega⟩ w1 ok h1' d1 (by omega) (by omega) (by omega) (fun f2 a2 h2' d2 z2 => ?_)
    refine s_move w1.2 h2' d2 w3 w5 (by omega) (by omega) (fun f3 a3 h3' d3 zb => ?_)
    have e1 : 1 + f (3 + k2) 0 - 1 = f (3 + k2) 0 := by omega
    rw [e1, hm] at d3
    rw [e1, hbi] at zb
    have d4 : dS f3 a3 (m : Int) E 195 := by
      refine dS_iff d3 (fun u c v => ?_) (by omega)
      rw [← hEE]
      exact ⟨fun y => y.elim (fun y => y.elim (fun y => y.elim) Or.inl) Or.inr, fun y => y.elim (fun y => Or.inl (Or.inr y)) Or.inr⟩
    have hsy := dS_sym d4
    refine s_fold d4 (by omega) (by omega) m64 hE hc6 (by omega) (fun a4 n4 sp => ?_)
    rw [zb, Int.toNat_natCast]
    have rg := fo_rng hE hsy hc sp
    have s0 := sp.1 bi bm
    refine s_trim (m := m) ((setF_k _ _ (by omega)).trans d4.1) m64 (setF_s _ _ _ _) ⟨s0.1, s0.2.1⟩ (fun x c y => ?_) (fun a6 n6 htr => ⟨q1, ?_⟩)
    · have := rg x c y
      exact ⟨this.1, by omega, this.2.2.1, this.2.2.2⟩
    have ht : tbl (f 0 0) m (a4 2 6 bi) (tb (a6 2 7) 0 64) := tbl_trim htr (fun x c y => ⟨(rg x c y).1, (rg x c y).2.1, (rg x c y).2.2.1⟩)
    refine c_num ⟨by omega, by omega⟩ w1 m64 (fr2_F (fr2_N (fr2_N h3' n4) n6)) (setF_s _ _ _ _) ⟨s0.1, s0.2.1⟩ ht (fun f5 a5 hc5 => ?_)
    refine s_grpB h1 (fun z => absurd q1 z) (fun _ => s_grpN h2 (fun z => absurd q2 z) (fun _ => ⟨q2, fun t ht' => ?_⟩))
    rw [Int.toNat_natCast, hr.1] at ht'
    subst ht'
    have fin : ∀ (g3 : fS) (b3 : aS) (y : Int), y = (bi : Int) → frM g g3 b b3 → mS g3 b3 (m : Int) E 256 → wb_M_conjugate_121 (fun z2 g1 b1 => f5 (3 + k) 0 = z2 ∧ Inv f5 a5 g1 b1) (k : Int) y g3 b3 := by
      intro g3 b3 y hy y1 y2
      exact m_trimE hI hk rfl rfl m64 hE hsy hc6 sp htr ht hc5 (frM_F (by omega) y1) (mS_9 y2) (by omega) ((setF_s _ _ _ _).trans hy) bm
    have loop : ∀ (q i : Nat) (g3 : fS) (b3 : aS), (i : Int) ≤ f 1 1 → f 1 1 < q + i → frM g g3 b b3 → mS g3 b3 (m : Int) (fun u c v => cp (gA f a (3 + k2)) 0 u c v ∨ rwr (f (3 + k2) 0) (a 1 0) i u c v) (3 * f (3 + k2) 0 + i) → wb_M_conjugate_56 (fun z2 g1 b1 => f5 (3 + k) 0 = z2 ∧ Inv f5 a5 g1 b1) q (k : Int) (f (3 + k2) 0) (i : Int) g3 b3 := by
      intro q
      induction q with
      | zero => intro i g3 b3 i1 i2; omega
      | succ q ih =>
        intro i g3 b3 i1 i2 y1 y2
        rw [wb_M_conjugate_56, y1.2.1, w4]
        refine ⟨⟨by omega, by omega⟩, ⟨by omega, by omega⟩, fun z => ?_, fun z => ?_⟩
        · have ei : i = (f 1 1).toNat := by omega
          have y3 : mS g3 b3 (m : Int) E 256 := by
            refine mS_iff y2 (fun u c v => ?_) (by omega)
            rw [← hEE, ei]
          refine ⟨fun z' => fin g3 b3 _ ?_ y1 y3, fun z' => fin g3 b3 _ ?_ y1 y3⟩
          · rw [← hbi]
            unfold rend
            rw [if_neg (by omega)]
            omega
          · rw [← hbi]
            unfold rend
            rw [if_pos (by omega)]
        · obtain ⟨l1, l2, l3⟩ := w5.1 i (by omega)
          have step : wb_M_conjugate_81 (fun z2 g1 b1 => f5 (3 + k) 0 = z2 ∧ Inv f5 a5 g1 b1) (wb_M_conjugate_56 (fun z2 g1 b1 => f5 (3 + k) 0 = z2 ∧ Inv f5 a5 g1 b1) q) (k : Int) (f (3 + k2) 0) (i : Int) (rend (f (3 + k2) 0) i) g3 b3 := by
            rw [wb_M_conjugate_81, Int.toNat_natCast, y1.2.2 2 (by omega), w6 i (by omega)]
            refine ⟨⟨by omega, by omega⟩, s_edgeM ⟨by omega, by omega⟩ l1 y1 y2 (by omega) (fun g4 b4 v1 v2 v3 _ => ?_)⟩
            have e2 : (i : Int) + 1 = ((i + 1 : Nat) : Int) := by omega
            rw [e2]
            refine ih (i + 1) g4 b4 (by omega) (by omega) v1 (mS_iff v2 (fun u c v => ?_) (by omega))
            rw [rwr_s]
            exact or_assoc
          refine ⟨fun z' => ?_, fun z' => ?_⟩
          · have er : rend (f (3 + k2) 0) i = f (3 + k2) 0 + (i : Int) - 1 := if_neg (by omega)
            rw [← er]
            exact step
          · have er : rend (f (3 + k2) 0) i = 0 := if_pos (by omega)
            rw [← er]
            exact step
    rw [w4, hm]
    refine ⟨⟨by omega, by omega⟩, fun _ => ?_, fun z => by omega⟩
    refine s_beginM (fun g1 v1 v2 v3 => s_copyM (sh := 0) rfl hk2 w1 w2 ok hr v1 v2 (by omega) (by omega) (fun g2 b2 y1 y2 y3 => ?_))
    refine ⟨_, loop (f 1 1).toNat.succ 0 g2 b2 (by omega) (by omega) y1 (mS_iff y2 (fun u c v => ?_) (by omega))⟩
    exact ⟨fun y => y.elim (fun y => y.elim) Or.inl, fun y => y.elim Or.inr (fun y => absurd y (rwr_0 _ _ _ _ _))⟩
  · refine s_grpB h1 (fun z => absurd q1 z) (fun _ => s_grpN h2 (fun z => absurd q2 z) (fun _ => ⟨q2, fun t ht' => ?_⟩))
    rw [Int.toNat_natCast, hr.1] at ht'
    subst ht'
    rw [w4]
    exact ⟨⟨by omega, by omega⟩, fun z => absurd z q, fun _ => ⟨rfl, hI⟩⟩
