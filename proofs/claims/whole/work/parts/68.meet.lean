theorem inv_frs {f f' g g' : fS} {a a' b b' : aS} (hI : Inv f a g b) (h : fr2 f f' a a') (hm : frM g g' b b') : Inv f' a' g' b' := by
  refine inv_of hI ⟨(h 0 0 (by omega)).1, fun o i ho => (h o i (by omega)).1, fun o i ho _ => (h o i (by omega)).2, fun i _ i7 => hm.2.2 i i7⟩ ?_
  obtain ⟨w1, w2, w3, w4, w5, w6⟩ := hI.1
  have e0 := (h 0 0 (by omega)).1
  have e1 := (h 1 1 (by omega)).1
  have e2 := (h 1 0 (by omega)).2
  refine ⟨?_, ?_, ?_, ?_, ?_, ?_⟩
  · rw [e0]; exact w1
  · rw [e0, hm.1]; exact w2
  · rw [e1]; exact w3
  · rw [e1, hm.2.1]; exact w4
  · rw [e0, e1, e2]; exact w5
  · rw [e1, e2, hm.2.2 2 (by omega)]; exact w6
theorem sim_meet (f : fS) (a : aS) (g : fS) (b : aS) (x1 x2 x3 : Int) (hI : Inv f a g b) (h1 : ir x1) (h2 : ir x2) (h3 : ir x3) : wp_X_meet (fun z f1 a1 => wp_M_meet (fun z2 g1 b1 => z = z2 ∧ Inv f1 a1 g1 b1) x1 x2 x3 g b) x1 x2 x3 f a := by
  obtain ⟨w1, w2, w3, w4, w5, w6⟩ := hI.1
  refine s_subB h1 (fun q => s_grpB h1 (fun _ => ⟨rfl, hI⟩) (fun z => absurd z q)) (fun q1 => ?_)
  refine s_subB h2 (fun q => s_grpB h1 (fun z => absurd q1 z) (fun _ => s_grpB h2 (fun _ => ⟨rfl, hI⟩) (fun z => absurd z q))) (fun q2 => ?_)
  refine s_subN h3 (fun q => s_grpB h1 (fun z => absurd q1 z) (fun _ => s_grpB h2 (fun z => absurd q2 z) (fun _ => s_grpN h3 (fun _ => ⟨rfl, hI⟩) (fun z => absurd z q)))) (fun q3 => ?_)
  obtain ⟨k, rfl⟩ : ∃ k : Nat, x1 = (k : Int) := ⟨x1.toNat, by omega⟩
  obtain ⟨k2, rfl⟩ : ∃ k : Nat, x2 = (k : Int) := ⟨x2.toNat, by omega⟩
  obtain ⟨k3, rfl⟩ : ∃ k : Nat, x3 = (k : Int) := ⟨x3.toNat, by omega⟩
  have hk : k < 4 := by omega
  have hk2 : k2 < 4 := by omega
  have hk3 : k3 < 4 := by omega
  obtain ⟨ok2, hr2⟩ := hI.2 k2 hk2
  obtain ⟨ok3, hr3⟩ := hI.2 k3 hk3
  rw [Int.toNat_natCast, Int.toNat_natCast, Int.toNat_natCast]
  refine s_begin (fr2_rf f a) (fun f1 a1 h1' d1 z1 hz => ⟨q2, q3, ?_⟩)
  refine s_pairs ⟨by omega, by omega⟩ ⟨by omega, by omega⟩ w1 ok2 ok3 h1' d1.1 hz (fun hfull f2 a2 h2' => ⟨by decide, fun y => absurd rfl y, fun _ => ?_⟩) (fun f2 a2 l h2' hfin hms his el eb => ⟨by decide, fun _ => ?_, fun y => absurd (by decide) y⟩)
  · refine s_grpB h1 (fun z => absurd q1 z) (fun _ => s_grpB h2 (fun z => absurd q2 z) (fun _ => s_grpN h3 (fun z => absurd q3 z) (fun _ => s_beginM (fun g1 v1 v2 v3 => ?_))))
    exact s_meetM hk2 hk3 w1 ok2 ok3 hr2 hr3 v1 v2 v3 (fun _ g' b' hm => ⟨rfl, inv_frs hI h2' hm⟩) (fun g' b' l W _ hfin _ _ _ => (mfin_full hfin hfull).elim)
  · have l64 := hms.2.1
    obtain ⟨l1, _⟩ := List.getElem?_eq_some_iff.mp hms.1
    have inv := ism_inv w1.2 ok2.1 ok3.1 hms his
    have zb : f2 2 1 = ((0 : Nat) : Int) := eb.trans z1
    have hW : inv2 l.length (tb (a2 2 7) 0 64) := fun x c y => by
      have := inv x c y
      exact ⟨this.1, by omega, this.2.2.1, this.2.2.2⟩
    refine s_trim (m := l.length) el l64 zb (by omega) hW (fun a6 n6 htr => ⟨q1, ?_⟩)
    have ht : tbl (f 0 0) l.length ((0 : Nat) : Int) (tb (a6 2 7) 0 64) := tbl_trim htr (fun x c y => ⟨(inv x c y).1, (inv x c y).2.1, (inv x c y).2.2.1⟩)
    refine c_num ⟨by omega, by omega⟩ w1 l64 (fr2_N h2' n6) zb (by omega) ht (fun f5 a5 hc5 => ?_)
    refine s_grpB h1 (fun z => absurd q1 z) (fun _ => s_grpB h2 (fun z => absurd q2 z) (fun _ => s_grpN h3 (fun z => absurd q3 z) (fun _ => s_beginM (fun g1 v1 v2 v3 => ?_))))
    refine s_meetM hk2 hk3 w1 ok2 ok3 hr2 hr3 v1 v2 v3 (fun hfull => (mfin_full hfin hfull).elim) (fun g' b' l' W' fr hfin' his' hmS z9 => ?_)
    have e1 := mfin_uniq hfin' hfin
    subst e1
    have e2 := ism_uniq hms his his'
    rw [← e2] at hmS
    have ew := EW_all (W := tb (a2 2 7) 0 64) (fun x c y => by
      have := inv x c y
      exact ⟨this.2.1.1, this.2.2.1.1, this.2.2.2, this.1.1⟩)
    have sp : fo_spec l'.length (fun u c v => tb (a2 2 7) 0 64 u c = v ∧ v ≠ -1) (fun v => (v : Int)) (tb (a2 2 7) 0 64) := fo_self (fun u c v => Iff.rfl) (fun x c y => by
      have := inv x c y
      omega)
    refine m_trimE (bi := 0) hI hk rfl rfl l64 (E := fun u c v => tb (a2 2 7) 0 64 u c = v ∧ v ≠ -1) ?_ ?_ ?_ sp htr ht hc5 fr (mS_iff (e' := 200) hmS ew (by omega)) (by omega) z9 l1
    · rintro u c v ⟨y1, y2⟩
      have := inv u c (by rw [y1]; exact y2)
      rw [y1] at this
      omega
    · rintro u c v ⟨y1, y2⟩
      have := inv u c (by rw [y1]; exact y2)
      rw [y1] at this
      exact ⟨this.2.2.2, by omega⟩
    · rintro u c v ⟨y1, y2⟩
      have := inv u c (by rw [y1]; exact y2)
      omega
