theorem bfr_no (S : bS) : ∀ j, bfr (fun _ _ => -1) S j = S := by
  intro j
  induction j with
  | zero => rfl
  | succ j ih =>
    show bf (fun _ _ => -1) (j / 6) (j % 6) (bfr (fun _ _ => -1) S j) = S
    rw [ih]
    obtain ⟨n, nu, od, pa, ar, de⟩ := S
    simp [bf]
theorem cres_0 {N : Int} {o : Nat} {f0 f' : fS} {a0 a' : aS} (h : gr0 f' a' o) (hf : ∀ o' i, o' ≠ o → f' o' i = f0 o' i ∧ a' o' i = a0 o' i) : cres N 1 0 (fun _ _ => -1) o f0 a0 f' a' := by
  obtain ⟨h1, h2, h3, h4, h5, h6, h7, h8⟩ := h
  refine ⟨(1, fun _ => 0, fun _ => 0, a' o 5, a' o 6, a' o 7), 1, fun _ => 0, fun _ => 0, ⟨rfl, rfl, by decide, rfl, fun x x1 x2 => absurd (Nat.lt_one_iff.mp x1) x2, h8⟩, ⟨(bfr_no _ _).symm, fun i hi => ?_⟩, h1, h7, ?_, gok_beg ⟨h1, h2, h3, h4, h5, h6, h7, h8⟩, fun o' i _ u => hf o' i u⟩
  · rw [bfr_no]
    have hi : i < 6 * 1 := hi
    show i / 6 < 1
    omega
  · funext x c
    have e1 : stA 1 (fun _ => 0) (fun _ => 0) (fun _ _ => -1) x c = -1 := if_neg (fun z => by
      have z2 : (0 : Int) ≤ -1 := z.2
      omega)
    rw [e1]
    show tb (a' o 3) 0 (f' o 0) x c = -1
    rw [h1]
    by_cases q : (0 ≤ x ∧ x < 1) ∧ 0 ≤ c ∧ c < 6
    · rw [tb_at _ _ q.1.1 q.1.2 q.2.1 q.2.2]
      exact h4 _ (by omega)
    · exact if_neg q
theorem sim_drop (f : fS) (a : aS) (g : fS) (b : aS) (x : Int) (hI : Inv f a g b) (hx : ir x) : wp_X_drop (fun z f1 a1 => wp_M_drop (fun z2 g1 b1 => z = z2 ∧ Inv f1 a1 g1 b1) x g b) x f a := by
  refine s_subN hx (fun h => s_grpN hx (fun _ => ⟨rfl, hI⟩) (fun h' => absurd h' h)) (fun h => ⟨h, fun t ht => ?_⟩)
  obtain ⟨k, rfl⟩ : ∃ k : Nat, x = (k : Int) := ⟨x.toNat, by omega⟩
  have hk : k < 4 := by omega
  obtain ⟨ok, hr⟩ := hI.2 k hk
  rw [Int.toNat_natCast] at ht ⊢
  refine ⟨⟨by omega, by omega⟩, ?_⟩
  generalize hf' : setF (setF (setF f (3 + k) 0 1) (3 + k) 1 0) (3 + k) 2 0 = f'
  generalize ha' : setA (setA (setA (setA (setA a (3 + k) 5 (va_up (a (3 + k) 5) (Int.toNat 0) (-1))) (3 + k) 6 (va_up (a (3 + k) 6) (Int.toNat 0) (-1))) (3 + k) 7 (va_up (a (3 + k) 7) (Int.toNat 0) 0)) (3 + k) 3 (fillA (a (3 + k) 3) 384 (-1))) (3 + k) 4 (fillA (a (3 + k) 4) 384 0) = a'
  have hgr : gr0 f' a' (3 + k) := by
    rw [← hf', ← ha']
    refine ⟨by simp [setF], by simp [setF], by simp [setF], fun j hj => ?_, fun j hj => ?_, by simp [setA, va_up], by simp [setA, va_up], by simp [setA, va_up]⟩
    · rw [setA_k _ _ (by omega), setA_s]
      exact if_pos hj
    · rw [setA_s]
      exact if_pos hj
  have hc : cres (f 0 0) 1 0 (fun _ _ => -1) (3 + k) f a f' a' := by
    refine cres_0 hgr (fun o' i u => ?_)
    rw [← hf', ← ha', setF_o _ _ u, setF_o _ _ u, setF_o _ _ u, setA_o _ _ u, setA_o _ _ u, setA_o _ _ u, setA_o _ _ u, setA_o _ _ u]
    exact ⟨rfl, rfl⟩
  refine s_grpN hx (fun h' => absurd h h') (fun _ => ⟨h, fun t6 h6 => ?_⟩)
  rw [Int.toNat_natCast, hr.1] at h6
  refine s_beginM (fun g1 v1 v2 v3 => ?_)
  have sp : fo_spec 1 (fun _ _ _ => False) (fun v => (v : Int)) (fun _ _ => -1) := fo_self (fun u c v => ⟨fun z => z.elim, fun z => z.2 z.1.symm⟩) (fun x c z => absurd rfl z)
  refine m_foldP (E := fun _ _ _ => False) (m := 1) (e := 0) hI hk rfl rfl (Nat.le_refl _) (by omega) (fun _ _ _ z => z.elim) (fun _ _ _ z => z.elim) sp ⟨fun x c z => absurd rfl z, fun x c z => absurd rfl z⟩ hc v1 v2 (by omega) v3 (fun z2 g2 b2 q => ⟨by rw [ht, h6], q.2⟩)
