/-- what the class's numbering leaves in object o -/
def cres (N : Int) (m : Nat) (nb : Int) (T : Int → Int → Int) (o : Nat) (f0 : fS) (a0 : aS) (f' : fS) (a' : aS) : Prop :=
  ∃ (S0 : bS) (n : Nat) (nu od : Nat → Int), bst m nb S0 ∧ bf_fin T S0 (n, nu, od, a' o 5, a' o 6, a' o 7) ∧ f' o 0 = (n : Int) ∧ a' o 6 0 = -1 ∧ gA f' a' o = stA n nu od T ∧ gok N f' a' o ∧ ∀ o' i, o' ≠ 2 → o' ≠ o → f' o' i = f0 o' i ∧ a' o' i = a0 o' i
theorem fr2_N {f0 f : fS} {a0 a a' : aS} (h : fr2 f0 f a0 a) (n : frN a a') : fr2 f0 f a0 a' := fun o i ho => ⟨(h o i ho).1, (n o i (fun z => ho z.1)).trans (h o i ho).2⟩
theorem frM_T {g0 g : fS} {b0 b b' : aS} (h : frM g0 g b0 b) (n : frT b b') : frM g0 g b0 b' := ⟨h.1, h.2.1, fun i hi => (n i (by omega) (by omega)).trans (h.2.2 i hi)⟩
theorem dS_sym {f : fS} {a : aS} {m e : Int} {E : Int → Int → Int → Prop} (h : dS f a m E e) (u c v : Int) (q : E u c v) : E v (cx c) u := (h.2.2 v (cx c) u).mp (er_sym ((h.2.2 u c v).mpr q))
theorem fo_rng {N : Int} {m : Nat} {E : Int → Int → Int → Prop} {nm : Nat → Int} {W : Int → Int → Int} (hE : fo_in m E) (hs : ∀ u c v, E u c v → E v (cx c) u) (hc : ∀ u c v, E u c v → 0 ≤ c ∧ c < 2 * N) (h : fo_spec m E nm W) : ∀ x c, W x c ≠ -1 → (0 ≤ x ∧ x < m) ∧ (0 ≤ c ∧ c < 2 * N) ∧ (0 ≤ W x c ∧ W x c < m) ∧ W (W x c) (cx c) = x := by
  intro x c q
  obtain ⟨u, v, he, hu, hv⟩ := h.2.2.2 x c q
  obtain ⟨u0, u1, v0, v1⟩ := hE u c v he
  have nu := h.1 u.toNat (by omega)
  have nv := h.1 v.toNat (by omega)
  refine ⟨by rw [← hu]; exact ⟨nu.1, nu.2.1⟩, hc u c v he, by rw [hv]; exact ⟨nv.1, nv.2.1⟩, ?_⟩
  rw [hv, h.2.2.1 v (cx c) u (hs u c v he), hu]
theorem c_num {post : Int → fS → aS → Prop} {N nb : Int} {m o : Nat} {f0 f : fS} {a0 a : aS} (ho : 3 ≤ o ∧ o < 7) (hN : 1 ≤ N ∧ N ≤ 3) (h64 : m ≤ 64) (h : fr2 f0 f a0 a) (hb : f 2 1 = nb) (b0 : 0 ≤ nb ∧ nb < m) (ht : tbl N m nb (tb (a 2 7) 0 64)) (hp : ∀ f' a', cres N m nb (tb (a 2 7) 0 64) o f0 a0 f' a' → post (f' o 0) f' a') : wp_D_numberInto post o f a := by
  refine s_num ho hN h64 hb b0 ht (fun f' a' S0 n nu od h1 h2 h3 h4 h5 h6 h7 => hp f' a' ⟨S0, n, nu, od, h1, h2, h3, h4, h5, h6, fun o' i u1 u2 => ?_⟩)
  exact ⟨(h7 o' i u1 u2).1.trans (h o' i u1).1, (h7 o' i u1 u2).2.trans (h o' i u1).2⟩
theorem m_endP {post : Int → fS → aS → Prop} {N nb bs s : Int} {m k : Nat} {T : Int → Int → Int} {Rl : Int → Int → Prop} {f0 f' g0 g : fS} {a0 a' b0 b : aS} (hI : Inv f0 a0 g0 b0) (hk : k < 4) (hs : s = (k : Int)) (hN : f0 0 0 = N) (hc : cres N m nb T (3 + k) f0 a0 f' a') (ht : tbl N m nb T) (h : frM g0 g b0 b) (h64 : m ≤ 64) (hb : g 0 9 = bs) (hR : is_bij Rl) (hT : is_tab Rl T (tb (b 0 15) 0 64)) (hin : ∀ x y, Rl x y → x < m ∧ y < m) (hbb : Rl nb bs) (hT0 : ∀ x c, tb (b 0 15) 0 64 x c ≠ -1 → 0 ≤ tb (b 0 15) 0 64 x c ∧ tb (b 0 15) 0 64 x c < m) (hp : ∀ z2 g1 b1, f' (3 + k) 0 = z2 ∧ Inv f' a' g1 b1 → post z2 g1 b1) : wp_M_settle post s g b := by
  obtain ⟨⟨w1, w2, w3, w4, w5, w6⟩, hG⟩ := hI
  have b1 := (hR.1 _ _ hbb).2
  have b2 := (hin _ _ hbb).2
  have hT1 : ∀ x c, tb (b 0 15) 0 64 x c = -1 ∨ (0 ≤ tb (b 0 15) 0 64 x c ∧ tb (b 0 15) 0 64 x c < m) := by
    intro x c
    by_cases q : tb (b 0 15) 0 64 x c = -1
    · exact Or.inl q
    · exact Or.inr (hT0 x c q)
  refine s_settle hs hk h64 hb ⟨b1, b2⟩ hT1 (fun b' S0' n' nu' od' h1 h2 h3 h4 h5 h6 h7 => ?_)
  obtain ⟨S0, n, nu, od, c1, c2, c3, c4, c5, c6, c7⟩ := hc
  have hN' : 1 ≤ N ∧ N ≤ 3 := by rw [← hN]; exact w1
  obtain ⟨e, le, _, eA, hpa, hde⟩ := nb_same hN'.2 h64 hR hT hin hbb ht c1 h1 c2 h2 c4
  subst e
  have fo : ∀ i, f' 0 i = f0 0 i := fun i => (c7 0 i (by omega) (by omega)).1
  have f1 : ∀ i, f' 1 i = f0 1 i := fun i => (c7 1 i (by omega) (by omega)).1
  have a1 : ∀ i, a' 1 i = a0 1 i := fun i => (c7 1 i (by omega) (by omega)).2
  refine hp _ _ _ ⟨c3, ⟨?_, ?_, ?_, ?_, ?_, ?_⟩, fun k' hk' => ?_⟩
  · rw [fo 0]; exact w1
  · rw [fo 0, h.1]; exact w2
  · rw [f1 1]; exact w3
  · rw [f1 1, h.2.1]; exact w4
  · rw [fo 0, f1 1, a1 0]; exact w5
  · intro i hi
    rw [f1 1] at hi
    rw [h5.1, h.2.2 2 (by omega), a1 0]
    exact w6 i hi
  · rw [fo 0, hN]
    by_cases z : k' = k
    · subst z
      refine ⟨c6, h3.trans c3.symm, ?_, fun i i1 i2 => ?_, fun i i2 => ?_⟩
      · rw [c3, h4, c5, eA]
      · rw [c3] at i2
        exact hpa i i1 (by omega)
      · rw [c3] at i2
        exact hde i (by omega)
    · obtain ⟨ok, r1, r2, r3, r4⟩ := hG k' hk'
      rw [hN] at ok
      have n64 := ok.1.1
      have ff : ∀ i, f' (3 + k') i = f0 (3 + k') i := fun i => (c7 (3 + k') i (by omega) (by omega)).1
      have aa : ∀ i, a' (3 + k') i = a0 (3 + k') i := fun i => (c7 (3 + k') i (by omega) (by omega)).2
      refine ⟨gok_congr ff (fun i _ => aa i) ok, ?_, ?_, fun i i1 i2 => ?_, fun i i2 => ?_⟩
      · rw [ff 0, h6 k' z, h.2.2 3 (by omega)]
        exact r1
      · have e1 : gA f' a' (3 + k') = gA f0 a0 (3 + k') := by
          show tb (a' (3 + k') 3) 0 (f' (3 + k') 0) = tb (a0 (3 + k') 3) 0 (f0 (3 + k') 0)
          rw [aa 3, ff 0]
        rw [e1, ← r2, ff 0]
        funext x c
        by_cases q : (0 ≤ x ∧ x < f0 (3 + k') 0) ∧ 0 ≤ c ∧ c < 6
        · rw [tb_at _ _ q.1.1 q.1.2 q.2.1 q.2.2, tb_at _ _ q.1.1 q.1.2 q.2.1 q.2.2, h7 _ (by omega), h.2.2 4 (by omega)]
        · unfold tb
          rw [if_neg q, if_neg q]
      · rw [ff 0] at i2
        have := r3 i i1 i2
        rw [h5.2.2 5 (by omega) (by omega) _ (by omega), h5.2.2 6 (by omega) (by omega) _ (by omega), h.2.2 5 (by omega), h.2.2 6 (by omega), aa 5, aa 6]
        exact this
      · rw [ff 0] at i2
        rw [h5.2.2 7 (by omega) (by omega) _ (by omega), h.2.2 7 (by omega), aa 7]
        exact r4 i i2
theorem m_foldP {post : Int → fS → aS → Prop} {N s e : Int} {m k : Nat} {E : Int → Int → Int → Prop} {nm : Nat → Int} {W : Int → Int → Int} {f0 f' g0 g : fS} {a0 a' b0 b : aS} (hI : Inv f0 a0 g0 b0) (hk : k < 4) (hs : s = (k : Int)) (hN : f0 0 0 = N) (m1 : 1 ≤ m) (h64 : m ≤ 64) (hE : fo_in m E) (hc6 : ∀ u c v, E u c v → 0 ≤ c ∧ c < 6) (hfo : fo_spec m E nm W) (ht : tbl N m (nm 0) W) (hc : cres N m (nm 0) W (3 + k) f0 a0 f' a') (h : frM g0 g b0 b) (hd : mS g b (m : Int) E e) (he : e ≤ 256) (hb : g 0 9 = 0) (hp : ∀ z2 g1 b1, f' (3 + k) 0 = z2 ∧ Inv f' a' g1 b1 → post z2 g1 b1) : wp_M_fold (fun g b => wp_M_settle post s g b) g b := by
  refine s_foldM hd he h64 hE hc6 (by rw [hb]; omega) (fun b' hf hsp => ?_)
  rw [hb]
  have iso := is_of_fold hE hfo hsp
  refine m_endP hI hk hs hN hc ht (frM_F (by omega) (frM_T h hf)) h64 (setF_s _ _ _ _) iso.1 iso.2 (is_rel_in hfo hsp) ⟨0, by omega, rfl, rfl⟩ (fun x c q => ?_) hp
  obtain ⟨u, v, he', hu, hv⟩ := hsp.2.2.2 x c q
  have := hE u c v he'
  rw [hv]
  have nv := hsp.1 v.toNat (by omega)
  exact ⟨nv.1, nv.2.1⟩
theorem m_trimE {N s e : Int} {m k bi : Nat} {E : Int → Int → Int → Prop} {nm : Nat → Int} {W T : Int → Int → Int} {f0 f' g0 g : fS} {a0 a' b0 b : aS} (hI : Inv f0 a0 g0 b0) (hk : k < 4) (hs : s = (k : Int)) (hN : f0 0 0 = N) (h64 : m ≤ 64) (hE : fo_in m E) (hsy : ∀ u c v, E u c v → E v (cx c) u) (hc6 : ∀ u c v, E u c v → 0 ≤ c ∧ c < 6) (hfo : fo_spec m E nm W) (htr : tr_spec (nm bi) W T) (ht : tbl N m (nm bi) T) (hc : cres N m (nm bi) T (3 + k) f0 a0 f' a') (h : frM g0 g b0 b) (hd : mS g b (m : Int) E e) (he : e ≤ 256) (hb : g 0 9 = (bi : Int)) (hbi : bi < m) : wp_M_fold (fun g b => wp_M_trim (fun g b => wp_M_settle (fun z2 g1 b1 => f' (3 + k) 0 = z2 ∧ Inv f' a' g1 b1) s g b) g b) g b := by
  refine s_foldM hd he h64 hE hc6 (by rw [hb]; omega) (fun b' hf hsp => ?_)
  rw [hb, Int.toNat_natCast]
  have iso := is_of_fold hE hfo hsp
  have rg := fo_rng (N := 3) hE hsy (fun u c v q => by have := hc6 u c v q; omega) hsp
  have nb := hsp.1 bi hbi
  refine s_trimM (m := m) ((setF_k _ _ (by omega)).trans hd.1) h64 (setF_s _ _ _ _) ⟨nb.1, nb.2.1⟩ (fun x c q => ?_) (fun b2 hf2 htr2 => ?_)
  · have := rg x c q
    exact ⟨this.1, by omega, this.2.2.1, this.2.2.2⟩
  · have hbb : is_rel m nm (b' 0 14) (nm bi) (b' 0 14 bi) := ⟨bi, hbi, rfl, rfl⟩
    refine m_endP hI hk hs hN hc ht (frM_F (by omega) (frM_T (frM_T h hf) hf2)) h64 (setF_s _ _ _ _) iso.1 (is_of_trim hbb iso.1 iso.2 htr htr2) (is_rel_in hfo hsp) hbb (fun x c q => ?_) (fun _ _ _ q => q)
    have e1 := (htr2.1 x c q).2.2.2.1
    rw [e1]
    exact (rg x c (by rw [← e1]; exact q)).2.2.1
