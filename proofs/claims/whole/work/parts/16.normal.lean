section
variable {N n : Int} {A : Int → Int → Int} {pa ar de : Nat → Int}
theorem cx_inj {a b : Int} (h : cx a = cx b) : a = b := by rw [← cx_cx a, h, cx_cx]
theorem cx_ne (c : Int) : c ≠ cx c := by unfold cx; omega
/-- two steps of the tree do not cancel -/
theorem gi_red (h : gi N n A pa ar de) {x : Int} (h0 : 1 ≤ x) (h1 : x < n) (hp : 1 ≤ pa x.toNat) : ar x.toNat ≠ cx (ar (pa x.toNat).toNat) := by
  intro e
  obtain ⟨t1, t2, t3, t4, t5⟩ := gi_tree h h0 h1
  obtain ⟨s1, s2, s3, s4, s5⟩ := gi_tree h hp (by omega)
  rw [e, s3] at t2
  omega
theorem ew_in (h : gi N n A pa ar de) {v c : Int} (hn : nt A ar v c) {j : Nat} (hj : j < (de v.toNat).toNat + 1 + (de (A v c).toNat).toNat) : 0 ≤ ew pa ar de v c (A v c) j ∧ ew pa ar de v c (A v c) j < 2 * N := by
  obtain ⟨b1, b2, b3, b4⟩ := h.2.1 v c hn.1
  have dv := gi_deI h b1.1 b1.2
  have dt := gi_deI h b3.1 b3.2
  unfold ew
  split
  · obtain ⟨a1, a2⟩ := clb_pos h (j := (de v.toNat - 1 - (j : Int)).toNat) b1.1 b1.2 (by omega)
    exact (gi_tree h a1 a2).2.2.2.1
  · split
    · exact b2
    · obtain ⟨a1, a2⟩ := clb_pos h (j := ((j : Int) - de v.toNat - 1).toNat) b3.1 b3.2 (by omega)
      have t := (gi_tree h a1 a2).2.2.2.1
      exact cx_in (M := 2 * N) t.1 t.2 (by omega)
theorem ew_red (h : gi N n A pa ar de) {v c : Int} (hn : nt A ar v c) {i : Nat} (hi : i + 1 < (de v.toNat).toNat + 1 + (de (A v c).toNat).toNat) : ew pa ar de v c (A v c) (i + 1) ≠ cx (ew pa ar de v c (A v c) i) := by
  obtain ⟨b1, b2, b3, b4⟩ := h.2.1 v c hn.1
  have dv := gi_deI h b1.1 b1.2
  have dt := gi_deI h b3.1 b3.2
  have c1 : ((i + 1 : Nat) : Int) = (i : Int) + 1 := by omega
  rcases Int.lt_trichotomy ((i : Int) + 1) (de v.toNat) with q | q | q
  · have e1 : ew pa ar de v c (A v c) (i + 1) = ar (clb pa v (de v.toNat - 2 - (i : Int)).toNat).toNat := by
      unfold ew tw
      rw [if_pos (by omega)]
      have e : (de v.toNat - 1 - ((i + 1 : Nat) : Int)).toNat = (de v.toNat - 2 - (i : Int)).toNat := by omega
      rw [e]
    have e2 : ew pa ar de v c (A v c) i = ar (pa (clb pa v (de v.toNat - 2 - (i : Int)).toNat).toNat).toNat := by
      unfold ew tw
      rw [if_pos (by omega)]
      have e : (de v.toNat - 1 - (i : Int)).toNat = (de v.toNat - 2 - (i : Int)).toNat + 1 := by omega
      rw [e]
      rfl
    obtain ⟨a1, a2⟩ := clb_pos h (j := (de v.toNat - 2 - (i : Int)).toNat) b1.1 b1.2 (by omega)
    have a3 := (clb_pos h (j := (de v.toNat - 2 - (i : Int)).toNat + 1) b1.1 b1.2 (by omega)).1
    rw [e1, e2]
    exact gi_red h a1 a2 a3
  · have e1 : ew pa ar de v c (A v c) (i + 1) = c := by
      unfold ew
      rw [if_neg (by omega), if_pos (by omega)]
    have e2 : ew pa ar de v c (A v c) i = ar v.toNat := by
      unfold ew tw
      rw [if_pos (by omega)]
      have e : (de v.toNat - 1 - (i : Int)).toNat = 0 := by omega
      rw [e]
      rfl
    rw [e1, e2]
    intro z
    apply hn.2.2
    rw [z, cx_cx]
  · have e1 : ew pa ar de v c (A v c) (i + 1) = cx (ar (clb pa (A v c) ((i : Int) - de v.toNat).toNat).toNat) := by
      unfold ew
      rw [if_neg (by omega), if_neg (by omega)]
      have e : (((i + 1 : Nat) : Int) - de v.toNat - 1).toNat = ((i : Int) - de v.toNat).toNat := by omega
      rw [e]
    by_cases q2 : (i : Int) = de v.toNat
    · have e2 : ew pa ar de v c (A v c) i = c := by
        unfold ew
        rw [if_neg (by omega), if_pos q2]
      have e3 : ((i : Int) - de v.toNat).toNat = 0 := by omega
      rw [e1, e2, e3]
      intro z
      exact hn.2.1 (cx_inj z)
    · have e2 : ew pa ar de v c (A v c) i = cx (ar (clb pa (A v c) ((i : Int) - de v.toNat - 1).toNat).toNat) := by
        unfold ew
        rw [if_neg (by omega), if_neg q2]
      have e3 : ((i : Int) - de v.toNat).toNat = ((i : Int) - de v.toNat - 1).toNat + 1 := by omega
      obtain ⟨a1, a2⟩ := clb_pos h (j := ((i : Int) - de v.toNat - 1).toNat) b3.1 b3.2 (by omega)
      have a3 := (clb_pos h (j := ((i : Int) - de v.toNat - 1).toNat + 1) b3.1 b3.2 (by omega)).1
      rw [e1, e2, e3, cx_cx]
      intro z
      exact gi_red h a1 a2 a3 z.symm
/-- a reduced word doesn't loop deep in a hanging tree -/
theorem deep {v c : Int} {w : Nat → Int} {L : Nat} (hred : ∀ i, i + 1 < L → w (i + 1) ≠ cx (w i)) {j : Nat} (hj : L ≤ j) (hL : 1 ≤ L) : rg (rd A) (v, List.replicate j c) w L ≠ (v, List.replicate j c) := by
  have key : ∀ i, i ≤ L → (rg (rd A) (v, List.replicate j c) w i = (v, List.replicate (j - i) c) ∧ (1 ≤ i → w (i - 1) = cx c)) ∨ (1 ≤ i ∧ ∃ s, rg (rd A) (v, List.replicate j c) w i = (v, w (i - 1) :: s) ∧ ∃ b, b ∈ w (i - 1) :: s ∧ b ≠ c) ∨ (1 ≤ i ∧ ∃ s : List Int, rg (rd A) (v, List.replicate j c) w i = (v, w (i - 1) :: s) ∧ s.length + 1 = j + i) := by
    intro i
    induction i with
    | zero => intro _; exact Or.inl ⟨rfl, fun q => absurd q (by omega)⟩
    | succ i ih =>
      intro hi
      have st : rg (rd A) (v, List.replicate j c) w (i + 1) = rd A (rg (rd A) (v, List.replicate j c) w i) (w i) := rfl
      have ei : i + 1 - 1 = i := by omega
      rw [ei]
      rcases ih (by omega) with ⟨p1, p2⟩ | ⟨p1, s, p2, b, p3, p4⟩ | ⟨p1, s, p2, p3⟩
      · obtain ⟨r, hr⟩ : ∃ r, j - i = r + 1 := ⟨j - i - 1, by omega⟩
        rw [hr, List.replicate_succ] at p1
        have hr2 : j - (i + 1) = r := by omega
        rw [st, p1]
        by_cases q : w i = cx c
        · refine Or.inl ⟨?_, fun _ => q⟩
          simp only [rd]
          rw [if_pos q, hr2]
        · by_cases z : i = 0
          · refine Or.inr (Or.inr ⟨by omega, c :: List.replicate r c, ?_, ?_⟩)
            · simp only [rd]
              rw [if_neg q]
            · simp only [List.length_cons, List.length_replicate]
              omega
          · refine Or.inr (Or.inl ⟨by omega, c :: List.replicate r c, ?_, w i, List.mem_cons_self, ?_⟩)
            · simp only [rd]
              rw [if_neg q]
            · have h1 := hred (i - 1) (by omega)
              have e2 : i - 1 + 1 = i := by omega
              rw [e2, p2 (by omega), cx_cx] at h1
              exact h1
      · have h1 := hred (i - 1) (by omega)
        have e2 : i - 1 + 1 = i := by omega
        rw [e2] at h1
        refine Or.inr (Or.inl ⟨by omega, w (i - 1) :: s, ?_, b, List.mem_cons_of_mem _ p3, p4⟩)
        rw [st, p2]
        simp only [rd]
        rw [if_neg h1]
      · have h1 := hred (i - 1) (by omega)
        have e2 : i - 1 + 1 = i := by omega
        rw [e2] at h1
        refine Or.inr (Or.inr ⟨by omega, w (i - 1) :: s, ?_, ?_⟩)
        · rw [st, p2]
          simp only [rd]
          rw [if_neg h1]
        · simp only [List.length_cons]
          omega
  intro e
  rcases key L (Nat.le_refl L) with ⟨p1, p2⟩ | ⟨p1, s, p2, b, p3, p4⟩ | ⟨p1, s, p2, p3⟩
  · rw [p1] at e
    have e1 := congrArg (fun z : cfg => z.2.length) e
    simp only [List.length_replicate] at e1
    omega
  · rw [p2] at e
    have e1 : w (L - 1) :: s = List.replicate j c := congrArg (fun z : cfg => z.2) e
    rw [e1] at p3
    exact p4 (List.eq_of_mem_replicate p3)
  · rw [p2] at e
    have e1 := congrArg (fun z : cfg => z.2.length) e
    simp only [List.length_replicate, List.length_cons] at e1
    omega
/-- configurations that are in order -/
abbrev okz (A : Int → Int → Int) (n M : Int) : Type := {z : cfg // okc A n M z}
def rz {M : Int} (hA : gr_ok2 A n M) (z : okz A n M) (c : Int) : okz A n M := if h : 0 ≤ c ∧ c < M then ⟨rd A z.1 c, rd_ok hA h.1 h.2 z.1 z.2⟩ else z
theorem rz_1 {M : Int} (hA : gr_ok2 A n M) (z : okz A n M) {c : Int} (h0 : 0 ≤ c) (h1 : c < M) : (rz hA z c).1 = rd A z.1 c := by
  unfold rz
  rw [dif_pos ⟨h0, h1⟩]
theorem rz_back (hA : gr_ok2 A n (2 * N)) : back N (rz hA) (fun _ => True) := by
  refine ⟨fun z c h0 h1 _ _ => Subtype.ext ?_, fun z c h => absurd trivial h⟩
  have x := cx_in (M := 2 * N) h0 h1 (by omega)
  rw [rz_1 hA _ x.1 x.2, rz_1 hA _ h0 h1]
  exact rd_back hA h0 h1 z.1 z.2
theorem rz_rg {M : Int} (hA : gr_ok2 A n M) (z : okz A n M) {w : Nat → Int} {j : Nat} (h : ∀ i, i < j → 0 ≤ w i ∧ w i < M) : (rg (rz hA) z w j).1 = rg (rd A) z.1 w j := by
  induction j with
  | zero => rfl
  | succ j ih =>
    show (rz hA (rg (rz hA) z w j) (w j)).1 = rd A (rg (rd A) z.1 w j) (w j)
    rw [rz_1 hA _ (h j (by omega)).1 (h j (by omega)).2, ih (fun i hi => h i (by omega))]
theorem gi_ok2 (h : gi N n A pa ar de) : gr_ok2 A n (2 * N) := by
  intro v c _ _ _ _
  by_cases q : A v c = -1
  · exact Or.inl q
  · obtain ⟨b1, b2, b3, b4⟩ := h.2.1 v c q
    exact Or.inr ⟨b3.1, b3.2, b4⟩
/-- where a configuration goes when the base goes to z -/
def psi {M : Int} (hA : gr_ok2 A n M) (pa ar de : Nat → Int) (z : okz A n M) (u : Int) : List Int → okz A n M
  | [] => ph (rz hA) z pa ar de u
  | c :: s => rz hA (psi hA pa ar de z u s) c
theorem psi_rd (h : gi N n A pa ar de) (hA : gr_ok2 A n (2 * N)) {z : okz A n (2 * N)} (hm : mor n A pa ar de (rz hA) (fun _ => True) z) {c : Int} (h0 : 0 ≤ c) (h1 : c < 2 * N) : ∀ (u : Int) (s : List Int), okc A n (2 * N) (u, s) → psi hA pa ar de z (rd A (u, s) c).1 (rd A (u, s) c).2 = rz hA (psi hA pa ar de z u s) c
  | u, [], _ => by
    by_cases q : A u c = -1
    · simp only [rd]
      rw [if_pos q]
      rfl
    · simp only [rd]
      rw [if_neg q]
      exact (hm.2 u c q).symm
  | u, e :: s, hk => by
    have he : 0 ≤ e ∧ e < 2 * N := hk.1
    by_cases q : c = cx e
    · simp only [rd]
      rw [if_pos q]
      show psi hA pa ar de z u s = rz hA (rz hA (psi hA pa ar de z u s) e) c
      rw [q]
      exact ((rz_back hA).1 _ e he.1 he.2 trivial trivial).symm
    · simp only [rd]
      rw [if_neg q]
      rfl
theorem psi_rg (h : gi N n A pa ar de) (hA : gr_ok2 A n (2 * N)) {z : okz A n (2 * N)} (hm : mor n A pa ar de (rz hA) (fun _ => True) z) (y : okz A n (2 * N)) {w : Nat → Int} {j : Nat} (hw : ∀ i, i < j → 0 ≤ w i ∧ w i < 2 * N) : psi hA pa ar de z (rg (rz hA) y w j).1.1 (rg (rz hA) y w j).1.2 = rg (rz hA) (psi hA pa ar de z y.1.1 y.1.2) w j := by
  induction j with
  | zero => rfl
  | succ j ih =>
    have g := hw j (by omega)
    show psi hA pa ar de z (rz hA (rg (rz hA) y w j) (w j)).1.1 (rz hA (rg (rz hA) y w j) (w j)).1.2 = rz hA (rg (rz hA) (psi hA pa ar de z y.1.1 y.1.2) w j) (w j)
    rw [rz_1 hA _ g.1 g.2, ← ih (fun i hi => hw i (by omega))]
    exact psi_rd h hA hm g.1 g.2 _ _ (rg (rz hA) y w j).2
theorem lps_step (h : gi N n A pa ar de) (hA : gr_ok2 A n (2 * N)) {z0 z : okz A n (2 * N)} (hz0 : z0.1 = (0, [])) (hz : lps n A pa ar de (rz hA) z) {d : Int} (h0 : 0 ≤ d) (h1 : d < 2 * N) (hd : lps n A pa ar de (rz hA) (rz hA z0 d)) : lps n A pa ar de (rz hA) (rz hA z d) := by
  have hm := mor_of h (rz_back hA) trivial hz
  have e0 : psi hA pa ar de z z0.1.1 z0.1.2 = z := by
    rw [hz0]
    exact ph_0 (rz hA) z h
  have e1 : psi hA pa ar de z (rz hA z0 d).1.1 (rz hA z0 d).1.2 = rz hA z d := by
    have g := psi_rd h hA hm h0 h1 z0.1.1 z0.1.2 z0.2
    rw [rz_1 hA _ h0 h1]
    rw [e0] at g
    exact g
  intro v c hc hn
  have g := psi_rg h hA hm (rz hA z0 d) (w := ew pa ar de v c (A v c)) (fun i hi => ew_in h hn hi)
  rw [hd v c hc hn, e1] at g
  exact g.symm
/-- an element there is, if there is a way at all -/
theorem gi_some (h : gi N n A pa ar de) {v c : Int} (hv : A v c ≠ -1) : ∃ u d, d % 2 = 0 ∧ nt A ar u d := by
  have any : ∃ u d, nt A ar u d := by
    by_cases q : 1 < n
    · obtain ⟨u, d, j, _, _, g⟩ := gi_below h (n - 1).toNat 1 (by omega) q (by omega)
      exact ⟨u, d, g⟩
    · obtain ⟨b1, b2, b3, b4⟩ := h.2.1 v c hv
      have e1 : v = 0 := by omega
      have e2 : A v c = 0 := by omega
      have e0 : ar (0 : Int).toNat = -1 := h.2.2.2.2.1
      have x := cx_in (M := 2 * N) b2.1 b2.2 (by omega)
      refine ⟨v, c, hv, ?_, ?_⟩
      · rw [e2, e0]; omega
      · rw [e1, e0]; omega
  obtain ⟨u, d, hn⟩ := any
  by_cases q : d % 2 = 0
  · exact ⟨u, d, q, hn⟩
  · obtain ⟨b1, b2, b3, b4⟩ := h.2.1 u d hn.1
    exact ⟨A u d, cx d, by unfold cx; omega, by rw [b4]; omega, by rw [b4]; exact hn.2.2, by rw [cx_cx]; exact hn.2.1⟩
/-- a graph with a way that isn't complete: some element doesn't loop beside the base -/
theorem nrm_inc (h : gi N n A pa ar de) {u e : Int} (he : A u e ≠ -1) {v c : Int} (v0 : 0 ≤ v) (v1 : v < n) (c0 : 0 ≤ c) (c1 : c < 2 * N) (hv : A v c = -1) (hall : ∀ d, 0 ≤ d → d < 2 * N → ∀ v c, c % 2 = 0 → nt A ar v c → rg (rd A) (rd A (0, []) d) (ew pa ar de v c (A v c)) ((de v.toNat).toNat + 1 + (de (A v c).toNat).toNat) = rd A (0, []) d) : False := by
  have hA := gi_ok2 h
  have k0 : okc A n (2 * N) (0, []) := ⟨by omega, by have := h.1; omega⟩
  have hz1 : ∀ (z : okz A n (2 * N)), (∀ v c, c % 2 = 0 → nt A ar v c → rg (rd A) z.1 (ew pa ar de v c (A v c)) ((de v.toNat).toNat + 1 + (de (A v c).toNat).toNat) = z.1) → lps n A pa ar de (rz hA) z := by
    intro z hz v c hc hn
    apply Subtype.ext
    rw [rz_rg hA z (fun i hi => ew_in h hn hi)]
    exact hz v c hc hn
  have hd : ∀ d, 0 ≤ d → d < 2 * N → lps n A pa ar de (rz hA) (rz hA ⟨(0, []), k0⟩ d) := by
    intro d d0 d1
    refine hz1 _ (fun v c hc hn => ?_)
    rw [rz_1 hA _ d0 d1]
    exact hall d d0 d1 v c hc hn
  have hph : ∀ k : Nat, (k : Int) < n → (ph (rz hA) ⟨(0, []), k0⟩ pa ar de k).1 = ((k : Int), []) := by
    intro k
    induction k using Nat.strongRecOn with
    | ind k ih =>
      intro h1
      rcases Nat.eq_zero_or_pos k with z | z
      · subst z
        have e : ph (rz hA) ⟨(0, []), k0⟩ pa ar de ((0 : Nat) : Int) = ⟨(0, []), k0⟩ := ph_0 _ _ h
        rw [e]
        rfl
      · obtain ⟨t1, t2, t3, t4, t5⟩ := gi_tree h (v := (k : Int)) (by omega) h1
        rw [Int.toNat_natCast] at t1 t2 t3 t4 t5
        rw [ph_s _ _ h (v := (k : Int)) (by omega) h1, Int.toNat_natCast]
        have e : (((pa k).toNat : Nat) : Int) = pa k := by omega
        have g := ih (pa k).toNat (by omega) (by omega)
        rw [e] at g
        rw [rz_1 hA _ t4.1 t4.2, g]
        have e2 : rd A (pa k, []) (ar k) = (A (pa k) (ar k), []) := if_neg (by rw [t2]; omega)
        rw [e2, t2]
  have hphI : ∀ v, 0 ≤ v → v < n → (ph (rz hA) ⟨(0, []), k0⟩ pa ar de v).1 = (v, []) := by
    intro v a b
    have g := hph v.toNat (by omega)
    have e : ((v.toNat : Nat) : Int) = v := by omega
    rw [e] at g
    exact g
  have hl0 : lps n A pa ar de (rz hA) ⟨(0, []), k0⟩ := by
    refine lps_of h (rz_back hA) ⟨fun _ _ _ => trivial, fun v c q => Subtype.ext ?_⟩
    obtain ⟨b1, b2, b3, b4⟩ := h.2.1 v c q
    rw [rz_1 hA _ b2.1 b2.2, hphI v b1.1 b1.2, hphI _ b3.1 b3.2]
    simp only [rd]
    rw [if_neg q]
  have hv0 : ∀ k : Nat, (k : Int) < n → ∀ z : okz A n (2 * N), z.1 = ((k : Int), []) → lps n A pa ar de (rz hA) z := by
    intro k
    induction k using Nat.strongRecOn with
    | ind k ih =>
      intro h1 z hz
      rcases Nat.eq_zero_or_pos k with y | y
      · subst y
        have e : z = ⟨(0, []), k0⟩ := Subtype.ext hz
        rw [e]
        exact hl0
      · obtain ⟨t1, t2, t3, t4, t5⟩ := gi_tree h (v := (k : Int)) (by omega) h1
        rw [Int.toNat_natCast] at t1 t2 t3 t4 t5
        have e : (((pa k).toNat : Nat) : Int) = pa k := by omega
        have g := ih (pa k).toNat (by omega) (by omega) ⟨(pa k, []), ⟨by omega, by omega⟩⟩ (by rw [e])
        have g2 := lps_step h hA (z0 := ⟨(0, []), k0⟩) rfl g t4.1 t4.2 (hd _ t4.1 t4.2)
        have e2 : z = rz hA ⟨(pa k, []), ⟨by omega, by omega⟩⟩ (ar k) := by
          apply Subtype.ext
          rw [rz_1 hA _ t4.1 t4.2, hz]
          simp only [rd]
          rw [if_neg (by rw [t2]; omega), t2]
        rw [e2]
        exact g2
  have hr : ∀ j : Nat, ∃ z : okz A n (2 * N), z.1 = (v, List.replicate j c) ∧ lps n A pa ar de (rz hA) z := by
    intro j
    induction j with
    | zero =>
      refine ⟨⟨(v, []), ⟨v0, v1⟩⟩, rfl, hv0 v.toNat (by omega) _ ?_⟩
      have e : ((v.toNat : Nat) : Int) = v := by omega
      rw [e]
    | succ j ih =>
      obtain ⟨z, z1, z2⟩ := ih
      refine ⟨rz hA z c, ?_, lps_step h hA (z0 := ⟨(0, []), k0⟩) rfl z2 c0 c1 (hd c c0 c1)⟩
      rw [rz_1 hA _ c0 c1, z1]
      cases j with
      | zero =>
        show rd A (v, []) c = (v, [c])
        simp only [rd]
        rw [if_pos hv]
      | succ j =>
        rw [List.replicate_succ, List.replicate_succ]
        simp only [rd]
        rw [if_neg (cx_ne c)]
        rfl
  obtain ⟨a, b, hb, hn⟩ := gi_some h he
  obtain ⟨z, z1, z2⟩ := hr ((de a.toNat).toNat + 1 + (de (A a b).toNat).toNat)
  have g := z2 a b hb hn
  have g := congrArg Subtype.val g
  rw [rz_rg hA z (fun i hi => ew_in h hn hi), z1] at g
  exact deep (fun i hi => ew_red h hn hi) (Nat.le_refl _) (by omega) g
end
