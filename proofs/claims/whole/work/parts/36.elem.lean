section
variable {post : Int → fS → aS → Prop} {N : Int} {f : fS} {a : aS} {g : fS} {b : aS} {k : Nat} {s : Int}
theorem s_size (hk : k < 4) (hN : 1 ≤ N ∧ N ≤ 3) (ho : gok N f a (3 + k)) {v c : Int} (hn : nt (gA f a (3 + k)) (a (3 + k) 6) v c) (hp : post (((a (3 + k) 7 v.toNat) + 1) + a (3 + k) 7 (gA f a (3 + k) v c).toNat) f a) : wp_G_elementSize post (3 + k) (6 * v + c) f a := by
  obtain ⟨b1, b2, b3, b4⟩ := ho.1.2.1 v c hn.1
  have nn := ho.1.1
  have e1 : (6 * v + c) / 6 = v := by omega
  have e2 : a (3 + k) 3 (6 * v + c).toNat = gA f a (3 + k) v c := by
    rw [← gA_at (f := f) (a := a) (o := 3 + k) b1.1 b1.2 b2.1 (by omega)]
    have e : v * 6 + c = 6 * v + c := by omega
    rw [e]
  refine ⟨⟨by omega, by omega⟩, ⟨by omega, by omega⟩, ?_⟩
  rw [e1, e2]
  exact ⟨⟨by omega, by omega⟩, ⟨by omega, by omega⟩, ⟨by omega, by omega⟩, hp⟩
theorem s_climb (hk : k < 4) (ho : gok N f a (3 + k)) {v : Int} {m : Nat} (v0 : 0 ≤ v) (v1 : v < f (3 + k) 0) (hm : (m : Int) ≤ a (3 + k) 7 v.toNat) (hp : post (clb (a (3 + k) 5) v m) f a) : wp_G_climb post (3 + k) v (m : Int) f a := by
  have nn := ho.1.1
  have dv := gi_deI ho.1 v0 v1
  have loop : ∀ n j : Nat, j ≤ m → m < n + j → wb_G_climb_5 post n (3 + k) (m : Int) (clb (a (3 + k) 5) v j) (j : Int) f a := by
    intro n
    induction n with
    | zero => intro j h1 h2; omega
    | succ n ih =>
      intro j h1 h2
      obtain ⟨⟨c1, c2, c3⟩, c4⟩ := gi_clb ho.1 j v v0 v1 (by omega)
      rw [wb_G_climb_5]
      refine ⟨⟨by omega, by omega⟩, ⟨by omega, by omega⟩, fun q => ?_, fun q => ⟨⟨by omega, by omega⟩, ⟨by omega, by omega⟩, fun t ht => ?_⟩⟩
      · have e : j = m := by omega
        rw [e]
        exact hp
      · have e3 : (j : Int) + 1 = ((j + 1 : Nat) : Int) := by omega
        rw [e3, ht]
        exact ih (j + 1) (by omega) (by omega)
  exact ⟨_, loop (m + 1) 0 (by omega) (by omega)⟩
theorem s_letter (hk : k < 4) (hN : 1 ≤ N ∧ N ≤ 3) (ho : gok N f a (3 + k)) {v c : Int} (hn : nt (gA f a (3 + k)) (a (3 + k) 6) v c) {i : Int} (i0 : 0 ≤ i) (i1 : i < ((a (3 + k) 7 v.toNat) + 1) + a (3 + k) 7 (gA f a (3 + k) v c).toNat) (hp : post (lo (ew (a (3 + k) 5) (a (3 + k) 6) (a (3 + k) 7) v c (gA f a (3 + k) v c) i.toNat)) f a) : wp_G_elementLetter post (3 + k) (6 * v + c) i f a := by
  obtain ⟨b1, b2, b3, b4⟩ := ho.1.2.1 v c hn.1
  have nn := ho.1.1
  have dv := gi_deI ho.1 b1.1 b1.2
  have dt := gi_deI ho.1 b3.1 b3.2
  have e1 : (6 * v + c) / 6 = v := by omega
  have e0 : (6 * v + c) % 6 = c := by omega
  have e2 : a (3 + k) 3 (6 * v + c).toNat = gA f a (3 + k) v c := by
    rw [← gA_at (f := f) (a := a) (o := 3 + k) b1.1 b1.2 b2.1 (by omega)]
    have e : v * 6 + c = 6 * v + c := by omega
    rw [e]
  refine ⟨⟨by omega, by omega⟩, fun t ht => ⟨⟨by omega, by omega⟩, ?_⟩⟩
  rw [e1] at ht
  subst ht
  refine ⟨⟨by omega, by omega⟩, fun d hd => ⟨⟨by omega, by omega⟩, ⟨by omega, by omega⟩, fun q => ⟨fun q2 => ⟨⟨by omega, by omega⟩, ?_⟩, fun q2 => ?_⟩, fun q => ?_⟩⟩
  · rw [e2]
    have em : i - d - 1 = ((i - d - 1).toNat : Int) := by omega
    rw [em]
    obtain ⟨c1, c2⟩ := clb_pos ho.1 (j := (i - d - 1).toNat) b3.1 b3.2 (by omega)
    have t4 := (gi_tree ho.1 c1 c2).2.2.2.1
    refine s_climb hk ho b3.1 b3.2 (by omega) ⟨⟨by omega, by omega⟩, s_lo t4.1 (by omega) ?_⟩
    rw [← lo_cx]
    have e5 : ew (a (3 + k) 5) (a (3 + k) 6) (a (3 + k) 7) t c (gA f a (3 + k) t c) i.toNat = cx (a (3 + k) 6 (clb (a (3 + k) 5) (gA f a (3 + k) t c) (i - d - 1).toNat).toNat) := by
      unfold ew
      rw [if_neg (by omega), if_neg (by omega)]
      have e6 : ((i.toNat : Int) - a (3 + k) 7 t.toNat - 1).toNat = (i - d - 1).toNat := by omega
      rw [e6]
    rw [e5] at hp
    exact hp
  · rw [e0]
    have e5 : ew (a (3 + k) 5) (a (3 + k) 6) (a (3 + k) 7) t c (gA f a (3 + k) t c) i.toNat = c := by
      unfold ew
      rw [if_neg (by omega), if_pos (by omega)]
    rw [e5] at hp
    exact s_lo b2.1 (by omega) hp
  · have em : d - 1 - i = ((d - 1 - i).toNat : Int) := by omega
    rw [em]
    obtain ⟨c1, c2⟩ := clb_pos ho.1 (j := (d - 1 - i).toNat) b1.1 b1.2 (by omega)
    have t4 := (gi_tree ho.1 c1 c2).2.2.2.1
    refine s_climb hk ho b1.1 b1.2 (by omega) ⟨⟨by omega, by omega⟩, s_lo t4.1 (by omega) ?_⟩
    have e5 : ew (a (3 + k) 5) (a (3 + k) 6) (a (3 + k) 7) t c (gA f a (3 + k) t c) i.toNat = a (3 + k) 6 (clb (a (3 + k) 5) t (d - 1 - i).toNat).toNat := by
      unfold ew tw
      rw [if_pos (by omega)]
      have e6 : (a (3 + k) 7 t.toNat - 1 - (i.toNat : Int)).toNat = (d - 1 - i).toNat := by omega
      rw [e6]
    rw [e5] at hp
    exact hp
end
theorem setF_ss (f : fS) (o k : Nat) (v v' : Int) : setF (setF f o k v) o k v' = setF f o k v' := by
  funext o' k'
  unfold setF
  split <;> rfl
theorem pu_okr {N : Int} {r : rS} (h : okr N r) {x : Int} (x0 : x ≠ 0) (x1 : -N ≤ x) (x2 : x ≤ N) : okr N (pu r x) := (pu_cfg (A := fun _ _ => -1) (n := 1) (fun _ _ _ _ _ _ => Or.inl rfl) (by omega) h x0 x1 x2).1
theorem pus_okr {N : Int} {r : rS} (h : okr N r) {w : Nat → Int} {j : Nat} (hw : ∀ i, i < j → w i ≠ 0 ∧ -N ≤ w i ∧ w i ≤ N) : okr N (pus r w j) := (pus_cfg (A := fun _ _ => -1) (n := 1) (fun _ _ _ _ _ _ => Or.inl rfl) (by omega) h hw).1
section
variable {post : fS → aS → Prop} {N : Int} {f : fS} {a : aS} {g : fS} {b : aS} {k : Nat} {s : Int}
theorem s_put {r : rS} {x : Int} (hN : N ≤ 3) (hr : okr N r) (hm : r.1 < 132) (x1 : -N ≤ x) (x2 : x ≤ N) (hp : post (setF g 0 23 ((pu r x).1 : Nat)) (setA b 0 24 (pu r x).2)) : wp_M_put post x (setF g 0 23 (r.1 : Nat)) (setA b 0 24 r.2) := by
  obtain ⟨m, w⟩ := r
  have hm : m < 132 := hm
  have push : ¬ (1 ≤ m ∧ w (m - 1) = -x) → wb_M_put_36 post x (setF g 0 23 ((m : Nat) : Int)) (setA b 0 24 w) := by
    intro q
    have e : pu (m, w) x = (m + 1, va_up w m x) := if_neg q
    rw [e] at hp
    unfold wb_M_put_36
    rw [setF_s, setF_ss, setA_s, setA_ss, Int.toNat_natCast]
    exact ⟨⟨by omega, by omega⟩, hp⟩
  unfold wp_M_put
  show ir (setF g 0 23 ((m : Nat) : Int) 0 23) ∧ _
  rw [setF_s, setA_s, setF_ss]
  refine ⟨⟨by omega, by omega⟩, fun q => push (fun z => by omega), fun q => ⟨⟨by omega, by omega⟩, ?_, ⟨by omega, by omega⟩, fun q2 => push (fun z => q2 ?_), fun q2 => ?_⟩⟩
  · have e : ((m : Int) - 1).toNat = m - 1 := by omega
    show ir (w ((m : Int) - 1).toNat)
    rw [e]
    have l := hr.1 (m - 1) (by show m - 1 < m; omega)
    have l : w (m - 1) ≠ 0 ∧ -N ≤ w (m - 1) ∧ w (m - 1) ≤ N := l
    exact ⟨by omega, by omega⟩
  · have e : ((m : Int) - 1).toNat = m - 1 := by omega
    show w ((m : Int) - 1).toNat = -x
    rw [e]
    exact z.2
  · have e : ((m : Int) - 1).toNat = m - 1 := by omega
    have q3 : w ((m : Int) - 1).toNat = -x := Classical.byContradiction q2
    rw [e] at q3
    have e2 : pu (m, w) x = (m - 1, w) := if_pos ⟨by omega, q3⟩
    rw [e2] at hp
    have e3 : ((m - 1 : Nat) : Int) = (m : Int) - 1 := by omega
    have hp : post (setF g 0 23 ((m - 1 : Nat) : Int)) (setA b 0 24 w) := hp
    rw [e3] at hp
    exact hp
end
