section
variable {post : fS → aS → Prop} {N : Int} {f : fS} {a : aS} {g : fS} {b : aS} {k : Nat} {s : Int}
theorem tw_in (ho : gok N f a (3 + k)) {v : Int} (v0 : 0 ≤ v) (v1 : v < f (3 + k) 0) {j : Nat} (hj : (j : Int) < a (3 + k) 7 v.toNat) : 0 ≤ tw (a (3 + k) 5) (a (3 + k) 6) (a (3 + k) 7) v j ∧ tw (a (3 + k) 5) (a (3 + k) 6) (a (3 + k) 7) v j < 2 * N := by
  obtain ⟨c1, c2⟩ := clb_pos ho.1 (j := (a (3 + k) 7 v.toNat - 1 - (j : Int)).toNat) v0 v1 (by omega)
  exact (gi_tree ho.1 c1 c2).2.2.2.1
theorem s_putWay {r : rS} {v : Int} (hs : s = (k : Int)) (hk : k < 4) (hN : 1 ≤ N ∧ N ≤ 3) (ho : gok N f a (3 + k)) (hr : grel f a g b k) (v0 : 0 ≤ v) (v1 : v < f (3 + k) 0) (hq : okr N r) (hm : r.1 + 64 ≤ 132) (hp : post (setF g 0 23 ((pus r (fun j => lo (tw (a (3 + k) 5) (a (3 + k) 6) (a (3 + k) 7) v j)) (a (3 + k) 7 v.toNat).toNat).1 : Nat)) (setA b 0 24 (pus r (fun j => lo (tw (a (3 + k) 5) (a (3 + k) 6) (a (3 + k) 7) v j)) (a (3 + k) 7 v.toNat).toNat).2)) : wp_M_putWay post s v (setF g 0 23 (r.1 : Nat)) (setA b 0 24 r.2) := by
  have nn := ho.1.1
  have dv := gi_deI ho.1 v0 v1
  have e5 : ∀ w, setA b 0 24 w 0 5 = b 0 5 := fun w => setA_k _ _ (by decide)
  have e6 : ∀ w, setA b 0 24 w 0 6 = b 0 6 := fun w => setA_k _ _ (by decide)
  have e7 : ∀ w, setA b 0 24 w 0 7 = b 0 7 := fun w => setA_k _ _ (by decide)
  have d7 : ∀ u : Int, 0 ≤ u → u < f (3 + k) 0 → b 0 7 (64 * s + u).toNat = a (3 + k) 7 u.toNat := by
    intro u u0 u1
    have q := hr.2.2.2 u.toNat (by omega)
    have e : 64 * k + u.toNat = (64 * s + u).toNat := by omega
    rw [e] at q
    exact q
  have d56 : ∀ u : Int, 1 ≤ u → u < f (3 + k) 0 → b 0 5 (64 * s + u).toNat = a (3 + k) 5 u.toNat ∧ b 0 6 (64 * s + u).toNat = a (3 + k) 6 u.toNat := by
    intro u u0 u1
    have q := hr.2.2.1 u.toNat (by omega) (by omega)
    have e : 64 * k + u.toNat = (64 * s + u).toNat := by omega
    rw [e] at q
    exact q
  have outer : ∀ n m : Nat, (m : Int) ≤ a (3 + k) 7 v.toNat → a (3 + k) 7 v.toNat < n + m → wb_M_putWay_2 post n s v ((m : Int) + 1) (setF g 0 23 ((pus r (fun j => lo (tw (a (3 + k) 5) (a (3 + k) 6) (a (3 + k) 7) v j)) m).1 : Nat)) (setA b 0 24 (pus r (fun j => lo (tw (a (3 + k) 5) (a (3 + k) 6) (a (3 + k) 7) v j)) m).2) := by
    intro n
    induction n with
    | zero => intro m h1 h2; omega
    | succ n ih =>
      intro m h1 h2
      rw [wb_M_putWay_2, e7, d7 v v0 v1]
      refine ⟨⟨by omega, by omega⟩, ⟨by omega, by omega⟩, ⟨by omega, by omega⟩, fun z => ?_, fun z => ?_⟩
      · have e : m = (a (3 + k) 7 v.toNat).toNat := by omega
        rw [e]
        exact hp
      · have le := pus_le r (fun j => lo (tw (a (3 + k) 5) (a (3 + k) 6) (a (3 + k) 7) v j)) m
        have okm : okr N (pus r (fun j => lo (tw (a (3 + k) 5) (a (3 + k) 6) (a (3 + k) 7) v j)) m) := pus_okr hq (fun i hi => by
          have q := tw_in ho v0 v1 (j := i) (by omega)
          exact lo_in q.1 q.2)
        have tm := tw_in ho v0 v1 (j := m) (by omega)
        have inner : ∀ n2 j : Nat, (j : Int) ≤ a (3 + k) 7 v.toNat - m - 1 → a (3 + k) 7 v.toNat - m - 1 < n2 + j → wb_M_putWay_20 post (wb_M_putWay_2 post n) n2 s v ((m : Int) + 1) (clb (a (3 + k) 5) v j) (setF g 0 23 ((pus r (fun j => lo (tw (a (3 + k) 5) (a (3 + k) 6) (a (3 + k) 7) v j)) m).1 : Nat)) (setA b 0 24 (pus r (fun j => lo (tw (a (3 + k) 5) (a (3 + k) 6) (a (3 + k) 7) v j)) m).2) := by
          intro n2
          induction n2 with
          | zero => intro j g1 g2; omega
          | succ n2 ih2 =>
            intro j g1 g2
            obtain ⟨⟨c1, c2, c3⟩, c4⟩ := gi_clb ho.1 j v v0 v1 (by omega)
            obtain ⟨p1, p2⟩ := clb_pos ho.1 (j := j) v0 v1 (by omega)
            obtain ⟨q5, q6⟩ := d56 _ p1 p2
            have t4 := (gi_tree ho.1 p1 p2).2.2.2.1
            rw [wb_M_putWay_20, e7, e6, e5, d7 _ c1 c2, q5, q6]
            refine ⟨⟨by omega, by omega⟩, ⟨by omega, by omega⟩, ⟨by omega, by omega⟩, fun y => ?_, fun y => fun t ht => ?_⟩
            · have ej : (j : Int) = a (3 + k) 7 v.toNat - m - 1 := by omega
              have et : a (3 + k) 6 (clb (a (3 + k) 5) v j).toNat = tw (a (3 + k) 5) (a (3 + k) 6) (a (3 + k) 7) v m := by
                unfold tw
                have e : (a (3 + k) 7 v.toNat - 1 - (m : Int)).toNat = j := by omega
                rw [e]
              rw [et]
              refine s_loM tm.1 (by omega) (s_put hN.2 okm (by omega) (lo_in tm.1 tm.2).2.1 (lo_in tm.1 tm.2).2.2 ?_)
              have q := ih (m + 1) (by omega) (by omega)
              have e : ((m + 1 : Nat) : Int) = (m : Int) + 1 := by omega
              rw [e] at q
              exact q
            · rw [ht]
              exact ih2 (j + 1) (by omega) (by omega)
        exact ⟨_, inner 65 0 (by omega) (by omega)⟩
  exact ⟨_, outer ((a (3 + k) 7 v.toNat).toNat + 1) 0 (by omega) (by omega)⟩
/-- an element's letters -/
def ewl (pa ar de : Nat → Int) (v c t : Int) (j : Nat) : Int := lo (ew pa ar de v c t j)
theorem s_putEl {r : rS} {v c : Int} (hs : s = (k : Int)) (hk : k < 4) (hN : 1 ≤ N ∧ N ≤ 3) (ho : gok N f a (3 + k)) (hr : grel f a g b k) (hc : c % 2 = 0) (hn : nt (gA f a (3 + k)) (a (3 + k) 6) v c) (g0 : g 0 20 = v) (g1 : g 0 21 = lo c) (g2 : g 0 22 = gA f a (3 + k) v c) (hq : okr N r) (hm : r.1 ≤ 4) (hp : post (setF g 0 23 ((pus r (ewl (a (3 + k) 5) (a (3 + k) 6) (a (3 + k) 7) v c (gA f a (3 + k) v c)) ((a (3 + k) 7 v.toNat).toNat + 1 + (a (3 + k) 7 (gA f a (3 + k) v c).toNat).toNat)).1 : Nat)) (setA b 0 24 (pus r (ewl (a (3 + k) 5) (a (3 + k) 6) (a (3 + k) 7) v c (gA f a (3 + k) v c)) ((a (3 + k) 7 v.toNat).toNat + 1 + (a (3 + k) 7 (gA f a (3 + k) v c).toNat).toNat)).2)) : wp_M_putElement post s (setF g 0 23 (r.1 : Nat)) (setA b 0 24 r.2) := by
  have nn := ho.1.1
  obtain ⟨b1, b2, b3, b4⟩ := ho.1.2.1 v c hn.1
  have dv := gi_deI ho.1 b1.1 b1.2
  have dt := gi_deI ho.1 b3.1 b3.2
  have e5 : ∀ w, setA b 0 24 w 0 5 = b 0 5 := fun w => setA_k _ _ (by decide)
  have e6 : ∀ w, setA b 0 24 w 0 6 = b 0 6 := fun w => setA_k _ _ (by decide)
  have f20 : ∀ z : Int, setF g 0 23 z 0 20 = v := fun z => (setF_k _ _ (by decide)).trans g0
  have f21 : ∀ z : Int, setF g 0 23 z 0 21 = lo c := fun z => (setF_k _ _ (by decide)).trans g1
  have f22 : ∀ z : Int, setF g 0 23 z 0 22 = gA f a (3 + k) v c := fun z => (setF_k _ _ (by decide)).trans g2
  have win : ∀ i, i < (a (3 + k) 7 v.toNat).toNat + 1 + (a (3 + k) 7 (gA f a (3 + k) v c).toNat).toNat → ewl (a (3 + k) 5) (a (3 + k) 6) (a (3 + k) 7) v c (gA f a (3 + k) v c) i ≠ 0 ∧ -N ≤ ewl (a (3 + k) 5) (a (3 + k) 6) (a (3 + k) 7) v c (gA f a (3 + k) v c) i ∧ ewl (a (3 + k) 5) (a (3 + k) 6) (a (3 + k) 7) v c (gA f a (3 + k) v c) i ≤ N := fun i hi => by
    have q := ew_in ho.1 hn hi
    exact lo_in q.1 q.2
  have pc : ∀ j : Nat, (j : Int) ≤ a (3 + k) 7 v.toNat → pus r (fun j => lo (tw (a (3 + k) 5) (a (3 + k) 6) (a (3 + k) 7) v j)) j = pus r (ewl (a (3 + k) 5) (a (3 + k) 6) (a (3 + k) 7) v c (gA f a (3 + k) v c)) j := by
    intro j
    induction j with
    | zero => intro _; rfl
    | succ j ih =>
      intro hj
      show pu (pus r _ j) _ = pu (pus r _ j) _
      rw [ih (by omega)]
      congr 1
      unfold ewl ew
      rw [if_pos (by omega)]
  unfold wp_M_putElement
  rw [f20]
  refine s_putWay hs hk hN ho hr b1.1 b1.2 hq (by omega) ?_
  rw [pc _ (by omega), f21]
  have le := pus_le r (ewl (a (3 + k) 5) (a (3 + k) 6) (a (3 + k) 7) v c (gA f a (3 + k) v c)) (a (3 + k) 7 v.toNat).toNat
  refine s_put hN.2 (pus_okr hq (fun i hi => win i (by omega))) (by omega) (lo_in b2.1 b2.2).2.1 (lo_in b2.1 b2.2).2.2 (fun t ht => ?_)
  rw [f22] at ht
  subst ht
  have e1 : pu (pus r (ewl (a (3 + k) 5) (a (3 + k) 6) (a (3 + k) 7) v c (gA f a (3 + k) v c)) (a (3 + k) 7 v.toNat).toNat) (lo c) = pus r (ewl (a (3 + k) 5) (a (3 + k) 6) (a (3 + k) 7) v c (gA f a (3 + k) v c)) ((a (3 + k) 7 v.toNat).toNat + 1) := by
    show _ = pu (pus r _ _) (ewl _ _ _ _ _ _ _)
    congr 1
    unfold ewl ew
    rw [if_neg (by omega), if_pos (by omega)]
  rw [e1]
  have loop : ∀ n q : Nat, (q : Int) ≤ a (3 + k) 7 (gA f a (3 + k) v c).toNat → a (3 + k) 7 (gA f a (3 + k) v c).toNat < n + q → wb_M_putElement_22 post n s (clb (a (3 + k) 5) (gA f a (3 + k) v c) q) (setF g 0 23 ((pus r (ewl (a (3 + k) 5) (a (3 + k) 6) (a (3 + k) 7) v c (gA f a (3 + k) v c)) ((a (3 + k) 7 v.toNat).toNat + 1 + q)).1 : Nat)) (setA b 0 24 (pus r (ewl (a (3 + k) 5) (a (3 + k) 6) (a (3 + k) 7) v c (gA f a (3 + k) v c)) ((a (3 + k) 7 v.toNat).toNat + 1 + q)).2) := by
    intro n
    induction n with
    | zero => intro q h1 h2; omega
    | succ n ih =>
      intro q h1 h2
      obtain ⟨⟨c1, c2, c3⟩, c4⟩ := gi_clb ho.1 q _ b3.1 b3.2 h1
      rw [wb_M_putElement_22]
      refine ⟨⟨by omega, by omega⟩, fun z => ?_, fun z => ⟨⟨by omega, by omega⟩, ?_⟩⟩
      · have e : q = (a (3 + k) 7 (gA f a (3 + k) v c).toNat).toNat := by
          have e2 : clb (a (3 + k) 5) (gA f a (3 + k) v c) q = 0 := by omega
          rw [e2] at c4
          have e0 : a (3 + k) 7 (0 : Int).toNat = 0 := ho.1.2.2.2.1
          omega
        rw [e]
        exact hp
      · have hlt : (q : Int) < a (3 + k) 7 (gA f a (3 + k) v c).toNat := by
          have := (gi_deI ho.1 c1 c2).2.2.2 (by omega)
          omega
        have t := gi_tree ho.1 (v := clb (a (3 + k) 5) (gA f a (3 + k) v c) q) (by omega) c2
        have t4 := t.2.2.2.1
        have q56 := hr.2.2.1 (clb (a (3 + k) 5) (gA f a (3 + k) v c) q).toNat (by omega) (by omega)
        have ei : 64 * k + (clb (a (3 + k) 5) (gA f a (3 + k) v c) q).toNat = (64 * s + clb (a (3 + k) 5) (gA f a (3 + k) v c) q).toNat := by omega
        rw [ei] at q56
        rw [e6, q56.2]
        have le := pus_le r (ewl (a (3 + k) 5) (a (3 + k) 6) (a (3 + k) 7) v c (gA f a (3 + k) v c)) ((a (3 + k) 7 v.toNat).toNat + 1 + q)
        have l4 := lo_in t4.1 t4.2
        refine s_loM t4.1 (by omega) (s_put hN.2 (pus_okr hq (fun i hi => win i (by omega))) (by omega) (by omega) (by omega) (fun t ht => ?_))
        rw [e5, q56.1] at ht
        rw [ht]
        have e9 : pu (pus r (ewl (a (3 + k) 5) (a (3 + k) 6) (a (3 + k) 7) v c (gA f a (3 + k) v c)) ((a (3 + k) 7 v.toNat).toNat + 1 + q)) (-lo (a (3 + k) 6 (clb (a (3 + k) 5) (gA f a (3 + k) v c) q).toNat)) = pus r (ewl (a (3 + k) 5) (a (3 + k) 6) (a (3 + k) 7) v c (gA f a (3 + k) v c)) ((a (3 + k) 7 v.toNat).toNat + 1 + (q + 1)) := by
          show _ = pu (pus r _ ((a (3 + k) 7 v.toNat).toNat + 1 + q)) (ewl _ _ _ _ _ _ ((a (3 + k) 7 v.toNat).toNat + 1 + q))
          congr 1
          unfold ewl ew
          rw [if_neg (by omega), if_neg (by omega), lo_cx]
          have e10 : ((((a (3 + k) 7 v.toNat).toNat + 1 + q : Nat) : Int) - a (3 + k) 7 v.toNat - 1).toNat = q := by omega
          rw [e10]
        rw [e9]
        exact ih (q + 1) (by omega) (by omega)
  exact ⟨_, loop 65 0 (by omega) (by omega)⟩
end
section
variable {post : Int → fS → aS → Prop} {N : Int} {f : fS} {a : aS} {g : fS} {b : aS} {k : Nat} {s : Int}
theorem s_leads {r : rS} (hs : s = (k : Int)) (hk : k < 4) (hN : 1 ≤ N ∧ N ≤ 3) (ho : gok N f a (3 + k)) (hr : grel f a g b k) (hq : okr N r) (hm : r.1 ≤ 132) (h0 : ¬ rg (gA f a (3 + k)) 0 (fun i => co (r.2 i)) r.1 = 0 → post 0 (setF g 0 23 (r.1 : Nat)) (setA b 0 24 r.2)) (h1 : rg (gA f a (3 + k)) 0 (fun i => co (r.2 i)) r.1 = 0 → post 1 (setF g 0 23 (r.1 : Nat)) (setA b 0 24 r.2)) : wp_M_leadsBack post s (setF g 0 23 (r.1 : Nat)) (setA b 0 24 r.2) := by
  have nn := ho.1.1
  obtain ⟨m, w⟩ := r
  have hm : m ≤ 132 := hm
  have hr2 : grel f a (setF g 0 23 ((m : Nat) : Int)) (setA b 0 24 w) k := grel_congr (fun _ => rfl) (fun _ _ => rfl) (fun i i1 i2 => setA_k _ _ (by omega)) hr
  have fin : ∀ v : Int, v = rg (gA f a (3 + k)) 0 (fun i => co (w i)) m → wb_M_leadsBack_38 post v (setF g 0 23 ((m : Nat) : Int)) (setA b 0 24 w) := by
    intro v hv
    have r := rg_in ho (fun i => co (w i)) m
    refine ⟨⟨by omega, by omega⟩, fun q => ⟨Or.inl rfl, h0 (by rw [← hv]; exact q)⟩, fun q => ⟨Or.inr rfl, h1 (by rw [← hv]; exact Classical.byContradiction q)⟩⟩
  have loop : ∀ n i : Nat, i ≤ m → m < n + i → wb_M_leadsBack_4 post n s (rg (gA f a (3 + k)) 0 (fun i => co (w i)) i) (i : Int) (setF g 0 23 ((m : Nat) : Int)) (setA b 0 24 w) := by
    intro n
    induction n with
    | zero => intro i h1 h2; omega
    | succ n ih =>
      intro i i1 i2
      have r := rg_in ho (fun i => co (w i)) i
      rw [wb_M_leadsBack_4, setF_s, setA_s]
      refine ⟨⟨by omega, by omega⟩, ⟨by omega, by omega⟩, fun q => fin _ ?_, fun q => ⟨⟨by omega, by omega⟩, fun q2 => fin _ ?_, fun q2 => ⟨⟨by omega, by omega⟩, ?_⟩⟩⟩
      · have e : i = m := by omega
        rw [e]
      · have q3 : rg (gA f a (3 + k)) 0 (fun i => co (w i)) i = -1 := by omega
        have e := rg_m1 (gi_m1 ho.1) q3 (m - i)
        have e2 : i + (m - i) = m := by omega
        rw [e2] at e
        rw [q3, e]
      · have l : w i ≠ 0 ∧ -N ≤ w i ∧ w i ≤ N := hq.1 i (by show i < m; omega)
        have c := co_in l.1 l.2.1 l.2.2
        rw [Int.toNat_natCast]
        refine s_codeM ⟨by omega, by omega⟩ (s_wayM hs hk ho hr2 (by omega) (by omega) c.1 (by omega) ?_)
        have q := ih (i + 1) (by omega) (by omega)
        have e3 : ((i + 1 : Nat) : Int) = (i : Int) + 1 := by omega
        rw [e3] at q
        exact q
  exact ⟨_, loop (m + 1) 0 (by omega) (by omega)⟩
end
