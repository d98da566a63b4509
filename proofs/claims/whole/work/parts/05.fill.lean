def fillA (g : Nat → Int) (n : Nat) (v : Int) : Nat → Int := fun j => if j < n then v else g j
theorem setA_id (a : aS) (o k : Nat) : setA a o k (a o k) = a := by
  funext o' k'
  unfold setA
  split
  · next h => rw [h.1, h.2]
  · rfl
theorem setA_ss (a : aS) (o k : Nat) (g g' : Nat → Int) : setA (setA a o k g) o k g' = setA a o k g' := by
  funext o' k'
  unfold setA
  split <;> rfl
theorem fill_step (g : Nat → Int) (i n : Nat) (v : Int) : va_up (fillA g i v) i v = fillA g (i + 1) v := by
  funext j
  unfold va_up fillA
  by_cases h : j = i
  · rw [if_pos h, if_pos (by omega)]
  · by_cases h2 : j < i
    · rw [if_neg h, if_pos h2, if_pos (by omega)]
    · rw [if_neg h, if_neg h2, if_neg (by omega)]
abbrev rmJ_fill : Room := { frames := 0, cells := 0, slots := 0, locals := 0 }
set_option maxHeartbeats 4000000 in
set_option maxRecDepth 100000 in
theorem m_fill {l : Launch} {D : va_G} {cl : List vw_C} {tys : List (ClassId × FieldType)} {wf : fS → aS → va_W} {f : fS} {a : aS} {v : Int} {W : (Nat → Int) → va_W} {g : Nat → Int} {b : Nat} {cA : ClassId} {n q0 t0 : Nat} (hget : ∀ g, (W g)[q0]? = some (b, .inl (cA, n, .inl (fun j => iI (g j))))) (hset : ∀ g g', (W g).set q0 (b, .inl (cA, n, .inl (fun j => iI (g' j)))) = W g') (ht : tys[t0]? = some (cA, .int)) (hn : n ≤ 100000) (hfin : W (fillA g n v) = wf f a) : xCV l yJ_fill (Cond.code yJ_fill cJ_fill 4 none :: xG) rmJ_fill D cl tys (W g) [.ref b, .int (iI v)] wf (fun f' a' => f' = f ∧ a' = a) := by
  refine x_metV (cc := cJ_fill) (nL := 4) (by decide) rfl (Nat.le_of_ble_eq_true rfl) ?_
  intro p e s m below meth c A hO
  obtain ⟨hx, hb, hml, hown, hts, hr, hlk, hK, hN, hA⟩ := hO
  have hnn : ir (n : Int) := ⟨by omega, by omega⟩
  have loop : ∀ (k i : Nat), i + k = n → xV p l e rmJ_fill s m ([.ref b, .int (iI v)] : List Value).toArray below meth c s.heap A 0 0 (xQV below D cl tys wf (fun f' a' => f' = f ∧ a' = a) A ([.ref b, .int (iI v)] : List Value).toArray s) D cl 4 (W (fillA g i v)) [(0, .ref b), (1, .int (iI v)), (2, .int (iI (i : Int))), (3, .int (iI (n : Int)))] 5 [] := by
    intro k
    induction k with
    | zero =>
      intro i hi
      have e : i = n := by omega
      subst e
      refine x_iload_n hx hb dJ_fill_5 rfl 2 rfl ?_
      refine x_iload_n hx hb dJ_fill_6 rfl 3 rfl ?_
      refine x_icmp_ge hx hb (tgt := 20) hnn hnn dJ_fill_7 (by decide) (fun _ => ?_) (fun h => absurd (Int.le_refl _) h)
      rw [hfin]
      exact x_vret hx hb hr hlk hK dJ_fill_20 ⟨rfl, rfl⟩
    | succ k ih =>
      intro i hi
      have hii : ir (i : Int) := ⟨by omega, by omega⟩
      refine x_iload_n hx hb dJ_fill_5 rfl 2 rfl ?_
      refine x_iload_n hx hb dJ_fill_6 rfl 3 rfl ?_
      refine x_icmp_ge hx hb (tgt := 20) hii hnn dJ_fill_7 (by decide) (fun h => absurd h (by omega)) (fun _ => ?_)
      refine x_aload_n hx hb dJ_fill_10 rfl 0 rfl ?_
      refine x_iload_n hx hb dJ_fill_11 rfl 2 rfl ?_
      refine x_iload_n hx hb dJ_fill_12 rfl 1 rfl ?_
      refine x_iast hx hb hK q0 t0 (hget _) ht (i := (i : Int)) (by omega) (by omega) (by omega) dJ_fill_13 (hset _ _) ?_
      refine x_iinc hx hb dJ_fill_14 2 rfl (by decide) (lv' := [(2, .int (iI ((i : Int) + 1))), (0, .ref b), (1, .int (iI v)), (3, .int (iI (n : Int)))]) rfl ?_
      refine x_goto hx hb (tgt := 5) dJ_fill_17 (by decide) ?_
      refine x_sub [1, 2, 0, 3] rfl ?_
      have h := ih (i + 1) (by omega)
      rw [← fill_step g i n v] at h
      exact h
  refine x_iconst hx hb dJ_fill_0 ?_
  refine x_istore_n hx hb dJ_fill_1 rfl (by decide) (lv' := [(2, .int (iI 0)), (0, .ref b), (1, .int (iI v))]) rfl ?_
  refine x_aload_n hx hb dJ_fill_2 rfl 1 rfl ?_
  refine x_alen hx hb hK q0 t0 (hget _) ht dJ_fill_3 ?_
  refine x_istore_n hx hb dJ_fill_4 rfl (by decide) (lv' := [(3, .int (iI (n : Int))), (2, .int (iI 0)), (0, .ref b), (1, .int (iI v))]) rfl ?_
  refine x_sub [2, 3, 1, 0] rfl ?_
  have h := loop n 0 (by omega)
  have e0 : fillA g 0 v = g := by
    funext j
    simp [fillA]
  rw [e0] at h
  exact h
theorem wl7D {l : Launch} {D : va_G} (ad : Nat → Nat → Nat) (cA : Nat → Nat → ClassId) (f : fS) (a : aS) (v : Int) (g : Nat → Int) (hg : a 2 7 = g) : xCV l yJ_fill (Cond.code yJ_fill cJ_fill 4 none :: xG) rmJ_fill D vwCl (taC cA) (CW ad cA f a) [.ref (ad 2 8), .int (iI v)] (CW ad cA) (fun f' a' => f' = f ∧ a' = setA a 2 7 (fillA g 384 v)) := by
  have h := m_fill (l := l) (D := D) (cl := vwCl) (tys := taC cA) (W := fun g => CW ad cA f (setA a 2 7 g)) (g := g) (v := v) (wf := CW ad cA) (f := f) (a := setA a 2 7 (fillA g 384 v)) (n := 384) (fun g => by
    have q := wa7D ad cA f (setA a 2 7 g)
    rw [setA_s] at q
    exact q) (fun g g' => by
    have q := ws7D ad cA f (setA a 2 7 g) g'
    rw [setA_ss] at q
    exact q) (wt7D cA) (by decide) rfl
  have e : setA a 2 7 g = a := by rw [← hg, setA_id]
  simp only [e] at h
  exact h
theorem wl10D {l : Launch} {D : va_G} (ad : Nat → Nat → Nat) (cA : Nat → Nat → ClassId) (f : fS) (a : aS) (v : Int) (g : Nat → Int) (hg : a 2 10 = g) : xCV l yJ_fill (Cond.code yJ_fill cJ_fill 4 none :: xG) rmJ_fill D vwCl (taC cA) (CW ad cA f a) [.ref (ad 2 11), .int (iI v)] (CW ad cA) (fun f' a' => f' = f ∧ a' = setA a 2 10 (fillA g 64 v)) := by
  have h := m_fill (l := l) (D := D) (cl := vwCl) (tys := taC cA) (W := fun g => CW ad cA f (setA a 2 10 g)) (g := g) (v := v) (wf := CW ad cA) (f := f) (a := setA a 2 10 (fillA g 64 v)) (n := 64) (fun g => by
    have q := wa10D ad cA f (setA a 2 10 g)
    rw [setA_s] at q
    exact q) (fun g g' => by
    have q := ws10D ad cA f (setA a 2 10 g) g'
    rw [setA_ss] at q
    exact q) (wt10D cA) (by decide) rfl
  have e : setA a 2 10 g = a := by rw [← hg, setA_id]
  simp only [e] at h
  exact h
theorem wl3G {l : Launch} {D : va_G} (ad : Nat → Nat → Nat) (cA : Nat → Nat → ClassId) (f : fS) (a : aS) (v : Int) (g : Nat → Int) (o : Nat) (h : 3 ≤ o ∧ o < 7) (hg : a o 3 = g) : xCV l yJ_fill (Cond.code yJ_fill cJ_fill 4 none :: xG) rmJ_fill D vwCl (taC cA) (CW ad cA f a) [.ref (ad o 4), .int (iI v)] (CW ad cA) (fun f' a' => f' = f ∧ a' = setA a o 3 (fillA g 384 v)) := by
  have h := m_fill (l := l) (D := D) (cl := vwCl) (tys := taC cA) (W := fun g => CW ad cA f (setA a o 3 g)) (g := g) (v := v) (wf := CW ad cA) (f := f) (a := setA a o 3 (fillA g 384 v)) (n := 384) (fun g => by
    have q := wa3G ad cA f (setA a o 3 g) o h
    rw [setA_s] at q
    exact q) (fun g g' => by
    have q := ws3G ad cA f (setA a o 3 g) g' o h
    rw [setA_ss] at q
    exact q) (wt3G cA o h) (by decide) rfl
  have e : setA a o 3 g = a := by rw [← hg, setA_id]
  simp only [e] at h
  exact h
theorem wl4G {l : Launch} {D : va_G} (ad : Nat → Nat → Nat) (cA : Nat → Nat → ClassId) (f : fS) (a : aS) (v : Int) (g : Nat → Int) (o : Nat) (h : 3 ≤ o ∧ o < 7) (hg : a o 4 = g) : xCV l yJ_fill (Cond.code yJ_fill cJ_fill 4 none :: xG) rmJ_fill D vwCl (taC cA) (CW ad cA f a) [.ref (ad o 5), .int (iI v)] (CW ad cA) (fun f' a' => f' = f ∧ a' = setA a o 4 (fillA g 384 v)) := by
  have h := m_fill (l := l) (D := D) (cl := vwCl) (tys := taC cA) (W := fun g => CW ad cA f (setA a o 4 g)) (g := g) (v := v) (wf := CW ad cA) (f := f) (a := setA a o 4 (fillA g 384 v)) (n := 384) (fun g => by
    have q := wa4G ad cA f (setA a o 4 g) o h
    rw [setA_s] at q
    exact q) (fun g g' => by
    have q := ws4G ad cA f (setA a o 4 g) g' o h
    rw [setA_ss] at q
    exact q) (wt4G cA o h) (by decide) rfl
  have e : setA a o 4 g = a := by rw [← hg, setA_id]
  simp only [e] at h
  exact h
