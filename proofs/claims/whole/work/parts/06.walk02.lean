-- D_begin
abbrev rmD_begin : Room := { frames := 1, cells := 0, slots := 0, locals := 23 }
abbrev gD_begin (p : Program) (l : Launch) (e : Env) (s : State) (m : MethodId) (args : Array Value) (below : List Frame) (meth : Method) (c : Code) (A : Nat → Prop) (D : va_G) (ad : Nat → Nat → Nat) (cA : Nat → Nat → ClassId) (post : fS → aS → Prop) (f : fS) (a : aS) (lv : List (Nat × Value)) (pc : Nat) (st : List Value) : Prop := xV p l e rmD_begin s m args below meth c s.heap A 0 0 (xQV below D vwCl (taC cA) (CW ad cA) post A args s) D vwCl 1 (CW ad cA f a) lv pc st
def wp_D_begin (post : fS → aS → Prop) (f : fS) (a : aS) : Prop := post (setF (setF (setF f 2 0 1) 2 1 0) 2 2 0) (setA a 2 7 (fillA (a 2 7) 384 (-1)))
set_option maxHeartbeats 4000000 in
set_option maxRecDepth 100000 in
theorem m_D_begin {l : Launch} {D : va_G} {ad : Nat → Nat → Nat} {cA : Nat → Nat → ClassId} {post : fS → aS → Prop} {f : fS} {a : aS} (h : wp_D_begin post  f a) : xCV l yD_begin (Cond.code yD_begin cD_begin 1 none :: xG) rmD_begin D vwCl (taC cA) (CW ad cA f a) [.ref (ad 2 0)] (CW ad cA) post := by
  refine x_metV (cc := cD_begin) (nL := 1) (by decide) rfl (Nat.le_of_ble_eq_true rfl) ?_
  intro p e s m below meth c A hO
  have hO9 := hO
  obtain ⟨hx, hb, hml, hown, hts, hr, hlk, hK, hN, hA⟩ := hO9
  unfold wp_D_begin at h
  show gD_begin p l e s m _ below meth c A D ad cA post f a [(0, .ref (ad 2 0))] 0 []
  refine x_aload_n hx hb dD_begin_0 rfl 0 rfl ?_
  refine x_iconst hx hb dD_begin_1 ?_
  refine x_put hx hb hts (jnD _) tyD tkD nmD hown hK _ (woD ad cA f a) rfl 0 (by decide) (hts _ (List.mem_cons_of_mem _ kfD_39)) (fun _ h9 => h9) rfl (by decide +kernel) (Nat.le_of_ble_eq_true rfl) dD_begin_2 (wf0D ad cA f a 1) ?_
  refine x_aload_n hx hb dD_begin_5 rfl 0 rfl ?_
  refine x_iconst hx hb dD_begin_6 ?_
  refine x_put hx hb hts (jnD _) tyD tkD nmD hown hK _ (woD ad cA (setF f 2 0 1) a) rfl 1 (by decide) (hts _ (List.mem_cons_of_mem _ kfD_43)) (fun _ h9 => h9) rfl (by decide +kernel) (Nat.le_of_ble_eq_true rfl) dD_begin_7 (wf1D ad cA (setF f 2 0 1) a 0) ?_
  refine x_aload_n hx hb dD_begin_10 rfl 0 rfl ?_
  refine x_iconst hx hb dD_begin_11 ?_
  refine x_put hx hb hts (jnD _) tyD tkD nmD hown hK _ (woD ad cA (setF (setF f 2 0 1) 2 1 0) a) rfl 2 (by decide) (hts _ (List.mem_cons_of_mem _ kfD_46)) (fun _ h9 => h9) rfl (by decide +kernel) (Nat.le_of_ble_eq_true rfl) dD_begin_12 (wf2D ad cA (setF (setF f 2 0 1) 2 1 0) a 0) ?_
  refine x_aload_n hx hb dD_begin_15 rfl 0 rfl ?_
  refine x_get hx hb hts (jnD _) hown hK _ (woD ad cA (setF (setF (setF f 2 0 1) 2 1 0) 2 2 0) a) rfl 7 (by decide) (hts _ (List.mem_cons_of_mem _ kfD_24)) (fun _ h9 => h9) (v := .ref (ad 2 8)) (by rfl) dD_begin_16 ?_
  refine x_iconst hx hb dD_begin_19 ?_
  refine x_cSv (n := 2) (st := []) (As := [.ref (ad 2 8), .int (iI (-1))]) ⟨hx, hb, hml, hown, hts⟩ hK hN (wl7D ad cA (setF (setF (setF f 2 0 1) 2 1 0) 2 2 0) a (-1) (a 2 7) rfl) (x_cwS hts rfl rfl kcJ_fill knJ klD_49 ksJ_fill ⟨by decide, by decide, by decide +kernel⟩ ⟨by decide, by decide⟩) hA rfl (Nat.le_of_ble_eq_true rfl) ⟨Nat.zero_le _, Nat.zero_le _⟩ rfl dD_begin_20 (fun f9 a9 h9 => ?_)
  rw [h9.1, h9.2]
  exact x_vret hx hb hr hlk hK dD_begin_23 h
-- G_way
abbrev rmG_way : Room := { frames := 0, cells := 0, slots := 0, locals := 0 }
abbrev gG_way (p : Program) (l : Launch) (e : Env) (s : State) (m : MethodId) (args : Array Value) (below : List Frame) (meth : Method) (c : Code) (A : Nat → Prop) (D : va_G) (ad : Nat → Nat → Nat) (cA : Nat → Nat → ClassId) (post : Int → fS → aS → Prop) (f : fS) (a : aS) (lv : List (Nat × Value)) (pc : Nat) (st : List Value) : Prop := xV p l e rmG_way s m args below meth c s.heap A 0 0 (xQI below D vwCl (taC cA) (CW ad cA) post A args s) D vwCl 3 (CW ad cA f a) lv pc st
def wp_G_way (post : Int → fS → aS → Prop) (o0 : Nat) (x1 : Int) (x2 : Int) (f : fS) (a : aS) : Prop := (3 ≤ o0 ∧ o0 < 7) ∧ ((0 ≤ (x1 * 6) + x2 ∧ (x1 * 6) + x2 < 384) ∧ (post (a o0 3 (Int.toNat ((x1 * 6) + x2))) f a))
set_option maxHeartbeats 4000000 in
set_option maxRecDepth 100000 in
theorem m_G_way {l : Launch} {D : va_G} {ad : Nat → Nat → Nat} {cA : Nat → Nat → ClassId} {post : Int → fS → aS → Prop} {o0 : Nat} {x1 : Int} {x2 : Int} {f : fS} {a : aS} (h : wp_G_way post o0 x1 x2 f a) : xCI l yG_way (Cond.code yG_way cG_way 3 (some .int) :: xG) rmG_way D vwCl (taC cA) (CW ad cA f a) [.ref (ad o0 0), .int (iI x1), .int (iI x2)] (CW ad cA) post := by
  refine x_metI (cc := cG_way) (nL := 3) (by decide) rfl (Nat.le_of_ble_eq_true rfl) ?_
  intro p e s m below meth c A hO
  have hO9 := hO
  obtain ⟨hx, hb, hml, hown, hts, hr, hlk, hK, hN, hA⟩ := hO9
  unfold wp_G_way at h
  show gG_way p l e s m _ below meth c A D ad cA post f a [(0, .ref (ad o0 0)), (1, .int (iI x1)), (2, .int (iI x2))] 0 []
  refine x_aload_n hx hb dG_way_0 rfl 0 rfl ?_
  obtain ⟨hg1, h⟩ := h
  refine x_get hx hb hts (jnG _) hown hK _ (woG ad cA f a o0 hg1) rfl 3 (by decide) (hts _ (List.mem_cons_of_mem _ kfG_9)) (fun _ h9 => h9) (v := .ref (ad o0 4)) (by rfl) dG_way_1 ?_
  refine x_iload_n hx hb dG_way_4 rfl 1 rfl ?_
  refine x_bipush hx hb dG_way_5 (by decide) ?_
  refine x_imul hx hb dG_way_7 ?_
  refine x_iload_n hx hb dG_way_8 rfl 2 rfl ?_
  refine x_iadd hx hb dG_way_9 ?_
  obtain ⟨hj2, h⟩ := h
  refine x_iald hx hb hK _ _ (wa3G ad cA f a o0 hg1) (wt3G cA o0 hg1) hj2.1 hj2.2 (by decide) dG_way_10 ?_
  exact x_iret hx hb hr hlk hK dG_way_11 h
-- D_addEdge
abbrev rmD_addEdge : Room := { frames := 0, cells := 0, slots := 0, locals := 0 }
abbrev gD_addEdge (p : Program) (l : Launch) (e : Env) (s : State) (m : MethodId) (args : Array Value) (below : List Frame) (meth : Method) (c : Code) (A : Nat → Prop) (D : va_G) (ad : Nat → Nat → Nat) (cA : Nat → Nat → ClassId) (post : fS → aS → Prop) (f : fS) (a : aS) (lv : List (Nat × Value)) (pc : Nat) (st : List Value) : Prop := xV p l e rmD_addEdge s m args below meth c s.heap A 0 0 (xQV below D vwCl (taC cA) (CW ad cA) post A args s) D vwCl 4 (CW ad cA f a) lv pc st
def wb_D_addEdge_50 (post : fS → aS → Prop) (f : fS) (a : aS) : Prop := post f a
set_option maxHeartbeats 4000000 in
set_option maxRecDepth 100000 in
theorem tb_D_addEdge_50 {p : Program} {l : Launch} {e : Env} {s : State} {m : MethodId} {args : Array Value} {below : List Frame} {meth : Method} {c : Code} {A : Nat → Prop} {D : va_G} {ad : Nat → Nat → Nat} {cA : Nat → Nat → ClassId} {post : fS → aS → Prop} (hO : xOk cD_addEdge 4 RD (Cond.code yD_addEdge cD_addEdge 4 none :: xG) none p s m args meth c A D vwCl (taC cA)) : ∀ (f : fS) (a : aS), wb_D_addEdge_50 post f a → gD_addEdge p l e s m args below meth c A D ad cA post f a [] 50 [] := by
  have hO9 := hO
  obtain ⟨hx, hb, hml, hown, hts, hr, hlk, hK, hN, hA⟩ := hO9
  intro f a h
  unfold wb_D_addEdge_50 at h
  exact x_vret hx hb hr hlk hK dD_addEdge_50 h
def wp_D_addEdge (post : fS → aS → Prop) (x1 : Int) (x2 : Int) (x3 : Int) (f : fS) (a : aS) : Prop := ir (f 2 2) ∧ (((195 ≤ f 2 2) → (wb_D_addEdge_50 post f a)) ∧ (¬ (195 ≤ f 2 2) → ((0 ≤ f 2 2 ∧ f 2 2 < 195) ∧ (wb_D_addEdge_50 post (setF f 2 2 ((f 2 2) + 1)) (setA (setA (setA a 2 3 (va_up (a 2 3) (Int.toNat (f 2 2)) x1)) 2 4 (va_up (a 2 4) (Int.toNat (f 2 2)) x2)) 2 5 (va_up (a 2 5) (Int.toNat (f 2 2)) x3))))))
set_option maxHeartbeats 4000000 in
set_option maxRecDepth 100000 in
theorem m_D_addEdge {l : Launch} {D : va_G} {ad : Nat → Nat → Nat} {cA : Nat → Nat → ClassId} {post : fS → aS → Prop} {x1 : Int} {x2 : Int} {x3 : Int} {f : fS} {a : aS} (h : wp_D_addEdge post x1 x2 x3 f a) : xCV l yD_addEdge (Cond.code yD_addEdge cD_addEdge 4 none :: xG) rmD_addEdge D vwCl (taC cA) (CW ad cA f a) [.ref (ad 2 0), .int (iI x1), .int (iI x2), .int (iI x3)] (CW ad cA) post := by
  refine x_metV (cc := cD_addEdge) (nL := 4) (by decide) rfl (Nat.le_of_ble_eq_true rfl) ?_
  intro p e s m below meth c A hO
  have hO9 := hO
  obtain ⟨hx, hb, hml, hown, hts, hr, hlk, hK, hN, hA⟩ := hO9
  unfold wp_D_addEdge at h
  show gD_addEdge p l e s m _ below meth c A D ad cA post f a [(0, .ref (ad 2 0)), (1, .int (iI x1)), (2, .int (iI x2)), (3, .int (iI x3))] 0 []
  refine x_aload_n hx hb dD_addEdge_0 rfl 0 rfl ?_
  refine x_get hx hb hts (jnD _) hown hK _ (woD ad cA f a) rfl 2 (by decide) (hts _ (List.mem_cons_of_mem _ kfD_46)) (fun _ h9 => h9) (v := .int (iI (f 2 2))) (by rfl) dD_addEdge_1 ?_
  refine x_sipush hx hb dD_addEdge_4 (by decide) ?_
  obtain ⟨hi1, h⟩ := h
  refine x_icmp_ge hx hb (tgt := 50) hi1 (by decide) dD_addEdge_7 (by decide) (fun hc => ?_) (fun hc => ?_)
  · have h := h.1 hc
    refine x_sub [] rfl ?_
    exact tb_D_addEdge_50 hO f a h
  · have h := h.2 hc
    refine x_aload_n hx hb dD_addEdge_10 rfl 0 rfl ?_
    refine x_get hx hb hts (jnD _) hown hK _ (woD ad cA f a) rfl 3 (by decide) (hts _ (List.mem_cons_of_mem _ kfD_9)) (fun _ h9 => h9) (v := .ref (ad 2 4)) (by rfl) dD_addEdge_11 ?_
    refine x_aload_n hx hb dD_addEdge_14 rfl 0 rfl ?_
    refine x_get hx hb hts (jnD _) hown hK _ (woD ad cA f a) rfl 2 (by decide) (hts _ (List.mem_cons_of_mem _ kfD_46)) (fun _ h9 => h9) (v := .int (iI (f 2 2))) (by rfl) dD_addEdge_15 ?_
    refine x_iload_n hx hb dD_addEdge_18 rfl 1 rfl ?_
    obtain ⟨hj2, h⟩ := h
    refine x_iast hx hb hK _ _ (wa3D ad cA f a) (wt3D cA) hj2.1 hj2.2 (by decide) dD_addEdge_19 (ws3D ad cA f a (va_up (a 2 3) (Int.toNat (f 2 2)) x1)) ?_
    refine x_aload_n hx hb dD_addEdge_20 rfl 0 rfl ?_
    refine x_get hx hb hts (jnD _) hown hK _ (woD ad cA f (setA a 2 3 (va_up (a 2 3) (Int.toNat (f 2 2)) x1))) rfl 4 (by decide) (hts _ (List.mem_cons_of_mem _ kfD_15)) (fun _ h9 => h9) (v := .ref (ad 2 5)) (by rfl) dD_addEdge_21 ?_
    refine x_aload_n hx hb dD_addEdge_24 rfl 0 rfl ?_
    refine x_get hx hb hts (jnD _) hown hK _ (woD ad cA f (setA a 2 3 (va_up (a 2 3) (Int.toNat (f 2 2)) x1))) rfl 2 (by decide) (hts _ (List.mem_cons_of_mem _ kfD_46)) (fun _ h9 => h9) (v := .int (iI (f 2 2))) (by rfl) dD_addEdge_25 ?_
    refine x_iload_n hx hb dD_addEdge_28 rfl 2 rfl ?_
    refine x_iast hx hb hK _ _ (wa4D ad cA f (setA a 2 3 (va_up (a 2 3) (Int.toNat (f 2 2)) x1))) (wt4D cA) hj2.1 hj2.2 (by decide) dD_addEdge_29 (Eq.trans (by rw [(setA_k a (o := 2) (k := 3) (o' := 2) (k' := 4) (va_up (a 2 3) (Int.toNat (f 2 2)) x1) (by decide))]) (ws4D ad cA f (setA a 2 3 (va_up (a 2 3) (Int.toNat (f 2 2)) x1)) (va_up (a 2 4) (Int.toNat (f 2 2)) x2))) ?_
    refine x_aload_n hx hb dD_addEdge_30 rfl 0 rfl ?_
    refine x_get hx hb hts (jnD _) hown hK _ (woD ad cA f (setA (setA a 2 3 (va_up (a 2 3) (Int.toNat (f 2 2)) x1)) 2 4 (va_up (a 2 4) (Int.toNat (f 2 2)) x2))) rfl 5 (by decide) (hts _ (List.mem_cons_of_mem _ kfD_18)) (fun _ h9 => h9) (v := .ref (ad 2 6)) (by rfl) dD_addEdge_31 ?_
    refine x_aload_n hx hb dD_addEdge_34 rfl 0 rfl ?_
    refine x_get hx hb hts (jnD _) hown hK _ (woD ad cA f (setA (setA a 2 3 (va_up (a 2 3) (Int.toNat (f 2 2)) x1)) 2 4 (va_up (a 2 4) (Int.toNat (f 2 2)) x2))) rfl 2 (by decide) (hts _ (List.mem_cons_of_mem _ kfD_46)) (fun _ h9 => h9) (v := .int (iI (f 2 2))) (by rfl) dD_addEdge_35 ?_
    refine x_iload_n hx hb dD_addEdge_38 rfl 3 rfl ?_
    refine x_iast hx hb hK _ _ (wa5D ad cA f (setA (setA a 2 3 (va_up (a 2 3) (Int.toNat (f 2 2)) x1)) 2 4 (va_up (a 2 4) (Int.toNat (f 2 2)) x2))) (wt5D cA) hj2.1 hj2.2 (by decide) dD_addEdge_39 (Eq.trans (by rw [((setA_k (setA a 2 3 (va_up (a 2 3) (Int.toNat (f 2 2)) x1)) (o := 2) (k := 4) (o' := 2) (k' := 5) (va_up (a 2 4) (Int.toNat (f 2 2)) x2) (by decide)).trans (setA_k a (o := 2) (k := 3) (o' := 2) (k' := 5) (va_up (a 2 3) (Int.toNat (f 2 2)) x1) (by decide)))]) (ws5D ad cA f (setA (setA a 2 3 (va_up (a 2 3) (Int.toNat (f 2 2)) x1)) 2 4 (va_up (a 2 4) (Int.toNat (f 2 2)) x2)) (va_up (a 2 5) (Int.toNat (f 2 2)) x3))) ?_
    refine x_aload_n hx hb dD_addEdge_40 rfl 0 rfl ?_
    refine x_dup hx hb rfl dD_addEdge_41 ?_
    refine x_get hx hb hts (jnD _) hown hK _ (woD ad cA f (setA (setA (setA a 2 3 (va_up (a 2 3) (Int.toNat (f 2 2)) x1)) 2 4 (va_up (a 2 4) (Int.toNat (f 2 2)) x2)) 2 5 (va_up (a 2 5) (Int.toNat (f 2 2)) x3))) rfl 2 (by decide) (hts _ (List.mem_cons_of_mem _ kfD_46)) (fun _ h9 => h9) (v := .int (iI (f 2 2))) (by rfl) dD_addEdge_42 ?_
    refine x_iconst hx hb dD_addEdge_45 ?_
    refine x_iadd hx hb dD_addEdge_46 ?_
    refine x_put hx hb hts (jnD _) tyD tkD nmD hown hK _ (woD ad cA f (setA (setA (setA a 2 3 (va_up (a 2 3) (Int.toNat (f 2 2)) x1)) 2 4 (va_up (a 2 4) (Int.toNat (f 2 2)) x2)) 2 5 (va_up (a 2 5) (Int.toNat (f 2 2)) x3))) rfl 2 (by decide) (hts _ (List.mem_cons_of_mem _ kfD_46)) (fun _ h9 => h9) rfl (by decide +kernel) (Nat.le_of_ble_eq_true rfl) dD_addEdge_47 (wf2D ad cA f (setA (setA (setA a 2 3 (va_up (a 2 3) (Int.toNat (f 2 2)) x1)) 2 4 (va_up (a 2 4) (Int.toNat (f 2 2)) x2)) 2 5 (va_up (a 2 5) (Int.toNat (f 2 2)) x3)) ((f 2 2) + 1)) ?_
    refine x_sub [] rfl ?_
    exact tb_D_addEdge_50 hO (setF f 2 2 ((f 2 2) + 1)) (setA (setA (setA a 2 3 (va_up (a 2 3) (Int.toNat (f 2 2)) x1)) 2 4 (va_up (a 2 4) (Int.toNat (f 2 2)) x2)) 2 5 (va_up (a 2 5) (Int.toNat (f 2 2)) x3)) h
-- D_addCopy
abbrev rmD_addCopy : Room := { frames := 1, cells := 0, slots := 0, locals := 23 }
abbrev gD_addCopy (p : Program) (l : Launch) (e : Env) (s : State) (m : MethodId) (args : Array Value) (below : List Frame) (meth : Method) (c : Code) (A : Nat → Prop) (D : va_G) (ad : Nat → Nat → Nat) (cA : Nat → Nat → ClassId) (post : fS → aS → Prop) (f : fS) (a : aS) (lv : List (Nat × Value)) (pc : Nat) (st : List Value) : Prop := xV p l e rmD_addCopy s m args below meth c s.heap A 0 0 (xQV below D vwCl (taC cA) (CW ad cA) post A args s) D vwCl 6 (CW ad cA f a) lv pc st
def wb_D_addCopy_72 (post : fS → aS → Prop) (k20 : Nat → Int → Int → Int → fS → aS → Prop) (o1 : Nat) (x2 : Int) (x3 : Int) (x4 : Int) (f : fS) (a : aS) : Prop := k20 o1 x2 x3 (x4 + 2) f a
set_option maxHeartbeats 4000000 in
set_option maxRecDepth 100000 in
theorem tb_D_addCopy_72 {p : Program} {l : Launch} {e : Env} {s : State} {m : MethodId} {args : Array Value} {below : List Frame} {meth : Method} {c : Code} {A : Nat → Prop} {D : va_G} {ad : Nat → Nat → Nat} {cA : Nat → Nat → ClassId} {post : fS → aS → Prop} {k20 : Nat → Int → Int → Int → fS → aS → Prop} (hO : xOk cD_addCopy 6 RD (Cond.code yD_addCopy cD_addCopy 6 none :: xG) none p s m args meth c A D vwCl (taC cA)) (hk20 : ∀ (o1 : Nat) (x2 : Int) (x3 : Int) (x4 : Int) (f : fS) (a : aS), k20 o1 x2 x3 x4 f a → gD_addCopy p l e s m args below meth c A D ad cA post f a [(0, .ref (ad 2 0)), (1, .ref (ad o1 0)), (2, .int (iI x2)), (3, .int (iI x3)), (4, .int (iI x4))] 20 []) : ∀ (o1 : Nat) (x2 : Int) (x3 : Int) (x4 : Int) (f : fS) (a : aS), wb_D_addCopy_72 post k20 o1 x2 x3 x4 f a → gD_addCopy p l e s m args below meth c A D ad cA post f a [(0, .ref (ad 2 0)), (1, .ref (ad o1 0)), (2, .int (iI x2)), (3, .int (iI x3)), (4, .int (iI x4))] 72 [] := by
  have hO9 := hO
  obtain ⟨hx, hb, hml, hown, hts, hr, hlk, hK, hN, hA⟩ := hO9
  intro o1 x2 x3 x4 f a h
  unfold wb_D_addCopy_72 at h
  refine x_iinc hx hb dD_addCopy_72 4 rfl (by decide) (lv' := [(4, .int (iI (x4 + 2))), (0, .ref (ad 2 0)), (1, .ref (ad o1 0)), (2, .int (iI x2)), (3, .int (iI x3))]) rfl ?_
  refine x_goto hx hb (tgt := 20) dD_addCopy_75 (by decide) ?_
  refine x_sub [1, 2, 3, 4, 0] rfl ?_
  exact hk20 o1 x2 x3 (x4 + 2) f a h
def wb_D_addCopy_69 (post : fS → aS → Prop) (k20 : Nat → Int → Int → Int → fS → aS → Prop) (o1 : Nat) (x2 : Int) (x3 : Int) (x4 : Int) (y1 : Int) (y2 : Int) (y3 : Int) (f : fS) (a : aS) : Prop := wp_D_addEdge (fun f14 a15 => wb_D_addCopy_72 post k20 o1 x2 x3 x4 f14 a15) y1 y2 y3 f a
set_option maxHeartbeats 4000000 in
set_option maxRecDepth 100000 in
theorem tb_D_addCopy_69 {p : Program} {l : Launch} {e : Env} {s : State} {m : MethodId} {args : Array Value} {below : List Frame} {meth : Method} {c : Code} {A : Nat → Prop} {D : va_G} {ad : Nat → Nat → Nat} {cA : Nat → Nat → ClassId} {post : fS → aS → Prop} {k20 : Nat → Int → Int → Int → fS → aS → Prop} (hO : xOk cD_addCopy 6 RD (Cond.code yD_addCopy cD_addCopy 6 none :: xG) none p s m args meth c A D vwCl (taC cA)) (hk20 : ∀ (o1 : Nat) (x2 : Int) (x3 : Int) (x4 : Int) (f : fS) (a : aS), k20 o1 x2 x3 x4 f a → gD_addCopy p l e s m args below meth c A D ad cA post f a [(0, .ref (ad 2 0)), (1, .ref (ad o1 0)), (2, .int (iI x2)), (3, .int (iI x3)), (4, .int (iI x4))] 20 []) : ∀ (o1 : Nat) (x2 : Int) (x3 : Int) (x4 : Int) (y1 : Int) (y2 : Int) (y3 : Int) (f : fS) (a : aS), wb_D_addCopy_69 post k20 o1 x2 x3 x4 y1 y2 y3 f a → gD_addCopy p l e s m args below meth c A D ad cA post f a [(0, .ref (ad 2 0)), (1, .ref (ad o1 0)), (2, .int (iI x2)), (3, .int (iI x3)), (4, .int (iI x4))] 69 [.int (iI y3), .int (iI y2), .int (iI y1), .ref (ad 2 0)] := by
  have hO9 := hO
  obtain ⟨hx, hb, hml, hown, hts, hr, hlk, hK, hN, hA⟩ := hO9
  intro o1 x2 x3 x4 y1 y2 y3 f a h
  unfold wb_D_addCopy_69 at h
  refine x_cVv (n := 3) (st := []) (As := [.int (iI y1), .int (iI y2), .int (iI y3)]) ⟨hx, hb, hml, hown, hts⟩ hK hN (m_D_addEdge h) (x_cwV hts rfl rfl kcD_addEdge knD klD_62 kiD_addEdge keD_addEdge ⟨by decide, by decide, by decide +kernel⟩ ⟨by decide, by decide⟩) _ (woD ad cA f a) rfl hA rfl (Nat.le_of_ble_eq_true rfl) ⟨Nat.zero_le _, Nat.zero_le _⟩ rfl dD_addCopy_69 (fun f14 a15 h => ?_)
  exact tb_D_addCopy_72 hO hk20 o1 x2 x3 x4 f14 a15 h
def wb_D_addCopy_54 (post : fS → aS → Prop) (k20 : Nat → Int → Int → Int → fS → aS → Prop) (o1 : Nat) (x2 : Int) (x3 : Int) (x4 : Int) (x5 : Int) (y1 : Int) (f : fS) (a : aS) : Prop := ir x5 ∧ (((¬ x5 = 0) → (wb_D_addCopy_69 post k20 o1 x2 x3 x4 y1 x4 (x5 + x2) f a)) ∧ (¬ (¬ x5 = 0) → (wb_D_addCopy_69 post k20 o1 x2 x3 x4 y1 x4 0 f a)))
set_option maxHeartbeats 4000000 in
set_option maxRecDepth 100000 in
theorem tb_D_addCopy_54 {p : Program} {l : Launch} {e : Env} {s : State} {m : MethodId} {args : Array Value} {below : List Frame} {meth : Method} {c : Code} {A : Nat → Prop} {D : va_G} {ad : Nat → Nat → Nat} {cA : Nat → Nat → ClassId} {post : fS → aS → Prop} {k20 : Nat → Int → Int → Int → fS → aS → Prop} (hO : xOk cD_addCopy 6 RD (Cond.code yD_addCopy cD_addCopy 6 none :: xG) none p s m args meth c A D vwCl (taC cA)) (hk20 : ∀ (o1 : Nat) (x2 : Int) (x3 : Int) (x4 : Int) (f : fS) (a : aS), k20 o1 x2 x3 x4 f a → gD_addCopy p l e s m args below meth c A D ad cA post f a [(0, .ref (ad 2 0)), (1, .ref (ad o1 0)), (2, .int (iI x2)), (3, .int (iI x3)), (4, .int (iI x4))] 20 []) : ∀ (o1 : Nat) (x2 : Int) (x3 : Int) (x4 : Int) (x5 : Int) (y1 : Int) (f : fS) (a : aS), wb_D_addCopy_54 post k20 o1 x2 x3 x4 x5 y1 f a → gD_addCopy p l e s m args below meth c A D ad cA post f a [(0, .ref (ad 2 0)), (1, .ref (ad o1 0)), (2, .int (iI x2)), (3, .int (iI x3)), (4, .int (iI x4)), (5, .int (iI x5))] 54 [.int (iI y1), .ref (ad 2 0)] := by
  have hO9 := hO
  obtain ⟨hx, hb, hml, hown, hts, hr, hlk, hK, hN, hA⟩ := hO9
  intro o1 x2 x3 x4 x5 y1 f a h
  unfold wb_D_addCopy_54 at h
  refine x_iload hx hb dD_addCopy_54 4 rfl ?_
  refine x_iload hx hb dD_addCopy_56 5 rfl ?_
  obtain ⟨hi12, h⟩ := h
  refine x_if_ne hx hb (tgt := 65) hi12  dD_addCopy_58 (by decide) (fun hc => ?_) (fun hc => ?_)
  · have h := h.1 hc
    refine x_iload hx hb dD_addCopy_65 5 rfl ?_
    refine x_iload_n hx hb dD_addCopy_67 rfl 2 rfl ?_
    refine x_iadd hx hb dD_addCopy_68 ?_
    refine x_sub [0, 1, 2, 3, 4] rfl ?_
    exact tb_D_addCopy_69 hO hk20 o1 x2 x3 x4 y1 x4 (x5 + x2) f a h
  · have h := h.2 hc
    refine x_iconst hx hb dD_addCopy_61 ?_
    refine x_goto hx hb (tgt := 69) dD_addCopy_62 (by decide) ?_
    refine x_sub [0, 1, 2, 3, 4] rfl ?_
    exact tb_D_addCopy_69 hO hk20 o1 x2 x3 x4 y1 x4 0 f a h
def wb_D_addCopy_20 (post : fS → aS → Prop) (k9 : Nat → Int → Int → fS → aS → Prop) : Nat → Nat → Int → Int → Int → fS → aS → Prop
  | 0, _, _, _, _, _, _ => False
  | n + 1, o1, x2, x3, x4, f, a => ir x4 ∧ (((6 ≤ x4) → (k9 o1 x2 (x3 + 1) f a)) ∧ (¬ (6 ≤ x4) → ((3 ≤ o1 ∧ o1 < 7) ∧ (wp_G_way (fun z7 f8 a9 => ir z7 ∧ (((z7 = -1) → (wb_D_addCopy_72 post (wb_D_addCopy_20 post k9 n) o1 x2 x3 x4 f8 a9)) ∧ (¬ (z7 = -1) → (ir x3 ∧ (((¬ x3 = 0) → (wb_D_addCopy_54 post (wb_D_addCopy_20 post k9 n) o1 x2 x3 x4 z7 (x3 + x2) f8 a9)) ∧ (¬ (¬ x3 = 0) → (wb_D_addCopy_54 post (wb_D_addCopy_20 post k9 n) o1 x2 x3 x4 z7 0 f8 a9))))))) o1 x3 x4 f a))))
set_option maxHeartbeats 4000000 in
set_option maxRecDepth 100000 in
theorem tb_D_addCopy_20 {p : Program} {l : Launch} {e : Env} {s : State} {m : MethodId} {args : Array Value} {below : List Frame} {meth : Method} {c : Code} {A : Nat → Prop} {D : va_G} {ad : Nat → Nat → Nat} {cA : Nat → Nat → ClassId} {post : fS → aS → Prop} {k9 : Nat → Int → Int → fS → aS → Prop} (hO : xOk cD_addCopy 6 RD (Cond.code yD_addCopy cD_addCopy 6 none :: xG) none p s m args meth c A D vwCl (taC cA)) (hk9 : ∀ (o1 : Nat) (x2 : Int) (x3 : Int) (f : fS) (a : aS), k9 o1 x2 x3 f a → gD_addCopy p l e s m args below meth c A D ad cA post f a [(0, .ref (ad 2 0)), (1, .ref (ad o1 0)), (2, .int (iI x2)), (3, .int (iI x3))] 9 []) : ∀ (n : Nat) (o1 : Nat) (x2 : Int) (x3 : Int) (x4 : Int) (f : fS) (a : aS), wb_D_addCopy_20 post k9 n o1 x2 x3 x4 f a → gD_addCopy p l e s m args below meth c A D ad cA post f a [(0, .ref (ad 2 0)), (1, .ref (ad o1 0)), (2, .int (iI x2)), (3, .int (iI x3)), (4, .int (iI x4))] 20 [] := by
  have hO9 := hO
  obtain ⟨hx, hb, hml, hown, hts, hr, hlk, hK, hN, hA⟩ := hO9
  intro n
  induction n with
  | zero => intro o1 x2 x3 x4 f a h; exact False.elim h
  | succ n ih =>
    intro o1 x2 x3 x4 f a h
    rw [wb_D_addCopy_20] at h
    refine x_iload hx hb dD_addCopy_20 4 rfl ?_
    refine x_bipush hx hb dD_addCopy_22 (by decide) ?_
    obtain ⟨hi5, h⟩ := h
    refine x_icmp_ge hx hb (tgt := 78) hi5 (by decide) dD_addCopy_24 (by decide) (fun hc => ?_) (fun hc => ?_)
    · have h := h.1 hc
      refine x_iinc hx hb dD_addCopy_78 3 rfl (by decide) (lv' := [(3, .int (iI (x3 + 1))), (0, .ref (ad 2 0)), (1, .ref (ad o1 0)), (2, .int (iI x2)), (4, .int (iI x4))]) rfl ?_
      refine x_goto hx hb (tgt := 9) dD_addCopy_81 (by decide) ?_
      refine x_sub [1, 2, 3, 0] rfl ?_
      exact hk9 o1 x2 (x3 + 1) f a h
    · have h := h.2 hc
      refine x_aload_n hx hb dD_addCopy_27 rfl 1 rfl ?_
      refine x_iload_n hx hb dD_addCopy_28 rfl 3 rfl ?_
      refine x_iload hx hb dD_addCopy_29 4 rfl ?_
      obtain ⟨hg6, h⟩ := h
      refine x_cVNi (n := 2) (st := []) (As := [.int (iI x3), .int (iI x4)]) ⟨hx, hb, hml, hown, hts⟩ hK hN (m_G_way h) (x_cwVN hts rfl rfl kcG_way knG hN nlD_58 kiG_way keG_way ⟨by decide, by decide, by decide +kernel⟩ ⟨by decide, by decide⟩) _ (woG ad cA f a o1 hg6) rfl hA rfl (Nat.le_of_ble_eq_true rfl) ⟨Nat.zero_le _, Nat.zero_le _⟩ rfl dD_addCopy_31 (fun z7 f8 a9 h => ?_)
      refine x_istore hx hb dD_addCopy_34 (by decide) (lv' := [(5, .int (iI z7)), (0, .ref (ad 2 0)), (1, .ref (ad o1 0)), (2, .int (iI x2)), (3, .int (iI x3)), (4, .int (iI x4))]) rfl ?_
      refine x_iload hx hb dD_addCopy_36 0 rfl ?_
      refine x_iconst hx hb dD_addCopy_38 ?_
      obtain ⟨hi10, h⟩ := h
      refine x_icmp_eq hx hb (tgt := 72) hi10 (by decide) dD_addCopy_39 (by decide) (fun hc => ?_) (fun hc => ?_)
      · have h := h.1 hc
        refine x_sub [1, 2, 3, 4, 5] rfl ?_
        exact tb_D_addCopy_72 hO ih o1 x2 x3 x4 f8 a9 h
      · have h := h.2 hc
        refine x_aload_n hx hb dD_addCopy_42 rfl 1 rfl ?_
        refine x_iload_n hx hb dD_addCopy_43 rfl 4 rfl ?_
        obtain ⟨hi11, h⟩ := h
        refine x_if_ne hx hb (tgt := 51) hi11  dD_addCopy_44 (by decide) (fun hc => ?_) (fun hc => ?_)
        · have h := h.1 hc
          refine x_iload_n hx hb dD_addCopy_51 rfl 4 rfl ?_
          refine x_iload_n hx hb dD_addCopy_52 rfl 3 rfl ?_
          refine x_iadd hx hb dD_addCopy_53 ?_
          refine x_sub [1, 2, 3, 4, 5, 0] rfl ?_
          exact tb_D_addCopy_54 hO ih o1 x2 x3 x4 z7 (x3 + x2) f8 a9 h
        · have h := h.2 hc
          refine x_iconst hx hb dD_addCopy_47 ?_
          refine x_goto hx hb (tgt := 54) dD_addCopy_48 (by decide) ?_
          refine x_sub [1, 2, 3, 4, 5, 0] rfl ?_
          exact tb_D_addCopy_54 hO ih o1 x2 x3 x4 z7 0 f8 a9 h
def wb_D_addCopy_9 (post : fS → aS → Prop) : Nat → Nat → Int → Int → fS → aS → Prop
  | 0, _, _, _, _, _ => False
  | n + 1, o1, x2, x3, f, a => (3 ≤ o1 ∧ o1 < 7) ∧ (ir x3 ∧ (ir (f o1 0) ∧ (((f o1 0 ≤ x3) → (post (setF f 2 0 ((f 2 0) + ((f o1 0) - 1))) a)) ∧ (¬ (f o1 0 ≤ x3) → (∃ j, wb_D_addCopy_20 post (wb_D_addCopy_9 post n) j o1 x2 x3 0 f a)))))
set_option maxHeartbeats 4000000 in
set_option maxRecDepth 100000 in
theorem tb_D_addCopy_9 {p : Program} {l : Launch} {e : Env} {s : State} {m : MethodId} {args : Array Value} {below : List Frame} {meth : Method} {c : Code} {A : Nat → Prop} {D : va_G} {ad : Nat → Nat → Nat} {cA : Nat → Nat → ClassId} {post : fS → aS → Prop} (hO : xOk cD_addCopy 6 RD (Cond.code yD_addCopy cD_addCopy 6 none :: xG) none p s m args meth c A D vwCl (taC cA)) : ∀ (n : Nat) (o1 : Nat) (x2 : Int) (x3 : Int) (f : fS) (a : aS), wb_D_addCopy_9 post n o1 x2 x3 f a → gD_addCopy p l e s m args below meth c A D ad cA post f a [(0, .ref (ad 2 0)), (1, .ref (ad o1 0)), (2, .int (iI x2)), (3, .int (iI x3))] 9 [] := by
  have hO9 := hO
  obtain ⟨hx, hb, hml, hown, hts, hr, hlk, hK, hN, hA⟩ := hO9
  intro n
  induction n with
  | zero => intro o1 x2 x3 f a h; exact False.elim h
  | succ n ih =>
    intro o1 x2 x3 f a h
    rw [wb_D_addCopy_9] at h
    refine x_iload_n hx hb dD_addCopy_9 rfl 3 rfl ?_
    refine x_aload_n hx hb dD_addCopy_10 rfl 1 rfl ?_
    obtain ⟨hg2, h⟩ := h
    refine x_getN hx hb hts (jnG _) hown hK _ (woG ad cA f a o1 hg2) rfl 0 (by decide) (va_Nw.use rfl (hN.1 _ nfD_55)) (fun _ h9 => h9) (v := .int (iI (f o1 0))) (by rfl) dD_addCopy_11 ?_
    obtain ⟨hi3, h⟩ := h
    obtain ⟨hi4, h⟩ := h
    refine x_icmp_ge hx hb (tgt := 84) hi3 hi4 dD_addCopy_14 (by decide) (fun hc => ?_) (fun hc => ?_)
    · have h := h.1 hc
      refine x_aload_n hx hb dD_addCopy_84 rfl 0 rfl ?_
      refine x_dup hx hb rfl dD_addCopy_85 ?_
      refine x_get hx hb hts (jnD _) hown hK _ (woD ad cA f a) rfl 0 (by decide) (hts _ (List.mem_cons_of_mem _ kfD_39)) (fun _ h9 => h9) (v := .int (iI (f 2 0))) (by rfl) dD_addCopy_86 ?_
      refine x_aload_n hx hb dD_addCopy_89 rfl 1 rfl ?_
      refine x_getN hx hb hts (jnG _) hown hK _ (woG ad cA f a o1 hg2) rfl 0 (by decide) (va_Nw.use rfl (hN.1 _ nfD_55)) (fun _ h9 => h9) (v := .int (iI (f o1 0))) (by rfl) dD_addCopy_90 ?_
      refine x_iconst hx hb dD_addCopy_93 ?_
      refine x_isub hx hb dD_addCopy_94 ?_
      refine x_iadd hx hb dD_addCopy_95 ?_
      refine x_put hx hb hts (jnD _) tyD tkD nmD hown hK _ (woD ad cA f a) rfl 0 (by decide) (hts _ (List.mem_cons_of_mem _ kfD_39)) (fun _ h9 => h9) rfl (by decide +kernel) (Nat.le_of_ble_eq_true rfl) dD_addCopy_96 (wf0D ad cA f a ((f 2 0) + ((f o1 0) - 1))) ?_
      exact x_vret hx hb hr hlk hK dD_addCopy_99 h
    · have h := h.2 hc
      refine x_iconst hx hb dD_addCopy_17 ?_
      refine x_istore hx hb dD_addCopy_18 (by decide) (lv' := [(4, .int (iI 0)), (0, .ref (ad 2 0)), (1, .ref (ad o1 0)), (2, .int (iI x2)), (3, .int (iI x3))]) rfl ?_
      obtain ⟨j, h⟩ := h
      refine x_sub [1, 2, 3, 4, 0] rfl ?_
      exact tb_D_addCopy_20 hO ih j o1 x2 x3 0 f a h
def wp_D_addCopy (post : fS → aS → Prop) (o1 : Nat) (f : fS) (a : aS) : Prop := ∀ t1 : Int, t1 = (f 2 0) - 1 → (∃ j, wb_D_addCopy_9 post j o1 t1 0 f a)
set_option maxHeartbeats 4000000 in
set_option maxRecDepth 100000 in
theorem m_D_addCopy {l : Launch} {D : va_G} {ad : Nat → Nat → Nat} {cA : Nat → Nat → ClassId} {post : fS → aS → Prop} {o1 : Nat} {f : fS} {a : aS} (h : wp_D_addCopy post o1 f a) : xCV l yD_addCopy (Cond.code yD_addCopy cD_addCopy 6 none :: xG) rmD_addCopy D vwCl (taC cA) (CW ad cA f a) [.ref (ad 2 0), .ref (ad o1 0)] (CW ad cA) post := by
  refine x_metV (cc := cD_addCopy) (nL := 6) (by decide) rfl (Nat.le_of_ble_eq_true rfl) ?_
  intro p e s m below meth c A hO
  have hO9 := hO
  obtain ⟨hx, hb, hml, hown, hts, hr, hlk, hK, hN, hA⟩ := hO9
  unfold wp_D_addCopy at h
  show gD_addCopy p l e s m _ below meth c A D ad cA post f a [(0, .ref (ad 2 0)), (1, .ref (ad o1 0))] 0 []
  refine x_aload_n hx hb dD_addCopy_0 rfl 0 rfl ?_
  refine x_get hx hb hts (jnD _) hown hK _ (woD ad cA f a) rfl 0 (by decide) (hts _ (List.mem_cons_of_mem _ kfD_39)) (fun _ h9 => h9) (v := .int (iI (f 2 0))) (by rfl) dD_addCopy_1 ?_
  refine x_iconst hx hb dD_addCopy_4 ?_
  refine x_isub hx hb dD_addCopy_5 ?_
  refine x_topi (fun t1 et1 => ?_)
  have h := h t1 et1
  refine x_istore_n hx hb dD_addCopy_6 rfl (by decide) (lv' := [(2, .int (iI t1)), (0, .ref (ad 2 0)), (1, .ref (ad o1 0))]) rfl ?_
  refine x_iconst hx hb dD_addCopy_7 ?_
  refine x_istore_n hx hb dD_addCopy_8 rfl (by decide) (lv' := [(3, .int (iI 0)), (2, .int (iI t1)), (0, .ref (ad 2 0)), (1, .ref (ad o1 0))]) rfl ?_
  obtain ⟨j, h⟩ := h
  refine x_sub [2, 3, 1, 0] rfl ?_
  exact tb_D_addCopy_9 hO j o1 t1 0 f a h
-- X_codeOf
abbrev rmX_codeOf : Room := { frames := 0, cells := 0, slots := 0, locals := 0 }
abbrev gX_codeOf (p : Program) (l : Launch) (e : Env) (s : State) (m : MethodId) (args : Array Value) (below : List Frame) (meth : Method) (c : Code) (A : Nat → Prop) (D : va_G) (ad : Nat → Nat → Nat) (cA : Nat → Nat → ClassId) (post : Int → fS → aS → Prop) (f : fS) (a : aS) (lv : List (Nat × Value)) (pc : Nat) (st : List Value) : Prop := xV p l e rmX_codeOf s m args below meth c s.heap A 0 0 (xQI below D vwCl (taC cA) (CW ad cA) post A args s) D vwCl 1 (CW ad cA f a) lv pc st
def wb_X_codeOf_18 (post : Int → fS → aS → Prop) (y0 : Int) (f : fS) (a : aS) : Prop := post y0 f a
set_option maxHeartbeats 4000000 in
set_option maxRecDepth 100000 in
theorem tb_X_codeOf_18 {p : Program} {l : Launch} {e : Env} {s : State} {m : MethodId} {args : Array Value} {below : List Frame} {meth : Method} {c : Code} {A : Nat → Prop} {D : va_G} {ad : Nat → Nat → Nat} {cA : Nat → Nat → ClassId} {post : Int → fS → aS → Prop} (hO : xOk cX_codeOf 1 RX (Cond.code yX_codeOf cX_codeOf 1 (some .int) :: xG) (some .int) p s m args meth c A D vwCl (taC cA)) : ∀ (y0 : Int) (f : fS) (a : aS), wb_X_codeOf_18 post y0 f a → gX_codeOf p l e s m args below meth c A D ad cA post f a [] 18 [.int (iI y0)] := by
  have hO9 := hO
  obtain ⟨hx, hb, hml, hown, hts, hr, hlk, hK, hN, hA⟩ := hO9
  intro y0 f a h
  unfold wb_X_codeOf_18 at h
  exact x_iret hx hb hr hlk hK dX_codeOf_18 h
def wp_X_codeOf (post : Int → fS → aS → Prop) (x0 : Int) (f : fS) (a : aS) : Prop := ir x0 ∧ (((x0 ≤ 0) → (wb_X_codeOf_18 post (((-2) * x0) - 1) f a)) ∧ (¬ (x0 ≤ 0) → (wb_X_codeOf_18 post ((2 * x0) - 2) f a)))
set_option maxHeartbeats 4000000 in
set_option maxRecDepth 100000 in
theorem m_X_codeOf {l : Launch} {D : va_G} {ad : Nat → Nat → Nat} {cA : Nat → Nat → ClassId} {post : Int → fS → aS → Prop} {x0 : Int} {f : fS} {a : aS} (h : wp_X_codeOf post x0 f a) : xCI l yX_codeOf (Cond.code yX_codeOf cX_codeOf 1 (some .int) :: xG) rmX_codeOf D vwCl (taC cA) (CW ad cA f a) [.int (iI x0)] (CW ad cA) post := by
  refine x_metI (cc := cX_codeOf) (nL := 1) (by decide) rfl (Nat.le_of_ble_eq_true rfl) ?_
  intro p e s m below meth c A hO
  have hO9 := hO
  obtain ⟨hx, hb, hml, hown, hts, hr, hlk, hK, hN, hA⟩ := hO9
  unfold wp_X_codeOf at h
  show gX_codeOf p l e s m _ below meth c A D ad cA post f a [(0, .int (iI x0))] 0 []
  refine x_iload_n hx hb dX_codeOf_0 rfl 0 rfl ?_
  obtain ⟨hi1, h⟩ := h
  refine x_if_le hx hb (tgt := 12) hi1  dX_codeOf_1 (by decide) (fun hc => ?_) (fun hc => ?_)
  · have h := h.1 hc
    refine x_bipush hx hb dX_codeOf_12 (by decide) ?_
    refine x_iload_n hx hb dX_codeOf_14 rfl 0 rfl ?_
    refine x_imul hx hb dX_codeOf_15 ?_
    refine x_iconst hx hb dX_codeOf_16 ?_
    refine x_isub hx hb dX_codeOf_17 ?_
    refine x_sub [] rfl ?_
    exact tb_X_codeOf_18 hO (((-2) * x0) - 1) f a h
  · have h := h.2 hc
    refine x_iconst hx hb dX_codeOf_4 ?_
    refine x_iload_n hx hb dX_codeOf_5 rfl 0 rfl ?_
    refine x_imul hx hb dX_codeOf_6 ?_
    refine x_iconst hx hb dX_codeOf_7 ?_
    refine x_isub hx hb dX_codeOf_8 ?_
    refine x_goto hx hb (tgt := 18) dX_codeOf_9 (by decide) ?_
    refine x_sub [] rfl ?_
    exact tb_X_codeOf_18 hO ((2 * x0) - 2) f a h
-- D_addRow
abbrev rmD_addRow : Room := { frames := 1, cells := 0, slots := 0, locals := 23 }
abbrev gD_addRow (p : Program) (l : Launch) (e : Env) (s : State) (m : MethodId) (args : Array Value) (below : List Frame) (meth : Method) (c : Code) (A : Nat → Prop) (D : va_G) (ad : Nat → Nat → Nat) (cA : Nat → Nat → ClassId) (post : Int → fS → aS → Prop) (f : fS) (a : aS) (lv : List (Nat × Value)) (pc : Nat) (st : List Value) : Prop := xV p l e rmD_addRow s m args below meth c s.heap A 0 0 (xQI below D vwCl (taC cA) (CW ad cA) post A args s) D vwCl 5 (CW ad cA f a) lv pc st
def wb_D_addRow_5 (post : Int → fS → aS → Prop) : Nat → Int → Int → Int → fS → aS → Prop
  | 0, _, _, _, _, _ => False
  | n + 1, x2, x3, x4, f, a => ir x4 ∧ (ir x2 ∧ (((x2 ≤ x4) → (post x3 f a)) ∧ (¬ (x2 ≤ x4) → ((0 ≤ x4 ∧ x4 < 24) ∧ (wp_X_codeOf (fun z4 f5 a6 => wp_D_addEdge (fun f8 a9 => ∀ t10 : Int, t10 = f8 2 0 → (wb_D_addRow_5 post n x2 t10 (x4 + 1) (setF f8 2 0 ((f8 2 0) + 1)) a9)) x3 z4 (f5 2 0) f5 a6) (a 1 0 (Int.toNat x4)) f a)))))
set_option maxHeartbeats 4000000 in
set_option maxRecDepth 100000 in
theorem tb_D_addRow_5 {p : Program} {l : Launch} {e : Env} {s : State} {m : MethodId} {args : Array Value} {below : List Frame} {meth : Method} {c : Code} {A : Nat → Prop} {D : va_G} {ad : Nat → Nat → Nat} {cA : Nat → Nat → ClassId} {post : Int → fS → aS → Prop} (hO : xOk cD_addRow 5 RD (Cond.code yD_addRow cD_addRow 5 (some .int) :: xG) (some .int) p s m args meth c A D vwCl (taC cA)) : ∀ (n : Nat) (x2 : Int) (x3 : Int) (x4 : Int) (f : fS) (a : aS), wb_D_addRow_5 post n x2 x3 x4 f a → gD_addRow p l e s m args below meth c A D ad cA post f a [(0, .ref (ad 2 0)), (1, .ref (ad 1 0)), (2, .int (iI x2)), (3, .int (iI x3)), (4, .int (iI x4))] 5 [] := by
  have hO9 := hO
  obtain ⟨hx, hb, hml, hown, hts, hr, hlk, hK, hN, hA⟩ := hO9
  intro n
  induction n with
  | zero => intro x2 x3 x4 f a h; exact False.elim h
  | succ n ih =>
    intro x2 x3 x4 f a h
    rw [wb_D_addRow_5] at h
    refine x_iload hx hb dD_addRow_5 4 rfl ?_
    refine x_iload_n hx hb dD_addRow_7 rfl 2 rfl ?_
    obtain ⟨hi1, h⟩ := h
    obtain ⟨hi2, h⟩ := h
    refine x_icmp_ge hx hb (tgt := 51) hi1 hi2 dD_addRow_8 (by decide) (fun hc => ?_) (fun hc => ?_)
    · have h := h.1 hc
      refine x_iload_n hx hb dD_addRow_51 rfl 3 rfl ?_
      exact x_iret hx hb hr hlk hK dD_addRow_52 h
    · have h := h.2 hc
      refine x_aload_n hx hb dD_addRow_11 rfl 0 rfl ?_
      refine x_iload_n hx hb dD_addRow_12 rfl 3 rfl ?_
      refine x_aload_n hx hb dD_addRow_13 rfl 1 rfl ?_
      refine x_getN hx hb hts (jnW _) hown hK _ (woW ad cA f a) rfl 0 (by decide) (va_Nw.use rfl (hN.1 _ nfD_73)) (fun _ h9 => h9) (v := .ref (ad 1 1)) (by rfl) dD_addRow_14 ?_
      refine x_iload hx hb dD_addRow_17 4 rfl ?_
      obtain ⟨hj3, h⟩ := h
      refine x_iald hx hb hK _ _ (wa0W ad cA f a) (wt0W cA) hj3.1 hj3.2 (by decide) dD_addRow_19 ?_
      refine x_cSNi (n := 1) (st := [.int (iI x3), .ref (ad 2 0)]) (As := [.int (iI (a 1 0 (Int.toNat x4)))]) ⟨hx, hb, hml, hown, hts⟩ hK hN (m_X_codeOf h) (x_cwSN hts rfl rfl kcX_codeOf knX hN nlD_76 ksX_codeOf ⟨by decide, by decide, by decide +kernel⟩ ⟨by decide, by decide⟩) hA rfl (Nat.le_of_ble_eq_true rfl) ⟨Nat.zero_le _, Nat.zero_le _⟩ rfl dD_addRow_20 (fun z4 f5 a6 h => ?_)
      refine x_aload_n hx hb dD_addRow_23 rfl 0 rfl ?_
      refine x_get hx hb hts (jnD _) hown hK _ (woD ad cA f5 a6) rfl 0 (by decide) (hts _ (List.mem_cons_of_mem _ kfD_39)) (fun _ h9 => h9) (v := .int (iI (f5 2 0))) (by rfl) dD_addRow_24 ?_
      refine x_cVv (n := 3) (st := []) (As := [.int (iI x3), .int (iI z4), .int (iI (f5 2 0))]) ⟨hx, hb, hml, hown, hts⟩ hK hN (m_D_addEdge h) (x_cwV hts rfl rfl kcD_addEdge knD klD_62 kiD_addEdge keD_addEdge ⟨by decide, by decide, by decide +kernel⟩ ⟨by decide, by decide⟩) _ (woD ad cA f5 a6) rfl hA rfl (Nat.le_of_ble_eq_true rfl) ⟨Nat.zero_le _, Nat.zero_le _⟩ rfl dD_addRow_27 (fun f8 a9 h => ?_)
      refine x_aload_n hx hb dD_addRow_30 rfl 0 rfl ?_
      refine x_get hx hb hts (jnD _) hown hK _ (woD ad cA f8 a9) rfl 0 (by decide) (hts _ (List.mem_cons_of_mem _ kfD_39)) (fun _ h9 => h9) (v := .int (iI (f8 2 0))) (by rfl) dD_addRow_31 ?_
      refine x_topi (fun t10 et10 => ?_)
      have h := h t10 et10
      refine x_istore_n hx hb dD_addRow_34 rfl (by decide) (lv' := [(3, .int (iI t10)), (0, .ref (ad 2 0)), (1, .ref (ad 1 0)), (2, .int (iI x2)), (4, .int (iI x4))]) rfl ?_
      refine x_aload_n hx hb dD_addRow_35 rfl 1 rfl ?_
      refine x_dup hx hb rfl dD_addRow_36 ?_
      refine x_get hx hb hts (jnD _) hown hK _ (woD ad cA f8 a9) rfl 0 (by decide) (hts _ (List.mem_cons_of_mem _ kfD_39)) (fun _ h9 => h9) (v := .int (iI (f8 2 0))) (by rfl) dD_addRow_37 ?_
      refine x_iconst hx hb dD_addRow_40 ?_
      refine x_iadd hx hb dD_addRow_41 ?_
      refine x_put hx hb hts (jnD _) tyD tkD nmD hown hK _ (woD ad cA f8 a9) rfl 0 (by decide) (hts _ (List.mem_cons_of_mem _ kfD_39)) (fun _ h9 => h9) rfl (by decide +kernel) (Nat.le_of_ble_eq_true rfl) dD_addRow_42 (wf0D ad cA f8 a9 ((f8 2 0) + 1)) ?_
      refine x_iinc hx hb dD_addRow_45 4 rfl (by decide) (lv' := [(4, .int (iI (x4 + 1))), (3, .int (iI t10)), (0, .ref (ad 2 0)), (1, .ref (ad 1 0)), (2, .int (iI x2))]) rfl ?_
      refine x_goto hx hb (tgt := 5) dD_addRow_48 (by decide) ?_
      refine x_sub [2, 3, 4, 1, 0] rfl ?_
      exact ih x2 t10 (x4 + 1) (setF f8 2 0 ((f8 2 0) + 1)) a9 h
def wp_D_addRow (post : Int → fS → aS → Prop) (x2 : Int) (f : fS) (a : aS) : Prop := ∃ j, wb_D_addRow_5 post j x2 0 0 f a
set_option maxHeartbeats 4000000 in
set_option maxRecDepth 100000 in
theorem m_D_addRow {l : Launch} {D : va_G} {ad : Nat → Nat → Nat} {cA : Nat → Nat → ClassId} {post : Int → fS → aS → Prop} {x2 : Int} {f : fS} {a : aS} (h : wp_D_addRow post x2 f a) : xCI l yD_addRow (Cond.code yD_addRow cD_addRow 5 (some .int) :: xG) rmD_addRow D vwCl (taC cA) (CW ad cA f a) [.ref (ad 2 0), .ref (ad 1 0), .int (iI x2)] (CW ad cA) post := by
  refine x_metI (cc := cD_addRow) (nL := 5) (by decide) rfl (Nat.le_of_ble_eq_true rfl) ?_
  intro p e s m below meth c A hO
  have hO9 := hO
  obtain ⟨hx, hb, hml, hown, hts, hr, hlk, hK, hN, hA⟩ := hO9
  unfold wp_D_addRow at h
  show gD_addRow p l e s m _ below meth c A D ad cA post f a [(0, .ref (ad 2 0)), (1, .ref (ad 1 0)), (2, .int (iI x2))] 0 []
  refine x_iconst hx hb dD_addRow_0 ?_
  refine x_istore_n hx hb dD_addRow_1 rfl (by decide) (lv' := [(3, .int (iI 0)), (0, .ref (ad 2 0)), (1, .ref (ad 1 0)), (2, .int (iI x2))]) rfl ?_
  refine x_iconst hx hb dD_addRow_2 ?_
  refine x_istore hx hb dD_addRow_3 (by decide) (lv' := [(4, .int (iI 0)), (3, .int (iI 0)), (0, .ref (ad 2 0)), (1, .ref (ad 1 0)), (2, .int (iI x2))]) rfl ?_
  obtain ⟨j, h⟩ := h
  refine x_sub [2, 3, 4, 1, 0] rfl ?_
  exact tb_D_addRow_5 hO j x2 0 0 f a h
-- D_addRing
abbrev rmD_addRing : Room := { frames := 2, cells := 0, slots := 0, locals := 47 }
abbrev gD_addRing (p : Program) (l : Launch) (e : Env) (s : State) (m : MethodId) (args : Array Value) (below : List Frame) (meth : Method) (c : Code) (A : Nat → Prop) (D : va_G) (ad : Nat → Nat → Nat) (cA : Nat → Nat → ClassId) (post : fS → aS → Prop) (f : fS) (a : aS) (lv : List (Nat × Value)) (pc : Nat) (st : List Value) : Prop := xV p l e rmD_addRing s m args below meth c s.heap A 0 0 (xQV below D vwCl (taC cA) (CW ad cA) post A args s) D vwCl 3 (CW ad cA f a) lv pc st
def wb_D_addRing_39 (post : fS → aS → Prop) (f : fS) (a : aS) : Prop := post f a
set_option maxHeartbeats 4000000 in
set_option maxRecDepth 100000 in
theorem tb_D_addRing_39 {p : Program} {l : Launch} {e : Env} {s : State} {m : MethodId} {args : Array Value} {below : List Frame} {meth : Method} {c : Code} {A : Nat → Prop} {D : va_G} {ad : Nat → Nat → Nat} {cA : Nat → Nat → ClassId} {post : fS → aS → Prop} (hO : xOk cD_addRing 3 RD (Cond.code yD_addRing cD_addRing 3 none :: xG) none p s m args meth c A D vwCl (taC cA)) : ∀ (f : fS) (a : aS), wb_D_addRing_39 post f a → gD_addRing p l e s m args below meth c A D ad cA post f a [] 39 [] := by
  have hO9 := hO
  obtain ⟨hx, hb, hml, hown, hts, hr, hlk, hK, hN, hA⟩ := hO9
  intro f a h
  unfold wb_D_addRing_39 at h
  exact x_vret hx hb hr hlk hK dD_addRing_39 h
def wp_D_addRing (post : fS → aS → Prop) (f : fS) (a : aS) : Prop := ir (f 1 1) ∧ (((f 1 1 ≤ 0) → (wb_D_addRing_39 post f a)) ∧ (¬ (f 1 1 ≤ 0) → (wp_D_addRow (fun z2 f3 a4 => (0 ≤ (f3 1 1) - 1 ∧ (f3 1 1) - 1 < 24) ∧ (wp_X_codeOf (fun z6 f7 a8 => wp_D_addEdge (fun f10 a11 => wb_D_addRing_39 post f10 a11) z2 z6 0 f7 a8) ((a4 1 0) (Int.toNat ((f3 1 1) - 1))) f3 a4)) ((f 1 1) - 1) f a)))
set_option maxHeartbeats 4000000 in
set_option maxRecDepth 100000 in
theorem m_D_addRing {l : Launch} {D : va_G} {ad : Nat → Nat → Nat} {cA : Nat → Nat → ClassId} {post : fS → aS → Prop} {f : fS} {a : aS} (h : wp_D_addRing post  f a) : xCV l yD_addRing (Cond.code yD_addRing cD_addRing 3 none :: xG) rmD_addRing D vwCl (taC cA) (CW ad cA f a) [.ref (ad 2 0), .ref (ad 1 0)] (CW ad cA) post := by
  refine x_metV (cc := cD_addRing) (nL := 3) (by decide) rfl (Nat.le_of_ble_eq_true rfl) ?_
  intro p e s m below meth c A hO
  have hO9 := hO
  obtain ⟨hx, hb, hml, hown, hts, hr, hlk, hK, hN, hA⟩ := hO9
  unfold wp_D_addRing at h
  show gD_addRing p l e s m _ below meth c A D ad cA post f a [(0, .ref (ad 2 0)), (1, .ref (ad 1 0))] 0 []
  refine x_aload_n hx hb dD_addRing_0 rfl 1 rfl ?_
  refine x_getN hx hb hts (jnW _) hown hK _ (woW ad cA f a) rfl 1 (by decide) (va_Nw.use rfl (hN.1 _ nfD_66)) (fun _ h9 => h9) (v := .int (iI (f 1 1))) (by rfl) dD_addRing_1 ?_
  obtain ⟨hi1, h⟩ := h
  refine x_if_le hx hb (tgt := 39) hi1  dD_addRing_4 (by decide) (fun hc => ?_) (fun hc => ?_)
  · have h := h.1 hc
    refine x_sub [] rfl ?_
    exact tb_D_addRing_39 hO f a h
  · have h := h.2 hc
    refine x_aload_n hx hb dD_addRing_7 rfl 0 rfl ?_
    refine x_aload_n hx hb dD_addRing_8 rfl 1 rfl ?_
    refine x_aload_n hx hb dD_addRing_9 rfl 1 rfl ?_
    refine x_getN hx hb hts (jnW _) hown hK _ (woW ad cA f a) rfl 1 (by decide) (va_Nw.use rfl (hN.1 _ nfD_66)) (fun _ h9 => h9) (v := .int (iI (f 1 1))) (by rfl) dD_addRing_10 ?_
    refine x_iconst hx hb dD_addRing_13 ?_
    refine x_isub hx hb dD_addRing_14 ?_
    refine x_cVi (n := 2) (st := []) (As := [.ref (ad 1 0), .int (iI ((f 1 1) - 1))]) ⟨hx, hb, hml, hown, hts⟩ hK hN (m_D_addRow h) (x_cwV hts rfl rfl kcD_addRow knD klD_69 kiD_addRow keD_addRow ⟨by decide, by decide, by decide +kernel⟩ ⟨by decide, by decide⟩) _ (woD ad cA f a) rfl hA rfl (Nat.le_of_ble_eq_true rfl) ⟨Nat.zero_le _, Nat.zero_le _⟩ rfl dD_addRing_15 (fun z2 f3 a4 h => ?_)
    refine x_istore_n hx hb dD_addRing_18 rfl (by decide) (lv' := [(2, .int (iI z2)), (0, .ref (ad 2 0)), (1, .ref (ad 1 0))]) rfl ?_
    refine x_aload_n hx hb dD_addRing_19 rfl 1 rfl ?_
    refine x_iload_n hx hb dD_addRing_20 rfl 0 rfl ?_
    refine x_aload_n hx hb dD_addRing_21 rfl 2 rfl ?_
    refine x_getN hx hb hts (jnW _) hown hK _ (woW ad cA f3 a4) rfl 0 (by decide) (va_Nw.use rfl (hN.1 _ nfD_73)) (fun _ h9 => h9) (v := .ref (ad 1 1)) (by rfl) dD_addRing_22 ?_
    refine x_aload_n hx hb dD_addRing_25 rfl 2 rfl ?_
    refine x_getN hx hb hts (jnW _) hown hK _ (woW ad cA f3 a4) rfl 1 (by decide) (va_Nw.use rfl (hN.1 _ nfD_66)) (fun _ h9 => h9) (v := .int (iI (f3 1 1))) (by rfl) dD_addRing_26 ?_
    refine x_iconst hx hb dD_addRing_29 ?_
    refine x_isub hx hb dD_addRing_30 ?_
    obtain ⟨hj5, h⟩ := h
    refine x_iald hx hb hK _ _ (wa0W ad cA f3 a4) (wt0W cA) hj5.1 hj5.2 (by decide) dD_addRing_31 ?_
    refine x_cSNi (n := 1) (st := [.int (iI z2), .ref (ad 2 0)]) (As := [.int (iI ((a4 1 0) (Int.toNat ((f3 1 1) - 1))))]) ⟨hx, hb, hml, hown, hts⟩ hK hN (m_X_codeOf h) (x_cwSN hts rfl rfl kcX_codeOf knX hN nlD_76 ksX_codeOf ⟨by decide, by decide, by decide +kernel⟩ ⟨by decide, by decide⟩) hA rfl (Nat.le_of_ble_eq_true rfl) ⟨Nat.zero_le _, Nat.zero_le _⟩ rfl dD_addRing_32 (fun z6 f7 a8 h => ?_)
    refine x_iconst hx hb dD_addRing_35 ?_
    refine x_cVv (n := 3) (st := []) (As := [.int (iI z2), .int (iI z6), .int (iI 0)]) ⟨hx, hb, hml, hown, hts⟩ hK hN (m_D_addEdge h) (x_cwV hts rfl rfl kcD_addEdge knD klD_62 kiD_addEdge keD_addEdge ⟨by decide, by decide, by decide +kernel⟩ ⟨by decide, by decide⟩) _ (woD ad cA f7 a8) rfl hA rfl (Nat.le_of_ble_eq_true rfl) ⟨Nat.zero_le _, Nat.zero_le _⟩ rfl dD_addRing_36 (fun f10 a11 h => ?_)
    refine x_sub [] rfl ?_
    exact tb_D_addRing_39 hO f10 a11 h
-- D_unite
abbrev rmD_unite : Room := { frames := 0, cells := 0, slots := 0, locals := 0 }
abbrev gD_unite (p : Program) (l : Launch) (e : Env) (s : State) (m : MethodId) (args : Array Value) (below : List Frame) (meth : Method) (c : Code) (A : Nat → Prop) (D : va_G) (ad : Nat → Nat → Nat) (cA : Nat → Nat → ClassId) (post : fS → aS → Prop) (f : fS) (a : aS) (lv : List (Nat × Value)) (pc : Nat) (st : List Value) : Prop := xV p l e rmD_unite s m args below meth c s.heap A 0 0 (xQV below D vwCl (taC cA) (CW ad cA) post A args s) D vwCl 4 (CW ad cA f a) lv pc st
def wb_D_unite_27 (post : fS → aS → Prop) (k2 : Int → Int → Int → fS → aS → Prop) (x1 : Int) (x2 : Int) (x3 : Int) (f : fS) (a : aS) : Prop := k2 x1 x2 (x3 + 1) f a
set_option maxHeartbeats 4000000 in
set_option maxRecDepth 100000 in
theorem tb_D_unite_27 {p : Program} {l : Launch} {e : Env} {s : State} {m : MethodId} {args : Array Value} {below : List Frame} {meth : Method} {c : Code} {A : Nat → Prop} {D : va_G} {ad : Nat → Nat → Nat} {cA : Nat → Nat → ClassId} {post : fS → aS → Prop} {k2 : Int → Int → Int → fS → aS → Prop} (hO : xOk cD_unite 4 RD (Cond.code yD_unite cD_unite 4 none :: xG) none p s m args meth c A D vwCl (taC cA)) (hk2 : ∀ (x1 : Int) (x2 : Int) (x3 : Int) (f : fS) (a : aS), k2 x1 x2 x3 f a → gD_unite p l e s m args below meth c A D ad cA post f a [(0, .ref (ad 2 0)), (1, .int (iI x1)), (2, .int (iI x2)), (3, .int (iI x3))] 2 []) : ∀ (x1 : Int) (x2 : Int) (x3 : Int) (f : fS) (a : aS), wb_D_unite_27 post k2 x1 x2 x3 f a → gD_unite p l e s m args below meth c A D ad cA post f a [(0, .ref (ad 2 0)), (1, .int (iI x1)), (2, .int (iI x2)), (3, .int (iI x3))] 27 [] := by
  have hO9 := hO
  obtain ⟨hx, hb, hml, hown, hts, hr, hlk, hK, hN, hA⟩ := hO9
  intro x1 x2 x3 f a h
  unfold wb_D_unite_27 at h
  refine x_iinc hx hb dD_unite_27 3 rfl (by decide) (lv' := [(3, .int (iI (x3 + 1))), (0, .ref (ad 2 0)), (1, .int (iI x1)), (2, .int (iI x2))]) rfl ?_
  refine x_goto hx hb (tgt := 2) dD_unite_30 (by decide) ?_
  refine x_sub [1, 2, 3, 0] rfl ?_
  exact hk2 x1 x2 (x3 + 1) f a h
def wb_D_unite_2 (post : fS → aS → Prop) : Nat → Int → Int → Int → fS → aS → Prop
  | 0, _, _, _, _, _ => False
  | n + 1, x1, x2, x3, f, a => ir x3 ∧ (ir (f 2 0) ∧ (((f 2 0 ≤ x3) → (post f a)) ∧ (¬ (f 2 0 ≤ x3) → ((0 ≤ x3 ∧ x3 < 64) ∧ (ir (a 2 6 (Int.toNat x3)) ∧ (ir x2 ∧ (((¬ a 2 6 (Int.toNat x3) = x2) → (wb_D_unite_27 post (wb_D_unite_2 post n) x1 x2 x3 f a)) ∧ (¬ (¬ a 2 6 (Int.toNat x3) = x2) → (wb_D_unite_27 post (wb_D_unite_2 post n) x1 x2 x3 f (setA a 2 6 (va_up (a 2 6) (Int.toNat x3) x1)))))))))))
set_option maxHeartbeats 4000000 in
set_option maxRecDepth 100000 in
theorem tb_D_unite_2 {p : Program} {l : Launch} {e : Env} {s : State} {m : MethodId} {args : Array Value} {below : List Frame} {meth : Method} {c : Code} {A : Nat → Prop} {D : va_G} {ad : Nat → Nat → Nat} {cA : Nat → Nat → ClassId} {post : fS → aS → Prop} (hO : xOk cD_unite 4 RD (Cond.code yD_unite cD_unite 4 none :: xG) none p s m args meth c A D vwCl (taC cA)) : ∀ (n : Nat) (x1 : Int) (x2 : Int) (x3 : Int) (f : fS) (a : aS), wb_D_unite_2 post n x1 x2 x3 f a → gD_unite p l e s m args below meth c A D ad cA post f a [(0, .ref (ad 2 0)), (1, .int (iI x1)), (2, .int (iI x2)), (3, .int (iI x3))] 2 [] := by
  have hO9 := hO
  obtain ⟨hx, hb, hml, hown, hts, hr, hlk, hK, hN, hA⟩ := hO9
  intro n
  induction n with
  | zero => intro x1 x2 x3 f a h; exact False.elim h
  | succ n ih =>
    intro x1 x2 x3 f a h
    rw [wb_D_unite_2] at h
    refine x_iload_n hx hb dD_unite_2 rfl 3 rfl ?_
    refine x_aload_n hx hb dD_unite_3 rfl 0 rfl ?_
    refine x_get hx hb hts (jnD _) hown hK _ (woD ad cA f a) rfl 0 (by decide) (hts _ (List.mem_cons_of_mem _ kfD_39)) (fun _ h9 => h9) (v := .int (iI (f 2 0))) (by rfl) dD_unite_4 ?_
    obtain ⟨hi1, h⟩ := h
    obtain ⟨hi2, h⟩ := h
    refine x_icmp_ge hx hb (tgt := 33) hi1 hi2 dD_unite_7 (by decide) (fun hc => ?_) (fun hc => ?_)
    · have h := h.1 hc
      exact x_vret hx hb hr hlk hK dD_unite_33 h
    · have h := h.2 hc
      refine x_aload_n hx hb dD_unite_10 rfl 0 rfl ?_
      refine x_get hx hb hts (jnD _) hown hK _ (woD ad cA f a) rfl 6 (by decide) (hts _ (List.mem_cons_of_mem _ kfD_21)) (fun _ h9 => h9) (v := .ref (ad 2 7)) (by rfl) dD_unite_11 ?_
      refine x_iload_n hx hb dD_unite_14 rfl 3 rfl ?_
      obtain ⟨hj3, h⟩ := h
      refine x_iald hx hb hK _ _ (wa6D ad cA f a) (wt6D cA) hj3.1 hj3.2 (by decide) dD_unite_15 ?_
      refine x_iload_n hx hb dD_unite_16 rfl 2 rfl ?_
      obtain ⟨hi4, h⟩ := h
      obtain ⟨hi5, h⟩ := h
      refine x_icmp_ne hx hb (tgt := 27) hi4 hi5 dD_unite_17 (by decide) (fun hc => ?_) (fun hc => ?_)
      · have h := h.1 hc
        exact tb_D_unite_27 hO ih x1 x2 x3 f a h
      · have h := h.2 hc
        refine x_aload_n hx hb dD_unite_20 rfl 0 rfl ?_
        refine x_get hx hb hts (jnD _) hown hK _ (woD ad cA f a) rfl 6 (by decide) (hts _ (List.mem_cons_of_mem _ kfD_21)) (fun _ h9 => h9) (v := .ref (ad 2 7)) (by rfl) dD_unite_21 ?_
        refine x_iload_n hx hb dD_unite_24 rfl 3 rfl ?_
        refine x_iload_n hx hb dD_unite_25 rfl 1 rfl ?_
        refine x_iast hx hb hK _ _ (wa6D ad cA f a) (wt6D cA) hj3.1 hj3.2 (by decide) dD_unite_26 (ws6D ad cA f a (va_up (a 2 6) (Int.toNat x3) x1)) ?_
        exact tb_D_unite_27 hO ih x1 x2 x3 f (setA a 2 6 (va_up (a 2 6) (Int.toNat x3) x1)) h
def wp_D_unite (post : fS → aS → Prop) (x1 : Int) (x2 : Int) (f : fS) (a : aS) : Prop := ∃ j, wb_D_unite_2 post j x1 x2 0 f a
set_option maxHeartbeats 4000000 in
set_option maxRecDepth 100000 in
theorem m_D_unite {l : Launch} {D : va_G} {ad : Nat → Nat → Nat} {cA : Nat → Nat → ClassId} {post : fS → aS → Prop} {x1 : Int} {x2 : Int} {f : fS} {a : aS} (h : wp_D_unite post x1 x2 f a) : xCV l yD_unite (Cond.code yD_unite cD_unite 4 none :: xG) rmD_unite D vwCl (taC cA) (CW ad cA f a) [.ref (ad 2 0), .int (iI x1), .int (iI x2)] (CW ad cA) post := by
  refine x_metV (cc := cD_unite) (nL := 4) (by decide) rfl (Nat.le_of_ble_eq_true rfl) ?_
  intro p e s m below meth c A hO
  have hO9 := hO
  obtain ⟨hx, hb, hml, hown, hts, hr, hlk, hK, hN, hA⟩ := hO9
  unfold wp_D_unite at h
  show gD_unite p l e s m _ below meth c A D ad cA post f a [(0, .ref (ad 2 0)), (1, .int (iI x1)), (2, .int (iI x2))] 0 []
  refine x_iconst hx hb dD_unite_0 ?_
  refine x_istore_n hx hb dD_unite_1 rfl (by decide) (lv' := [(3, .int (iI 0)), (0, .ref (ad 2 0)), (1, .int (iI x1)), (2, .int (iI x2))]) rfl ?_
  obtain ⟨j, h⟩ := h
  refine x_sub [1, 2, 3, 0] rfl ?_
  exact tb_D_unite_2 hO j x1 x2 0 f a h
-- D_layWay
abbrev rmD_layWay : Room := { frames := 1, cells := 0, slots := 0, locals := 23 }
abbrev gD_layWay (p : Program) (l : Launch) (e : Env) (s : State) (m : MethodId) (args : Array Value) (below : List Frame) (meth : Method) (c : Code) (A : Nat → Prop) (D : va_G) (ad : Nat → Nat → Nat) (cA : Nat → Nat → ClassId) (post : Int → fS → aS → Prop) (f : fS) (a : aS) (lv : List (Nat × Value)) (pc : Nat) (st : List Value) : Prop := xV p l e rmD_layWay s m args below meth c s.heap A 0 0 (xQI below D vwCl (taC cA) (CW ad cA) post A args s) D vwCl 6 (CW ad cA f a) lv pc st
def wp_D_layWay (post : Int → fS → aS → Prop) (x1 : Int) (x2 : Int) (x3 : Int) (f : fS) (a : aS) : Prop := (0 ≤ x1 ∧ x1 < 64) ∧ (∀ t2 : Int, t2 = ((a 2 6 (Int.toNat x1)) * 6) + x2 → ((0 ≤ t2 ∧ t2 < 384) ∧ (ir (a 2 7 (Int.toNat t2)) ∧ (((¬ a 2 7 (Int.toNat t2) = -1) → ((0 ≤ a 2 7 (Int.toNat t2) ∧ a 2 7 (Int.toNat t2) < 64) ∧ (∀ t6 : Int, t6 = a 2 6 (Int.toNat (a 2 7 (Int.toNat t2))) → ((0 ≤ x3 ∧ x3 < 64) ∧ (ir t6 ∧ (ir (a 2 6 (Int.toNat x3)) ∧ (((¬ t6 = a 2 6 (Int.toNat x3)) → (wp_D_unite (fun f11 a12 => post 1 f11 a12) t6 (a 2 6 (Int.toNat x3)) f a)) ∧ (¬ (¬ t6 = a 2 6 (Int.toNat x3)) → (post 0 f a))))))))) ∧ (¬ (¬ a 2 7 (Int.toNat t2) = -1) → ((0 ≤ x3 ∧ x3 < 64) ∧ (post 0 f (setA a 2 7 (va_up (a 2 7) (Int.toNat t2) (a 2 6 (Int.toNat x3)))))))))))
set_option maxHeartbeats 4000000 in
set_option maxRecDepth 100000 in
theorem m_D_layWay {l : Launch} {D : va_G} {ad : Nat → Nat → Nat} {cA : Nat → Nat → ClassId} {post : Int → fS → aS → Prop} {x1 : Int} {x2 : Int} {x3 : Int} {f : fS} {a : aS} (h : wp_D_layWay post x1 x2 x3 f a) : xCI l yD_layWay (Cond.code yD_layWay cD_layWay 6 (some .boolean) :: xG) rmD_layWay D vwCl (taC cA) (CW ad cA f a) [.ref (ad 2 0), .int (iI x1), .int (iI x2), .int (iI x3)] (CW ad cA) post := by
  refine x_metI (cc := cD_layWay) (nL := 6) (by decide) rfl (Nat.le_of_ble_eq_true rfl) ?_
  intro p e s m below meth c A hO
  have hO9 := hO
  obtain ⟨hx, hb, hml, hown, hts, hr, hlk, hK, hN, hA⟩ := hO9
  unfold wp_D_layWay at h
  show gD_layWay p l e s m _ below meth c A D ad cA post f a [(0, .ref (ad 2 0)), (1, .int (iI x1)), (2, .int (iI x2)), (3, .int (iI x3))] 0 []
  refine x_aload_n hx hb dD_layWay_0 rfl 0 rfl ?_
  refine x_get hx hb hts (jnD _) hown hK _ (woD ad cA f a) rfl 6 (by decide) (hts _ (List.mem_cons_of_mem _ kfD_21)) (fun _ h9 => h9) (v := .ref (ad 2 7)) (by rfl) dD_layWay_1 ?_
  refine x_iload_n hx hb dD_layWay_4 rfl 1 rfl ?_
  obtain ⟨hj1, h⟩ := h
  refine x_iald hx hb hK _ _ (wa6D ad cA f a) (wt6D cA) hj1.1 hj1.2 (by decide) dD_layWay_5 ?_
  refine x_bipush hx hb dD_layWay_6 (by decide) ?_
  refine x_imul hx hb dD_layWay_8 ?_
  refine x_iload_n hx hb dD_layWay_9 rfl 2 rfl ?_
  refine x_iadd hx hb dD_layWay_10 ?_
  refine x_topi (fun t2 et2 => ?_)
  have h := h t2 et2
  refine x_istore hx hb dD_layWay_11 (by decide) (lv' := [(4, .int (iI t2)), (0, .ref (ad 2 0)), (1, .int (iI x1)), (2, .int (iI x2)), (3, .int (iI x3))]) rfl ?_
  refine x_aload_n hx hb dD_layWay_13 rfl 1 rfl ?_
  refine x_get hx hb hts (jnD _) hown hK _ (woD ad cA f a) rfl 7 (by decide) (hts _ (List.mem_cons_of_mem _ kfD_24)) (fun _ h9 => h9) (v := .ref (ad 2 8)) (by rfl) dD_layWay_14 ?_
  refine x_iload hx hb dD_layWay_17 0 rfl ?_
  obtain ⟨hj3, h⟩ := h
  refine x_iald hx hb hK _ _ (wa7D ad cA f a) (wt7D cA) hj3.1 hj3.2 (by decide) dD_layWay_19 ?_
  refine x_iconst hx hb dD_layWay_20 ?_
  obtain ⟨hi4, h⟩ := h
  refine x_icmp_ne hx hb (tgt := 39) hi4 (by decide) dD_layWay_21 (by decide) (fun hc => ?_) (fun hc => ?_)
  · have h := h.1 hc
    refine x_aload_n hx hb dD_layWay_39 rfl 1 rfl ?_
    refine x_get hx hb hts (jnD _) hown hK _ (woD ad cA f a) rfl 6 (by decide) (hts _ (List.mem_cons_of_mem _ kfD_21)) (fun _ h9 => h9) (v := .ref (ad 2 7)) (by rfl) dD_layWay_40 ?_
    refine x_aload_n hx hb dD_layWay_43 rfl 1 rfl ?_
    refine x_get hx hb hts (jnD _) hown hK _ (woD ad cA f a) rfl 7 (by decide) (hts _ (List.mem_cons_of_mem _ kfD_24)) (fun _ h9 => h9) (v := .ref (ad 2 8)) (by rfl) dD_layWay_44 ?_
    refine x_iload hx hb dD_layWay_47 0 rfl ?_
    refine x_iald hx hb hK _ _ (wa7D ad cA f a) (wt7D cA) hj3.1 hj3.2 (by decide) dD_layWay_49 ?_
    obtain ⟨hj5, h⟩ := h
    refine x_iald hx hb hK _ _ (wa6D ad cA f a) (wt6D cA) hj5.1 hj5.2 (by decide) dD_layWay_50 ?_
    refine x_topi (fun t6 et6 => ?_)
    have h := h t6 et6
    refine x_istore hx hb dD_layWay_51 (by decide) (lv' := [(5, .int (iI t6)), (4, .int (iI t2)), (0, .ref (ad 2 0)), (1, .int (iI x1)), (2, .int (iI x2)), (3, .int (iI x3))]) rfl ?_
    refine x_iload hx hb dD_layWay_53 0 rfl ?_
    refine x_aload_n hx hb dD_layWay_55 rfl 2 rfl ?_
    refine x_get hx hb hts (jnD _) hown hK _ (woD ad cA f a) rfl 6 (by decide) (hts _ (List.mem_cons_of_mem _ kfD_21)) (fun _ h9 => h9) (v := .ref (ad 2 7)) (by rfl) dD_layWay_56 ?_
    refine x_iload_n hx hb dD_layWay_59 rfl 5 rfl ?_
    obtain ⟨hj7, h⟩ := h
    refine x_iald hx hb hK _ _ (wa6D ad cA f a) (wt6D cA) hj7.1 hj7.2 (by decide) dD_layWay_60 ?_
    obtain ⟨hi8, h⟩ := h
    obtain ⟨hi9, h⟩ := h
    refine x_icmp_ne hx hb (tgt := 66) hi8 hi9 dD_layWay_61 (by decide) (fun hc => ?_) (fun hc => ?_)
    · have h := h.1 hc
      refine x_aload_n hx hb dD_layWay_66 rfl 2 rfl ?_
      refine x_iload hx hb dD_layWay_67 0 rfl ?_
      refine x_aload_n hx hb dD_layWay_69 rfl 2 rfl ?_
      refine x_get hx hb hts (jnD _) hown hK _ (woD ad cA f a) rfl 6 (by decide) (hts _ (List.mem_cons_of_mem _ kfD_21)) (fun _ h9 => h9) (v := .ref (ad 2 7)) (by rfl) dD_layWay_70 ?_
      refine x_iload_n hx hb dD_layWay_73 rfl 5 rfl ?_
      refine x_iald hx hb hK _ _ (wa6D ad cA f a) (wt6D cA) hj7.1 hj7.2 (by decide) dD_layWay_74 ?_
      refine x_cVv (n := 2) (st := []) (As := [.int (iI t6), .int (iI (a 2 6 (Int.toNat x3)))]) ⟨hx, hb, hml, hown, hts⟩ hK hN (m_D_unite h) (x_cwV hts rfl rfl kcD_unite knD klD_84 kiD_unite keD_unite ⟨by decide, by decide, by decide +kernel⟩ ⟨by decide, by decide⟩) _ (woD ad cA f a) rfl hA rfl (Nat.le_of_ble_eq_true rfl) ⟨Nat.zero_le _, Nat.zero_le _⟩ rfl dD_layWay_75 (fun f11 a12 h => ?_)
      refine x_iconst hx hb dD_layWay_78 ?_
      exact x_zret hx hb hr hlk hK dD_layWay_79 (by decide) h
    · have h := h.2 hc
      refine x_iconst hx hb dD_layWay_64 ?_
      exact x_zret hx hb hr hlk hK dD_layWay_65 (by decide) h
  · have h := h.2 hc
    refine x_aload_n hx hb dD_layWay_24 rfl 1 rfl ?_
    refine x_get hx hb hts (jnD _) hown hK _ (woD ad cA f a) rfl 7 (by decide) (hts _ (List.mem_cons_of_mem _ kfD_24)) (fun _ h9 => h9) (v := .ref (ad 2 8)) (by rfl) dD_layWay_25 ?_
    refine x_iload hx hb dD_layWay_28 0 rfl ?_
    refine x_aload_n hx hb dD_layWay_30 rfl 1 rfl ?_
    refine x_get hx hb hts (jnD _) hown hK _ (woD ad cA f a) rfl 6 (by decide) (hts _ (List.mem_cons_of_mem _ kfD_21)) (fun _ h9 => h9) (v := .ref (ad 2 7)) (by rfl) dD_layWay_31 ?_
    refine x_iload_n hx hb dD_layWay_34 rfl 4 rfl ?_
    obtain ⟨hj13, h⟩ := h
    refine x_iald hx hb hK _ _ (wa6D ad cA f a) (wt6D cA) hj13.1 hj13.2 (by decide) dD_layWay_35 ?_
    refine x_iast hx hb hK _ _ (wa7D ad cA f a) (wt7D cA) hj3.1 hj3.2 (by decide) dD_layWay_36 (ws7D ad cA f a (va_up (a 2 7) (Int.toNat t2) (a 2 6 (Int.toNat x3)))) ?_
    refine x_iconst hx hb dD_layWay_37 ?_
    exact x_zret hx hb hr hlk hK dD_layWay_38 (by decide) h
-- D_fold
abbrev rmD_fold : Room := { frames := 2, cells := 0, slots := 0, locals := 48 }
abbrev gD_fold (p : Program) (l : Launch) (e : Env) (s : State) (m : MethodId) (args : Array Value) (below : List Frame) (meth : Method) (c : Code) (A : Nat → Prop) (D : va_G) (ad : Nat → Nat → Nat) (cA : Nat → Nat → ClassId) (post : fS → aS → Prop) (f : fS) (a : aS) (lv : List (Nat × Value)) (pc : Nat) (st : List Value) : Prop := xV p l e rmD_fold s m args below meth c s.heap A 0 0 (xQV below D vwCl (taC cA) (CW ad cA) post A args s) D vwCl 6 (CW ad cA f a) lv pc st
def wb_D_fold_139 (post : fS → aS → Prop) (f : fS) (a : aS) : Prop := (0 ≤ f 2 1 ∧ f 2 1 < 64) ∧ (post (setF f 2 1 (a 2 6 (Int.toNat (f 2 1)))) a)
set_option maxHeartbeats 4000000 in
set_option maxRecDepth 100000 in
theorem tb_D_fold_139 {p : Program} {l : Launch} {e : Env} {s : State} {m : MethodId} {args : Array Value} {below : List Frame} {meth : Method} {c : Code} {A : Nat → Prop} {D : va_G} {ad : Nat → Nat → Nat} {cA : Nat → Nat → ClassId} {post : fS → aS → Prop} (hO : xOk cD_fold 6 RD (Cond.code yD_fold cD_fold 6 none :: xG) none p s m args meth c A D vwCl (taC cA)) : ∀ (f : fS) (a : aS), wb_D_fold_139 post f a → gD_fold p l e s m args below meth c A D ad cA post f a [(0, .ref (ad 2 0))] 139 [] := by
  have hO9 := hO
  obtain ⟨hx, hb, hml, hown, hts, hr, hlk, hK, hN, hA⟩ := hO9
  intro f a h
  unfold wb_D_fold_139 at h
  refine x_aload_n hx hb dD_fold_139 rfl 0 rfl ?_
  refine x_aload_n hx hb dD_fold_140 rfl 0 rfl ?_
  refine x_get hx hb hts (jnD _) hown hK _ (woD ad cA f a) rfl 6 (by decide) (hts _ (List.mem_cons_of_mem _ kfD_21)) (fun _ h9 => h9) (v := .ref (ad 2 7)) (by rfl) dD_fold_141 ?_
  refine x_aload_n hx hb dD_fold_144 rfl 0 rfl ?_
  refine x_get hx hb hts (jnD _) hown hK _ (woD ad cA f a) rfl 1 (by decide) (hts _ (List.mem_cons_of_mem _ kfD_43)) (fun _ h9 => h9) (v := .int (iI (f 2 1))) (by rfl) dD_fold_145 ?_
  obtain ⟨hj19, h⟩ := h
  refine x_iald hx hb hK _ _ (wa6D ad cA f a) (wt6D cA) hj19.1 hj19.2 (by decide) dD_fold_148 ?_
  refine x_put hx hb hts (jnD _) tyD tkD nmD hown hK _ (woD ad cA f a) rfl 1 (by decide) (hts _ (List.mem_cons_of_mem _ kfD_43)) (fun _ h9 => h9) rfl (by decide +kernel) (Nat.le_of_ble_eq_true rfl) dD_fold_149 (wf1D ad cA f a (a 2 6 (Int.toNat (f 2 1)))) ?_
  exact x_vret hx hb hr hlk hK dD_fold_152 h
def wb_D_fold_126 (post : fS → aS → Prop) (k49 : Int → Int → Int → fS → aS → Prop) (x2 : Int) (x3 : Int) (y0 : Int) (f : fS) (a : aS) : Prop := k49 y0 x2 (x3 + 1) f a
set_option maxHeartbeats 4000000 in
set_option maxRecDepth 100000 in
theorem tb_D_fold_126 {p : Program} {l : Launch} {e : Env} {s : State} {m : MethodId} {args : Array Value} {below : List Frame} {meth : Method} {c : Code} {A : Nat → Prop} {D : va_G} {ad : Nat → Nat → Nat} {cA : Nat → Nat → ClassId} {post : fS → aS → Prop} {k49 : Int → Int → Int → fS → aS → Prop} (hO : xOk cD_fold 6 RD (Cond.code yD_fold cD_fold 6 none :: xG) none p s m args meth c A D vwCl (taC cA)) (hk49 : ∀ (x1 : Int) (x2 : Int) (x3 : Int) (f : fS) (a : aS), k49 x1 x2 x3 f a → gD_fold p l e s m args below meth c A D ad cA post f a [(0, .ref (ad 2 0)), (1, .int (iI x1)), (2, .int (iI x2)), (3, .int (iI x3))] 49 []) : ∀ (x2 : Int) (x3 : Int) (y0 : Int) (f : fS) (a : aS), wb_D_fold_126 post k49 x2 x3 y0 f a → gD_fold p l e s m args below meth c A D ad cA post f a [(0, .ref (ad 2 0)), (2, .int (iI x2)), (3, .int (iI x3))] 126 [.int (iI y0)] := by
  have hO9 := hO
  obtain ⟨hx, hb, hml, hown, hts, hr, hlk, hK, hN, hA⟩ := hO9
  intro x2 x3 y0 f a h
  unfold wb_D_fold_126 at h
  refine x_istore_n hx hb dD_fold_126 rfl (by decide) (lv' := [(1, .int (iI y0)), (0, .ref (ad 2 0)), (2, .int (iI x2)), (3, .int (iI x3))]) rfl ?_
  refine x_iinc hx hb dD_fold_127 3 rfl (by decide) (lv' := [(3, .int (iI (x3 + 1))), (1, .int (iI y0)), (0, .ref (ad 2 0)), (2, .int (iI x2))]) rfl ?_
  refine x_goto hx hb (tgt := 49) dD_fold_130 (by decide) ?_
  refine x_sub [2, 1, 3, 0] rfl ?_
  exact hk49 y0 x2 (x3 + 1) f a h
def wb_D_fold_121 (post : fS → aS → Prop) (k49 : Int → Int → Int → fS → aS → Prop) (x2 : Int) (x3 : Int) (f : fS) (a : aS) : Prop := wb_D_fold_126 post k49 x2 x3 1 f a
set_option maxHeartbeats 4000000 in
set_option maxRecDepth 100000 in
theorem tb_D_fold_121 {p : Program} {l : Launch} {e : Env} {s : State} {m : MethodId} {args : Array Value} {below : List Frame} {meth : Method} {c : Code} {A : Nat → Prop} {D : va_G} {ad : Nat → Nat → Nat} {cA : Nat → Nat → ClassId} {post : fS → aS → Prop} {k49 : Int → Int → Int → fS → aS → Prop} (hO : xOk cD_fold 6 RD (Cond.code yD_fold cD_fold 6 none :: xG) none p s m args meth c A D vwCl (taC cA)) (hk49 : ∀ (x1 : Int) (x2 : Int) (x3 : Int) (f : fS) (a : aS), k49 x1 x2 x3 f a → gD_fold p l e s m args below meth c A D ad cA post f a [(0, .ref (ad 2 0)), (1, .int (iI x1)), (2, .int (iI x2)), (3, .int (iI x3))] 49 []) : ∀ (x2 : Int) (x3 : Int) (f : fS) (a : aS), wb_D_fold_121 post k49 x2 x3 f a → gD_fold p l e s m args below meth c A D ad cA post f a [(0, .ref (ad 2 0)), (2, .int (iI x2)), (3, .int (iI x3))] 121 [] := by
  have hO9 := hO
  obtain ⟨hx, hb, hml, hown, hts, hr, hlk, hK, hN, hA⟩ := hO9
  intro x2 x3 f a h
  unfold wb_D_fold_121 at h
  refine x_iconst hx hb dD_fold_121 ?_
  refine x_goto hx hb (tgt := 126) dD_fold_122 (by decide) ?_
  exact tb_D_fold_126 hO hk49 x2 x3 1 f a h
def wb_D_fold_49 (post : fS → aS → Prop) (k27 : Int → Int → fS → aS → Prop) : Nat → Int → Int → Int → fS → aS → Prop
  | 0, _, _, _, _, _ => False
  | n + 1, x1, x2, x3, f, a => ir x3 ∧ (ir (f 2 2) ∧ (((f 2 2 ≤ x3) → (k27 x1 (x2 + 1) f a)) ∧ (¬ (f 2 2 ≤ x3) → ((0 ≤ x3 ∧ x3 < 195) ∧ (wp_D_layWay (fun z9 f10 a11 => (0 ≤ (a11 2 4) (Int.toNat x3) ∧ (a11 2 4) (Int.toNat x3) < 6) ∧ (wp_D_layWay (fun z13 f14 a15 => ir x1 ∧ (((¬ x1 = 0) → (wb_D_fold_121 post (wb_D_fold_49 post k27 n) x2 x3 f14 a15)) ∧ (¬ (¬ x1 = 0) → (ir z9 ∧ (((¬ z9 = 0) → (wb_D_fold_121 post (wb_D_fold_49 post k27 n) x2 x3 f14 a15)) ∧ (¬ (¬ z9 = 0) → (ir z13 ∧ (((z13 = 0) → (wb_D_fold_126 post (wb_D_fold_49 post k27 n) x2 x3 0 f14 a15)) ∧ (¬ (z13 = 0) → (wb_D_fold_121 post (wb_D_fold_49 post k27 n) x2 x3 f14 a15)))))))))) ((a11 2 5) (Int.toNat x3)) (cx ((a11 2 4) (Int.toNat x3))) ((a11 2 3) (Int.toNat x3)) f10 a11)) (a 2 3 (Int.toNat x3)) (a 2 4 (Int.toNat x3)) (a 2 5 (Int.toNat x3)) f a)))))
set_option maxHeartbeats 4000000 in
set_option maxRecDepth 100000 in
theorem tb_D_fold_49 {p : Program} {l : Launch} {e : Env} {s : State} {m : MethodId} {args : Array Value} {below : List Frame} {meth : Method} {c : Code} {A : Nat → Prop} {D : va_G} {ad : Nat → Nat → Nat} {cA : Nat → Nat → ClassId} {post : fS → aS → Prop} {k27 : Int → Int → fS → aS → Prop} (hO : xOk cD_fold 6 RD (Cond.code yD_fold cD_fold 6 none :: xG) none p s m args meth c A D vwCl (taC cA)) (hk27 : ∀ (x1 : Int) (x2 : Int) (f : fS) (a : aS), k27 x1 x2 f a → gD_fold p l e s m args below meth c A D ad cA post f a [(0, .ref (ad 2 0)), (1, .int (iI x1)), (2, .int (iI x2))] 27 []) : ∀ (n : Nat) (x1 : Int) (x2 : Int) (x3 : Int) (f : fS) (a : aS), wb_D_fold_49 post k27 n x1 x2 x3 f a → gD_fold p l e s m args below meth c A D ad cA post f a [(0, .ref (ad 2 0)), (1, .int (iI x1)), (2, .int (iI x2)), (3, .int (iI x3))] 49 [] := by
  have hO9 := hO
  obtain ⟨hx, hb, hml, hown, hts, hr, hlk, hK, hN, hA⟩ := hO9
  intro n
  induction n with
  | zero => intro x1 x2 x3 f a h; exact False.elim h
  | succ n ih =>
    intro x1 x2 x3 f a h
    rw [wb_D_fold_49] at h
    refine x_iload_n hx hb dD_fold_49 rfl 3 rfl ?_
    refine x_aload_n hx hb dD_fold_50 rfl 0 rfl ?_
    refine x_get hx hb hts (jnD _) hown hK _ (woD ad cA f a) rfl 2 (by decide) (hts _ (List.mem_cons_of_mem _ kfD_46)) (fun _ h9 => h9) (v := .int (iI (f 2 2))) (by rfl) dD_fold_51 ?_
    obtain ⟨hi6, h⟩ := h
    obtain ⟨hi7, h⟩ := h
    refine x_icmp_ge hx hb (tgt := 133) hi6 hi7 dD_fold_54 (by decide) (fun hc => ?_) (fun hc => ?_)
    · have h := h.1 hc
      refine x_iinc hx hb dD_fold_133 2 rfl (by decide) (lv' := [(2, .int (iI (x2 + 1))), (0, .ref (ad 2 0)), (1, .int (iI x1)), (3, .int (iI x3))]) rfl ?_
      refine x_goto hx hb (tgt := 27) dD_fold_136 (by decide) ?_
      refine x_sub [1, 2, 0] rfl ?_
      exact hk27 x1 (x2 + 1) f a h
    · have h := h.2 hc
      refine x_aload_n hx hb dD_fold_57 rfl 0 rfl ?_
      refine x_aload_n hx hb dD_fold_58 rfl 0 rfl ?_
      refine x_get hx hb hts (jnD _) hown hK _ (woD ad cA f a) rfl 3 (by decide) (hts _ (List.mem_cons_of_mem _ kfD_9)) (fun _ h9 => h9) (v := .ref (ad 2 4)) (by rfl) dD_fold_59 ?_
      refine x_iload_n hx hb dD_fold_62 rfl 3 rfl ?_
      obtain ⟨hj8, h⟩ := h
      refine x_iald hx hb hK _ _ (wa3D ad cA f a) (wt3D cA) hj8.1 hj8.2 (by decide) dD_fold_63 ?_
      refine x_aload_n hx hb dD_fold_64 rfl 0 rfl ?_
      refine x_get hx hb hts (jnD _) hown hK _ (woD ad cA f a) rfl 4 (by decide) (hts _ (List.mem_cons_of_mem _ kfD_15)) (fun _ h9 => h9) (v := .ref (ad 2 5)) (by rfl) dD_fold_65 ?_
      refine x_iload_n hx hb dD_fold_68 rfl 3 rfl ?_
      refine x_iald hx hb hK _ _ (wa4D ad cA f a) (wt4D cA) hj8.1 hj8.2 (by decide) dD_fold_69 ?_
      refine x_aload_n hx hb dD_fold_70 rfl 0 rfl ?_
      refine x_get hx hb hts (jnD _) hown hK _ (woD ad cA f a) rfl 5 (by decide) (hts _ (List.mem_cons_of_mem _ kfD_18)) (fun _ h9 => h9) (v := .ref (ad 2 6)) (by rfl) dD_fold_71 ?_
      refine x_iload_n hx hb dD_fold_74 rfl 3 rfl ?_
      refine x_iald hx hb hK _ _ (wa5D ad cA f a) (wt5D cA) hj8.1 hj8.2 (by decide) dD_fold_75 ?_
      refine x_cVi (n := 3) (st := []) (As := [.int (iI (a 2 3 (Int.toNat x3))), .int (iI (a 2 4 (Int.toNat x3))), .int (iI (a 2 5 (Int.toNat x3)))]) ⟨hx, hb, hml, hown, hts⟩ hK hN (m_D_layWay h) (x_cwV hts rfl rfl kcD_layWay knD klD_80 kiD_layWay keD_layWay ⟨by decide, by decide, by decide +kernel⟩ ⟨by decide, by decide⟩) _ (woD ad cA f a) rfl hA rfl (Nat.le_of_ble_eq_true rfl) ⟨Nat.zero_le _, Nat.zero_le _⟩ rfl dD_fold_76 (fun z9 f10 a11 h => ?_)
      refine x_istore hx hb dD_fold_79 (by decide) (lv' := [(4, .int (iI z9)), (0, .ref (ad 2 0)), (1, .int (iI x1)), (2, .int (iI x2)), (3, .int (iI x3))]) rfl ?_
      refine x_aload_n hx hb dD_fold_81 rfl 1 rfl ?_
      refine x_aload_n hx hb dD_fold_82 rfl 1 rfl ?_
      refine x_get hx hb hts (jnD _) hown hK _ (woD ad cA f10 a11) rfl 5 (by decide) (hts _ (List.mem_cons_of_mem _ kfD_18)) (fun _ h9 => h9) (v := .ref (ad 2 6)) (by rfl) dD_fold_83 ?_
      refine x_iload_n hx hb dD_fold_86 rfl 4 rfl ?_
      refine x_iald hx hb hK _ _ (wa5D ad cA f10 a11) (wt5D cA) hj8.1 hj8.2 (by decide) dD_fold_87 ?_
      refine x_aload_n hx hb dD_fold_88 rfl 1 rfl ?_
      refine x_get hx hb hts (jnD _) hown hK _ (woD ad cA f10 a11) rfl 4 (by decide) (hts _ (List.mem_cons_of_mem _ kfD_15)) (fun _ h9 => h9) (v := .ref (ad 2 5)) (by rfl) dD_fold_89 ?_
      refine x_iload_n hx hb dD_fold_92 rfl 4 rfl ?_
      refine x_iald hx hb hK _ _ (wa4D ad cA f10 a11) (wt4D cA) hj8.1 hj8.2 (by decide) dD_fold_93 ?_
      refine x_iconst hx hb dD_fold_94 ?_
      obtain ⟨hj12, h⟩ := h
      refine x_ixor1 hx hb hj12.1 hj12.2 dD_fold_95 ?_
      refine x_aload_n hx hb dD_fold_96 rfl 1 rfl ?_
      refine x_get hx hb hts (jnD _) hown hK _ (woD ad cA f10 a11) rfl 3 (by decide) (hts _ (List.mem_cons_of_mem _ kfD_9)) (fun _ h9 => h9) (v := .ref (ad 2 4)) (by rfl) dD_fold_97 ?_
      refine x_iload_n hx hb dD_fold_100 rfl 4 rfl ?_
      refine x_iald hx hb hK _ _ (wa3D ad cA f10 a11) (wt3D cA) hj8.1 hj8.2 (by decide) dD_fold_101 ?_
      refine x_cVi (n := 3) (st := []) (As := [.int (iI ((a11 2 5) (Int.toNat x3))), .int (iI (cx ((a11 2 4) (Int.toNat x3)))), .int (iI ((a11 2 3) (Int.toNat x3)))]) ⟨hx, hb, hml, hown, hts⟩ hK hN (m_D_layWay h) (x_cwV hts rfl rfl kcD_layWay knD klD_80 kiD_layWay keD_layWay ⟨by decide, by decide, by decide +kernel⟩ ⟨by decide, by decide⟩) _ (woD ad cA f10 a11) rfl hA rfl (Nat.le_of_ble_eq_true rfl) ⟨Nat.zero_le _, Nat.zero_le _⟩ rfl dD_fold_102 (fun z13 f14 a15 h => ?_)
      refine x_istore hx hb dD_fold_105 (by decide) (lv' := [(5, .int (iI z13)), (4, .int (iI z9)), (0, .ref (ad 2 0)), (1, .int (iI x1)), (2, .int (iI x2)), (3, .int (iI x3))]) rfl ?_
      refine x_iload_n hx hb dD_fold_107 rfl 3 rfl ?_
      obtain ⟨hi16, h⟩ := h
      refine x_if_ne hx hb (tgt := 121) hi16  dD_fold_108 (by decide) (fun hc => ?_) (fun hc => ?_)
      · have h := h.1 hc
        refine x_sub [2, 4, 5] rfl ?_
        exact tb_D_fold_121 hO ih x2 x3 f14 a15 h
      · have h := h.2 hc
        refine x_iload hx hb dD_fold_111 1 rfl ?_
        obtain ⟨hi17, h⟩ := h
        refine x_if_ne hx hb (tgt := 121) hi17  dD_fold_113 (by decide) (fun hc => ?_) (fun hc => ?_)
        · have h := h.1 hc
          refine x_sub [2, 4, 5] rfl ?_
          exact tb_D_fold_121 hO ih x2 x3 f14 a15 h
        · have h := h.2 hc
          refine x_iload hx hb dD_fold_116 0 rfl ?_
          obtain ⟨hi18, h⟩ := h
          refine x_if_eq hx hb (tgt := 125) hi18  dD_fold_118 (by decide) (fun hc => ?_) (fun hc => ?_)
          · have h := h.1 hc
            refine x_iconst hx hb dD_fold_125 ?_
            refine x_sub [2, 4, 5] rfl ?_
            exact tb_D_fold_126 hO ih x2 x3 0 f14 a15 h
          · have h := h.2 hc
            refine x_sub [2, 4, 5] rfl ?_
            exact tb_D_fold_121 hO ih x2 x3 f14 a15 h
def wb_D_fold_27 (post : fS → aS → Prop) : Nat → Int → Int → fS → aS → Prop
  | 0, _, _, _, _ => False
  | n + 1, x1, x2, f, a => ir x2 ∧ (((64 ≤ x2) → (wb_D_fold_139 post f a)) ∧ (¬ (64 ≤ x2) → (ir x1 ∧ (((x1 = 0) → (wb_D_fold_139 post f a)) ∧ (¬ (x1 = 0) → (∃ j, wb_D_fold_49 post (wb_D_fold_27 post n) j 0 x2 0 f (setA a 2 7 (fillA (a 2 7) 384 (-1)))))))))
set_option maxHeartbeats 4000000 in
set_option maxRecDepth 100000 in
theorem tb_D_fold_27 {p : Program} {l : Launch} {e : Env} {s : State} {m : MethodId} {args : Array Value} {below : List Frame} {meth : Method} {c : Code} {A : Nat → Prop} {D : va_G} {ad : Nat → Nat → Nat} {cA : Nat → Nat → ClassId} {post : fS → aS → Prop} (hO : xOk cD_fold 6 RD (Cond.code yD_fold cD_fold 6 none :: xG) none p s m args meth c A D vwCl (taC cA)) : ∀ (n : Nat) (x1 : Int) (x2 : Int) (f : fS) (a : aS), wb_D_fold_27 post n x1 x2 f a → gD_fold p l e s m args below meth c A D ad cA post f a [(0, .ref (ad 2 0)), (1, .int (iI x1)), (2, .int (iI x2))] 27 [] := by
  have hO9 := hO
  obtain ⟨hx, hb, hml, hown, hts, hr, hlk, hK, hN, hA⟩ := hO9
  intro n
  induction n with
  | zero => intro x1 x2 f a h; exact False.elim h
  | succ n ih =>
    intro x1 x2 f a h
    rw [wb_D_fold_27] at h
    refine x_iload_n hx hb dD_fold_27 rfl 2 rfl ?_
    refine x_bipush hx hb dD_fold_28 (by decide) ?_
    obtain ⟨hi4, h⟩ := h
    refine x_icmp_ge hx hb (tgt := 139) hi4 (by decide) dD_fold_30 (by decide) (fun hc => ?_) (fun hc => ?_)
    · have h := h.1 hc
      refine x_sub [0] rfl ?_
      exact tb_D_fold_139 hO f a h
    · have h := h.2 hc
      refine x_iload_n hx hb dD_fold_33 rfl 1 rfl ?_
      obtain ⟨hi5, h⟩ := h
      refine x_if_eq hx hb (tgt := 139) hi5  dD_fold_34 (by decide) (fun hc => ?_) (fun hc => ?_)
      · have h := h.1 hc
        refine x_sub [0] rfl ?_
        exact tb_D_fold_139 hO f a h
      · have h := h.2 hc
        refine x_iconst hx hb dD_fold_37 ?_
        refine x_istore_n hx hb dD_fold_38 rfl (by decide) (lv' := [(1, .int (iI 0)), (0, .ref (ad 2 0)), (2, .int (iI x2))]) rfl ?_
        refine x_aload_n hx hb dD_fold_39 rfl 1 rfl ?_
        refine x_get hx hb hts (jnD _) hown hK _ (woD ad cA f a) rfl 7 (by decide) (hts _ (List.mem_cons_of_mem _ kfD_24)) (fun _ h9 => h9) (v := .ref (ad 2 8)) (by rfl) dD_fold_40 ?_
        refine x_iconst hx hb dD_fold_43 ?_
        refine x_cSv (n := 2) (st := []) (As := [.ref (ad 2 8), .int (iI (-1))]) ⟨hx, hb, hml, hown, hts⟩ hK hN (wl7D ad cA f a (-1) (a 2 7) rfl) (x_cwS hts rfl rfl kcJ_fill knJ klD_49 ksJ_fill ⟨by decide, by decide, by decide +kernel⟩ ⟨by decide, by decide⟩) hA rfl (Nat.le_of_ble_eq_true rfl) ⟨Nat.zero_le _, Nat.zero_le _⟩ rfl dD_fold_44 (fun f9 a9 h9 => ?_)
        rw [h9.1, h9.2]
        refine x_iconst hx hb dD_fold_47 ?_
        refine x_istore_n hx hb dD_fold_48 rfl (by decide) (lv' := [(3, .int (iI 0)), (1, .int (iI 0)), (0, .ref (ad 2 0)), (2, .int (iI x2))]) rfl ?_
        obtain ⟨j, h⟩ := h
        refine x_sub [2, 1, 3, 0] rfl ?_
        exact tb_D_fold_49 hO ih j 0 x2 0 f (setA a 2 7 (fillA (a 2 7) 384 (-1))) h
def wb_D_fold_2 (post : fS → aS → Prop) : Nat → Int → fS → aS → Prop
  | 0, _, _, _ => False
  | n + 1, x1, f, a => ir x1 ∧ (ir (f 2 0) ∧ (((f 2 0 ≤ x1) → (∃ j, wb_D_fold_27 post j 1 0 f a)) ∧ (¬ (f 2 0 ≤ x1) → ((0 ≤ x1 ∧ x1 < 64) ∧ (wb_D_fold_2 post n (x1 + 1) f (setA a 2 6 (va_up (a 2 6) (Int.toNat x1) x1)))))))
set_option maxHeartbeats 4000000 in
set_option maxRecDepth 100000 in
theorem tb_D_fold_2 {p : Program} {l : Launch} {e : Env} {s : State} {m : MethodId} {args : Array Value} {below : List Frame} {meth : Method} {c : Code} {A : Nat → Prop} {D : va_G} {ad : Nat → Nat → Nat} {cA : Nat → Nat → ClassId} {post : fS → aS → Prop} (hO : xOk cD_fold 6 RD (Cond.code yD_fold cD_fold 6 none :: xG) none p s m args meth c A D vwCl (taC cA)) : ∀ (n : Nat) (x1 : Int) (f : fS) (a : aS), wb_D_fold_2 post n x1 f a → gD_fold p l e s m args below meth c A D ad cA post f a [(0, .ref (ad 2 0)), (1, .int (iI x1))] 2 [] := by
  have hO9 := hO
  obtain ⟨hx, hb, hml, hown, hts, hr, hlk, hK, hN, hA⟩ := hO9
  intro n
  induction n with
  | zero => intro x1 f a h; exact False.elim h
  | succ n ih =>
    intro x1 f a h
    rw [wb_D_fold_2] at h
    refine x_iload_n hx hb dD_fold_2 rfl 1 rfl ?_
    refine x_aload_n hx hb dD_fold_3 rfl 0 rfl ?_
    refine x_get hx hb hts (jnD _) hown hK _ (woD ad cA f a) rfl 0 (by decide) (hts _ (List.mem_cons_of_mem _ kfD_39)) (fun _ h9 => h9) (v := .int (iI (f 2 0))) (by rfl) dD_fold_4 ?_
    obtain ⟨hi1, h⟩ := h
    obtain ⟨hi2, h⟩ := h
    refine x_icmp_ge hx hb (tgt := 23) hi1 hi2 dD_fold_7 (by decide) (fun hc => ?_) (fun hc => ?_)
    · have h := h.1 hc
      refine x_iconst hx hb dD_fold_23 ?_
      refine x_istore_n hx hb dD_fold_24 rfl (by decide) (lv' := [(1, .int (iI 1)), (0, .ref (ad 2 0))]) rfl ?_
      refine x_iconst hx hb dD_fold_25 ?_
      refine x_istore_n hx hb dD_fold_26 rfl (by decide) (lv' := [(2, .int (iI 0)), (1, .int (iI 1)), (0, .ref (ad 2 0))]) rfl ?_
      obtain ⟨j, h⟩ := h
      refine x_sub [2, 1, 0] rfl ?_
      exact tb_D_fold_27 hO j 1 0 f a h
    · have h := h.2 hc
      refine x_aload_n hx hb dD_fold_10 rfl 0 rfl ?_
      refine x_get hx hb hts (jnD _) hown hK _ (woD ad cA f a) rfl 6 (by decide) (hts _ (List.mem_cons_of_mem _ kfD_21)) (fun _ h9 => h9) (v := .ref (ad 2 7)) (by rfl) dD_fold_11 ?_
      refine x_iload_n hx hb dD_fold_14 rfl 1 rfl ?_
      refine x_iload_n hx hb dD_fold_15 rfl 1 rfl ?_
      obtain ⟨hj3, h⟩ := h
      refine x_iast hx hb hK _ _ (wa6D ad cA f a) (wt6D cA) hj3.1 hj3.2 (by decide) dD_fold_16 (ws6D ad cA f a (va_up (a 2 6) (Int.toNat x1) x1)) ?_
      refine x_iinc hx hb dD_fold_17 1 rfl (by decide) (lv' := [(1, .int (iI (x1 + 1))), (0, .ref (ad 2 0))]) rfl ?_
      refine x_goto hx hb (tgt := 2) dD_fold_20 (by decide) ?_
      refine x_sub [1, 0] rfl ?_
      exact ih (x1 + 1) f (setA a 2 6 (va_up (a 2 6) (Int.toNat x1) x1)) h
def wp_D_fold (post : fS → aS → Prop) (f : fS) (a : aS) : Prop := ∃ j, wb_D_fold_2 post j 0 f a
set_option maxHeartbeats 4000000 in
set_option maxRecDepth 100000 in
theorem m_D_fold {l : Launch} {D : va_G} {ad : Nat → Nat → Nat} {cA : Nat → Nat → ClassId} {post : fS → aS → Prop} {f : fS} {a : aS} (h : wp_D_fold post  f a) : xCV l yD_fold (Cond.code yD_fold cD_fold 6 none :: xG) rmD_fold D vwCl (taC cA) (CW ad cA f a) [.ref (ad 2 0)] (CW ad cA) post := by
  refine x_metV (cc := cD_fold) (nL := 6) (by decide) rfl (Nat.le_of_ble_eq_true rfl) ?_
  intro p e s m below meth c A hO
  have hO9 := hO
  obtain ⟨hx, hb, hml, hown, hts, hr, hlk, hK, hN, hA⟩ := hO9
  unfold wp_D_fold at h
  show gD_fold p l e s m _ below meth c A D ad cA post f a [(0, .ref (ad 2 0))] 0 []
  refine x_iconst hx hb dD_fold_0 ?_
  refine x_istore_n hx hb dD_fold_1 rfl (by decide) (lv' := [(1, .int (iI 0)), (0, .ref (ad 2 0))]) rfl ?_
  obtain ⟨j, h⟩ := h
  refine x_sub [1, 0] rfl ?_
  exact tb_D_fold_2 hO j 0 f a h
