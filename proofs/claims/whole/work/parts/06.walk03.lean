-- G_reset
abbrev rmG_reset : Room := { frames := 1, cells := 0, slots := 0, locals := 23 }
abbrev gG_reset (p : Program) (l : Launch) (e : Env) (s : State) (m : MethodId) (args : Array Value) (below : List Frame) (meth : Method) (c : Code) (A : Nat → Prop) (D : va_G) (ad : Nat → Nat → Nat) (cA : Nat → Nat → ClassId) (post : fS → aS → Prop) (f : fS) (a : aS) (lv : List (Nat × Value)) (pc : Nat) (st : List Value) : Prop := xV p l e rmG_reset s m args below meth c s.heap A 0 0 (xQV below D vwCl (taC cA) (CW ad cA) post A args s) D vwCl 1 (CW ad cA f a) lv pc st
def wp_G_reset (post : fS → aS → Prop) (o0 : Nat) (f : fS) (a : aS) : Prop := (3 ≤ o0 ∧ o0 < 7) ∧ (post (setF (setF (setF f o0 0 1) o0 1 0) o0 2 0) (setA (setA (setA (setA (setA a o0 5 (va_up (a o0 5) (Int.toNat 0) (-1))) o0 6 (va_up (a o0 6) (Int.toNat 0) (-1))) o0 7 (va_up (a o0 7) (Int.toNat 0) 0)) o0 3 (fillA (a o0 3) 384 (-1))) o0 4 (fillA (a o0 4) 384 0)))
set_option maxHeartbeats 4000000 in
set_option maxRecDepth 100000 in
theorem m_G_reset {l : Launch} {D : va_G} {ad : Nat → Nat → Nat} {cA : Nat → Nat → ClassId} {post : fS → aS → Prop} {o0 : Nat} {f : fS} {a : aS} (h : wp_G_reset post o0 f a) : xCV l yG_reset (Cond.code yG_reset cG_reset 1 none :: xG) rmG_reset D vwCl (taC cA) (CW ad cA f a) [.ref (ad o0 0)] (CW ad cA) post := by
  refine x_metV (cc := cG_reset) (nL := 1) (by decide) rfl (Nat.le_of_ble_eq_true rfl) ?_
  intro p e s m below meth c A hO
  have hO9 := hO
  obtain ⟨hx, hb, hml, hown, hts, hr, hlk, hK, hN, hA⟩ := hO9
  unfold wp_G_reset at h
  show gG_reset p l e s m _ below meth c A D ad cA post f a [(0, .ref (ad o0 0))] 0 []
  refine x_aload_n hx hb dG_reset_0 rfl 0 rfl ?_
  refine x_iconst hx hb dG_reset_1 ?_
  obtain ⟨hg1, h⟩ := h
  refine x_put hx hb hts (jnG _) tyG tkG nmG hown hK _ (woG ad cA f a o0 hg1) rfl 0 (by decide) (hts _ (List.mem_cons_of_mem _ kfG_33)) (fun _ h9 => h9) rfl (by decide +kernel) (Nat.le_of_ble_eq_true rfl) dG_reset_2 (wf0G ad cA f a 1 o0 hg1) ?_
  refine x_aload_n hx hb dG_reset_5 rfl 0 rfl ?_
  refine x_iconst hx hb dG_reset_6 ?_
  refine x_put hx hb hts (jnG _) tyG tkG nmG hown hK _ (woG ad cA (setF f o0 0 1) a o0 hg1) rfl 1 (by decide) (hts _ (List.mem_cons_of_mem _ kfG_37)) (fun _ h9 => h9) rfl (by decide +kernel) (Nat.le_of_ble_eq_true rfl) dG_reset_7 (wf1G ad cA (setF f o0 0 1) a 0 o0 hg1) ?_
  refine x_aload_n hx hb dG_reset_10 rfl 0 rfl ?_
  refine x_iconst hx hb dG_reset_11 ?_
  refine x_put hx hb hts (jnG _) tyG tkG nmG hown hK _ (woG ad cA (setF (setF f o0 0 1) o0 1 0) a o0 hg1) rfl 2 (by decide) (hts _ (List.mem_cons_of_mem _ kfG_40)) (fun _ h9 => h9) rfl (by decide +kernel) (Nat.le_of_ble_eq_true rfl) dG_reset_12 (wf2G ad cA (setF (setF f o0 0 1) o0 1 0) a 0 o0 hg1) ?_
  refine x_aload_n hx hb dG_reset_15 rfl 0 rfl ?_
  refine x_get hx hb hts (jnG _) hown hK _ (woG ad cA (setF (setF (setF f o0 0 1) o0 1 0) o0 2 0) a o0 hg1) rfl 5 (by decide) (hts _ (List.mem_cons_of_mem _ kfG_18)) (fun _ h9 => h9) (v := .ref (ad o0 6)) (by rfl) dG_reset_16 ?_
  refine x_iconst hx hb dG_reset_19 ?_
  refine x_iconst hx hb dG_reset_20 ?_
  refine x_iast hx hb hK _ _ (wa5G ad cA (setF (setF (setF f o0 0 1) o0 1 0) o0 2 0) a o0 hg1) (wt5G cA o0 hg1) (by decide) (by decide) (by decide) dG_reset_21 (ws5G ad cA (setF (setF (setF f o0 0 1) o0 1 0) o0 2 0) a (va_up (a o0 5) (Int.toNat 0) (-1)) o0 hg1) ?_
  refine x_aload_n hx hb dG_reset_22 rfl 0 rfl ?_
  refine x_get hx hb hts (jnG _) hown hK _ (woG ad cA (setF (setF (setF f o0 0 1) o0 1 0) o0 2 0) (setA a o0 5 (va_up (a o0 5) (Int.toNat 0) (-1))) o0 hg1) rfl 6 (by decide) (hts _ (List.mem_cons_of_mem _ kfG_21)) (fun _ h9 => h9) (v := .ref (ad o0 7)) (by rfl) dG_reset_23 ?_
  refine x_iconst hx hb dG_reset_26 ?_
  refine x_iconst hx hb dG_reset_27 ?_
  refine x_iast hx hb hK _ _ (wa6G ad cA (setF (setF (setF f o0 0 1) o0 1 0) o0 2 0) (setA a o0 5 (va_up (a o0 5) (Int.toNat 0) (-1))) o0 hg1) (wt6G cA o0 hg1) (by decide) (by decide) (by decide) dG_reset_28 (Eq.trans (by rw [(setA_k a (o := o0) (k := 5) (o' := o0) (k' := 6) (va_up (a o0 5) (Int.toNat 0) (-1)) (by decide))]) (ws6G ad cA (setF (setF (setF f o0 0 1) o0 1 0) o0 2 0) (setA a o0 5 (va_up (a o0 5) (Int.toNat 0) (-1))) (va_up (a o0 6) (Int.toNat 0) (-1)) o0 hg1)) ?_
  refine x_aload_n hx hb dG_reset_29 rfl 0 rfl ?_
  refine x_get hx hb hts (jnG _) hown hK _ (woG ad cA (setF (setF (setF f o0 0 1) o0 1 0) o0 2 0) (setA (setA a o0 5 (va_up (a o0 5) (Int.toNat 0) (-1))) o0 6 (va_up (a o0 6) (Int.toNat 0) (-1))) o0 hg1) rfl 7 (by decide) (hts _ (List.mem_cons_of_mem _ kfG_24)) (fun _ h9 => h9) (v := .ref (ad o0 8)) (by rfl) dG_reset_30 ?_
  refine x_iconst hx hb dG_reset_33 ?_
  refine x_iconst hx hb dG_reset_34 ?_
  refine x_iast hx hb hK _ _ (wa7G ad cA (setF (setF (setF f o0 0 1) o0 1 0) o0 2 0) (setA (setA a o0 5 (va_up (a o0 5) (Int.toNat 0) (-1))) o0 6 (va_up (a o0 6) (Int.toNat 0) (-1))) o0 hg1) (wt7G cA o0 hg1) (by decide) (by decide) (by decide) dG_reset_35 (Eq.trans (by rw [((setA_k (setA a o0 5 (va_up (a o0 5) (Int.toNat 0) (-1))) (o := o0) (k := 6) (o' := o0) (k' := 7) (va_up (a o0 6) (Int.toNat 0) (-1)) (by decide)).trans (setA_k a (o := o0) (k := 5) (o' := o0) (k' := 7) (va_up (a o0 5) (Int.toNat 0) (-1)) (by decide)))]) (ws7G ad cA (setF (setF (setF f o0 0 1) o0 1 0) o0 2 0) (setA (setA a o0 5 (va_up (a o0 5) (Int.toNat 0) (-1))) o0 6 (va_up (a o0 6) (Int.toNat 0) (-1))) (va_up (a o0 7) (Int.toNat 0) 0) o0 hg1)) ?_
  refine x_aload_n hx hb dG_reset_36 rfl 0 rfl ?_
  refine x_get hx hb hts (jnG _) hown hK _ (woG ad cA (setF (setF (setF f o0 0 1) o0 1 0) o0 2 0) (setA (setA (setA a o0 5 (va_up (a o0 5) (Int.toNat 0) (-1))) o0 6 (va_up (a o0 6) (Int.toNat 0) (-1))) o0 7 (va_up (a o0 7) (Int.toNat 0) 0)) o0 hg1) rfl 3 (by decide) (hts _ (List.mem_cons_of_mem _ kfG_9)) (fun _ h9 => h9) (v := .ref (ad o0 4)) (by rfl) dG_reset_37 ?_
  refine x_iconst hx hb dG_reset_40 ?_
  refine x_cSv (n := 2) (st := []) (As := [.ref (ad o0 4), .int (iI (-1))]) ⟨hx, hb, hml, hown, hts⟩ hK hN (wl3G ad cA (setF (setF (setF f o0 0 1) o0 1 0) o0 2 0) (setA (setA (setA a o0 5 (va_up (a o0 5) (Int.toNat 0) (-1))) o0 6 (va_up (a o0 6) (Int.toNat 0) (-1))) o0 7 (va_up (a o0 7) (Int.toNat 0) 0)) (-1) (a o0 3) o0 hg1 ((((setA_k (setA (setA a o0 5 (va_up (a o0 5) (Int.toNat 0) (-1))) o0 6 (va_up (a o0 6) (Int.toNat 0) (-1))) (o := o0) (k := 7) (o' := o0) (k' := 3) (va_up (a o0 7) (Int.toNat 0) 0) (by decide)).trans (setA_k (setA a o0 5 (va_up (a o0 5) (Int.toNat 0) (-1))) (o := o0) (k := 6) (o' := o0) (k' := 3) (va_up (a o0 6) (Int.toNat 0) (-1)) (by decide))).trans (setA_k a (o := o0) (k := 5) (o' := o0) (k' := 3) (va_up (a o0 5) (Int.toNat 0) (-1)) (by decide))))) (x_cwS hts rfl rfl kcJ_fill knJ klG_43 ksJ_fill ⟨by decide, by decide, by decide +kernel⟩ ⟨by decide, by decide⟩) hA rfl (Nat.le_of_ble_eq_true rfl) ⟨Nat.zero_le _, Nat.zero_le _⟩ rfl dG_reset_41 (fun f9 a9 h9 => ?_)
  rw [h9.1, h9.2]
  refine x_aload_n hx hb dG_reset_44 rfl 0 rfl ?_
  refine x_get hx hb hts (jnG _) hown hK _ (woG ad cA (setF (setF (setF f o0 0 1) o0 1 0) o0 2 0) (setA (setA (setA (setA a o0 5 (va_up (a o0 5) (Int.toNat 0) (-1))) o0 6 (va_up (a o0 6) (Int.toNat 0) (-1))) o0 7 (va_up (a o0 7) (Int.toNat 0) 0)) o0 3 (fillA (a o0 3) 384 (-1))) o0 hg1) rfl 4 (by decide) (hts _ (List.mem_cons_of_mem _ kfG_15)) (fun _ h9 => h9) (v := .ref (ad o0 5)) (by rfl) dG_reset_45 ?_
  refine x_iconst hx hb dG_reset_48 ?_
  refine x_cSv (n := 2) (st := []) (As := [.ref (ad o0 5), .int (iI 0)]) ⟨hx, hb, hml, hown, hts⟩ hK hN (wl4G ad cA (setF (setF (setF f o0 0 1) o0 1 0) o0 2 0) (setA (setA (setA (setA a o0 5 (va_up (a o0 5) (Int.toNat 0) (-1))) o0 6 (va_up (a o0 6) (Int.toNat 0) (-1))) o0 7 (va_up (a o0 7) (Int.toNat 0) 0)) o0 3 (fillA (a o0 3) 384 (-1))) 0 (a o0 4) o0 hg1 (((((setA_k (setA (setA (setA a o0 5 (va_up (a o0 5) (Int.toNat 0) (-1))) o0 6 (va_up (a o0 6) (Int.toNat 0) (-1))) o0 7 (va_up (a o0 7) (Int.toNat 0) 0)) (o := o0) (k := 3) (o' := o0) (k' := 4) (fillA (a o0 3) 384 (-1)) (by decide)).trans (setA_k (setA (setA a o0 5 (va_up (a o0 5) (Int.toNat 0) (-1))) o0 6 (va_up (a o0 6) (Int.toNat 0) (-1))) (o := o0) (k := 7) (o' := o0) (k' := 4) (va_up (a o0 7) (Int.toNat 0) 0) (by decide))).trans (setA_k (setA a o0 5 (va_up (a o0 5) (Int.toNat 0) (-1))) (o := o0) (k := 6) (o' := o0) (k' := 4) (va_up (a o0 6) (Int.toNat 0) (-1)) (by decide))).trans (setA_k a (o := o0) (k := 5) (o' := o0) (k' := 4) (va_up (a o0 5) (Int.toNat 0) (-1)) (by decide))))) (x_cwS hts rfl rfl kcJ_fill knJ klG_43 ksJ_fill ⟨by decide, by decide, by decide +kernel⟩ ⟨by decide, by decide⟩) hA rfl (Nat.le_of_ble_eq_true rfl) ⟨Nat.zero_le _, Nat.zero_le _⟩ rfl dG_reset_49 (fun f9 a9 h9 => ?_)
  rw [h9.1, h9.2]
  exact x_vret hx hb hr hlk hK dG_reset_52 h
-- G_growTree
abbrev rmG_growTree : Room := { frames := 0, cells := 0, slots := 0, locals := 0 }
abbrev gG_growTree (p : Program) (l : Launch) (e : Env) (s : State) (m : MethodId) (args : Array Value) (below : List Frame) (meth : Method) (c : Code) (A : Nat → Prop) (D : va_G) (ad : Nat → Nat → Nat) (cA : Nat → Nat → ClassId) (post : fS → aS → Prop) (f : fS) (a : aS) (lv : List (Nat × Value)) (pc : Nat) (st : List Value) : Prop := xV p l e rmG_growTree s m args below meth c s.heap A 0 0 (xQV below D vwCl (taC cA) (CW ad cA) post A args s) D vwCl 3 (CW ad cA f a) lv pc st
def wb_G_growTree_56 (post : fS → aS → Prop) (f : fS) (a : aS) : Prop := post f a
set_option maxHeartbeats 4000000 in
set_option maxRecDepth 100000 in
theorem tb_G_growTree_56 {p : Program} {l : Launch} {e : Env} {s : State} {m : MethodId} {args : Array Value} {below : List Frame} {meth : Method} {c : Code} {A : Nat → Prop} {D : va_G} {ad : Nat → Nat → Nat} {cA : Nat → Nat → ClassId} {post : fS → aS → Prop} (hO : xOk cG_growTree 3 RG (Cond.code yG_growTree cG_growTree 3 none :: xG) none p s m args meth c A D vwCl (taC cA)) : ∀ (f : fS) (a : aS), wb_G_growTree_56 post f a → gG_growTree p l e s m args below meth c A D ad cA post f a [] 56 [] := by
  have hO9 := hO
  obtain ⟨hx, hb, hml, hown, hts, hr, hlk, hK, hN, hA⟩ := hO9
  intro f a h
  unfold wb_G_growTree_56 at h
  exact x_vret hx hb hr hlk hK dG_growTree_56 h
def wp_G_growTree (post : fS → aS → Prop) (o0 : Nat) (x1 : Int) (x2 : Int) (f : fS) (a : aS) : Prop := (3 ≤ o0 ∧ o0 < 7) ∧ (ir (f o0 0) ∧ (((64 ≤ f o0 0) → (wb_G_growTree_56 post f a)) ∧ (¬ (64 ≤ f o0 0) → ((0 ≤ f o0 0 ∧ f o0 0 < 64) ∧ ((0 ≤ x1 ∧ x1 < 64) ∧ (wb_G_growTree_56 post (setF f o0 0 ((f o0 0) + 1)) (setA (setA (setA a o0 5 (va_up (a o0 5) (Int.toNat (f o0 0)) x1)) o0 6 (va_up (a o0 6) (Int.toNat (f o0 0)) x2)) o0 7 (va_up (a o0 7) (Int.toNat (f o0 0)) ((a o0 7 (Int.toNat x1)) + 1)))))))))
set_option maxHeartbeats 4000000 in
set_option maxRecDepth 100000 in
theorem m_G_growTree {l : Launch} {D : va_G} {ad : Nat → Nat → Nat} {cA : Nat → Nat → ClassId} {post : fS → aS → Prop} {o0 : Nat} {x1 : Int} {x2 : Int} {f : fS} {a : aS} (h : wp_G_growTree post o0 x1 x2 f a) : xCV l yG_growTree (Cond.code yG_growTree cG_growTree 3 none :: xG) rmG_growTree D vwCl (taC cA) (CW ad cA f a) [.ref (ad o0 0), .int (iI x1), .int (iI x2)] (CW ad cA) post := by
  refine x_metV (cc := cG_growTree) (nL := 3) (by decide) rfl (Nat.le_of_ble_eq_true rfl) ?_
  intro p e s m below meth c A hO
  have hO9 := hO
  obtain ⟨hx, hb, hml, hown, hts, hr, hlk, hK, hN, hA⟩ := hO9
  unfold wp_G_growTree at h
  show gG_growTree p l e s m _ below meth c A D ad cA post f a [(0, .ref (ad o0 0)), (1, .int (iI x1)), (2, .int (iI x2))] 0 []
  refine x_aload_n hx hb dG_growTree_0 rfl 0 rfl ?_
  obtain ⟨hg1, h⟩ := h
  refine x_get hx hb hts (jnG _) hown hK _ (woG ad cA f a o0 hg1) rfl 0 (by decide) (hts _ (List.mem_cons_of_mem _ kfG_33)) (fun _ h9 => h9) (v := .int (iI (f o0 0))) (by rfl) dG_growTree_1 ?_
  refine x_bipush hx hb dG_growTree_4 (by decide) ?_
  obtain ⟨hi2, h⟩ := h
  refine x_icmp_ge hx hb (tgt := 56) hi2 (by decide) dG_growTree_6 (by decide) (fun hc => ?_) (fun hc => ?_)
  · have h := h.1 hc
    refine x_sub [] rfl ?_
    exact tb_G_growTree_56 hO f a h
  · have h := h.2 hc
    refine x_aload_n hx hb dG_growTree_9 rfl 0 rfl ?_
    refine x_get hx hb hts (jnG _) hown hK _ (woG ad cA f a o0 hg1) rfl 5 (by decide) (hts _ (List.mem_cons_of_mem _ kfG_18)) (fun _ h9 => h9) (v := .ref (ad o0 6)) (by rfl) dG_growTree_10 ?_
    refine x_aload_n hx hb dG_growTree_13 rfl 0 rfl ?_
    refine x_get hx hb hts (jnG _) hown hK _ (woG ad cA f a o0 hg1) rfl 0 (by decide) (hts _ (List.mem_cons_of_mem _ kfG_33)) (fun _ h9 => h9) (v := .int (iI (f o0 0))) (by rfl) dG_growTree_14 ?_
    refine x_iload_n hx hb dG_growTree_17 rfl 1 rfl ?_
    obtain ⟨hj3, h⟩ := h
    refine x_iast hx hb hK _ _ (wa5G ad cA f a o0 hg1) (wt5G cA o0 hg1) hj3.1 hj3.2 (by decide) dG_growTree_18 (ws5G ad cA f a (va_up (a o0 5) (Int.toNat (f o0 0)) x1) o0 hg1) ?_
    refine x_aload_n hx hb dG_growTree_19 rfl 0 rfl ?_
    refine x_get hx hb hts (jnG _) hown hK _ (woG ad cA f (setA a o0 5 (va_up (a o0 5) (Int.toNat (f o0 0)) x1)) o0 hg1) rfl 6 (by decide) (hts _ (List.mem_cons_of_mem _ kfG_21)) (fun _ h9 => h9) (v := .ref (ad o0 7)) (by rfl) dG_growTree_20 ?_
    refine x_aload_n hx hb dG_growTree_23 rfl 0 rfl ?_
    refine x_get hx hb hts (jnG _) hown hK _ (woG ad cA f (setA a o0 5 (va_up (a o0 5) (Int.toNat (f o0 0)) x1)) o0 hg1) rfl 0 (by decide) (hts _ (List.mem_cons_of_mem _ kfG_33)) (fun _ h9 => h9) (v := .int (iI (f o0 0))) (by rfl) dG_growTree_24 ?_
    refine x_iload_n hx hb dG_growTree_27 rfl 2 rfl ?_
    refine x_iast hx hb hK _ _ (wa6G ad cA f (setA a o0 5 (va_up (a o0 5) (Int.toNat (f o0 0)) x1)) o0 hg1) (wt6G cA o0 hg1) hj3.1 hj3.2 (by decide) dG_growTree_28 (Eq.trans (by rw [(setA_k a (o := o0) (k := 5) (o' := o0) (k' := 6) (va_up (a o0 5) (Int.toNat (f o0 0)) x1) (by decide))]) (ws6G ad cA f (setA a o0 5 (va_up (a o0 5) (Int.toNat (f o0 0)) x1)) (va_up (a o0 6) (Int.toNat (f o0 0)) x2) o0 hg1)) ?_
    refine x_aload_n hx hb dG_growTree_29 rfl 0 rfl ?_
    refine x_get hx hb hts (jnG _) hown hK _ (woG ad cA f (setA (setA a o0 5 (va_up (a o0 5) (Int.toNat (f o0 0)) x1)) o0 6 (va_up (a o0 6) (Int.toNat (f o0 0)) x2)) o0 hg1) rfl 7 (by decide) (hts _ (List.mem_cons_of_mem _ kfG_24)) (fun _ h9 => h9) (v := .ref (ad o0 8)) (by rfl) dG_growTree_30 ?_
    refine x_aload_n hx hb dG_growTree_33 rfl 0 rfl ?_
    refine x_get hx hb hts (jnG _) hown hK _ (woG ad cA f (setA (setA a o0 5 (va_up (a o0 5) (Int.toNat (f o0 0)) x1)) o0 6 (va_up (a o0 6) (Int.toNat (f o0 0)) x2)) o0 hg1) rfl 0 (by decide) (hts _ (List.mem_cons_of_mem _ kfG_33)) (fun _ h9 => h9) (v := .int (iI (f o0 0))) (by rfl) dG_growTree_34 ?_
    refine x_aload_n hx hb dG_growTree_37 rfl 0 rfl ?_
    refine x_get hx hb hts (jnG _) hown hK _ (woG ad cA f (setA (setA a o0 5 (va_up (a o0 5) (Int.toNat (f o0 0)) x1)) o0 6 (va_up (a o0 6) (Int.toNat (f o0 0)) x2)) o0 hg1) rfl 7 (by decide) (hts _ (List.mem_cons_of_mem _ kfG_24)) (fun _ h9 => h9) (v := .ref (ad o0 8)) (by rfl) dG_growTree_38 ?_
    refine x_iload_n hx hb dG_growTree_41 rfl 1 rfl ?_
    obtain ⟨hj4, h⟩ := h
    refine x_iald hx hb hK _ _ (wa7G ad cA f (setA (setA a o0 5 (va_up (a o0 5) (Int.toNat (f o0 0)) x1)) o0 6 (va_up (a o0 6) (Int.toNat (f o0 0)) x2)) o0 hg1) (wt7G cA o0 hg1) hj4.1 hj4.2 (by decide) dG_growTree_42 ?_
    refine x_eqi (congrFun ((setA_k (setA a o0 5 (va_up (a o0 5) (Int.toNat (f o0 0)) x1)) (o := o0) (k := 6) (o' := o0) (k' := 7) (va_up (a o0 6) (Int.toNat (f o0 0)) x2) (by decide)).trans (setA_k a (o := o0) (k := 5) (o' := o0) (k' := 7) (va_up (a o0 5) (Int.toNat (f o0 0)) x1) (by decide))) _) ?_
    refine x_iconst hx hb dG_growTree_43 ?_
    refine x_iadd hx hb dG_growTree_44 ?_
    refine x_iast hx hb hK _ _ (wa7G ad cA f (setA (setA a o0 5 (va_up (a o0 5) (Int.toNat (f o0 0)) x1)) o0 6 (va_up (a o0 6) (Int.toNat (f o0 0)) x2)) o0 hg1) (wt7G cA o0 hg1) hj3.1 hj3.2 (by decide) dG_growTree_45 (Eq.trans (by rw [((setA_k (setA a o0 5 (va_up (a o0 5) (Int.toNat (f o0 0)) x1)) (o := o0) (k := 6) (o' := o0) (k' := 7) (va_up (a o0 6) (Int.toNat (f o0 0)) x2) (by decide)).trans (setA_k a (o := o0) (k := 5) (o' := o0) (k' := 7) (va_up (a o0 5) (Int.toNat (f o0 0)) x1) (by decide)))]) (ws7G ad cA f (setA (setA a o0 5 (va_up (a o0 5) (Int.toNat (f o0 0)) x1)) o0 6 (va_up (a o0 6) (Int.toNat (f o0 0)) x2)) (va_up (a o0 7) (Int.toNat (f o0 0)) ((a o0 7 (Int.toNat x1)) + 1)) o0 hg1)) ?_
    refine x_aload_n hx hb dG_growTree_46 rfl 0 rfl ?_
    refine x_dup hx hb rfl dG_growTree_47 ?_
    refine x_get hx hb hts (jnG _) hown hK _ (woG ad cA f (setA (setA (setA a o0 5 (va_up (a o0 5) (Int.toNat (f o0 0)) x1)) o0 6 (va_up (a o0 6) (Int.toNat (f o0 0)) x2)) o0 7 (va_up (a o0 7) (Int.toNat (f o0 0)) ((a o0 7 (Int.toNat x1)) + 1))) o0 hg1) rfl 0 (by decide) (hts _ (List.mem_cons_of_mem _ kfG_33)) (fun _ h9 => h9) (v := .int (iI (f o0 0))) (by rfl) dG_growTree_48 ?_
    refine x_iconst hx hb dG_growTree_51 ?_
    refine x_iadd hx hb dG_growTree_52 ?_
    refine x_put hx hb hts (jnG _) tyG tkG nmG hown hK _ (woG ad cA f (setA (setA (setA a o0 5 (va_up (a o0 5) (Int.toNat (f o0 0)) x1)) o0 6 (va_up (a o0 6) (Int.toNat (f o0 0)) x2)) o0 7 (va_up (a o0 7) (Int.toNat (f o0 0)) ((a o0 7 (Int.toNat x1)) + 1))) o0 hg1) rfl 0 (by decide) (hts _ (List.mem_cons_of_mem _ kfG_33)) (fun _ h9 => h9) rfl (by decide +kernel) (Nat.le_of_ble_eq_true rfl) dG_growTree_53 (wf0G ad cA f (setA (setA (setA a o0 5 (va_up (a o0 5) (Int.toNat (f o0 0)) x1)) o0 6 (va_up (a o0 6) (Int.toNat (f o0 0)) x2)) o0 7 (va_up (a o0 7) (Int.toNat (f o0 0)) ((a o0 7 (Int.toNat x1)) + 1))) ((f o0 0) + 1) o0 hg1) ?_
    refine x_sub [] rfl ?_
    exact tb_G_growTree_56 hO (setF f o0 0 ((f o0 0) + 1)) (setA (setA (setA a o0 5 (va_up (a o0 5) (Int.toNat (f o0 0)) x1)) o0 6 (va_up (a o0 6) (Int.toNat (f o0 0)) x2)) o0 7 (va_up (a o0 7) (Int.toNat (f o0 0)) ((a o0 7 (Int.toNat x1)) + 1))) h
-- G_findBasis
abbrev rmG_findBasis : Room := { frames := 1, cells := 0, slots := 0, locals := 22 }
abbrev gG_findBasis (p : Program) (l : Launch) (e : Env) (s : State) (m : MethodId) (args : Array Value) (below : List Frame) (meth : Method) (c : Code) (A : Nat → Prop) (D : va_G) (ad : Nat → Nat → Nat) (cA : Nat → Nat → ClassId) (post : fS → aS → Prop) (f : fS) (a : aS) (lv : List (Nat × Value)) (pc : Nat) (st : List Value) : Prop := xV p l e rmG_findBasis s m args below meth c s.heap A 0 0 (xQV below D vwCl (taC cA) (CW ad cA) post A args s) D vwCl 4 (CW ad cA f a) lv pc st
def wb_G_findBasis_108 (post : fS → aS → Prop) (k12 : Nat → Int → Int → fS → aS → Prop) (o0 : Nat) (x1 : Int) (x2 : Int) (f : fS) (a : aS) : Prop := k12 o0 x1 (x2 + 2) f a
set_option maxHeartbeats 4000000 in
set_option maxRecDepth 100000 in
theorem tb_G_findBasis_108 {p : Program} {l : Launch} {e : Env} {s : State} {m : MethodId} {args : Array Value} {below : List Frame} {meth : Method} {c : Code} {A : Nat → Prop} {D : va_G} {ad : Nat → Nat → Nat} {cA : Nat → Nat → ClassId} {post : fS → aS → Prop} {k12 : Nat → Int → Int → fS → aS → Prop} (hO : xOk cG_findBasis 4 RG (Cond.code yG_findBasis cG_findBasis 4 none :: xG) none p s m args meth c A D vwCl (taC cA)) (hk12 : ∀ (o0 : Nat) (x1 : Int) (x2 : Int) (f : fS) (a : aS), k12 o0 x1 x2 f a → gG_findBasis p l e s m args below meth c A D ad cA post f a [(0, .ref (ad o0 0)), (1, .int (iI x1)), (2, .int (iI x2))] 12 []) : ∀ (o0 : Nat) (x1 : Int) (x2 : Int) (f : fS) (a : aS), wb_G_findBasis_108 post k12 o0 x1 x2 f a → gG_findBasis p l e s m args below meth c A D ad cA post f a [(0, .ref (ad o0 0)), (1, .int (iI x1)), (2, .int (iI x2))] 108 [] := by
  have hO9 := hO
  obtain ⟨hx, hb, hml, hown, hts, hr, hlk, hK, hN, hA⟩ := hO9
  intro o0 x1 x2 f a h
  unfold wb_G_findBasis_108 at h
  refine x_iinc hx hb dG_findBasis_108 2 rfl (by decide) (lv' := [(2, .int (iI (x2 + 2))), (0, .ref (ad o0 0)), (1, .int (iI x1))]) rfl ?_
  refine x_goto hx hb (tgt := 12) dG_findBasis_111 (by decide) ?_
  refine x_sub [1, 2, 0] rfl ?_
  exact hk12 o0 x1 (x2 + 2) f a h
def wb_G_findBasis_12 (post : fS → aS → Prop) (k2 : Nat → Int → fS → aS → Prop) : Nat → Nat → Int → Int → fS → aS → Prop
  | 0, _, _, _, _, _ => False
  | n + 1, o0, x1, x2, f, a => ir x2 ∧ (((6 ≤ x2) → (k2 o0 (x1 + 1) f a)) ∧ (¬ (6 ≤ x2) → ((3 ≤ o0 ∧ o0 < 7) ∧ (wp_G_way (fun z6 f7 a8 => ir z6 ∧ (((¬ z6 = -1) → ((0 ≤ z6 ∧ z6 < 64) ∧ (ir ((a8 o0 6) (Int.toNat z6)) ∧ ((((a8 o0 6) (Int.toNat z6) = x2) → (wb_G_findBasis_108 post (wb_G_findBasis_12 post k2 n) o0 x1 x2 (setF f7 o0 1 ((f7 o0 1) + 1)) a8)) ∧ (¬ ((a8 o0 6) (Int.toNat z6) = x2) → ((0 ≤ x1 ∧ x1 < 64) ∧ ((0 ≤ x2 ∧ x2 < 6) ∧ (ir ((a8 o0 6) (Int.toNat x1)) ∧ (ir (cx x2) ∧ ((((a8 o0 6) (Int.toNat x1) = cx x2) → (wb_G_findBasis_108 post (wb_G_findBasis_12 post k2 n) o0 x1 x2 (setF f7 o0 1 ((f7 o0 1) + 1)) a8)) ∧ (¬ ((a8 o0 6) (Int.toNat x1) = cx x2) → ((0 ≤ (x1 * 6) + x2 ∧ (x1 * 6) + x2 < 384) ∧ ((0 ≤ (z6 * 6) + (cx x2) ∧ (z6 * 6) + (cx x2) < 384) ∧ (wb_G_findBasis_108 post (wb_G_findBasis_12 post k2 n) o0 x1 x2 (setF (setF f7 o0 1 ((f7 o0 1) + 1)) o0 2 ((f7 o0 2) + 1)) (setA (setA a8 o0 4 (va_up (a8 o0 4) (Int.toNat ((x1 * 6) + x2)) ((f7 o0 2) + 1))) o0 4 (va_up (va_up (a8 o0 4) (Int.toNat ((x1 * 6) + x2)) ((f7 o0 2) + 1)) (Int.toNat ((z6 * 6) + (cx x2))) (-((f7 o0 2) + 1)))))))))))))))))) ∧ (¬ (¬ z6 = -1) → (wb_G_findBasis_108 post (wb_G_findBasis_12 post k2 n) o0 x1 x2 f7 a8)))) o0 x1 x2 f a))))
set_option maxHeartbeats 4000000 in
set_option maxRecDepth 100000 in
theorem tb_G_findBasis_12 {p : Program} {l : Launch} {e : Env} {s : State} {m : MethodId} {args : Array Value} {below : List Frame} {meth : Method} {c : Code} {A : Nat → Prop} {D : va_G} {ad : Nat → Nat → Nat} {cA : Nat → Nat → ClassId} {post : fS → aS → Prop} {k2 : Nat → Int → fS → aS → Prop} (hO : xOk cG_findBasis 4 RG (Cond.code yG_findBasis cG_findBasis 4 none :: xG) none p s m args meth c A D vwCl (taC cA)) (hk2 : ∀ (o0 : Nat) (x1 : Int) (f : fS) (a : aS), k2 o0 x1 f a → gG_findBasis p l e s m args below meth c A D ad cA post f a [(0, .ref (ad o0 0)), (1, .int (iI x1))] 2 []) : ∀ (n : Nat) (o0 : Nat) (x1 : Int) (x2 : Int) (f : fS) (a : aS), wb_G_findBasis_12 post k2 n o0 x1 x2 f a → gG_findBasis p l e s m args below meth c A D ad cA post f a [(0, .ref (ad o0 0)), (1, .int (iI x1)), (2, .int (iI x2))] 12 [] := by
  have hO9 := hO
  obtain ⟨hx, hb, hml, hown, hts, hr, hlk, hK, hN, hA⟩ := hO9
  intro n
  induction n with
  | zero => intro o0 x1 x2 f a h; exact False.elim h
  | succ n ih =>
    intro o0 x1 x2 f a h
    rw [wb_G_findBasis_12] at h
    refine x_iload_n hx hb dG_findBasis_12 rfl 2 rfl ?_
    refine x_bipush hx hb dG_findBasis_13 (by decide) ?_
    obtain ⟨hi4, h⟩ := h
    refine x_icmp_ge hx hb (tgt := 114) hi4 (by decide) dG_findBasis_15 (by decide) (fun hc => ?_) (fun hc => ?_)
    · have h := h.1 hc
      refine x_iinc hx hb dG_findBasis_114 1 rfl (by decide) (lv' := [(1, .int (iI (x1 + 1))), (0, .ref (ad o0 0)), (2, .int (iI x2))]) rfl ?_
      refine x_goto hx hb (tgt := 2) dG_findBasis_117 (by decide) ?_
      refine x_sub [1, 0] rfl ?_
      exact hk2 o0 (x1 + 1) f a h
    · have h := h.2 hc
      refine x_aload_n hx hb dG_findBasis_18 rfl 0 rfl ?_
      refine x_iload_n hx hb dG_findBasis_19 rfl 1 rfl ?_
      refine x_iload_n hx hb dG_findBasis_20 rfl 2 rfl ?_
      obtain ⟨hg5, h⟩ := h
      refine x_cVi (n := 2) (st := []) (As := [.int (iI x1), .int (iI x2)]) ⟨hx, hb, hml, hown, hts⟩ hK hN (m_G_way h) (x_cwV hts rfl rfl kcG_way knG klG_49 kiG_way keG_way ⟨by decide, by decide, by decide +kernel⟩ ⟨by decide, by decide⟩) _ (woG ad cA f a o0 hg5) rfl hA rfl (Nat.le_of_ble_eq_true rfl) ⟨Nat.zero_le _, Nat.zero_le _⟩ rfl dG_findBasis_21 (fun z6 f7 a8 h => ?_)
      refine x_istore_n hx hb dG_findBasis_24 rfl (by decide) (lv' := [(3, .int (iI z6)), (0, .ref (ad o0 0)), (1, .int (iI x1)), (2, .int (iI x2))]) rfl ?_
      refine x_iload_n hx hb dG_findBasis_25 rfl 0 rfl ?_
      refine x_iconst hx hb dG_findBasis_26 ?_
      obtain ⟨hi9, h⟩ := h
      refine x_icmp_ne hx hb (tgt := 33) hi9 (by decide) dG_findBasis_27 (by decide) (fun hc => ?_) (fun hc => ?_)
      · have h := h.1 hc
        refine x_aload_n hx hb dG_findBasis_33 rfl 1 rfl ?_
        refine x_dup hx hb rfl dG_findBasis_34 ?_
        refine x_get hx hb hts (jnG _) hown hK _ (woG ad cA f7 a8 o0 hg5) rfl 1 (by decide) (hts _ (List.mem_cons_of_mem _ kfG_37)) (fun _ h9 => h9) (v := .int (iI (f7 o0 1))) (by rfl) dG_findBasis_35 ?_
        refine x_iconst hx hb dG_findBasis_38 ?_
        refine x_iadd hx hb dG_findBasis_39 ?_
        refine x_put hx hb hts (jnG _) tyG tkG nmG hown hK _ (woG ad cA f7 a8 o0 hg5) rfl 1 (by decide) (hts _ (List.mem_cons_of_mem _ kfG_37)) (fun _ h9 => h9) rfl (by decide +kernel) (Nat.le_of_ble_eq_true rfl) dG_findBasis_40 (wf1G ad cA f7 a8 ((f7 o0 1) + 1) o0 hg5) ?_
        refine x_aload_n hx hb dG_findBasis_43 rfl 1 rfl ?_
        refine x_get hx hb hts (jnG _) hown hK _ (woG ad cA (setF f7 o0 1 ((f7 o0 1) + 1)) a8 o0 hg5) rfl 6 (by decide) (hts _ (List.mem_cons_of_mem _ kfG_21)) (fun _ h9 => h9) (v := .ref (ad o0 7)) (by rfl) dG_findBasis_44 ?_
        refine x_iload_n hx hb dG_findBasis_47 rfl 0 rfl ?_
        obtain ⟨hj10, h⟩ := h
        refine x_iald hx hb hK _ _ (wa6G ad cA (setF f7 o0 1 ((f7 o0 1) + 1)) a8 o0 hg5) (wt6G cA o0 hg5) hj10.1 hj10.2 (by decide) dG_findBasis_48 ?_
        refine x_iload_n hx hb dG_findBasis_49 rfl 3 rfl ?_
        obtain ⟨hi11, h⟩ := h
        refine x_icmp_eq hx hb (tgt := 108) hi11 hi4 dG_findBasis_50 (by decide) (fun hc => ?_) (fun hc => ?_)
        · have h := h.1 hc
          refine x_sub [1, 2, 3] rfl ?_
          exact tb_G_findBasis_108 hO ih o0 x1 x2 (setF f7 o0 1 ((f7 o0 1) + 1)) a8 h
        · have h := h.2 hc
          refine x_aload_n hx hb dG_findBasis_53 rfl 1 rfl ?_
          refine x_get hx hb hts (jnG _) hown hK _ (woG ad cA (setF f7 o0 1 ((f7 o0 1) + 1)) a8 o0 hg5) rfl 6 (by decide) (hts _ (List.mem_cons_of_mem _ kfG_21)) (fun _ h9 => h9) (v := .ref (ad o0 7)) (by rfl) dG_findBasis_54 ?_
          refine x_iload_n hx hb dG_findBasis_57 rfl 2 rfl ?_
          obtain ⟨hj12, h⟩ := h
          refine x_iald hx hb hK _ _ (wa6G ad cA (setF f7 o0 1 ((f7 o0 1) + 1)) a8 o0 hg5) (wt6G cA o0 hg5) hj12.1 hj12.2 (by decide) dG_findBasis_58 ?_
          refine x_iload_n hx hb dG_findBasis_59 rfl 3 rfl ?_
          refine x_iconst hx hb dG_findBasis_60 ?_
          obtain ⟨hj13, h⟩ := h
          refine x_ixor1 hx hb hj13.1 hj13.2 dG_findBasis_61 ?_
          obtain ⟨hi14, h⟩ := h
          obtain ⟨hi15, h⟩ := h
          refine x_icmp_eq hx hb (tgt := 108) hi14 hi15 dG_findBasis_62 (by decide) (fun hc => ?_) (fun hc => ?_)
          · have h := h.1 hc
            refine x_sub [1, 2, 3] rfl ?_
            exact tb_G_findBasis_108 hO ih o0 x1 x2 (setF f7 o0 1 ((f7 o0 1) + 1)) a8 h
          · have h := h.2 hc
            refine x_aload_n hx hb dG_findBasis_65 rfl 1 rfl ?_
            refine x_dup hx hb rfl dG_findBasis_66 ?_
            refine x_get hx hb hts (jnG _) hown hK _ (woG ad cA (setF f7 o0 1 ((f7 o0 1) + 1)) a8 o0 hg5) rfl 2 (by decide) (hts _ (List.mem_cons_of_mem _ kfG_40)) (fun _ h9 => h9) (v := .int (iI ((setF f7 o0 1 ((f7 o0 1) + 1)) o0 2))) (by rfl) dG_findBasis_67 ?_
            refine x_eqi (setF_k f7 (o := o0) (k := 1) (o' := o0) (k' := 2) ((f7 o0 1) + 1) (by decide)) ?_
            refine x_iconst hx hb dG_findBasis_70 ?_
            refine x_iadd hx hb dG_findBasis_71 ?_
            refine x_put hx hb hts (jnG _) tyG tkG nmG hown hK _ (woG ad cA (setF f7 o0 1 ((f7 o0 1) + 1)) a8 o0 hg5) rfl 2 (by decide) (hts _ (List.mem_cons_of_mem _ kfG_40)) (fun _ h9 => h9) rfl (by decide +kernel) (Nat.le_of_ble_eq_true rfl) dG_findBasis_72 (wf2G ad cA (setF f7 o0 1 ((f7 o0 1) + 1)) a8 ((f7 o0 2) + 1) o0 hg5) ?_
            refine x_aload_n hx hb dG_findBasis_75 rfl 1 rfl ?_
            refine x_get hx hb hts (jnG _) hown hK _ (woG ad cA (setF (setF f7 o0 1 ((f7 o0 1) + 1)) o0 2 ((f7 o0 2) + 1)) a8 o0 hg5) rfl 4 (by decide) (hts _ (List.mem_cons_of_mem _ kfG_15)) (fun _ h9 => h9) (v := .ref (ad o0 5)) (by rfl) dG_findBasis_76 ?_
            refine x_iload_n hx hb dG_findBasis_79 rfl 2 rfl ?_
            refine x_bipush hx hb dG_findBasis_80 (by decide) ?_
            refine x_imul hx hb dG_findBasis_82 ?_
            refine x_iload_n hx hb dG_findBasis_83 rfl 3 rfl ?_
            refine x_iadd hx hb dG_findBasis_84 ?_
            refine x_aload_n hx hb dG_findBasis_85 rfl 1 rfl ?_
            refine x_get hx hb hts (jnG _) hown hK _ (woG ad cA (setF (setF f7 o0 1 ((f7 o0 1) + 1)) o0 2 ((f7 o0 2) + 1)) a8 o0 hg5) rfl 2 (by decide) (hts _ (List.mem_cons_of_mem _ kfG_40)) (fun _ h9 => h9) (v := .int (iI ((setF (setF f7 o0 1 ((f7 o0 1) + 1)) o0 2 ((f7 o0 2) + 1)) o0 2))) (by rfl) dG_findBasis_86 ?_
            refine x_eqi (setF_s (setF f7 o0 1 ((f7 o0 1) + 1)) o0 2 ((f7 o0 2) + 1)) ?_
            obtain ⟨hj16, h⟩ := h
            refine x_iast hx hb hK _ _ (wa4G ad cA (setF (setF f7 o0 1 ((f7 o0 1) + 1)) o0 2 ((f7 o0 2) + 1)) a8 o0 hg5) (wt4G cA o0 hg5) hj16.1 hj16.2 (by decide) dG_findBasis_89 (ws4G ad cA (setF (setF f7 o0 1 ((f7 o0 1) + 1)) o0 2 ((f7 o0 2) + 1)) a8 (va_up (a8 o0 4) (Int.toNat ((x1 * 6) + x2)) ((f7 o0 2) + 1)) o0 hg5) ?_
            refine x_aload_n hx hb dG_findBasis_90 rfl 1 rfl ?_
            refine x_get hx hb hts (jnG _) hown hK _ (woG ad cA (setF (setF f7 o0 1 ((f7 o0 1) + 1)) o0 2 ((f7 o0 2) + 1)) (setA a8 o0 4 (va_up (a8 o0 4) (Int.toNat ((x1 * 6) + x2)) ((f7 o0 2) + 1))) o0 hg5) rfl 4 (by decide) (hts _ (List.mem_cons_of_mem _ kfG_15)) (fun _ h9 => h9) (v := .ref (ad o0 5)) (by rfl) dG_findBasis_91 ?_
            refine x_iload_n hx hb dG_findBasis_94 rfl 0 rfl ?_
            refine x_bipush hx hb dG_findBasis_95 (by decide) ?_
            refine x_imul hx hb dG_findBasis_97 ?_
            refine x_iload_n hx hb dG_findBasis_98 rfl 3 rfl ?_
            refine x_iconst hx hb dG_findBasis_99 ?_
            refine x_ixor1 hx hb hj13.1 hj13.2 dG_findBasis_100 ?_
            refine x_iadd hx hb dG_findBasis_101 ?_
            refine x_aload_n hx hb dG_findBasis_102 rfl 1 rfl ?_
            refine x_get hx hb hts (jnG _) hown hK _ (woG ad cA (setF (setF f7 o0 1 ((f7 o0 1) + 1)) o0 2 ((f7 o0 2) + 1)) (setA a8 o0 4 (va_up (a8 o0 4) (Int.toNat ((x1 * 6) + x2)) ((f7 o0 2) + 1))) o0 hg5) rfl 2 (by decide) (hts _ (List.mem_cons_of_mem _ kfG_40)) (fun _ h9 => h9) (v := .int (iI ((setF (setF f7 o0 1 ((f7 o0 1) + 1)) o0 2 ((f7 o0 2) + 1)) o0 2))) (by rfl) dG_findBasis_103 ?_
            refine x_eqi (setF_s (setF f7 o0 1 ((f7 o0 1) + 1)) o0 2 ((f7 o0 2) + 1)) ?_
            refine x_ineg hx hb dG_findBasis_106 ?_
            obtain ⟨hj17, h⟩ := h
            refine x_iast hx hb hK _ _ (wa4G ad cA (setF (setF f7 o0 1 ((f7 o0 1) + 1)) o0 2 ((f7 o0 2) + 1)) (setA a8 o0 4 (va_up (a8 o0 4) (Int.toNat ((x1 * 6) + x2)) ((f7 o0 2) + 1))) o0 hg5) (wt4G cA o0 hg5) hj17.1 hj17.2 (by decide) dG_findBasis_107 (Eq.trans (by rw [(setA_s a8 o0 4 (va_up (a8 o0 4) (Int.toNat ((x1 * 6) + x2)) ((f7 o0 2) + 1)))]) (ws4G ad cA (setF (setF f7 o0 1 ((f7 o0 1) + 1)) o0 2 ((f7 o0 2) + 1)) (setA a8 o0 4 (va_up (a8 o0 4) (Int.toNat ((x1 * 6) + x2)) ((f7 o0 2) + 1))) (va_up (va_up (a8 o0 4) (Int.toNat ((x1 * 6) + x2)) ((f7 o0 2) + 1)) (Int.toNat ((z6 * 6) + (cx x2))) (-((f7 o0 2) + 1))) o0 hg5)) ?_
            refine x_sub [1, 2, 3] rfl ?_
            exact tb_G_findBasis_108 hO ih o0 x1 x2 (setF (setF f7 o0 1 ((f7 o0 1) + 1)) o0 2 ((f7 o0 2) + 1)) (setA (setA a8 o0 4 (va_up (a8 o0 4) (Int.toNat ((x1 * 6) + x2)) ((f7 o0 2) + 1))) o0 4 (va_up (va_up (a8 o0 4) (Int.toNat ((x1 * 6) + x2)) ((f7 o0 2) + 1)) (Int.toNat ((z6 * 6) + (cx x2))) (-((f7 o0 2) + 1)))) h
      · have h := h.2 hc
        refine x_goto hx hb (tgt := 108) dG_findBasis_30 (by decide) ?_
        refine x_sub [1, 2, 3] rfl ?_
        exact tb_G_findBasis_108 hO ih o0 x1 x2 f7 a8 h
def wb_G_findBasis_2 (post : fS → aS → Prop) : Nat → Nat → Int → fS → aS → Prop
  | 0, _, _, _, _ => False
  | n + 1, o0, x1, f, a => (3 ≤ o0 ∧ o0 < 7) ∧ (ir x1 ∧ (ir (f o0 0) ∧ (((f o0 0 ≤ x1) → (post f a)) ∧ (¬ (f o0 0 ≤ x1) → (∃ j, wb_G_findBasis_12 post (wb_G_findBasis_2 post n) j o0 x1 0 f a)))))
set_option maxHeartbeats 4000000 in
set_option maxRecDepth 100000 in
theorem tb_G_findBasis_2 {p : Program} {l : Launch} {e : Env} {s : State} {m : MethodId} {args : Array Value} {below : List Frame} {meth : Method} {c : Code} {A : Nat → Prop} {D : va_G} {ad : Nat → Nat → Nat} {cA : Nat → Nat → ClassId} {post : fS → aS → Prop} (hO : xOk cG_findBasis 4 RG (Cond.code yG_findBasis cG_findBasis 4 none :: xG) none p s m args meth c A D vwCl (taC cA)) : ∀ (n : Nat) (o0 : Nat) (x1 : Int) (f : fS) (a : aS), wb_G_findBasis_2 post n o0 x1 f a → gG_findBasis p l e s m args below meth c A D ad cA post f a [(0, .ref (ad o0 0)), (1, .int (iI x1))] 2 [] := by
  have hO9 := hO
  obtain ⟨hx, hb, hml, hown, hts, hr, hlk, hK, hN, hA⟩ := hO9
  intro n
  induction n with
  | zero => intro o0 x1 f a h; exact False.elim h
  | succ n ih =>
    intro o0 x1 f a h
    rw [wb_G_findBasis_2] at h
    refine x_iload_n hx hb dG_findBasis_2 rfl 1 rfl ?_
    refine x_aload_n hx hb dG_findBasis_3 rfl 0 rfl ?_
    obtain ⟨hg1, h⟩ := h
    refine x_get hx hb hts (jnG _) hown hK _ (woG ad cA f a o0 hg1) rfl 0 (by decide) (hts _ (List.mem_cons_of_mem _ kfG_33)) (fun _ h9 => h9) (v := .int (iI (f o0 0))) (by rfl) dG_findBasis_4 ?_
    obtain ⟨hi2, h⟩ := h
    obtain ⟨hi3, h⟩ := h
    refine x_icmp_ge hx hb (tgt := 120) hi2 hi3 dG_findBasis_7 (by decide) (fun hc => ?_) (fun hc => ?_)
    · have h := h.1 hc
      exact x_vret hx hb hr hlk hK dG_findBasis_120 h
    · have h := h.2 hc
      refine x_iconst hx hb dG_findBasis_10 ?_
      refine x_istore_n hx hb dG_findBasis_11 rfl (by decide) (lv' := [(2, .int (iI 0)), (0, .ref (ad o0 0)), (1, .int (iI x1))]) rfl ?_
      obtain ⟨j, h⟩ := h
      refine x_sub [1, 2, 0] rfl ?_
      exact tb_G_findBasis_12 hO ih j o0 x1 0 f a h
def wp_G_findBasis (post : fS → aS → Prop) (o0 : Nat) (f : fS) (a : aS) : Prop := ∃ j, wb_G_findBasis_2 post j o0 0 f a
set_option maxHeartbeats 4000000 in
set_option maxRecDepth 100000 in
theorem m_G_findBasis {l : Launch} {D : va_G} {ad : Nat → Nat → Nat} {cA : Nat → Nat → ClassId} {post : fS → aS → Prop} {o0 : Nat} {f : fS} {a : aS} (h : wp_G_findBasis post o0 f a) : xCV l yG_findBasis (Cond.code yG_findBasis cG_findBasis 4 none :: xG) rmG_findBasis D vwCl (taC cA) (CW ad cA f a) [.ref (ad o0 0)] (CW ad cA) post := by
  refine x_metV (cc := cG_findBasis) (nL := 4) (by decide) rfl (Nat.le_of_ble_eq_true rfl) ?_
  intro p e s m below meth c A hO
  have hO9 := hO
  obtain ⟨hx, hb, hml, hown, hts, hr, hlk, hK, hN, hA⟩ := hO9
  unfold wp_G_findBasis at h
  show gG_findBasis p l e s m _ below meth c A D ad cA post f a [(0, .ref (ad o0 0))] 0 []
  refine x_iconst hx hb dG_findBasis_0 ?_
  refine x_istore_n hx hb dG_findBasis_1 rfl (by decide) (lv' := [(1, .int (iI 0)), (0, .ref (ad o0 0))]) rfl ?_
  obtain ⟨j, h⟩ := h
  refine x_sub [1, 0] rfl ?_
  exact tb_G_findBasis_2 hO j o0 0 f a h
-- D_numberInto
abbrev rmD_numberInto : Room := { frames := 2, cells := 0, slots := 0, locals := 45 }
abbrev gD_numberInto (p : Program) (l : Launch) (e : Env) (s : State) (m : MethodId) (args : Array Value) (below : List Frame) (meth : Method) (c : Code) (A : Nat → Prop) (D : va_G) (ad : Nat → Nat → Nat) (cA : Nat → Nat → ClassId) (post : Int → fS → aS → Prop) (f : fS) (a : aS) (lv : List (Nat × Value)) (pc : Nat) (st : List Value) : Prop := xV p l e rmD_numberInto s m args below meth c s.heap A 0 0 (xQI below D vwCl (taC cA) (CW ad cA) post A args s) D vwCl 5 (CW ad cA f a) lv pc st
def wb_D_numberInto_152 (post : Int → fS → aS → Prop) (o1 : Nat) (f : fS) (a : aS) : Prop := (3 ≤ o1 ∧ o1 < 7) ∧ (wp_G_findBasis (fun f26 a27 => post (f26 o1 0) f26 a27) o1 f a)
set_option maxHeartbeats 4000000 in
set_option maxRecDepth 100000 in
theorem tb_D_numberInto_152 {p : Program} {l : Launch} {e : Env} {s : State} {m : MethodId} {args : Array Value} {below : List Frame} {meth : Method} {c : Code} {A : Nat → Prop} {D : va_G} {ad : Nat → Nat → Nat} {cA : Nat → Nat → ClassId} {post : Int → fS → aS → Prop} (hO : xOk cD_numberInto 5 RD (Cond.code yD_numberInto cD_numberInto 5 (some .int) :: xG) (some .int) p s m args meth c A D vwCl (taC cA)) : ∀ (o1 : Nat) (f : fS) (a : aS), wb_D_numberInto_152 post o1 f a → gD_numberInto p l e s m args below meth c A D ad cA post f a [(1, .ref (ad o1 0))] 152 [] := by
  have hO9 := hO
  obtain ⟨hx, hb, hml, hown, hts, hr, hlk, hK, hN, hA⟩ := hO9
  intro o1 f a h
  unfold wb_D_numberInto_152 at h
  refine x_aload_n hx hb dD_numberInto_152 rfl 0 rfl ?_
  obtain ⟨hg24, h⟩ := h
  refine x_cVNv (n := 0) (st := []) (As := []) ⟨hx, hb, hml, hown, hts⟩ hK hN (m_G_findBasis h) (x_cwVN hts rfl rfl kcG_findBasis knG hN nlD_105 kiG_findBasis keG_findBasis ⟨by decide, by decide, by decide +kernel⟩ ⟨by decide, by decide⟩) _ (woG ad cA f a o1 hg24) rfl hA rfl (Nat.le_of_ble_eq_true rfl) ⟨Nat.zero_le _, Nat.zero_le _⟩ rfl dD_numberInto_153 (fun f26 a27 h => ?_)
  refine x_aload_n hx hb dD_numberInto_156 rfl 0 rfl ?_
  refine x_getN hx hb hts (jnG _) hown hK _ (woG ad cA f26 a27 o1 hg24) rfl 0 (by decide) (va_Nw.use rfl (hN.1 _ nfD_55)) (fun _ h9 => h9) (v := .int (iI (f26 o1 0))) (by rfl) dD_numberInto_157 ?_
  exact x_iret hx hb hr hlk hK dD_numberInto_160 h
def wb_D_numberInto_140 (post : Int → fS → aS → Prop) (k50 : Nat → Int → Int → fS → aS → Prop) (o1 : Nat) (x2 : Int) (x3 : Int) (f : fS) (a : aS) : Prop := k50 o1 x2 (x3 + 1) f a
set_option maxHeartbeats 4000000 in
set_option maxRecDepth 100000 in
theorem tb_D_numberInto_140 {p : Program} {l : Launch} {e : Env} {s : State} {m : MethodId} {args : Array Value} {below : List Frame} {meth : Method} {c : Code} {A : Nat → Prop} {D : va_G} {ad : Nat → Nat → Nat} {cA : Nat → Nat → ClassId} {post : Int → fS → aS → Prop} {k50 : Nat → Int → Int → fS → aS → Prop} (hO : xOk cD_numberInto 5 RD (Cond.code yD_numberInto cD_numberInto 5 (some .int) :: xG) (some .int) p s m args meth c A D vwCl (taC cA)) (hk50 : ∀ (o1 : Nat) (x2 : Int) (x3 : Int) (f : fS) (a : aS), k50 o1 x2 x3 f a → gD_numberInto p l e s m args below meth c A D ad cA post f a [(0, .ref (ad 2 0)), (1, .ref (ad o1 0)), (2, .int (iI x2)), (3, .int (iI x3))] 50 []) : ∀ (o1 : Nat) (x2 : Int) (x3 : Int) (f : fS) (a : aS), wb_D_numberInto_140 post k50 o1 x2 x3 f a → gD_numberInto p l e s m args below meth c A D ad cA post f a [(0, .ref (ad 2 0)), (1, .ref (ad o1 0)), (2, .int (iI x2)), (3, .int (iI x3))] 140 [] := by
  have hO9 := hO
  obtain ⟨hx, hb, hml, hown, hts, hr, hlk, hK, hN, hA⟩ := hO9
  intro o1 x2 x3 f a h
  unfold wb_D_numberInto_140 at h
  refine x_iinc hx hb dD_numberInto_140 3 rfl (by decide) (lv' := [(3, .int (iI (x3 + 1))), (0, .ref (ad 2 0)), (1, .ref (ad o1 0)), (2, .int (iI x2))]) rfl ?_
  refine x_goto hx hb (tgt := 50) dD_numberInto_143 (by decide) ?_
  refine x_sub [1, 2, 3, 0] rfl ?_
  exact hk50 o1 x2 (x3 + 1) f a h
def wb_D_numberInto_122 (post : Int → fS → aS → Prop) (k50 : Nat → Int → Int → fS → aS → Prop) (o1 : Nat) (x2 : Int) (x3 : Int) (x4 : Int) (f : fS) (a : aS) : Prop := (3 ≤ o1 ∧ o1 < 7) ∧ ((0 ≤ x4 ∧ x4 < 64) ∧ ((0 ≤ (x2 * 6) + x3 ∧ (x2 * 6) + x3 < 384) ∧ (wb_D_numberInto_140 post k50 o1 x2 x3 f (setA a o1 3 (va_up (a o1 3) (Int.toNat ((x2 * 6) + x3)) (a 2 10 (Int.toNat x4)))))))
set_option maxHeartbeats 4000000 in
set_option maxRecDepth 100000 in
theorem tb_D_numberInto_122 {p : Program} {l : Launch} {e : Env} {s : State} {m : MethodId} {args : Array Value} {below : List Frame} {meth : Method} {c : Code} {A : Nat → Prop} {D : va_G} {ad : Nat → Nat → Nat} {cA : Nat → Nat → ClassId} {post : Int → fS → aS → Prop} {k50 : Nat → Int → Int → fS → aS → Prop} (hO : xOk cD_numberInto 5 RD (Cond.code yD_numberInto cD_numberInto 5 (some .int) :: xG) (some .int) p s m args meth c A D vwCl (taC cA)) (hk50 : ∀ (o1 : Nat) (x2 : Int) (x3 : Int) (f : fS) (a : aS), k50 o1 x2 x3 f a → gD_numberInto p l e s m args below meth c A D ad cA post f a [(0, .ref (ad 2 0)), (1, .ref (ad o1 0)), (2, .int (iI x2)), (3, .int (iI x3))] 50 []) : ∀ (o1 : Nat) (x2 : Int) (x3 : Int) (x4 : Int) (f : fS) (a : aS), wb_D_numberInto_122 post k50 o1 x2 x3 x4 f a → gD_numberInto p l e s m args below meth c A D ad cA post f a [(0, .ref (ad 2 0)), (1, .ref (ad o1 0)), (2, .int (iI x2)), (3, .int (iI x3)), (4, .int (iI x4))] 122 [] := by
  have hO9 := hO
  obtain ⟨hx, hb, hml, hown, hts, hr, hlk, hK, hN, hA⟩ := hO9
  intro o1 x2 x3 x4 f a h
  unfold wb_D_numberInto_122 at h
  refine x_aload_n hx hb dD_numberInto_122 rfl 1 rfl ?_
  obtain ⟨hg21, h⟩ := h
  refine x_getN hx hb hts (jnG _) hown hK _ (woG ad cA f a o1 hg21) rfl 3 (by decide) (va_Nw.use rfl (hN.1 _ nfD_104)) (fun _ h9 => h9) (v := .ref (ad o1 4)) (by rfl) dD_numberInto_123 ?_
  refine x_iload_n hx hb dD_numberInto_126 rfl 2 rfl ?_
  refine x_bipush hx hb dD_numberInto_127 (by decide) ?_
  refine x_imul hx hb dD_numberInto_129 ?_
  refine x_iload_n hx hb dD_numberInto_130 rfl 3 rfl ?_
  refine x_iadd hx hb dD_numberInto_131 ?_
  refine x_aload_n hx hb dD_numberInto_132 rfl 0 rfl ?_
  refine x_get hx hb hts (jnD _) hown hK _ (woD ad cA f a) rfl 10 (by decide) (hts _ (List.mem_cons_of_mem _ kfD_33)) (fun _ h9 => h9) (v := .ref (ad 2 11)) (by rfl) dD_numberInto_133 ?_
  refine x_iload hx hb dD_numberInto_136 4 rfl ?_
  obtain ⟨hj22, h⟩ := h
  refine x_iald hx hb hK _ _ (wa10D ad cA f a) (wt10D cA) hj22.1 hj22.2 (by decide) dD_numberInto_138 ?_
  obtain ⟨hj23, h⟩ := h
  refine x_iast hx hb hK _ _ (wa3G ad cA f a o1 hg21) (wt3G cA o1 hg21) hj23.1 hj23.2 (by decide) dD_numberInto_139 (ws3G ad cA f a (va_up (a o1 3) (Int.toNat ((x2 * 6) + x3)) (a 2 10 (Int.toNat x4))) o1 hg21) ?_
  refine x_sub [0, 1, 2, 3] rfl ?_
  exact tb_D_numberInto_140 hO hk50 o1 x2 x3 f (setA a o1 3 (va_up (a o1 3) (Int.toNat ((x2 * 6) + x3)) (a 2 10 (Int.toNat x4)))) h
def wb_D_numberInto_50 (post : Int → fS → aS → Prop) (k34 : Nat → Int → fS → aS → Prop) : Nat → Nat → Int → Int → fS → aS → Prop
  | 0, _, _, _, _, _ => False
  | n + 1, o1, x2, x3, f, a => ir x3 ∧ (((6 ≤ x3) → (k34 o1 (x2 + 1) f a)) ∧ (¬ (6 ≤ x3) → ((0 ≤ x2 ∧ x2 < 64) ∧ ((0 ≤ ((a 2 11 (Int.toNat x2)) * 6) + x3 ∧ ((a 2 11 (Int.toNat x2)) * 6) + x3 < 384) ∧ (∀ t12 : Int, t12 = a 2 7 (Int.toNat (((a 2 11 (Int.toNat x2)) * 6) + x3)) → (ir t12 ∧ (((¬ t12 = -1) → ((0 ≤ t12 ∧ t12 < 64) ∧ (ir (a 2 10 (Int.toNat t12)) ∧ (((¬ a 2 10 (Int.toNat t12) = -1) → (wb_D_numberInto_122 post (wb_D_numberInto_50 post k34 n) o1 x2 x3 t12 f a)) ∧ (¬ (¬ a 2 10 (Int.toNat t12) = -1) → ((3 ≤ o1 ∧ o1 < 7) ∧ ((0 ≤ f o1 0 ∧ f o1 0 < 64) ∧ (wp_G_growTree (fun f19 a20 => wb_D_numberInto_122 post (wb_D_numberInto_50 post k34 n) o1 x2 x3 t12 f19 a20) o1 x2 x3 f (setA (setA a 2 10 (va_up (a 2 10) (Int.toNat t12) (f o1 0))) 2 11 (va_up (a 2 11) (Int.toNat (f o1 0)) t12)))))))))) ∧ (¬ (¬ t12 = -1) → (wb_D_numberInto_140 post (wb_D_numberInto_50 post k34 n) o1 x2 x3 f a)))))))))
set_option maxHeartbeats 4000000 in
set_option maxRecDepth 100000 in
theorem tb_D_numberInto_50 {p : Program} {l : Launch} {e : Env} {s : State} {m : MethodId} {args : Array Value} {below : List Frame} {meth : Method} {c : Code} {A : Nat → Prop} {D : va_G} {ad : Nat → Nat → Nat} {cA : Nat → Nat → ClassId} {post : Int → fS → aS → Prop} {k34 : Nat → Int → fS → aS → Prop} (hO : xOk cD_numberInto 5 RD (Cond.code yD_numberInto cD_numberInto 5 (some .int) :: xG) (some .int) p s m args meth c A D vwCl (taC cA)) (hk34 : ∀ (o1 : Nat) (x2 : Int) (f : fS) (a : aS), k34 o1 x2 f a → gD_numberInto p l e s m args below meth c A D ad cA post f a [(0, .ref (ad 2 0)), (1, .ref (ad o1 0)), (2, .int (iI x2))] 34 []) : ∀ (n : Nat) (o1 : Nat) (x2 : Int) (x3 : Int) (f : fS) (a : aS), wb_D_numberInto_50 post k34 n o1 x2 x3 f a → gD_numberInto p l e s m args below meth c A D ad cA post f a [(0, .ref (ad 2 0)), (1, .ref (ad o1 0)), (2, .int (iI x2)), (3, .int (iI x3))] 50 [] := by
  have hO9 := hO
  obtain ⟨hx, hb, hml, hown, hts, hr, hlk, hK, hN, hA⟩ := hO9
  intro n
  induction n with
  | zero => intro o1 x2 x3 f a h; exact False.elim h
  | succ n ih =>
    intro o1 x2 x3 f a h
    rw [wb_D_numberInto_50] at h
    refine x_iload_n hx hb dD_numberInto_50 rfl 3 rfl ?_
    refine x_bipush hx hb dD_numberInto_51 (by decide) ?_
    obtain ⟨hi9, h⟩ := h
    refine x_icmp_ge hx hb (tgt := 146) hi9 (by decide) dD_numberInto_53 (by decide) (fun hc => ?_) (fun hc => ?_)
    · have h := h.1 hc
      refine x_iinc hx hb dD_numberInto_146 2 rfl (by decide) (lv' := [(2, .int (iI (x2 + 1))), (0, .ref (ad 2 0)), (1, .ref (ad o1 0)), (3, .int (iI x3))]) rfl ?_
      refine x_goto hx hb (tgt := 34) dD_numberInto_149 (by decide) ?_
      refine x_sub [1, 2, 0] rfl ?_
      exact hk34 o1 (x2 + 1) f a h
    · have h := h.2 hc
      refine x_aload_n hx hb dD_numberInto_56 rfl 0 rfl ?_
      refine x_get hx hb hts (jnD _) hown hK _ (woD ad cA f a) rfl 7 (by decide) (hts _ (List.mem_cons_of_mem _ kfD_24)) (fun _ h9 => h9) (v := .ref (ad 2 8)) (by rfl) dD_numberInto_57 ?_
      refine x_aload_n hx hb dD_numberInto_60 rfl 0 rfl ?_
      refine x_get hx hb hts (jnD _) hown hK _ (woD ad cA f a) rfl 11 (by decide) (hts _ (List.mem_cons_of_mem _ kfD_36)) (fun _ h9 => h9) (v := .ref (ad 2 12)) (by rfl) dD_numberInto_61 ?_
      refine x_iload_n hx hb dD_numberInto_64 rfl 2 rfl ?_
      obtain ⟨hj10, h⟩ := h
      refine x_iald hx hb hK _ _ (wa11D ad cA f a) (wt11D cA) hj10.1 hj10.2 (by decide) dD_numberInto_65 ?_
      refine x_bipush hx hb dD_numberInto_66 (by decide) ?_
      refine x_imul hx hb dD_numberInto_68 ?_
      refine x_iload_n hx hb dD_numberInto_69 rfl 3 rfl ?_
      refine x_iadd hx hb dD_numberInto_70 ?_
      obtain ⟨hj11, h⟩ := h
      refine x_iald hx hb hK _ _ (wa7D ad cA f a) (wt7D cA) hj11.1 hj11.2 (by decide) dD_numberInto_71 ?_
      refine x_topi (fun t12 et12 => ?_)
      have h := h t12 et12
      refine x_istore hx hb dD_numberInto_72 (by decide) (lv' := [(4, .int (iI t12)), (0, .ref (ad 2 0)), (1, .ref (ad o1 0)), (2, .int (iI x2)), (3, .int (iI x3))]) rfl ?_
      refine x_iload hx hb dD_numberInto_74 0 rfl ?_
      refine x_iconst hx hb dD_numberInto_76 ?_
      obtain ⟨hi13, h⟩ := h
      refine x_icmp_ne hx hb (tgt := 83) hi13 (by decide) dD_numberInto_77 (by decide) (fun hc => ?_) (fun hc => ?_)
      · have h := h.1 hc
        refine x_aload_n hx hb dD_numberInto_83 rfl 1 rfl ?_
        refine x_get hx hb hts (jnD _) hown hK _ (woD ad cA f a) rfl 10 (by decide) (hts _ (List.mem_cons_of_mem _ kfD_33)) (fun _ h9 => h9) (v := .ref (ad 2 11)) (by rfl) dD_numberInto_84 ?_
        refine x_iload hx hb dD_numberInto_87 0 rfl ?_
        obtain ⟨hj14, h⟩ := h
        refine x_iald hx hb hK _ _ (wa10D ad cA f a) (wt10D cA) hj14.1 hj14.2 (by decide) dD_numberInto_89 ?_
        refine x_iconst hx hb dD_numberInto_90 ?_
        obtain ⟨hi15, h⟩ := h
        refine x_icmp_ne hx hb (tgt := 122) hi15 (by decide) dD_numberInto_91 (by decide) (fun hc => ?_) (fun hc => ?_)
        · have h := h.1 hc
          refine x_sub [1, 2, 3, 4, 0] rfl ?_
          exact tb_D_numberInto_122 hO ih o1 x2 x3 t12 f a h
        · have h := h.2 hc
          refine x_aload_n hx hb dD_numberInto_94 rfl 1 rfl ?_
          refine x_get hx hb hts (jnD _) hown hK _ (woD ad cA f a) rfl 10 (by decide) (hts _ (List.mem_cons_of_mem _ kfD_33)) (fun _ h9 => h9) (v := .ref (ad 2 11)) (by rfl) dD_numberInto_95 ?_
          refine x_iload hx hb dD_numberInto_98 0 rfl ?_
          refine x_aload_n hx hb dD_numberInto_100 rfl 2 rfl ?_
          obtain ⟨hg16, h⟩ := h
          refine x_getN hx hb hts (jnG _) hown hK _ (woG ad cA f a o1 hg16) rfl 0 (by decide) (va_Nw.use rfl (hN.1 _ nfD_55)) (fun _ h9 => h9) (v := .int (iI (f o1 0))) (by rfl) dD_numberInto_101 ?_
          refine x_iast hx hb hK _ _ (wa10D ad cA f a) (wt10D cA) hj14.1 hj14.2 (by decide) dD_numberInto_104 (ws10D ad cA f a (va_up (a 2 10) (Int.toNat t12) (f o1 0))) ?_
          refine x_aload_n hx hb dD_numberInto_105 rfl 1 rfl ?_
          refine x_get hx hb hts (jnD _) hown hK _ (woD ad cA f (setA a 2 10 (va_up (a 2 10) (Int.toNat t12) (f o1 0)))) rfl 11 (by decide) (hts _ (List.mem_cons_of_mem _ kfD_36)) (fun _ h9 => h9) (v := .ref (ad 2 12)) (by rfl) dD_numberInto_106 ?_
          refine x_aload_n hx hb dD_numberInto_109 rfl 2 rfl ?_
          refine x_getN hx hb hts (jnG _) hown hK _ (woG ad cA f (setA a 2 10 (va_up (a 2 10) (Int.toNat t12) (f o1 0))) o1 hg16) rfl 0 (by decide) (va_Nw.use rfl (hN.1 _ nfD_55)) (fun _ h9 => h9) (v := .int (iI (f o1 0))) (by rfl) dD_numberInto_110 ?_
          refine x_iload hx hb dD_numberInto_113 0 rfl ?_
          obtain ⟨hj17, h⟩ := h
          refine x_iast hx hb hK _ _ (wa11D ad cA f (setA a 2 10 (va_up (a 2 10) (Int.toNat t12) (f o1 0)))) (wt11D cA) hj17.1 hj17.2 (by decide) dD_numberInto_115 (Eq.trans (by rw [(setA_k a (o := 2) (k := 10) (o' := 2) (k' := 11) (va_up (a 2 10) (Int.toNat t12) (f o1 0)) (by decide))]) (ws11D ad cA f (setA a 2 10 (va_up (a 2 10) (Int.toNat t12) (f o1 0))) (va_up (a 2 11) (Int.toNat (f o1 0)) t12))) ?_
          refine x_aload_n hx hb dD_numberInto_116 rfl 2 rfl ?_
          refine x_iload_n hx hb dD_numberInto_117 rfl 3 rfl ?_
          refine x_iload_n hx hb dD_numberInto_118 rfl 4 rfl ?_
          refine x_cVNv (n := 2) (st := []) (As := [.int (iI x2), .int (iI x3)]) ⟨hx, hb, hml, hown, hts⟩ hK hN (m_G_growTree h) (x_cwVN hts rfl rfl kcG_growTree knG hN nlD_101 kiG_growTree keG_growTree ⟨by decide, by decide, by decide +kernel⟩ ⟨by decide, by decide⟩) _ (woG ad cA f (setA (setA a 2 10 (va_up (a 2 10) (Int.toNat t12) (f o1 0))) 2 11 (va_up (a 2 11) (Int.toNat (f o1 0)) t12)) o1 hg16) rfl hA rfl (Nat.le_of_ble_eq_true rfl) ⟨Nat.zero_le _, Nat.zero_le _⟩ rfl dD_numberInto_119 (fun f19 a20 h => ?_)
          refine x_sub [1, 2, 3, 4, 0] rfl ?_
          exact tb_D_numberInto_122 hO ih o1 x2 x3 t12 f19 a20 h
      · have h := h.2 hc
        refine x_goto hx hb (tgt := 140) dD_numberInto_80 (by decide) ?_
        refine x_sub [1, 2, 3, 4] rfl ?_
        exact tb_D_numberInto_140 hO ih o1 x2 x3 f a h
def wb_D_numberInto_34 (post : Int → fS → aS → Prop) : Nat → Nat → Int → fS → aS → Prop
  | 0, _, _, _, _ => False
  | n + 1, o1, x2, f, a => ir x2 ∧ (((64 ≤ x2) → (wb_D_numberInto_152 post o1 f a)) ∧ (¬ (64 ≤ x2) → ((3 ≤ o1 ∧ o1 < 7) ∧ (ir (f o1 0) ∧ (((f o1 0 ≤ x2) → (wb_D_numberInto_152 post o1 f a)) ∧ (¬ (f o1 0 ≤ x2) → (∃ j, wb_D_numberInto_50 post (wb_D_numberInto_34 post n) j o1 x2 0 f a)))))))
set_option maxHeartbeats 4000000 in
set_option maxRecDepth 100000 in
theorem tb_D_numberInto_34 {p : Program} {l : Launch} {e : Env} {s : State} {m : MethodId} {args : Array Value} {below : List Frame} {meth : Method} {c : Code} {A : Nat → Prop} {D : va_G} {ad : Nat → Nat → Nat} {cA : Nat → Nat → ClassId} {post : Int → fS → aS → Prop} (hO : xOk cD_numberInto 5 RD (Cond.code yD_numberInto cD_numberInto 5 (some .int) :: xG) (some .int) p s m args meth c A D vwCl (taC cA)) : ∀ (n : Nat) (o1 : Nat) (x2 : Int) (f : fS) (a : aS), wb_D_numberInto_34 post n o1 x2 f a → gD_numberInto p l e s m args below meth c A D ad cA post f a [(0, .ref (ad 2 0)), (1, .ref (ad o1 0)), (2, .int (iI x2))] 34 [] := by
  have hO9 := hO
  obtain ⟨hx, hb, hml, hown, hts, hr, hlk, hK, hN, hA⟩ := hO9
  intro n
  induction n with
  | zero => intro o1 x2 f a h; exact False.elim h
  | succ n ih =>
    intro o1 x2 f a h
    rw [wb_D_numberInto_34] at h
    refine x_iload_n hx hb dD_numberInto_34 rfl 2 rfl ?_
    refine x_bipush hx hb dD_numberInto_35 (by decide) ?_
    obtain ⟨hi6, h⟩ := h
    refine x_icmp_ge hx hb (tgt := 152) hi6 (by decide) dD_numberInto_37 (by decide) (fun hc => ?_) (fun hc => ?_)
    · have h := h.1 hc
      refine x_sub [1] rfl ?_
      exact tb_D_numberInto_152 hO o1 f a h
    · have h := h.2 hc
      refine x_iload_n hx hb dD_numberInto_40 rfl 2 rfl ?_
      refine x_aload_n hx hb dD_numberInto_41 rfl 1 rfl ?_
      obtain ⟨hg7, h⟩ := h
      refine x_getN hx hb hts (jnG _) hown hK _ (woG ad cA f a o1 hg7) rfl 0 (by decide) (va_Nw.use rfl (hN.1 _ nfD_55)) (fun _ h9 => h9) (v := .int (iI (f o1 0))) (by rfl) dD_numberInto_42 ?_
      obtain ⟨hi8, h⟩ := h
      refine x_icmp_ge hx hb (tgt := 152) hi6 hi8 dD_numberInto_45 (by decide) (fun hc => ?_) (fun hc => ?_)
      · have h := h.1 hc
        refine x_sub [1] rfl ?_
        exact tb_D_numberInto_152 hO o1 f a h
      · have h := h.2 hc
        refine x_iconst hx hb dD_numberInto_48 ?_
        refine x_istore_n hx hb dD_numberInto_49 rfl (by decide) (lv' := [(3, .int (iI 0)), (0, .ref (ad 2 0)), (1, .ref (ad o1 0)), (2, .int (iI x2))]) rfl ?_
        obtain ⟨j, h⟩ := h
        refine x_sub [1, 2, 3, 0] rfl ?_
        exact tb_D_numberInto_50 hO ih j o1 x2 0 f a h
def wp_D_numberInto (post : Int → fS → aS → Prop) (o1 : Nat) (f : fS) (a : aS) : Prop := (3 ≤ o1 ∧ o1 < 7) ∧ (wp_G_reset (fun f3 a4 => (0 ≤ f3 2 1 ∧ f3 2 1 < 64) ∧ (∃ j, wb_D_numberInto_34 post j o1 0 f3 (setA (setA (setA a4 2 10 (fillA (a4 2 10) 64 (-1))) 2 10 (va_up (fillA (a4 2 10) 64 (-1)) (Int.toNat (f3 2 1)) 0)) 2 11 (va_up (a4 2 11) (Int.toNat 0) (f3 2 1))))) o1 f a)
set_option maxHeartbeats 4000000 in
set_option maxRecDepth 100000 in
theorem m_D_numberInto {l : Launch} {D : va_G} {ad : Nat → Nat → Nat} {cA : Nat → Nat → ClassId} {post : Int → fS → aS → Prop} {o1 : Nat} {f : fS} {a : aS} (h : wp_D_numberInto post o1 f a) : xCI l yD_numberInto (Cond.code yD_numberInto cD_numberInto 5 (some .int) :: xG) rmD_numberInto D vwCl (taC cA) (CW ad cA f a) [.ref (ad 2 0), .ref (ad o1 0)] (CW ad cA) post := by
  refine x_metI (cc := cD_numberInto) (nL := 5) (by decide) rfl (Nat.le_of_ble_eq_true rfl) ?_
  intro p e s m below meth c A hO
  have hO9 := hO
  obtain ⟨hx, hb, hml, hown, hts, hr, hlk, hK, hN, hA⟩ := hO9
  unfold wp_D_numberInto at h
  show gD_numberInto p l e s m _ below meth c A D ad cA post f a [(0, .ref (ad 2 0)), (1, .ref (ad o1 0))] 0 []
  refine x_aload_n hx hb dD_numberInto_0 rfl 1 rfl ?_
  obtain ⟨hg1, h⟩ := h
  refine x_cVNv (n := 0) (st := []) (As := []) ⟨hx, hb, hml, hown, hts⟩ hK hN (m_G_reset h) (x_cwVN hts rfl rfl kcG_reset knG hN nlD_98 kiG_reset keG_reset ⟨by decide, by decide, by decide +kernel⟩ ⟨by decide, by decide⟩) _ (woG ad cA f a o1 hg1) rfl hA rfl (Nat.le_of_ble_eq_true rfl) ⟨Nat.zero_le _, Nat.zero_le _⟩ rfl dD_numberInto_1 (fun f3 a4 h => ?_)
  refine x_aload_n hx hb dD_numberInto_4 rfl 0 rfl ?_
  refine x_get hx hb hts (jnD _) hown hK _ (woD ad cA f3 a4) rfl 10 (by decide) (hts _ (List.mem_cons_of_mem _ kfD_33)) (fun _ h9 => h9) (v := .ref (ad 2 11)) (by rfl) dD_numberInto_5 ?_
  refine x_iconst hx hb dD_numberInto_8 ?_
  refine x_cSv (n := 2) (st := []) (As := [.ref (ad 2 11), .int (iI (-1))]) ⟨hx, hb, hml, hown, hts⟩ hK hN (wl10D ad cA f3 a4 (-1) (a4 2 10) rfl) (x_cwS hts rfl rfl kcJ_fill knJ klD_49 ksJ_fill ⟨by decide, by decide, by decide +kernel⟩ ⟨by decide, by decide⟩) hA rfl (Nat.le_of_ble_eq_true rfl) ⟨Nat.zero_le _, Nat.zero_le _⟩ rfl dD_numberInto_9 (fun f9 a9 h9 => ?_)
  rw [h9.1, h9.2]
  refine x_aload_n hx hb dD_numberInto_12 rfl 0 rfl ?_
  refine x_get hx hb hts (jnD _) hown hK _ (woD ad cA f3 (setA a4 2 10 (fillA (a4 2 10) 64 (-1)))) rfl 10 (by decide) (hts _ (List.mem_cons_of_mem _ kfD_33)) (fun _ h9 => h9) (v := .ref (ad 2 11)) (by rfl) dD_numberInto_13 ?_
  refine x_aload_n hx hb dD_numberInto_16 rfl 0 rfl ?_
  refine x_get hx hb hts (jnD _) hown hK _ (woD ad cA f3 (setA a4 2 10 (fillA (a4 2 10) 64 (-1)))) rfl 1 (by decide) (hts _ (List.mem_cons_of_mem _ kfD_43)) (fun _ h9 => h9) (v := .int (iI (f3 2 1))) (by rfl) dD_numberInto_17 ?_
  refine x_iconst hx hb dD_numberInto_20 ?_
  obtain ⟨hj5, h⟩ := h
  refine x_iast hx hb hK _ _ (wa10D ad cA f3 (setA a4 2 10 (fillA (a4 2 10) 64 (-1)))) (wt10D cA) hj5.1 hj5.2 (by decide) dD_numberInto_21 (Eq.trans (by rw [(setA_s a4 2 10 (fillA (a4 2 10) 64 (-1)))]) (ws10D ad cA f3 (setA a4 2 10 (fillA (a4 2 10) 64 (-1))) (va_up (fillA (a4 2 10) 64 (-1)) (Int.toNat (f3 2 1)) 0))) ?_
  refine x_aload_n hx hb dD_numberInto_22 rfl 0 rfl ?_
  refine x_get hx hb hts (jnD _) hown hK _ (woD ad cA f3 (setA (setA a4 2 10 (fillA (a4 2 10) 64 (-1))) 2 10 (va_up (fillA (a4 2 10) 64 (-1)) (Int.toNat (f3 2 1)) 0))) rfl 11 (by decide) (hts _ (List.mem_cons_of_mem _ kfD_36)) (fun _ h9 => h9) (v := .ref (ad 2 12)) (by rfl) dD_numberInto_23 ?_
  refine x_iconst hx hb dD_numberInto_26 ?_
  refine x_aload_n hx hb dD_numberInto_27 rfl 0 rfl ?_
  refine x_get hx hb hts (jnD _) hown hK _ (woD ad cA f3 (setA (setA a4 2 10 (fillA (a4 2 10) 64 (-1))) 2 10 (va_up (fillA (a4 2 10) 64 (-1)) (Int.toNat (f3 2 1)) 0))) rfl 1 (by decide) (hts _ (List.mem_cons_of_mem _ kfD_43)) (fun _ h9 => h9) (v := .int (iI (f3 2 1))) (by rfl) dD_numberInto_28 ?_
  refine x_iast hx hb hK _ _ (wa11D ad cA f3 (setA (setA a4 2 10 (fillA (a4 2 10) 64 (-1))) 2 10 (va_up (fillA (a4 2 10) 64 (-1)) (Int.toNat (f3 2 1)) 0))) (wt11D cA) (by decide) (by decide) (by decide) dD_numberInto_31 (Eq.trans (by rw [((setA_k (setA a4 2 10 (fillA (a4 2 10) 64 (-1))) (o := 2) (k := 10) (o' := 2) (k' := 11) (va_up (fillA (a4 2 10) 64 (-1)) (Int.toNat (f3 2 1)) 0) (by decide)).trans (setA_k a4 (o := 2) (k := 10) (o' := 2) (k' := 11) (fillA (a4 2 10) 64 (-1)) (by decide)))]) (ws11D ad cA f3 (setA (setA a4 2 10 (fillA (a4 2 10) 64 (-1))) 2 10 (va_up (fillA (a4 2 10) 64 (-1)) (Int.toNat (f3 2 1)) 0)) (va_up (a4 2 11) (Int.toNat 0) (f3 2 1)))) ?_
  refine x_iconst hx hb dD_numberInto_32 ?_
  refine x_istore_n hx hb dD_numberInto_33 rfl (by decide) (lv' := [(2, .int (iI 0)), (0, .ref (ad 2 0)), (1, .ref (ad o1 0))]) rfl ?_
  obtain ⟨j, h⟩ := h
  refine x_sub [1, 2, 0] rfl ?_
  exact tb_D_numberInto_34 hO j o1 0 f3 (setA (setA (setA a4 2 10 (fillA (a4 2 10) 64 (-1))) 2 10 (va_up (fillA (a4 2 10) 64 (-1)) (Int.toNat (f3 2 1)) 0)) 2 11 (va_up (a4 2 11) (Int.toNat 0) (f3 2 1))) h
-- X_generate
abbrev rmX_generate : Room := { frames := 3, cells := 0, slots := 0, locals := 73 }
abbrev gX_generate (p : Program) (l : Launch) (e : Env) (s : State) (m : MethodId) (args : Array Value) (below : List Frame) (meth : Method) (c : Code) (A : Nat → Prop) (D : va_G) (ad : Nat → Nat → Nat) (cA : Nat → Nat → ClassId) (post : Int → fS → aS → Prop) (f : fS) (a : aS) (lv : List (Nat × Value)) (pc : Nat) (st : List Value) : Prop := xV p l e rmX_generate s m args below meth c s.heap A 0 0 (xQI below D vwCl (taC cA) (CW ad cA) post A args s) D vwCl 3 (CW ad cA f a) lv pc st
def wp_X_generate (post : Int → fS → aS → Prop) (x1 : Int) (f : fS) (a : aS) : Prop := wp_X_isSubgroup (fun z1 f2 a3 => ir z1 ∧ (((¬ z1 = 0) → (ir ((f2 1 1) - 1) ∧ (∀ t6 : Int, t6 = max 0 ((f2 1 1) - 1) → ((0 ≤ x1 ∧ x1 < 4) ∧ (ir ((f2 (3 + Int.toNat x1) 0) + t6) ∧ ((((f2 (3 + Int.toNat x1) 0) + t6 ≤ 64) → (wp_D_begin (fun f11 a12 => wp_D_addCopy (fun f14 a15 => wp_D_addRing (fun f17 a18 => wp_D_fold (fun f20 a21 => wp_D_numberInto (fun z22 f23 a24 => post z22 f23 a24) (3 + Int.toNat x1) f20 a21)  f17 a18)  f14 a15) (3 + Int.toNat x1) f11 a12)  f2 a3)) ∧ (¬ ((f2 (3 + Int.toNat x1) 0) + t6 ≤ 64) → (post (-2) f2 a3)))))))) ∧ (¬ (¬ z1 = 0) → (post (-1) f2 a3)))) x1 f a
set_option maxHeartbeats 4000000 in
set_option maxRecDepth 100000 in
theorem m_X_generate {l : Launch} {D : va_G} {ad : Nat → Nat → Nat} {cA : Nat → Nat → ClassId} {post : Int → fS → aS → Prop} {x1 : Int} {f : fS} {a : aS} (h : wp_X_generate post x1 f a) : xCI l yX_generate (Cond.code yX_generate cX_generate 3 (some .int) :: xG) rmX_generate D vwCl (taC cA) (CW ad cA f a) [.ref (ad 0 0), .int (iI x1)] (CW ad cA) post := by
  refine x_metI (cc := cX_generate) (nL := 3) (by decide) rfl (Nat.le_of_ble_eq_true rfl) ?_
  intro p e s m below meth c A hO
  have hO9 := hO
  obtain ⟨hx, hb, hml, hown, hts, hr, hlk, hK, hN, hA⟩ := hO9
  unfold wp_X_generate at h
  show gX_generate p l e s m _ below meth c A D ad cA post f a [(0, .ref (ad 0 0)), (1, .int (iI x1))] 0 []
  refine x_aload_n hx hb dX_generate_0 rfl 0 rfl ?_
  refine x_iload_n hx hb dX_generate_1 rfl 1 rfl ?_
  refine x_cVi (n := 1) (st := []) (As := [.int (iI x1)]) ⟨hx, hb, hml, hown, hts⟩ hK hN (m_X_isSubgroup h) (x_cwV hts rfl rfl kcX_isSubgroup knX klX_70 kiX_isSubgroup keX_isSubgroup ⟨by decide, by decide, by decide +kernel⟩ ⟨by decide, by decide⟩) _ (woX ad cA f a) rfl hA rfl (Nat.le_of_ble_eq_true rfl) ⟨Nat.zero_le _, Nat.zero_le _⟩ rfl dX_generate_2 (fun z1 f2 a3 h => ?_)
  obtain ⟨hi4, h⟩ := h
  refine x_if_ne hx hb (tgt := 10) hi4  dX_generate_5 (by decide) (fun hc => ?_) (fun hc => ?_)
  · have h := h.1 hc
    refine x_iconst hx hb dX_generate_10 ?_
    refine x_aload_n hx hb dX_generate_11 rfl 0 rfl ?_
    refine x_get hx hb hts (jnX _) hown hK _ (woX ad cA f2 a3) rfl 1 (by decide) (hts _ (List.mem_cons_of_mem _ kfX_25)) (fun _ h9 => h9) (v := .ref (ad 1 0)) (by rfl) dX_generate_12 ?_
    refine x_getN hx hb hts (jnW _) hown hK _ (woW ad cA f2 a3) rfl 1 (by decide) (va_Nw.use rfl (hN.1 _ nfX_51)) (fun _ h9 => h9) (v := .int (iI (f2 1 1))) (by rfl) dX_generate_15 ?_
    refine x_iconst hx hb dX_generate_18 ?_
    refine x_isub hx hb dX_generate_19 ?_
    obtain ⟨hi5, h⟩ := h
    refine x_mmax hx hb hml hown (hts _ (List.mem_cons_of_mem _ klX_15)) (hts _ (List.mem_cons_of_mem _ ksA_max)) (hts _ (List.mem_cons_of_mem _ knA)) (hts _ (List.mem_cons_of_mem _ kcA_max)) (by decide) (Nat.le_of_ble_eq_true rfl) (Nat.zero_le _) (Nat.zero_le _) (by decide) hi5 dX_generate_20 ?_
    refine x_topi (fun t6 et6 => ?_)
    have h := h t6 et6
    refine x_istore_n hx hb dX_generate_23 rfl (by decide) (lv' := [(2, .int (iI t6)), (0, .ref (ad 0 0)), (1, .int (iI x1))]) rfl ?_
    refine x_aload_n hx hb dX_generate_24 rfl 1 rfl ?_
    refine x_get hx hb hts (jnX _) hown hK _ (woX ad cA f2 a3) rfl 2 (by decide) (hts _ (List.mem_cons_of_mem _ kfX_31)) (fun _ h9 => h9) (v := .ref (ad 0 3)) (by rfl) dX_generate_25 ?_
    refine x_iload_n hx hb dX_generate_28 rfl 2 rfl ?_
    obtain ⟨hj7, h⟩ := h
    refine x_aald hx hb hK _ _ (wa2X ad cA f2 a3) (wt2X cA) hj7.1 hj7.2 (by decide) (if_pos (by omega)) dX_generate_29 ?_
    have hg8 : 3 ≤ 3 + Int.toNat x1 ∧ 3 + Int.toNat x1 < 7 := by omega
    refine x_getN hx hb hts (jnG _) hown hK _ (woG ad cA f2 a3 (3 + Int.toNat x1) hg8) rfl 0 (by decide) (va_Nw.use rfl (hN.1 _ nfX_73)) (fun _ h9 => h9) (v := .int (iI (f2 (3 + Int.toNat x1) 0))) (by rfl) dX_generate_30 ?_
    refine x_iload_n hx hb dX_generate_33 rfl 0 rfl ?_
    refine x_iadd hx hb dX_generate_34 ?_
    refine x_bipush hx hb dX_generate_35 (by decide) ?_
    obtain ⟨hi9, h⟩ := h
    refine x_icmp_le hx hb (tgt := 43) hi9 (by decide) dX_generate_37 (by decide) (fun hc => ?_) (fun hc => ?_)
    · have h := h.1 hc
      refine x_aload_n hx hb dX_generate_43 rfl 1 rfl ?_
      refine x_get hx hb hts (jnX _) hown hK _ (woX ad cA f2 a3) rfl 3 (by decide) (hts _ (List.mem_cons_of_mem _ kfX_39)) (fun _ h9 => h9) (v := .ref (ad 2 0)) (by rfl) dX_generate_44 ?_
      refine x_cVNv (n := 0) (st := []) (As := []) ⟨hx, hb, hml, hown, hts⟩ hK hN (m_D_begin h) (x_cwVN hts rfl rfl kcD_begin knD hN nlX_74 kiD_begin keD_begin ⟨by decide, by decide, by decide +kernel⟩ ⟨by decide, by decide⟩) _ (woD ad cA f2 a3) rfl hA rfl (Nat.le_of_ble_eq_true rfl) ⟨Nat.zero_le _, Nat.zero_le _⟩ rfl dX_generate_47 (fun f11 a12 h => ?_)
      refine x_aload_n hx hb dX_generate_50 rfl 1 rfl ?_
      refine x_get hx hb hts (jnX _) hown hK _ (woX ad cA f11 a12) rfl 3 (by decide) (hts _ (List.mem_cons_of_mem _ kfX_39)) (fun _ h9 => h9) (v := .ref (ad 2 0)) (by rfl) dX_generate_51 ?_
      refine x_aload_n hx hb dX_generate_54 rfl 1 rfl ?_
      refine x_get hx hb hts (jnX _) hown hK _ (woX ad cA f11 a12) rfl 2 (by decide) (hts _ (List.mem_cons_of_mem _ kfX_31)) (fun _ h9 => h9) (v := .ref (ad 0 3)) (by rfl) dX_generate_55 ?_
      refine x_iload_n hx hb dX_generate_58 rfl 2 rfl ?_
      refine x_aald hx hb hK _ _ (wa2X ad cA f11 a12) (wt2X cA) hj7.1 hj7.2 (by decide) (if_pos (by omega)) dX_generate_59 ?_
      refine x_cVNv (n := 1) (st := []) (As := [.ref (ad (3 + Int.toNat x1) 0)]) ⟨hx, hb, hml, hown, hts⟩ hK hN (m_D_addCopy h) (x_cwVN hts rfl rfl kcD_addCopy knD hN nlX_77 kiD_addCopy keD_addCopy ⟨by decide, by decide, by decide +kernel⟩ ⟨by decide, by decide⟩) _ (woD ad cA f11 a12) rfl hA rfl (Nat.le_of_ble_eq_true rfl) ⟨Nat.zero_le _, Nat.zero_le _⟩ rfl dX_generate_60 (fun f14 a15 h => ?_)
      refine x_aload_n hx hb dX_generate_63 rfl 1 rfl ?_
      refine x_get hx hb hts (jnX _) hown hK _ (woX ad cA f14 a15) rfl 3 (by decide) (hts _ (List.mem_cons_of_mem _ kfX_39)) (fun _ h9 => h9) (v := .ref (ad 2 0)) (by rfl) dX_generate_64 ?_
      refine x_aload_n hx hb dX_generate_67 rfl 1 rfl ?_
      refine x_get hx hb hts (jnX _) hown hK _ (woX ad cA f14 a15) rfl 1 (by decide) (hts _ (List.mem_cons_of_mem _ kfX_25)) (fun _ h9 => h9) (v := .ref (ad 1 0)) (by rfl) dX_generate_68 ?_
      refine x_cVNv (n := 1) (st := []) (As := [.ref (ad 1 0)]) ⟨hx, hb, hml, hown, hts⟩ hK hN (m_D_addRing h) (x_cwVN hts rfl rfl kcD_addRing knD hN nlX_81 kiD_addRing keD_addRing ⟨by decide, by decide, by decide +kernel⟩ ⟨by decide, by decide⟩) _ (woD ad cA f14 a15) rfl hA rfl (Nat.le_of_ble_eq_true rfl) ⟨Nat.zero_le _, Nat.zero_le _⟩ rfl dX_generate_71 (fun f17 a18 h => ?_)
      refine x_aload_n hx hb dX_generate_74 rfl 1 rfl ?_
      refine x_get hx hb hts (jnX _) hown hK _ (woX ad cA f17 a18) rfl 3 (by decide) (hts _ (List.mem_cons_of_mem _ kfX_39)) (fun _ h9 => h9) (v := .ref (ad 2 0)) (by rfl) dX_generate_75 ?_
      refine x_cVNv (n := 0) (st := []) (As := []) ⟨hx, hb, hml, hown, hts⟩ hK hN (m_D_fold h) (x_cwVN hts rfl rfl kcD_fold knD hN nlX_85 kiD_fold keD_fold ⟨by decide, by decide, by decide +kernel⟩ ⟨by decide, by decide⟩) _ (woD ad cA f17 a18) rfl hA rfl (Nat.le_of_ble_eq_true rfl) ⟨Nat.zero_le _, Nat.zero_le _⟩ rfl dX_generate_78 (fun f20 a21 h => ?_)
      refine x_aload_n hx hb dX_generate_81 rfl 1 rfl ?_
      refine x_get hx hb hts (jnX _) hown hK _ (woX ad cA f20 a21) rfl 3 (by decide) (hts _ (List.mem_cons_of_mem _ kfX_39)) (fun _ h9 => h9) (v := .ref (ad 2 0)) (by rfl) dX_generate_82 ?_
      refine x_aload_n hx hb dX_generate_85 rfl 1 rfl ?_
      refine x_get hx hb hts (jnX _) hown hK _ (woX ad cA f20 a21) rfl 2 (by decide) (hts _ (List.mem_cons_of_mem _ kfX_31)) (fun _ h9 => h9) (v := .ref (ad 0 3)) (by rfl) dX_generate_86 ?_
      refine x_iload_n hx hb dX_generate_89 rfl 2 rfl ?_
      refine x_aald hx hb hK _ _ (wa2X ad cA f20 a21) (wt2X cA) hj7.1 hj7.2 (by decide) (if_pos (by omega)) dX_generate_90 ?_
      refine x_cVNi (n := 1) (st := []) (As := [.ref (ad (3 + Int.toNat x1) 0)]) ⟨hx, hb, hml, hown, hts⟩ hK hN (m_D_numberInto h) (x_cwVN hts rfl rfl kcD_numberInto knD hN nlX_88 kiD_numberInto keD_numberInto ⟨by decide, by decide, by decide +kernel⟩ ⟨by decide, by decide⟩) _ (woD ad cA f20 a21) rfl hA rfl (Nat.le_of_ble_eq_true rfl) ⟨Nat.zero_le _, Nat.zero_le _⟩ rfl dX_generate_91 (fun z22 f23 a24 h => ?_)
      exact x_iret hx hb hr hlk hK dX_generate_94 h
    · have h := h.2 hc
      refine x_bipush hx hb dX_generate_40 (by decide) ?_
      exact x_iret hx hb hr hlk hK dX_generate_42 h
  · have h := h.2 hc
    refine x_iconst hx hb dX_generate_8 ?_
    exact x_iret hx hb hr hlk hK dX_generate_9 h
-- X_drop
abbrev rmX_drop : Room := { frames := 2, cells := 0, slots := 0, locals := 43 }
abbrev gX_drop (p : Program) (l : Launch) (e : Env) (s : State) (m : MethodId) (args : Array Value) (below : List Frame) (meth : Method) (c : Code) (A : Nat → Prop) (D : va_G) (ad : Nat → Nat → Nat) (cA : Nat → Nat → ClassId) (post : Int → fS → aS → Prop) (f : fS) (a : aS) (lv : List (Nat × Value)) (pc : Nat) (st : List Value) : Prop := xV p l e rmX_drop s m args below meth c s.heap A 0 0 (xQI below D vwCl (taC cA) (CW ad cA) post A args s) D vwCl 3 (CW ad cA f a) lv pc st
def wp_X_drop (post : Int → fS → aS → Prop) (x1 : Int) (f : fS) (a : aS) : Prop := wp_X_isSubgroup (fun z1 f2 a3 => ir z1 ∧ (((¬ z1 = 0) → ((0 ≤ x1 ∧ x1 < 4) ∧ (∀ t7 : Int, t7 = f2 (3 + Int.toNat x1) 0 → (wp_G_reset (fun f9 a10 => post t7 f9 a10) (3 + Int.toNat x1) f2 a3)))) ∧ (¬ (¬ z1 = 0) → (post (-1) f2 a3)))) x1 f a
set_option maxHeartbeats 4000000 in
set_option maxRecDepth 100000 in
theorem m_X_drop {l : Launch} {D : va_G} {ad : Nat → Nat → Nat} {cA : Nat → Nat → ClassId} {post : Int → fS → aS → Prop} {x1 : Int} {f : fS} {a : aS} (h : wp_X_drop post x1 f a) : xCI l yX_drop (Cond.code yX_drop cX_drop 3 (some .int) :: xG) rmX_drop D vwCl (taC cA) (CW ad cA f a) [.ref (ad 0 0), .int (iI x1)] (CW ad cA) post := by
  refine x_metI (cc := cX_drop) (nL := 3) (by decide) rfl (Nat.le_of_ble_eq_true rfl) ?_
  intro p e s m below meth c A hO
  have hO9 := hO
  obtain ⟨hx, hb, hml, hown, hts, hr, hlk, hK, hN, hA⟩ := hO9
  unfold wp_X_drop at h
  show gX_drop p l e s m _ below meth c A D ad cA post f a [(0, .ref (ad 0 0)), (1, .int (iI x1))] 0 []
  refine x_aload_n hx hb dX_drop_0 rfl 0 rfl ?_
  refine x_iload_n hx hb dX_drop_1 rfl 1 rfl ?_
  refine x_cVi (n := 1) (st := []) (As := [.int (iI x1)]) ⟨hx, hb, hml, hown, hts⟩ hK hN (m_X_isSubgroup h) (x_cwV hts rfl rfl kcX_isSubgroup knX klX_70 kiX_isSubgroup keX_isSubgroup ⟨by decide, by decide, by decide +kernel⟩ ⟨by decide, by decide⟩) _ (woX ad cA f a) rfl hA rfl (Nat.le_of_ble_eq_true rfl) ⟨Nat.zero_le _, Nat.zero_le _⟩ rfl dX_drop_2 (fun z1 f2 a3 h => ?_)
  obtain ⟨hi4, h⟩ := h
  refine x_if_ne hx hb (tgt := 10) hi4  dX_drop_5 (by decide) (fun hc => ?_) (fun hc => ?_)
  · have h := h.1 hc
    refine x_aload_n hx hb dX_drop_10 rfl 0 rfl ?_
    refine x_get hx hb hts (jnX _) hown hK _ (woX ad cA f2 a3) rfl 2 (by decide) (hts _ (List.mem_cons_of_mem _ kfX_31)) (fun _ h9 => h9) (v := .ref (ad 0 3)) (by rfl) dX_drop_11 ?_
    refine x_iload_n hx hb dX_drop_14 rfl 1 rfl ?_
    obtain ⟨hj5, h⟩ := h
    refine x_aald hx hb hK _ _ (wa2X ad cA f2 a3) (wt2X cA) hj5.1 hj5.2 (by decide) (if_pos (by omega)) dX_drop_15 ?_
    have hg6 : 3 ≤ 3 + Int.toNat x1 ∧ 3 + Int.toNat x1 < 7 := by omega
    refine x_getN hx hb hts (jnG _) hown hK _ (woG ad cA f2 a3 (3 + Int.toNat x1) hg6) rfl 0 (by decide) (va_Nw.use rfl (hN.1 _ nfX_73)) (fun _ h9 => h9) (v := .int (iI (f2 (3 + Int.toNat x1) 0))) (by rfl) dX_drop_16 ?_
    refine x_topi (fun t7 et7 => ?_)
    have h := h t7 et7
    refine x_istore_n hx hb dX_drop_19 rfl (by decide) (lv' := [(2, .int (iI t7)), (0, .ref (ad 0 0)), (1, .int (iI x1))]) rfl ?_
    refine x_aload_n hx hb dX_drop_20 rfl 1 rfl ?_
    refine x_get hx hb hts (jnX _) hown hK _ (woX ad cA f2 a3) rfl 2 (by decide) (hts _ (List.mem_cons_of_mem _ kfX_31)) (fun _ h9 => h9) (v := .ref (ad 0 3)) (by rfl) dX_drop_21 ?_
    refine x_iload_n hx hb dX_drop_24 rfl 2 rfl ?_
    refine x_aald hx hb hK _ _ (wa2X ad cA f2 a3) (wt2X cA) hj5.1 hj5.2 (by decide) (if_pos (by omega)) dX_drop_25 ?_
    refine x_cVNv (n := 0) (st := []) (As := []) ⟨hx, hb, hml, hown, hts⟩ hK hN (m_G_reset h) (x_cwVN hts rfl rfl kcG_reset knG hN nlX_92 kiG_reset keG_reset ⟨by decide, by decide, by decide +kernel⟩ ⟨by decide, by decide⟩) _ (woG ad cA f2 a3 (3 + Int.toNat x1) hg6) rfl hA rfl (Nat.le_of_ble_eq_true rfl) ⟨Nat.zero_le _, Nat.zero_le _⟩ rfl dX_drop_26 (fun f9 a10 h => ?_)
    refine x_iload_n hx hb dX_drop_29 rfl 0 rfl ?_
    exact x_iret hx hb hr hlk hK dX_drop_30 h
  · have h := h.2 hc
    refine x_iconst hx hb dX_drop_8 ?_
    exact x_iret hx hb hr hlk hK dX_drop_9 h
