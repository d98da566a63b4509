-- X_join
abbrev rmX_join : Room := { frames := 3, cells := 0, slots := 0, locals := 73 }
abbrev gX_join (p : Program) (l : Launch) (e : Env) (s : State) (m : MethodId) (args : Array Value) (below : List Frame) (meth : Method) (c : Code) (A : Nat → Prop) (D : va_G) (ad : Nat → Nat → Nat) (cA : Nat → Nat → ClassId) (post : Int → fS → aS → Prop) (f : fS) (a : aS) (lv : List (Nat × Value)) (pc : Nat) (st : List Value) : Prop := xV p l e rmX_join s m args below meth c s.heap A 0 0 (xQI below D vwCl (taC cA) (CW ad cA) post A args s) D vwCl 4 (CW ad cA f a) lv pc st
def wb_X_join_24 (post : Int → fS → aS → Prop) (f : fS) (a : aS) : Prop := post (-1) f a
set_option maxHeartbeats 4000000 in
set_option maxRecDepth 100000 in
theorem tb_X_join_24 {p : Program} {l : Launch} {e : Env} {s : State} {m : MethodId} {args : Array Value} {below : List Frame} {meth : Method} {c : Code} {A : Nat → Prop} {D : va_G} {ad : Nat → Nat → Nat} {cA : Nat → Nat → ClassId} {post : Int → fS → aS → Prop} (hO : xOk cX_join 4 RX (Cond.code yX_join cX_join 4 (some .int) :: xG) (some .int) p s m args meth c A D vwCl (taC cA)) : ∀ (f : fS) (a : aS), wb_X_join_24 post f a → gX_join p l e s m args below meth c A D ad cA post f a [] 24 [] := by
  have hO9 := hO
  obtain ⟨hx, hb, hml, hown, hts, hr, hlk, hK, hN, hA⟩ := hO9
  intro f a h
  unfold wb_X_join_24 at h
  refine x_iconst hx hb dX_join_24 ?_
  exact x_iret hx hb hr hlk hK dX_join_25 h
def wp_X_join (post : Int → fS → aS → Prop) (x1 : Int) (x2 : Int) (x3 : Int) (f : fS) (a : aS) : Prop := wp_X_isSubgroup (fun z1 f2 a3 => ir z1 ∧ (((z1 = 0) → (wb_X_join_24 post f2 a3)) ∧ (¬ (z1 = 0) → (wp_X_isSubgroup (fun z5 f6 a7 => ir z5 ∧ (((z5 = 0) → (wb_X_join_24 post f6 a7)) ∧ (¬ (z5 = 0) → (wp_X_isSubgroup (fun z9 f10 a11 => ir z9 ∧ (((¬ z9 = 0) → ((0 ≤ x2 ∧ x2 < 4) ∧ ((0 ≤ x3 ∧ x3 < 4) ∧ (ir (((f10 (3 + Int.toNat x2) 0) + (f10 (3 + Int.toNat x3) 0)) - 1) ∧ (((((f10 (3 + Int.toNat x2) 0) + (f10 (3 + Int.toNat x3) 0)) - 1 ≤ 64) → (wp_D_begin (fun f19 a20 => wp_D_addCopy (fun f22 a23 => wp_D_addCopy (fun f25 a26 => wp_D_fold (fun f28 a29 => (0 ≤ x1 ∧ x1 < 4) ∧ (wp_D_numberInto (fun z32 f33 a34 => post z32 f33 a34) (3 + Int.toNat x1) f28 a29))  f25 a26) (3 + Int.toNat x3) f22 a23) (3 + Int.toNat x2) f19 a20)  f10 a11)) ∧ (¬ (((f10 (3 + Int.toNat x2) 0) + (f10 (3 + Int.toNat x3) 0)) - 1 ≤ 64) → (post (-2) f10 a11))))))) ∧ (¬ (¬ z9 = 0) → (wb_X_join_24 post f10 a11)))) x3 f6 a7)))) x2 f2 a3)))) x1 f a
set_option maxHeartbeats 4000000 in
set_option maxRecDepth 100000 in
theorem m_X_join {l : Launch} {D : va_G} {ad : Nat → Nat → Nat} {cA : Nat → Nat → ClassId} {post : Int → fS → aS → Prop} {x1 : Int} {x2 : Int} {x3 : Int} {f : fS} {a : aS} (h : wp_X_join post x1 x2 x3 f a) : xCI l yX_join (Cond.code yX_join cX_join 4 (some .int) :: xG) rmX_join D vwCl (taC cA) (CW ad cA f a) [.ref (ad 0 0), .int (iI x1), .int (iI x2), .int (iI x3)] (CW ad cA) post := by
  refine x_metI (cc := cX_join) (nL := 4) (by decide) rfl (Nat.le_of_ble_eq_true rfl) ?_
  intro p e s m below meth c A hO
  have hO9 := hO
  obtain ⟨hx, hb, hml, hown, hts, hr, hlk, hK, hN, hA⟩ := hO9
  unfold wp_X_join at h
  show gX_join p l e s m _ below meth c A D ad cA post f a [(0, .ref (ad 0 0)), (1, .int (iI x1)), (2, .int (iI x2)), (3, .int (iI x3))] 0 []
  refine x_aload_n hx hb dX_join_0 rfl 0 rfl ?_
  refine x_iload_n hx hb dX_join_1 rfl 1 rfl ?_
  refine x_cVi (n := 1) (st := []) (As := [.int (iI x1)]) ⟨hx, hb, hml, hown, hts⟩ hK hN (m_X_isSubgroup h) (x_cwV hts rfl rfl kcX_isSubgroup knX klX_70 kiX_isSubgroup keX_isSubgroup ⟨by decide, by decide, by decide +kernel⟩ ⟨by decide, by decide⟩) _ (woX ad cA f a) rfl hA rfl (Nat.le_of_ble_eq_true rfl) ⟨Nat.zero_le _, Nat.zero_le _⟩ rfl dX_join_2 (fun z1 f2 a3 h => ?_)
  obtain ⟨hi4, h⟩ := h
  refine x_if_eq hx hb (tgt := 24) hi4  dX_join_5 (by decide) (fun hc => ?_) (fun hc => ?_)
  · have h := h.1 hc
    refine x_sub [] rfl ?_
    exact tb_X_join_24 hO f2 a3 h
  · have h := h.2 hc
    refine x_aload_n hx hb dX_join_8 rfl 0 rfl ?_
    refine x_iload_n hx hb dX_join_9 rfl 2 rfl ?_
    refine x_cVi (n := 1) (st := []) (As := [.int (iI x2)]) ⟨hx, hb, hml, hown, hts⟩ hK hN (m_X_isSubgroup h) (x_cwV hts rfl rfl kcX_isSubgroup knX klX_70 kiX_isSubgroup keX_isSubgroup ⟨by decide, by decide, by decide +kernel⟩ ⟨by decide, by decide⟩) _ (woX ad cA f2 a3) rfl hA rfl (Nat.le_of_ble_eq_true rfl) ⟨Nat.zero_le _, Nat.zero_le _⟩ rfl dX_join_10 (fun z5 f6 a7 h => ?_)
    obtain ⟨hi8, h⟩ := h
    refine x_if_eq hx hb (tgt := 24) hi8  dX_join_13 (by decide) (fun hc => ?_) (fun hc => ?_)
    · have h := h.1 hc
      refine x_sub [] rfl ?_
      exact tb_X_join_24 hO f6 a7 h
    · have h := h.2 hc
      refine x_aload_n hx hb dX_join_16 rfl 0 rfl ?_
      refine x_iload_n hx hb dX_join_17 rfl 3 rfl ?_
      refine x_cVi (n := 1) (st := []) (As := [.int (iI x3)]) ⟨hx, hb, hml, hown, hts⟩ hK hN (m_X_isSubgroup h) (x_cwV hts rfl rfl kcX_isSubgroup knX klX_70 kiX_isSubgroup keX_isSubgroup ⟨by decide, by decide, by decide +kernel⟩ ⟨by decide, by decide⟩) _ (woX ad cA f6 a7) rfl hA rfl (Nat.le_of_ble_eq_true rfl) ⟨Nat.zero_le _, Nat.zero_le _⟩ rfl dX_join_18 (fun z9 f10 a11 h => ?_)
      obtain ⟨hi12, h⟩ := h
      refine x_if_ne hx hb (tgt := 26) hi12  dX_join_21 (by decide) (fun hc => ?_) (fun hc => ?_)
      · have h := h.1 hc
        refine x_aload_n hx hb dX_join_26 rfl 0 rfl ?_
        refine x_get hx hb hts (jnX _) hown hK _ (woX ad cA f10 a11) rfl 2 (by decide) (hts _ (List.mem_cons_of_mem _ kfX_31)) (fun _ h9 => h9) (v := .ref (ad 0 3)) (by rfl) dX_join_27 ?_
        refine x_iload_n hx hb dX_join_30 rfl 2 rfl ?_
        obtain ⟨hj13, h⟩ := h
        refine x_aald hx hb hK _ _ (wa2X ad cA f10 a11) (wt2X cA) hj13.1 hj13.2 (by decide) (if_pos (by omega)) dX_join_31 ?_
        have hg14 : 3 ≤ 3 + Int.toNat x2 ∧ 3 + Int.toNat x2 < 7 := by omega
        refine x_getN hx hb hts (jnG _) hown hK _ (woG ad cA f10 a11 (3 + Int.toNat x2) hg14) rfl 0 (by decide) (va_Nw.use rfl (hN.1 _ nfX_73)) (fun _ h9 => h9) (v := .int (iI (f10 (3 + Int.toNat x2) 0))) (by rfl) dX_join_32 ?_
        refine x_aload_n hx hb dX_join_35 rfl 0 rfl ?_
        refine x_get hx hb hts (jnX _) hown hK _ (woX ad cA f10 a11) rfl 2 (by decide) (hts _ (List.mem_cons_of_mem _ kfX_31)) (fun _ h9 => h9) (v := .ref (ad 0 3)) (by rfl) dX_join_36 ?_
        refine x_iload_n hx hb dX_join_39 rfl 3 rfl ?_
        obtain ⟨hj15, h⟩ := h
        refine x_aald hx hb hK _ _ (wa2X ad cA f10 a11) (wt2X cA) hj15.1 hj15.2 (by decide) (if_pos (by omega)) dX_join_40 ?_
        have hg16 : 3 ≤ 3 + Int.toNat x3 ∧ 3 + Int.toNat x3 < 7 := by omega
        refine x_getN hx hb hts (jnG _) hown hK _ (woG ad cA f10 a11 (3 + Int.toNat x3) hg16) rfl 0 (by decide) (va_Nw.use rfl (hN.1 _ nfX_73)) (fun _ h9 => h9) (v := .int (iI (f10 (3 + Int.toNat x3) 0))) (by rfl) dX_join_41 ?_
        refine x_iadd hx hb dX_join_44 ?_
        refine x_iconst hx hb dX_join_45 ?_
        refine x_isub hx hb dX_join_46 ?_
        refine x_bipush hx hb dX_join_47 (by decide) ?_
        obtain ⟨hi17, h⟩ := h
        refine x_icmp_le hx hb (tgt := 55) hi17 (by decide) dX_join_49 (by decide) (fun hc => ?_) (fun hc => ?_)
        · have h := h.1 hc
          refine x_aload_n hx hb dX_join_55 rfl 0 rfl ?_
          refine x_get hx hb hts (jnX _) hown hK _ (woX ad cA f10 a11) rfl 3 (by decide) (hts _ (List.mem_cons_of_mem _ kfX_39)) (fun _ h9 => h9) (v := .ref (ad 2 0)) (by rfl) dX_join_56 ?_
          refine x_cVNv (n := 0) (st := []) (As := []) ⟨hx, hb, hml, hown, hts⟩ hK hN (m_D_begin h) (x_cwVN hts rfl rfl kcD_begin knD hN nlX_74 kiD_begin keD_begin ⟨by decide, by decide, by decide +kernel⟩ ⟨by decide, by decide⟩) _ (woD ad cA f10 a11) rfl hA rfl (Nat.le_of_ble_eq_true rfl) ⟨Nat.zero_le _, Nat.zero_le _⟩ rfl dX_join_59 (fun f19 a20 h => ?_)
          refine x_aload_n hx hb dX_join_62 rfl 0 rfl ?_
          refine x_get hx hb hts (jnX _) hown hK _ (woX ad cA f19 a20) rfl 3 (by decide) (hts _ (List.mem_cons_of_mem _ kfX_39)) (fun _ h9 => h9) (v := .ref (ad 2 0)) (by rfl) dX_join_63 ?_
          refine x_aload_n hx hb dX_join_66 rfl 0 rfl ?_
          refine x_get hx hb hts (jnX _) hown hK _ (woX ad cA f19 a20) rfl 2 (by decide) (hts _ (List.mem_cons_of_mem _ kfX_31)) (fun _ h9 => h9) (v := .ref (ad 0 3)) (by rfl) dX_join_67 ?_
          refine x_iload_n hx hb dX_join_70 rfl 2 rfl ?_
          refine x_aald hx hb hK _ _ (wa2X ad cA f19 a20) (wt2X cA) hj13.1 hj13.2 (by decide) (if_pos (by omega)) dX_join_71 ?_
          refine x_cVNv (n := 1) (st := []) (As := [.ref (ad (3 + Int.toNat x2) 0)]) ⟨hx, hb, hml, hown, hts⟩ hK hN (m_D_addCopy h) (x_cwVN hts rfl rfl kcD_addCopy knD hN nlX_77 kiD_addCopy keD_addCopy ⟨by decide, by decide, by decide +kernel⟩ ⟨by decide, by decide⟩) _ (woD ad cA f19 a20) rfl hA rfl (Nat.le_of_ble_eq_true rfl) ⟨Nat.zero_le _, Nat.zero_le _⟩ rfl dX_join_72 (fun f22 a23 h => ?_)
          refine x_aload_n hx hb dX_join_75 rfl 0 rfl ?_
          refine x_get hx hb hts (jnX _) hown hK _ (woX ad cA f22 a23) rfl 3 (by decide) (hts _ (List.mem_cons_of_mem _ kfX_39)) (fun _ h9 => h9) (v := .ref (ad 2 0)) (by rfl) dX_join_76 ?_
          refine x_aload_n hx hb dX_join_79 rfl 0 rfl ?_
          refine x_get hx hb hts (jnX _) hown hK _ (woX ad cA f22 a23) rfl 2 (by decide) (hts _ (List.mem_cons_of_mem _ kfX_31)) (fun _ h9 => h9) (v := .ref (ad 0 3)) (by rfl) dX_join_80 ?_
          refine x_iload_n hx hb dX_join_83 rfl 3 rfl ?_
          refine x_aald hx hb hK _ _ (wa2X ad cA f22 a23) (wt2X cA) hj15.1 hj15.2 (by decide) (if_pos (by omega)) dX_join_84 ?_
          refine x_cVNv (n := 1) (st := []) (As := [.ref (ad (3 + Int.toNat x3) 0)]) ⟨hx, hb, hml, hown, hts⟩ hK hN (m_D_addCopy h) (x_cwVN hts rfl rfl kcD_addCopy knD hN nlX_77 kiD_addCopy keD_addCopy ⟨by decide, by decide, by decide +kernel⟩ ⟨by decide, by decide⟩) _ (woD ad cA f22 a23) rfl hA rfl (Nat.le_of_ble_eq_true rfl) ⟨Nat.zero_le _, Nat.zero_le _⟩ rfl dX_join_85 (fun f25 a26 h => ?_)
          refine x_aload_n hx hb dX_join_88 rfl 0 rfl ?_
          refine x_get hx hb hts (jnX _) hown hK _ (woX ad cA f25 a26) rfl 3 (by decide) (hts _ (List.mem_cons_of_mem _ kfX_39)) (fun _ h9 => h9) (v := .ref (ad 2 0)) (by rfl) dX_join_89 ?_
          refine x_cVNv (n := 0) (st := []) (As := []) ⟨hx, hb, hml, hown, hts⟩ hK hN (m_D_fold h) (x_cwVN hts rfl rfl kcD_fold knD hN nlX_85 kiD_fold keD_fold ⟨by decide, by decide, by decide +kernel⟩ ⟨by decide, by decide⟩) _ (woD ad cA f25 a26) rfl hA rfl (Nat.le_of_ble_eq_true rfl) ⟨Nat.zero_le _, Nat.zero_le _⟩ rfl dX_join_92 (fun f28 a29 h => ?_)
          refine x_aload_n hx hb dX_join_95 rfl 0 rfl ?_
          refine x_get hx hb hts (jnX _) hown hK _ (woX ad cA f28 a29) rfl 3 (by decide) (hts _ (List.mem_cons_of_mem _ kfX_39)) (fun _ h9 => h9) (v := .ref (ad 2 0)) (by rfl) dX_join_96 ?_
          refine x_aload_n hx hb dX_join_99 rfl 0 rfl ?_
          refine x_get hx hb hts (jnX _) hown hK _ (woX ad cA f28 a29) rfl 2 (by decide) (hts _ (List.mem_cons_of_mem _ kfX_31)) (fun _ h9 => h9) (v := .ref (ad 0 3)) (by rfl) dX_join_100 ?_
          refine x_iload_n hx hb dX_join_103 rfl 1 rfl ?_
          obtain ⟨hj30, h⟩ := h
          refine x_aald hx hb hK _ _ (wa2X ad cA f28 a29) (wt2X cA) hj30.1 hj30.2 (by decide) (if_pos (by omega)) dX_join_104 ?_
          have hg31 : 3 ≤ 3 + Int.toNat x1 ∧ 3 + Int.toNat x1 < 7 := by omega
          refine x_cVNi (n := 1) (st := []) (As := [.ref (ad (3 + Int.toNat x1) 0)]) ⟨hx, hb, hml, hown, hts⟩ hK hN (m_D_numberInto h) (x_cwVN hts rfl rfl kcD_numberInto knD hN nlX_88 kiD_numberInto keD_numberInto ⟨by decide, by decide, by decide +kernel⟩ ⟨by decide, by decide⟩) _ (woD ad cA f28 a29) rfl hA rfl (Nat.le_of_ble_eq_true rfl) ⟨Nat.zero_le _, Nat.zero_le _⟩ rfl dX_join_105 (fun z32 f33 a34 h => ?_)
          exact x_iret hx hb hr hlk hK dX_join_108 h
        · have h := h.2 hc
          refine x_bipush hx hb dX_join_52 (by decide) ?_
          exact x_iret hx hb hr hlk hK dX_join_54 h
      · have h := h.2 hc
        refine x_sub [] rfl ?_
        exact tb_X_join_24 hO f10 a11 h
-- X_trace
abbrev rmX_trace : Room := { frames := 1, cells := 0, slots := 0, locals := 22 }
abbrev gX_trace (p : Program) (l : Launch) (e : Env) (s : State) (m : MethodId) (args : Array Value) (below : List Frame) (meth : Method) (c : Code) (A : Nat → Prop) (D : va_G) (ad : Nat → Nat → Nat) (cA : Nat → Nat → ClassId) (post : Int → fS → aS → Prop) (f : fS) (a : aS) (lv : List (Nat × Value)) (pc : Nat) (st : List Value) : Prop := xV p l e rmX_trace s m args below meth c s.heap A 0 0 (xQI below D vwCl (taC cA) (CW ad cA) post A args s) D vwCl 4 (CW ad cA f a) lv pc st
def wb_X_trace_59 (post : Int → fS → aS → Prop) (x2 : Int) (f : fS) (a : aS) : Prop := post x2 f a
set_option maxHeartbeats 4000000 in
set_option maxRecDepth 100000 in
theorem tb_X_trace_59 {p : Program} {l : Launch} {e : Env} {s : State} {m : MethodId} {args : Array Value} {below : List Frame} {meth : Method} {c : Code} {A : Nat → Prop} {D : va_G} {ad : Nat → Nat → Nat} {cA : Nat → Nat → ClassId} {post : Int → fS → aS → Prop} (hO : xOk cX_trace 4 RX (Cond.code yX_trace cX_trace 4 (some .int) :: xG) (some .int) p s m args meth c A D vwCl (taC cA)) : ∀ (x2 : Int) (f : fS) (a : aS), wb_X_trace_59 post x2 f a → gX_trace p l e s m args below meth c A D ad cA post f a [(2, .int (iI x2))] 59 [] := by
  have hO9 := hO
  obtain ⟨hx, hb, hml, hown, hts, hr, hlk, hK, hN, hA⟩ := hO9
  intro x2 f a h
  unfold wb_X_trace_59 at h
  refine x_iload_n hx hb dX_trace_59 rfl 0 rfl ?_
  exact x_iret hx hb hr hlk hK dX_trace_60 h
def wb_X_trace_14 (post : Int → fS → aS → Prop) : Nat → Int → Int → Int → fS → aS → Prop
  | 0, _, _, _, _, _ => False
  | n + 1, x1, x2, x3, f, a => ir x3 ∧ (ir (f 1 1) ∧ (((f 1 1 ≤ x3) → (wb_X_trace_59 post x2 f a)) ∧ (¬ (f 1 1 ≤ x3) → (ir x2 ∧ (((x2 = -1) → (wb_X_trace_59 post x2 f a)) ∧ (¬ (x2 = -1) → ((0 ≤ x1 ∧ x1 < 4) ∧ ((0 ≤ x3 ∧ x3 < 24) ∧ (wp_X_codeOf (fun z11 f12 a13 => wp_G_way (fun z14 f15 a16 => wb_X_trace_14 post n x1 z14 (x3 + 1) f15 a16) (3 + Int.toNat x1) x2 z11 f12 a13) (a 1 0 (Int.toNat x3)) f a)))))))))
set_option maxHeartbeats 4000000 in
set_option maxRecDepth 100000 in
theorem tb_X_trace_14 {p : Program} {l : Launch} {e : Env} {s : State} {m : MethodId} {args : Array Value} {below : List Frame} {meth : Method} {c : Code} {A : Nat → Prop} {D : va_G} {ad : Nat → Nat → Nat} {cA : Nat → Nat → ClassId} {post : Int → fS → aS → Prop} (hO : xOk cX_trace 4 RX (Cond.code yX_trace cX_trace 4 (some .int) :: xG) (some .int) p s m args meth c A D vwCl (taC cA)) : ∀ (n : Nat) (x1 : Int) (x2 : Int) (x3 : Int) (f : fS) (a : aS), wb_X_trace_14 post n x1 x2 x3 f a → gX_trace p l e s m args below meth c A D ad cA post f a [(0, .ref (ad 0 0)), (1, .int (iI x1)), (2, .int (iI x2)), (3, .int (iI x3))] 14 [] := by
  have hO9 := hO
  obtain ⟨hx, hb, hml, hown, hts, hr, hlk, hK, hN, hA⟩ := hO9
  intro n
  induction n with
  | zero => intro x1 x2 x3 f a h; exact False.elim h
  | succ n ih =>
    intro x1 x2 x3 f a h
    rw [wb_X_trace_14] at h
    refine x_iload_n hx hb dX_trace_14 rfl 3 rfl ?_
    refine x_aload_n hx hb dX_trace_15 rfl 0 rfl ?_
    refine x_get hx hb hts (jnX _) hown hK _ (woX ad cA f a) rfl 1 (by decide) (hts _ (List.mem_cons_of_mem _ kfX_25)) (fun _ h9 => h9) (v := .ref (ad 1 0)) (by rfl) dX_trace_16 ?_
    refine x_getN hx hb hts (jnW _) hown hK _ (woW ad cA f a) rfl 1 (by decide) (va_Nw.use rfl (hN.1 _ nfX_51)) (fun _ h9 => h9) (v := .int (iI (f 1 1))) (by rfl) dX_trace_19 ?_
    obtain ⟨hi5, h⟩ := h
    obtain ⟨hi6, h⟩ := h
    refine x_icmp_ge hx hb (tgt := 59) hi5 hi6 dX_trace_22 (by decide) (fun hc => ?_) (fun hc => ?_)
    · have h := h.1 hc
      refine x_sub [2] rfl ?_
      exact tb_X_trace_59 hO x2 f a h
    · have h := h.2 hc
      refine x_iload_n hx hb dX_trace_25 rfl 2 rfl ?_
      refine x_iconst hx hb dX_trace_26 ?_
      obtain ⟨hi7, h⟩ := h
      refine x_icmp_eq hx hb (tgt := 59) hi7 (by decide) dX_trace_27 (by decide) (fun hc => ?_) (fun hc => ?_)
      · have h := h.1 hc
        refine x_sub [2] rfl ?_
        exact tb_X_trace_59 hO x2 f a h
      · have h := h.2 hc
        refine x_aload_n hx hb dX_trace_30 rfl 0 rfl ?_
        refine x_get hx hb hts (jnX _) hown hK _ (woX ad cA f a) rfl 2 (by decide) (hts _ (List.mem_cons_of_mem _ kfX_31)) (fun _ h9 => h9) (v := .ref (ad 0 3)) (by rfl) dX_trace_31 ?_
        refine x_iload_n hx hb dX_trace_34 rfl 1 rfl ?_
        obtain ⟨hj8, h⟩ := h
        refine x_aald hx hb hK _ _ (wa2X ad cA f a) (wt2X cA) hj8.1 hj8.2 (by decide) (if_pos (by omega)) dX_trace_35 ?_
        have hg9 : 3 ≤ 3 + Int.toNat x1 ∧ 3 + Int.toNat x1 < 7 := by omega
        refine x_iload_n hx hb dX_trace_36 rfl 2 rfl ?_
        refine x_aload_n hx hb dX_trace_37 rfl 0 rfl ?_
        refine x_get hx hb hts (jnX _) hown hK _ (woX ad cA f a) rfl 1 (by decide) (hts _ (List.mem_cons_of_mem _ kfX_25)) (fun _ h9 => h9) (v := .ref (ad 1 0)) (by rfl) dX_trace_38 ?_
        refine x_getN hx hb hts (jnW _) hown hK _ (woW ad cA f a) rfl 0 (by decide) (va_Nw.use rfl (hN.1 _ nfX_57)) (fun _ h9 => h9) (v := .ref (ad 1 1)) (by rfl) dX_trace_41 ?_
        refine x_iload_n hx hb dX_trace_44 rfl 3 rfl ?_
        obtain ⟨hj10, h⟩ := h
        refine x_iald hx hb hK _ _ (wa0W ad cA f a) (wt0W cA) hj10.1 hj10.2 (by decide) dX_trace_45 ?_
        refine x_cSi (n := 1) (st := [.int (iI x2), .ref (ad (3 + Int.toNat x1) 0)]) (As := [.int (iI (a 1 0 (Int.toNat x3)))]) ⟨hx, hb, hml, hown, hts⟩ hK hN (m_X_codeOf h) (x_cwS hts rfl rfl kcX_codeOf knX klX_108 ksX_codeOf ⟨by decide, by decide, by decide +kernel⟩ ⟨by decide, by decide⟩) hA rfl (Nat.le_of_ble_eq_true rfl) ⟨Nat.zero_le _, Nat.zero_le _⟩ rfl dX_trace_46 (fun z11 f12 a13 h => ?_)
        refine x_cVNi (n := 2) (st := []) (As := [.int (iI x2), .int (iI z11)]) ⟨hx, hb, hml, hown, hts⟩ hK hN (m_G_way h) (x_cwVN hts rfl rfl kcG_way knG hN nlX_111 kiG_way keG_way ⟨by decide, by decide, by decide +kernel⟩ ⟨by decide, by decide⟩) _ (woG ad cA f12 a13 (3 + Int.toNat x1) hg9) rfl hA rfl (Nat.le_of_ble_eq_true rfl) ⟨Nat.zero_le _, Nat.zero_le _⟩ rfl dX_trace_49 (fun z14 f15 a16 h => ?_)
        refine x_istore_n hx hb dX_trace_52 rfl (by decide) (lv' := [(2, .int (iI z14)), (0, .ref (ad 0 0)), (1, .int (iI x1)), (3, .int (iI x3))]) rfl ?_
        refine x_iinc hx hb dX_trace_53 3 rfl (by decide) (lv' := [(3, .int (iI (x3 + 1))), (2, .int (iI z14)), (0, .ref (ad 0 0)), (1, .int (iI x1))]) rfl ?_
        refine x_goto hx hb (tgt := 14) dX_trace_56 (by decide) ?_
        refine x_sub [2, 3, 1, 0] rfl ?_
        exact ih x1 z14 (x3 + 1) f15 a16 h
def wp_X_trace (post : Int → fS → aS → Prop) (x1 : Int) (f : fS) (a : aS) : Prop := wp_X_isSubgroup (fun z1 f2 a3 => ir z1 ∧ (((¬ z1 = 0) → (∃ j, wb_X_trace_14 post j x1 0 0 f2 a3)) ∧ (¬ (¬ z1 = 0) → (post (-1) f2 a3)))) x1 f a
set_option maxHeartbeats 4000000 in
set_option maxRecDepth 100000 in
theorem m_X_trace {l : Launch} {D : va_G} {ad : Nat → Nat → Nat} {cA : Nat → Nat → ClassId} {post : Int → fS → aS → Prop} {x1 : Int} {f : fS} {a : aS} (h : wp_X_trace post x1 f a) : xCI l yX_trace (Cond.code yX_trace cX_trace 4 (some .int) :: xG) rmX_trace D vwCl (taC cA) (CW ad cA f a) [.ref (ad 0 0), .int (iI x1)] (CW ad cA) post := by
  refine x_metI (cc := cX_trace) (nL := 4) (by decide) rfl (Nat.le_of_ble_eq_true rfl) ?_
  intro p e s m below meth c A hO
  have hO9 := hO
  obtain ⟨hx, hb, hml, hown, hts, hr, hlk, hK, hN, hA⟩ := hO9
  unfold wp_X_trace at h
  show gX_trace p l e s m _ below meth c A D ad cA post f a [(0, .ref (ad 0 0)), (1, .int (iI x1))] 0 []
  refine x_aload_n hx hb dX_trace_0 rfl 0 rfl ?_
  refine x_iload_n hx hb dX_trace_1 rfl 1 rfl ?_
  refine x_cVi (n := 1) (st := []) (As := [.int (iI x1)]) ⟨hx, hb, hml, hown, hts⟩ hK hN (m_X_isSubgroup h) (x_cwV hts rfl rfl kcX_isSubgroup knX klX_70 kiX_isSubgroup keX_isSubgroup ⟨by decide, by decide, by decide +kernel⟩ ⟨by decide, by decide⟩) _ (woX ad cA f a) rfl hA rfl (Nat.le_of_ble_eq_true rfl) ⟨Nat.zero_le _, Nat.zero_le _⟩ rfl dX_trace_2 (fun z1 f2 a3 h => ?_)
  obtain ⟨hi4, h⟩ := h
  refine x_if_ne hx hb (tgt := 10) hi4  dX_trace_5 (by decide) (fun hc => ?_) (fun hc => ?_)
  · have h := h.1 hc
    refine x_iconst hx hb dX_trace_10 ?_
    refine x_istore_n hx hb dX_trace_11 rfl (by decide) (lv' := [(2, .int (iI 0)), (0, .ref (ad 0 0)), (1, .int (iI x1))]) rfl ?_
    refine x_iconst hx hb dX_trace_12 ?_
    refine x_istore_n hx hb dX_trace_13 rfl (by decide) (lv' := [(3, .int (iI 0)), (2, .int (iI 0)), (0, .ref (ad 0 0)), (1, .int (iI x1))]) rfl ?_
    obtain ⟨j, h⟩ := h
    refine x_sub [2, 3, 1, 0] rfl ?_
    exact tb_X_trace_14 hO j x1 0 0 f2 a3 h
  · have h := h.2 hc
    refine x_iconst hx hb dX_trace_8 ?_
    exact x_iret hx hb hr hlk hK dX_trace_9 h
-- X_member
abbrev rmX_member : Room := { frames := 2, cells := 0, slots := 0, locals := 45 }
abbrev gX_member (p : Program) (l : Launch) (e : Env) (s : State) (m : MethodId) (args : Array Value) (below : List Frame) (meth : Method) (c : Code) (A : Nat → Prop) (D : va_G) (ad : Nat → Nat → Nat) (cA : Nat → Nat → ClassId) (post : Int → fS → aS → Prop) (f : fS) (a : aS) (lv : List (Nat × Value)) (pc : Nat) (st : List Value) : Prop := xV p l e rmX_member s m args below meth c s.heap A 0 0 (xQI below D vwCl (taC cA) (CW ad cA) post A args s) D vwCl 2 (CW ad cA f a) lv pc st
def wb_X_member_13 (post : Int → fS → aS → Prop) (y0 : Int) (f : fS) (a : aS) : Prop := (y0 = 0 ∨ y0 = 1) ∧ post y0 f a
set_option maxHeartbeats 4000000 in
set_option maxRecDepth 100000 in
theorem tb_X_member_13 {p : Program} {l : Launch} {e : Env} {s : State} {m : MethodId} {args : Array Value} {below : List Frame} {meth : Method} {c : Code} {A : Nat → Prop} {D : va_G} {ad : Nat → Nat → Nat} {cA : Nat → Nat → ClassId} {post : Int → fS → aS → Prop} (hO : xOk cX_member 2 RX (Cond.code yX_member cX_member 2 (some .boolean) :: xG) (some .boolean) p s m args meth c A D vwCl (taC cA)) : ∀ (y0 : Int) (f : fS) (a : aS), wb_X_member_13 post y0 f a → gX_member p l e s m args below meth c A D ad cA post f a [] 13 [.int (iI y0)] := by
  have hO9 := hO
  obtain ⟨hx, hb, hml, hown, hts, hr, hlk, hK, hN, hA⟩ := hO9
  intro y0 f a h
  unfold wb_X_member_13 at h
  exact x_zret hx hb hr hlk hK dX_member_13 h.1 h.2
def wp_X_member (post : Int → fS → aS → Prop) (x1 : Int) (f : fS) (a : aS) : Prop := wp_X_trace (fun z1 f2 a3 => ir z1 ∧ (((¬ z1 = 0) → (wb_X_member_13 post 0 f2 a3)) ∧ (¬ (¬ z1 = 0) → (wb_X_member_13 post 1 f2 a3)))) x1 f a
set_option maxHeartbeats 4000000 in
set_option maxRecDepth 100000 in
theorem m_X_member {l : Launch} {D : va_G} {ad : Nat → Nat → Nat} {cA : Nat → Nat → ClassId} {post : Int → fS → aS → Prop} {x1 : Int} {f : fS} {a : aS} (h : wp_X_member post x1 f a) : xCI l yX_member (Cond.code yX_member cX_member 2 (some .boolean) :: xG) rmX_member D vwCl (taC cA) (CW ad cA f a) [.ref (ad 0 0), .int (iI x1)] (CW ad cA) post := by
  refine x_metI (cc := cX_member) (nL := 2) (by decide) rfl (Nat.le_of_ble_eq_true rfl) ?_
  intro p e s m below meth c A hO
  have hO9 := hO
  obtain ⟨hx, hb, hml, hown, hts, hr, hlk, hK, hN, hA⟩ := hO9
  unfold wp_X_member at h
  show gX_member p l e s m _ below meth c A D ad cA post f a [(0, .ref (ad 0 0)), (1, .int (iI x1))] 0 []
  refine x_aload_n hx hb dX_member_0 rfl 0 rfl ?_
  refine x_iload_n hx hb dX_member_1 rfl 1 rfl ?_
  refine x_cVi (n := 1) (st := []) (As := [.int (iI x1)]) ⟨hx, hb, hml, hown, hts⟩ hK hN (m_X_trace h) (x_cwV hts rfl rfl kcX_trace knX klX_105 kiX_trace keX_trace ⟨by decide, by decide, by decide +kernel⟩ ⟨by decide, by decide⟩) _ (woX ad cA f a) rfl hA rfl (Nat.le_of_ble_eq_true rfl) ⟨Nat.zero_le _, Nat.zero_le _⟩ rfl dX_member_2 (fun z1 f2 a3 h => ?_)
  obtain ⟨hi4, h⟩ := h
  refine x_if_ne hx hb (tgt := 12) hi4  dX_member_5 (by decide) (fun hc => ?_) (fun hc => ?_)
  · have h := h.1 hc
    refine x_iconst hx hb dX_member_12 ?_
    refine x_sub [] rfl ?_
    exact tb_X_member_13 hO 0 f2 a3 h
  · have h := h.2 hc
    refine x_iconst hx hb dX_member_8 ?_
    refine x_goto hx hb (tgt := 13) dX_member_9 (by decide) ?_
    refine x_sub [] rfl ?_
    exact tb_X_member_13 hO 1 f2 a3 h
-- X_written
abbrev rmX_written : Room := { frames := 3, cells := 0, slots := 0, locals := 66 }
abbrev gX_written (p : Program) (l : Launch) (e : Env) (s : State) (m : MethodId) (args : Array Value) (below : List Frame) (meth : Method) (c : Code) (A : Nat → Prop) (D : va_G) (ad : Nat → Nat → Nat) (cA : Nat → Nat → ClassId) (post : Int → fS → aS → Prop) (f : fS) (a : aS) (lv : List (Nat × Value)) (pc : Nat) (st : List Value) : Prop := xV p l e rmX_written s m args below meth c s.heap A 0 0 (xQI below D vwCl (taC cA) (CW ad cA) post A args s) D vwCl 9 (CW ad cA f a) lv pc st
def wb_X_written_85 (post : Int → fS → aS → Prop) (k26 : Int → Nat → Int → Int → Int → fS → aS → Prop) (x2 : Int) (o3 : Nat) (x4 : Int) (x5 : Int) (x6 : Int) (x7 : Int) (f : fS) (a : aS) : Prop := (3 ≤ o3 ∧ o3 < 7) ∧ (wp_G_way (fun z21 f22 a23 => k26 x2 o3 z21 x5 (x6 + 1) f22 a23) o3 x4 x7 f a)
set_option maxHeartbeats 4000000 in
set_option maxRecDepth 100000 in
theorem tb_X_written_85 {p : Program} {l : Launch} {e : Env} {s : State} {m : MethodId} {args : Array Value} {below : List Frame} {meth : Method} {c : Code} {A : Nat → Prop} {D : va_G} {ad : Nat → Nat → Nat} {cA : Nat → Nat → ClassId} {post : Int → fS → aS → Prop} {k26 : Int → Nat → Int → Int → Int → fS → aS → Prop} (hO : xOk cX_written 9 RX (Cond.code yX_written cX_written 9 (some .int) :: xG) (some .int) p s m args meth c A D vwCl (taC cA)) (hk26 : ∀ (x2 : Int) (o3 : Nat) (x4 : Int) (x5 : Int) (x6 : Int) (f : fS) (a : aS), k26 x2 o3 x4 x5 x6 f a → gX_written p l e s m args below meth c A D ad cA post f a [(0, .ref (ad 0 0)), (2, .int (iI x2)), (3, .ref (ad o3 0)), (4, .int (iI x4)), (5, .int (iI x5)), (6, .int (iI x6))] 26 []) : ∀ (x2 : Int) (o3 : Nat) (x4 : Int) (x5 : Int) (x6 : Int) (x7 : Int) (f : fS) (a : aS), wb_X_written_85 post k26 x2 o3 x4 x5 x6 x7 f a → gX_written p l e s m args below meth c A D ad cA post f a [(0, .ref (ad 0 0)), (2, .int (iI x2)), (3, .ref (ad o3 0)), (4, .int (iI x4)), (5, .int (iI x5)), (6, .int (iI x6)), (7, .int (iI x7))] 85 [] := by
  have hO9 := hO
  obtain ⟨hx, hb, hml, hown, hts, hr, hlk, hK, hN, hA⟩ := hO9
  intro x2 o3 x4 x5 x6 x7 f a h
  unfold wb_X_written_85 at h
  refine x_aload_n hx hb dX_written_85 rfl 2 rfl ?_
  refine x_iload hx hb dX_written_86 3 rfl ?_
  refine x_iload hx hb dX_written_88 6 rfl ?_
  obtain ⟨hg20, h⟩ := h
  refine x_cVNi (n := 2) (st := []) (As := [.int (iI x4), .int (iI x7)]) ⟨hx, hb, hml, hown, hts⟩ hK hN (m_G_way h) (x_cwVN hts rfl rfl kcG_way knG hN nlX_111 kiG_way keG_way ⟨by decide, by decide, by decide +kernel⟩ ⟨by decide, by decide⟩) _ (woG ad cA f a o3 hg20) rfl hA rfl (Nat.le_of_ble_eq_true rfl) ⟨Nat.zero_le _, Nat.zero_le _⟩ rfl dX_written_90 (fun z21 f22 a23 h => ?_)
  refine x_istore hx hb dX_written_93 (by decide) (lv' := [(4, .int (iI z21)), (0, .ref (ad 0 0)), (2, .int (iI x2)), (3, .ref (ad o3 0)), (5, .int (iI x5)), (6, .int (iI x6)), (7, .int (iI x7))]) rfl ?_
  refine x_iinc hx hb dX_written_95 5 rfl (by decide) (lv' := [(6, .int (iI (x6 + 1))), (4, .int (iI z21)), (0, .ref (ad 0 0)), (2, .int (iI x2)), (3, .ref (ad o3 0)), (5, .int (iI x5)), (7, .int (iI x7))]) rfl ?_
  refine x_goto hx hb (tgt := 26) dX_written_98 (by decide) ?_
  refine x_sub [2, 3, 4, 1, 5, 0] rfl ?_
  exact hk26 x2 o3 z21 x5 (x6 + 1) f22 a23 h
def wb_X_written_26 (post : Int → fS → aS → Prop) : Nat → Int → Nat → Int → Int → Int → fS → aS → Prop
  | 0, _, _, _, _, _, _, _ => False
  | n + 1, x2, o3, x4, x5, x6, f, a => ir x6 ∧ (ir (f 1 1) ∧ (((f 1 1 ≤ x6) → (post 0 f a)) ∧ (¬ (f 1 1 ≤ x6) → ((0 ≤ x6 ∧ x6 < 24) ∧ (wp_X_codeOf (fun z11 f12 a13 => (3 ≤ o3 ∧ o3 < 7) ∧ ((0 ≤ (x4 * 6) + z11 ∧ (x4 * 6) + z11 < 384) ∧ (∀ t16 : Int, t16 = (a13 o3 4) (Int.toNat ((x4 * 6) + z11)) → (ir t16 ∧ (((t16 = 0) → (wb_X_written_85 post (wb_X_written_26 post n) x2 o3 x4 x5 x6 z11 f12 a13)) ∧ (¬ (t16 = 0) → (ir x5 ∧ (ir x2 ∧ (((¬ x5 = x2) → (wb_X_written_85 post (wb_X_written_26 post n) x2 o3 x4 (x5 + 1) x6 z11 f12 a13)) ∧ (¬ (¬ x5 = x2) → (post t16 f12 a13))))))))))) (a 1 0 (Int.toNat x6)) f a)))))
set_option maxHeartbeats 4000000 in
set_option maxRecDepth 100000 in
theorem tb_X_written_26 {p : Program} {l : Launch} {e : Env} {s : State} {m : MethodId} {args : Array Value} {below : List Frame} {meth : Method} {c : Code} {A : Nat → Prop} {D : va_G} {ad : Nat → Nat → Nat} {cA : Nat → Nat → ClassId} {post : Int → fS → aS → Prop} (hO : xOk cX_written 9 RX (Cond.code yX_written cX_written 9 (some .int) :: xG) (some .int) p s m args meth c A D vwCl (taC cA)) : ∀ (n : Nat) (x2 : Int) (o3 : Nat) (x4 : Int) (x5 : Int) (x6 : Int) (f : fS) (a : aS), wb_X_written_26 post n x2 o3 x4 x5 x6 f a → gX_written p l e s m args below meth c A D ad cA post f a [(0, .ref (ad 0 0)), (2, .int (iI x2)), (3, .ref (ad o3 0)), (4, .int (iI x4)), (5, .int (iI x5)), (6, .int (iI x6))] 26 [] := by
  have hO9 := hO
  obtain ⟨hx, hb, hml, hown, hts, hr, hlk, hK, hN, hA⟩ := hO9
  intro n
  induction n with
  | zero => intro x2 o3 x4 x5 x6 f a h; exact False.elim h
  | succ n ih =>
    intro x2 o3 x4 x5 x6 f a h
    rw [wb_X_written_26] at h
    refine x_iload hx hb dX_written_26 5 rfl ?_
    refine x_aload_n hx hb dX_written_28 rfl 0 rfl ?_
    refine x_get hx hb hts (jnX _) hown hK _ (woX ad cA f a) rfl 1 (by decide) (hts _ (List.mem_cons_of_mem _ kfX_25)) (fun _ h9 => h9) (v := .ref (ad 1 0)) (by rfl) dX_written_29 ?_
    refine x_getN hx hb hts (jnW _) hown hK _ (woW ad cA f a) rfl 1 (by decide) (va_Nw.use rfl (hN.1 _ nfX_51)) (fun _ h9 => h9) (v := .int (iI (f 1 1))) (by rfl) dX_written_32 ?_
    obtain ⟨hi8, h⟩ := h
    obtain ⟨hi9, h⟩ := h
    refine x_icmp_ge hx hb (tgt := 101) hi8 hi9 dX_written_35 (by decide) (fun hc => ?_) (fun hc => ?_)
    · have h := h.1 hc
      refine x_iconst hx hb dX_written_101 ?_
      exact x_iret hx hb hr hlk hK dX_written_102 h
    · have h := h.2 hc
      refine x_aload_n hx hb dX_written_38 rfl 0 rfl ?_
      refine x_get hx hb hts (jnX _) hown hK _ (woX ad cA f a) rfl 1 (by decide) (hts _ (List.mem_cons_of_mem _ kfX_25)) (fun _ h9 => h9) (v := .ref (ad 1 0)) (by rfl) dX_written_39 ?_
      refine x_getN hx hb hts (jnW _) hown hK _ (woW ad cA f a) rfl 0 (by decide) (va_Nw.use rfl (hN.1 _ nfX_57)) (fun _ h9 => h9) (v := .ref (ad 1 1)) (by rfl) dX_written_42 ?_
      refine x_iload hx hb dX_written_45 5 rfl ?_
      obtain ⟨hj10, h⟩ := h
      refine x_iald hx hb hK _ _ (wa0W ad cA f a) (wt0W cA) hj10.1 hj10.2 (by decide) dX_written_47 ?_
      refine x_cSi (n := 1) (st := []) (As := [.int (iI (a 1 0 (Int.toNat x6)))]) ⟨hx, hb, hml, hown, hts⟩ hK hN (m_X_codeOf h) (x_cwS hts rfl rfl kcX_codeOf knX klX_108 ksX_codeOf ⟨by decide, by decide, by decide +kernel⟩ ⟨by decide, by decide⟩) hA rfl (Nat.le_of_ble_eq_true rfl) ⟨Nat.zero_le _, Nat.zero_le _⟩ rfl dX_written_48 (fun z11 f12 a13 h => ?_)
      refine x_istore hx hb dX_written_51 (by decide) (lv' := [(7, .int (iI z11)), (0, .ref (ad 0 0)), (2, .int (iI x2)), (3, .ref (ad o3 0)), (4, .int (iI x4)), (5, .int (iI x5)), (6, .int (iI x6))]) rfl ?_
      refine x_aload_n hx hb dX_written_53 rfl 3 rfl ?_
      obtain ⟨hg14, h⟩ := h
      refine x_getN hx hb hts (jnG _) hown hK _ (woG ad cA f12 a13 o3 hg14) rfl 4 (by decide) (va_Nw.use rfl (hN.1 _ nfX_117)) (fun _ h9 => h9) (v := .ref (ad o3 5)) (by rfl) dX_written_54 ?_
      refine x_iload hx hb dX_written_57 4 rfl ?_
      refine x_bipush hx hb dX_written_59 (by decide) ?_
      refine x_imul hx hb dX_written_61 ?_
      refine x_iload hx hb dX_written_62 0 rfl ?_
      refine x_iadd hx hb dX_written_64 ?_
      obtain ⟨hj15, h⟩ := h
      refine x_iald hx hb hK _ _ (wa4G ad cA f12 a13 o3 hg14) (wt4G cA o3 hg14) hj15.1 hj15.2 (by decide) dX_written_65 ?_
      refine x_topi (fun t16 et16 => ?_)
      have h := h t16 et16
      refine x_istore hx hb dX_written_66 (by decide) (lv' := [(8, .int (iI t16)), (7, .int (iI z11)), (0, .ref (ad 0 0)), (2, .int (iI x2)), (3, .ref (ad o3 0)), (4, .int (iI x4)), (5, .int (iI x5)), (6, .int (iI x6))]) rfl ?_
      refine x_iload hx hb dX_written_68 0 rfl ?_
      obtain ⟨hi17, h⟩ := h
      refine x_if_eq hx hb (tgt := 85) hi17  dX_written_70 (by decide) (fun hc => ?_) (fun hc => ?_)
      · have h := h.1 hc
        refine x_sub [2, 3, 4, 5, 6, 7, 1] rfl ?_
        exact tb_X_written_85 hO ih x2 o3 x4 x5 x6 z11 f12 a13 h
      · have h := h.2 hc
        refine x_iload hx hb dX_written_73 6 rfl ?_
        refine x_iload_n hx hb dX_written_75 rfl 3 rfl ?_
        obtain ⟨hi18, h⟩ := h
        obtain ⟨hi19, h⟩ := h
        refine x_icmp_ne hx hb (tgt := 82) hi18 hi19 dX_written_76 (by decide) (fun hc => ?_) (fun hc => ?_)
        · have h := h.1 hc
          refine x_iinc hx hb dX_written_82 6 rfl (by decide) (lv' := [(5, .int (iI (x5 + 1))), (8, .int (iI t16)), (7, .int (iI z11)), (0, .ref (ad 0 0)), (2, .int (iI x2)), (3, .ref (ad o3 0)), (4, .int (iI x4)), (6, .int (iI x6))]) rfl ?_
          refine x_sub [3, 4, 5, 6, 0, 7, 2] rfl ?_
          exact tb_X_written_85 hO ih x2 o3 x4 (x5 + 1) x6 z11 f12 a13 h
        · have h := h.2 hc
          refine x_iload hx hb dX_written_79 0 rfl ?_
          exact x_iret hx hb hr hlk hK dX_written_81 h
def wp_X_written (post : Int → fS → aS → Prop) (x1 : Int) (x2 : Int) (f : fS) (a : aS) : Prop := wp_X_member (fun z1 f2 a3 => ir z1 ∧ (((¬ z1 = 0) → ((0 ≤ x1 ∧ x1 < 4) ∧ (∀ o7 : Nat, o7 = 3 + Int.toNat x1 → (∃ j, wb_X_written_26 post j x2 o7 0 0 0 f2 a3)))) ∧ (¬ (¬ z1 = 0) → (post 0 f2 a3)))) x1 f a
set_option maxHeartbeats 4000000 in
set_option maxRecDepth 100000 in
theorem m_X_written {l : Launch} {D : va_G} {ad : Nat → Nat → Nat} {cA : Nat → Nat → ClassId} {post : Int → fS → aS → Prop} {x1 : Int} {x2 : Int} {f : fS} {a : aS} (h : wp_X_written post x1 x2 f a) : xCI l yX_written (Cond.code yX_written cX_written 9 (some .int) :: xG) rmX_written D vwCl (taC cA) (CW ad cA f a) [.ref (ad 0 0), .int (iI x1), .int (iI x2)] (CW ad cA) post := by
  refine x_metI (cc := cX_written) (nL := 9) (by decide) rfl (Nat.le_of_ble_eq_true rfl) ?_
  intro p e s m below meth c A hO
  have hO9 := hO
  obtain ⟨hx, hb, hml, hown, hts, hr, hlk, hK, hN, hA⟩ := hO9
  unfold wp_X_written at h
  show gX_written p l e s m _ below meth c A D ad cA post f a [(0, .ref (ad 0 0)), (1, .int (iI x1)), (2, .int (iI x2))] 0 []
  refine x_aload_n hx hb dX_written_0 rfl 0 rfl ?_
  refine x_iload_n hx hb dX_written_1 rfl 1 rfl ?_
  refine x_cVi (n := 1) (st := []) (As := [.int (iI x1)]) ⟨hx, hb, hml, hown, hts⟩ hK hN (m_X_member h) (x_cwV hts rfl rfl kcX_member knX klX_114 kiX_member keX_member ⟨by decide, by decide, by decide +kernel⟩ ⟨by decide, by decide⟩) _ (woX ad cA f a) rfl hA rfl (Nat.le_of_ble_eq_true rfl) ⟨Nat.zero_le _, Nat.zero_le _⟩ rfl dX_written_2 (fun z1 f2 a3 h => ?_)
  obtain ⟨hi4, h⟩ := h
  refine x_if_ne hx hb (tgt := 10) hi4  dX_written_5 (by decide) (fun hc => ?_) (fun hc => ?_)
  · have h := h.1 hc
    refine x_aload_n hx hb dX_written_10 rfl 0 rfl ?_
    refine x_get hx hb hts (jnX _) hown hK _ (woX ad cA f2 a3) rfl 2 (by decide) (hts _ (List.mem_cons_of_mem _ kfX_31)) (fun _ h9 => h9) (v := .ref (ad 0 3)) (by rfl) dX_written_11 ?_
    refine x_iload_n hx hb dX_written_14 rfl 1 rfl ?_
    obtain ⟨hj5, h⟩ := h
    refine x_aald hx hb hK _ _ (wa2X ad cA f2 a3) (wt2X cA) hj5.1 hj5.2 (by decide) (if_pos (by omega)) dX_written_15 ?_
    have hg6 : 3 ≤ 3 + Int.toNat x1 ∧ 3 + Int.toNat x1 < 7 := by omega
    refine x_topo (fun o7 eo7 => ?_)
    have h := h o7 eo7
    have hgo7 := eo7 ▸ hg6
    refine x_astore_n hx hb dX_written_16 rfl (by decide) (lv' := [(3, .ref (ad o7 0)), (0, .ref (ad 0 0)), (1, .int (iI x1)), (2, .int (iI x2))]) rfl ?_
    refine x_iconst hx hb dX_written_17 ?_
    refine x_istore hx hb dX_written_18 (by decide) (lv' := [(4, .int (iI 0)), (3, .ref (ad o7 0)), (0, .ref (ad 0 0)), (1, .int (iI x1)), (2, .int (iI x2))]) rfl ?_
    refine x_iconst hx hb dX_written_20 ?_
    refine x_istore hx hb dX_written_21 (by decide) (lv' := [(5, .int (iI 0)), (4, .int (iI 0)), (3, .ref (ad o7 0)), (0, .ref (ad 0 0)), (1, .int (iI x1)), (2, .int (iI x2))]) rfl ?_
    refine x_iconst hx hb dX_written_23 ?_
    refine x_istore hx hb dX_written_24 (by decide) (lv' := [(6, .int (iI 0)), (5, .int (iI 0)), (4, .int (iI 0)), (3, .ref (ad o7 0)), (0, .ref (ad 0 0)), (1, .int (iI x1)), (2, .int (iI x2))]) rfl ?_
    obtain ⟨j, h⟩ := h
    refine x_sub [4, 6, 3, 2, 1, 0] rfl ?_
    exact tb_X_written_26 hO j x2 o7 0 0 0 f2 a3 h
  · have h := h.2 hc
    refine x_iconst hx hb dX_written_8 ?_
    exact x_iret hx hb hr hlk hK dX_written_9 h
-- X_basis
abbrev rmX_basis : Room := { frames := 2, cells := 0, slots := 0, locals := 48 }
abbrev gX_basis (p : Program) (l : Launch) (e : Env) (s : State) (m : MethodId) (args : Array Value) (below : List Frame) (meth : Method) (c : Code) (A : Nat → Prop) (D : va_G) (ad : Nat → Nat → Nat) (cA : Nat → Nat → ClassId) (post : Int → fS → aS → Prop) (f : fS) (a : aS) (lv : List (Nat × Value)) (pc : Nat) (st : List Value) : Prop := xV p l e rmX_basis s m args below meth c s.heap A 0 0 (xQI below D vwCl (taC cA) (CW ad cA) post A args s) D vwCl 4 (CW ad cA f a) lv pc st
def wb_X_basis_14 (post : Int → fS → aS → Prop) (f : fS) (a : aS) : Prop := post 0 f a
set_option maxHeartbeats 4000000 in
set_option maxRecDepth 100000 in
theorem tb_X_basis_14 {p : Program} {l : Launch} {e : Env} {s : State} {m : MethodId} {args : Array Value} {below : List Frame} {meth : Method} {c : Code} {A : Nat → Prop} {D : va_G} {ad : Nat → Nat → Nat} {cA : Nat → Nat → ClassId} {post : Int → fS → aS → Prop} (hO : xOk cX_basis 4 RX (Cond.code yX_basis cX_basis 4 (some .int) :: xG) (some .int) p s m args meth c A D vwCl (taC cA)) : ∀ (f : fS) (a : aS), wb_X_basis_14 post f a → gX_basis p l e s m args below meth c A D ad cA post f a [] 14 [] := by
  have hO9 := hO
  obtain ⟨hx, hb, hml, hown, hts, hr, hlk, hK, hN, hA⟩ := hO9
  intro f a h
  unfold wb_X_basis_14 at h
  refine x_iconst hx hb dX_basis_14 ?_
  exact x_iret hx hb hr hlk hK dX_basis_15 h
def wp_X_basis (post : Int → fS → aS → Prop) (x1 : Int) (x2 : Int) (x3 : Int) (f : fS) (a : aS) : Prop := ir x3 ∧ (((x3 < 0) → (wb_X_basis_14 post f a)) ∧ (¬ (x3 < 0) → (wp_X_length (fun z2 f3 a4 => ir z2 ∧ (((x3 < z2) → ((0 ≤ x1 ∧ x1 < 4) ∧ (wp_G_slotOfElement (fun z8 f9 a10 => wp_G_elementLetter (fun z11 f12 a13 => post z11 f12 a13) (3 + Int.toNat x1) z8 x3 f9 a10) (3 + Int.toNat x1) x2 f3 a4))) ∧ (¬ (x3 < z2) → (wb_X_basis_14 post f3 a4)))) x1 x2 f a)))
set_option maxHeartbeats 4000000 in
set_option maxRecDepth 100000 in
theorem m_X_basis {l : Launch} {D : va_G} {ad : Nat → Nat → Nat} {cA : Nat → Nat → ClassId} {post : Int → fS → aS → Prop} {x1 : Int} {x2 : Int} {x3 : Int} {f : fS} {a : aS} (h : wp_X_basis post x1 x2 x3 f a) : xCI l yX_basis (Cond.code yX_basis cX_basis 4 (some .int) :: xG) rmX_basis D vwCl (taC cA) (CW ad cA f a) [.ref (ad 0 0), .int (iI x1), .int (iI x2), .int (iI x3)] (CW ad cA) post := by
  refine x_metI (cc := cX_basis) (nL := 4) (by decide) rfl (Nat.le_of_ble_eq_true rfl) ?_
  intro p e s m below meth c A hO
  have hO9 := hO
  obtain ⟨hx, hb, hml, hown, hts, hr, hlk, hK, hN, hA⟩ := hO9
  unfold wp_X_basis at h
  show gX_basis p l e s m _ below meth c A D ad cA post f a [(0, .ref (ad 0 0)), (1, .int (iI x1)), (2, .int (iI x2)), (3, .int (iI x3))] 0 []
  refine x_iload_n hx hb dX_basis_0 rfl 3 rfl ?_
  obtain ⟨hi1, h⟩ := h
  refine x_if_lt hx hb (tgt := 14) hi1  dX_basis_1 (by decide) (fun hc => ?_) (fun hc => ?_)
  · have h := h.1 hc
    refine x_sub [] rfl ?_
    exact tb_X_basis_14 hO f a h
  · have h := h.2 hc
    refine x_iload_n hx hb dX_basis_4 rfl 3 rfl ?_
    refine x_aload_n hx hb dX_basis_5 rfl 0 rfl ?_
    refine x_iload_n hx hb dX_basis_6 rfl 1 rfl ?_
    refine x_iload_n hx hb dX_basis_7 rfl 2 rfl ?_
    refine x_cVi (n := 2) (st := [.int (iI x3)]) (As := [.int (iI x1), .int (iI x2)]) ⟨hx, hb, hml, hown, hts⟩ hK hN (m_X_length h) (x_cwV hts rfl rfl kcX_length knX klX_61 kiX_length keX_length ⟨by decide, by decide, by decide +kernel⟩ ⟨by decide, by decide⟩) _ (woX ad cA f a) rfl hA rfl (Nat.le_of_ble_eq_true rfl) ⟨Nat.zero_le _, Nat.zero_le _⟩ rfl dX_basis_8 (fun z2 f3 a4 h => ?_)
    obtain ⟨hi5, h⟩ := h
    refine x_icmp_lt hx hb (tgt := 16) hi1 hi5 dX_basis_11 (by decide) (fun hc => ?_) (fun hc => ?_)
    · have h := h.1 hc
      refine x_aload_n hx hb dX_basis_16 rfl 0 rfl ?_
      refine x_get hx hb hts (jnX _) hown hK _ (woX ad cA f3 a4) rfl 2 (by decide) (hts _ (List.mem_cons_of_mem _ kfX_31)) (fun _ h9 => h9) (v := .ref (ad 0 3)) (by rfl) dX_basis_17 ?_
      refine x_iload_n hx hb dX_basis_20 rfl 1 rfl ?_
      obtain ⟨hj6, h⟩ := h
      refine x_aald hx hb hK _ _ (wa2X ad cA f3 a4) (wt2X cA) hj6.1 hj6.2 (by decide) (if_pos (by omega)) dX_basis_21 ?_
      have hg7 : 3 ≤ 3 + Int.toNat x1 ∧ 3 + Int.toNat x1 < 7 := by omega
      refine x_aload_n hx hb dX_basis_22 rfl 0 rfl ?_
      refine x_get hx hb hts (jnX _) hown hK _ (woX ad cA f3 a4) rfl 2 (by decide) (hts _ (List.mem_cons_of_mem _ kfX_31)) (fun _ h9 => h9) (v := .ref (ad 0 3)) (by rfl) dX_basis_23 ?_
      refine x_iload_n hx hb dX_basis_26 rfl 1 rfl ?_
      refine x_aald hx hb hK _ _ (wa2X ad cA f3 a4) (wt2X cA) hj6.1 hj6.2 (by decide) (if_pos (by omega)) dX_basis_27 ?_
      refine x_iload_n hx hb dX_basis_28 rfl 2 rfl ?_
      refine x_cVNi (n := 1) (st := [.ref (ad (3 + Int.toNat x1) 0)]) (As := [.int (iI x2)]) ⟨hx, hb, hml, hown, hts⟩ hK hN (m_G_slotOfElement h) (x_cwVN hts rfl rfl kcG_slotOfElement knG hN nlX_64 kiG_slotOfElement keG_slotOfElement ⟨by decide, by decide, by decide +kernel⟩ ⟨by decide, by decide⟩) _ (woG ad cA f3 a4 (3 + Int.toNat x1) hg7) rfl hA rfl (Nat.le_of_ble_eq_true rfl) ⟨Nat.zero_le _, Nat.zero_le _⟩ rfl dX_basis_29 (fun z8 f9 a10 h => ?_)
      refine x_iload_n hx hb dX_basis_32 rfl 3 rfl ?_
      refine x_cVNi (n := 2) (st := []) (As := [.int (iI z8), .int (iI x3)]) ⟨hx, hb, hml, hown, hts⟩ hK hN (m_G_elementLetter h) (x_cwVN hts rfl rfl kcG_elementLetter knG hN nlX_67 kiG_elementLetter keG_elementLetter ⟨by decide, by decide, by decide +kernel⟩ ⟨by decide, by decide⟩) _ (woG ad cA f9 a10 (3 + Int.toNat x1) hg7) rfl hA rfl (Nat.le_of_ble_eq_true rfl) ⟨Nat.zero_le _, Nat.zero_le _⟩ rfl dX_basis_33 (fun z11 f12 a13 h => ?_)
      exact x_iret hx hb hr hlk hK dX_basis_36 h
    · have h := h.2 hc
      refine x_sub [] rfl ?_
      exact tb_X_basis_14 hO f3 a4 h
-- X_target
abbrev rmX_target : Room := { frames := 1, cells := 0, slots := 0, locals := 22 }
abbrev gX_target (p : Program) (l : Launch) (e : Env) (s : State) (m : MethodId) (args : Array Value) (below : List Frame) (meth : Method) (c : Code) (A : Nat → Prop) (D : va_G) (ad : Nat → Nat → Nat) (cA : Nat → Nat → ClassId) (post : Int → fS → aS → Prop) (f : fS) (a : aS) (lv : List (Nat × Value)) (pc : Nat) (st : List Value) : Prop := xV p l e rmX_target s m args below meth c s.heap A 0 0 (xQI below D vwCl (taC cA) (CW ad cA) post A args s) D vwCl 4 (CW ad cA f a) lv pc st
def wb_X_target_33 (post : Int → fS → aS → Prop) (f : fS) (a : aS) : Prop := post (-1) f a
set_option maxHeartbeats 4000000 in
set_option maxRecDepth 100000 in
theorem tb_X_target_33 {p : Program} {l : Launch} {e : Env} {s : State} {m : MethodId} {args : Array Value} {below : List Frame} {meth : Method} {c : Code} {A : Nat → Prop} {D : va_G} {ad : Nat → Nat → Nat} {cA : Nat → Nat → ClassId} {post : Int → fS → aS → Prop} (hO : xOk cX_target 4 RX (Cond.code yX_target cX_target 4 (some .int) :: xG) (some .int) p s m args meth c A D vwCl (taC cA)) : ∀ (f : fS) (a : aS), wb_X_target_33 post f a → gX_target p l e s m args below meth c A D ad cA post f a [] 33 [] := by
  have hO9 := hO
  obtain ⟨hx, hb, hml, hown, hts, hr, hlk, hK, hN, hA⟩ := hO9
  intro f a h
  unfold wb_X_target_33 at h
  refine x_iconst hx hb dX_target_33 ?_
  exact x_iret hx hb hr hlk hK dX_target_34 h
def wp_X_target (post : Int → fS → aS → Prop) (x1 : Int) (x2 : Int) (x3 : Int) (f : fS) (a : aS) : Prop := wp_X_isSubgroup (fun z1 f2 a3 => ir z1 ∧ (((z1 = 0) → (wb_X_target_33 post f2 a3)) ∧ (¬ (z1 = 0) → (wp_X_isLetter (fun z5 f6 a7 => ir z5 ∧ (((z5 = 0) → (wb_X_target_33 post f6 a7)) ∧ (¬ (z5 = 0) → (ir x2 ∧ (((x2 < 0) → (wb_X_target_33 post f6 a7)) ∧ (¬ (x2 < 0) → ((0 ≤ x1 ∧ x1 < 4) ∧ (ir (f6 (3 + Int.toNat x1) 0) ∧ (((x2 < f6 (3 + Int.toNat x1) 0) → (wp_X_codeOf (fun z13 f14 a15 => wp_G_way (fun z16 f17 a18 => post z16 f17 a18) (3 + Int.toNat x1) x2 z13 f14 a15) x3 f6 a7)) ∧ (¬ (x2 < f6 (3 + Int.toNat x1) 0) → (wb_X_target_33 post f6 a7))))))))))) x3 f2 a3)))) x1 f a
set_option maxHeartbeats 4000000 in
set_option maxRecDepth 100000 in
theorem m_X_target {l : Launch} {D : va_G} {ad : Nat → Nat → Nat} {cA : Nat → Nat → ClassId} {post : Int → fS → aS → Prop} {x1 : Int} {x2 : Int} {x3 : Int} {f : fS} {a : aS} (h : wp_X_target post x1 x2 x3 f a) : xCI l yX_target (Cond.code yX_target cX_target 4 (some .int) :: xG) rmX_target D vwCl (taC cA) (CW ad cA f a) [.ref (ad 0 0), .int (iI x1), .int (iI x2), .int (iI x3)] (CW ad cA) post := by
  refine x_metI (cc := cX_target) (nL := 4) (by decide) rfl (Nat.le_of_ble_eq_true rfl) ?_
  intro p e s m below meth c A hO
  have hO9 := hO
  obtain ⟨hx, hb, hml, hown, hts, hr, hlk, hK, hN, hA⟩ := hO9
  unfold wp_X_target at h
  show gX_target p l e s m _ below meth c A D ad cA post f a [(0, .ref (ad 0 0)), (1, .int (iI x1)), (2, .int (iI x2)), (3, .int (iI x3))] 0 []
  refine x_aload_n hx hb dX_target_0 rfl 0 rfl ?_
  refine x_iload_n hx hb dX_target_1 rfl 1 rfl ?_
  refine x_cVi (n := 1) (st := []) (As := [.int (iI x1)]) ⟨hx, hb, hml, hown, hts⟩ hK hN (m_X_isSubgroup h) (x_cwV hts rfl rfl kcX_isSubgroup knX klX_70 kiX_isSubgroup keX_isSubgroup ⟨by decide, by decide, by decide +kernel⟩ ⟨by decide, by decide⟩) _ (woX ad cA f a) rfl hA rfl (Nat.le_of_ble_eq_true rfl) ⟨Nat.zero_le _, Nat.zero_le _⟩ rfl dX_target_2 (fun z1 f2 a3 h => ?_)
  obtain ⟨hi4, h⟩ := h
  refine x_if_eq hx hb (tgt := 33) hi4  dX_target_5 (by decide) (fun hc => ?_) (fun hc => ?_)
  · have h := h.1 hc
    refine x_sub [] rfl ?_
    exact tb_X_target_33 hO f2 a3 h
  · have h := h.2 hc
    refine x_aload_n hx hb dX_target_8 rfl 0 rfl ?_
    refine x_iload_n hx hb dX_target_9 rfl 3 rfl ?_
    refine x_cVi (n := 1) (st := []) (As := [.int (iI x3)]) ⟨hx, hb, hml, hown, hts⟩ hK hN (m_X_isLetter h) (x_cwV hts rfl rfl kcX_isLetter knX klX_43 kiX_isLetter keX_isLetter ⟨by decide, by decide, by decide +kernel⟩ ⟨by decide, by decide⟩) _ (woX ad cA f2 a3) rfl hA rfl (Nat.le_of_ble_eq_true rfl) ⟨Nat.zero_le _, Nat.zero_le _⟩ rfl dX_target_10 (fun z5 f6 a7 h => ?_)
    obtain ⟨hi8, h⟩ := h
    refine x_if_eq hx hb (tgt := 33) hi8  dX_target_13 (by decide) (fun hc => ?_) (fun hc => ?_)
    · have h := h.1 hc
      refine x_sub [] rfl ?_
      exact tb_X_target_33 hO f6 a7 h
    · have h := h.2 hc
      refine x_iload_n hx hb dX_target_16 rfl 2 rfl ?_
      obtain ⟨hi9, h⟩ := h
      refine x_if_lt hx hb (tgt := 33) hi9  dX_target_17 (by decide) (fun hc => ?_) (fun hc => ?_)
      · have h := h.1 hc
        refine x_sub [] rfl ?_
        exact tb_X_target_33 hO f6 a7 h
      · have h := h.2 hc
        refine x_iload_n hx hb dX_target_20 rfl 2 rfl ?_
        refine x_aload_n hx hb dX_target_21 rfl 0 rfl ?_
        refine x_get hx hb hts (jnX _) hown hK _ (woX ad cA f6 a7) rfl 2 (by decide) (hts _ (List.mem_cons_of_mem _ kfX_31)) (fun _ h9 => h9) (v := .ref (ad 0 3)) (by rfl) dX_target_22 ?_
        refine x_iload_n hx hb dX_target_25 rfl 1 rfl ?_
        obtain ⟨hj10, h⟩ := h
        refine x_aald hx hb hK _ _ (wa2X ad cA f6 a7) (wt2X cA) hj10.1 hj10.2 (by decide) (if_pos (by omega)) dX_target_26 ?_
        have hg11 : 3 ≤ 3 + Int.toNat x1 ∧ 3 + Int.toNat x1 < 7 := by omega
        refine x_getN hx hb hts (jnG _) hown hK _ (woG ad cA f6 a7 (3 + Int.toNat x1) hg11) rfl 0 (by decide) (va_Nw.use rfl (hN.1 _ nfX_73)) (fun _ h9 => h9) (v := .int (iI (f6 (3 + Int.toNat x1) 0))) (by rfl) dX_target_27 ?_
        obtain ⟨hi12, h⟩ := h
        refine x_icmp_lt hx hb (tgt := 35) hi9 hi12 dX_target_30 (by decide) (fun hc => ?_) (fun hc => ?_)
        · have h := h.1 hc
          refine x_aload_n hx hb dX_target_35 rfl 0 rfl ?_
          refine x_get hx hb hts (jnX _) hown hK _ (woX ad cA f6 a7) rfl 2 (by decide) (hts _ (List.mem_cons_of_mem _ kfX_31)) (fun _ h9 => h9) (v := .ref (ad 0 3)) (by rfl) dX_target_36 ?_
          refine x_iload_n hx hb dX_target_39 rfl 1 rfl ?_
          refine x_aald hx hb hK _ _ (wa2X ad cA f6 a7) (wt2X cA) hj10.1 hj10.2 (by decide) (if_pos (by omega)) dX_target_40 ?_
          refine x_iload_n hx hb dX_target_41 rfl 2 rfl ?_
          refine x_iload_n hx hb dX_target_42 rfl 3 rfl ?_
          refine x_cSi (n := 1) (st := [.int (iI x2), .ref (ad (3 + Int.toNat x1) 0)]) (As := [.int (iI x3)]) ⟨hx, hb, hml, hown, hts⟩ hK hN (m_X_codeOf h) (x_cwS hts rfl rfl kcX_codeOf knX klX_108 ksX_codeOf ⟨by decide, by decide, by decide +kernel⟩ ⟨by decide, by decide⟩) hA rfl (Nat.le_of_ble_eq_true rfl) ⟨Nat.zero_le _, Nat.zero_le _⟩ rfl dX_target_43 (fun z13 f14 a15 h => ?_)
          refine x_cVNi (n := 2) (st := []) (As := [.int (iI x2), .int (iI z13)]) ⟨hx, hb, hml, hown, hts⟩ hK hN (m_G_way h) (x_cwVN hts rfl rfl kcG_way knG hN nlX_111 kiG_way keG_way ⟨by decide, by decide, by decide +kernel⟩ ⟨by decide, by decide⟩) _ (woG ad cA f14 a15 (3 + Int.toNat x1) hg11) rfl hA rfl (Nat.le_of_ble_eq_true rfl) ⟨Nat.zero_le _, Nat.zero_le _⟩ rfl dX_target_46 (fun z16 f17 a18 h => ?_)
          exact x_iret hx hb hr hlk hK dX_target_49 h
        · have h := h.2 hc
          refine x_sub [] rfl ?_
          exact tb_X_target_33 hO f6 a7 h
-- X_isComplete
abbrev rmX_isComplete : Room := { frames := 0, cells := 0, slots := 0, locals := 0 }
abbrev gX_isComplete (p : Program) (l : Launch) (e : Env) (s : State) (m : MethodId) (args : Array Value) (below : List Frame) (meth : Method) (c : Code) (A : Nat → Prop) (D : va_G) (ad : Nat → Nat → Nat) (cA : Nat → Nat → ClassId) (post : Int → fS → aS → Prop) (f : fS) (a : aS) (lv : List (Nat × Value)) (pc : Nat) (st : List Value) : Prop := xV p l e rmX_isComplete s m args below meth c s.heap A 0 0 (xQI below D vwCl (taC cA) (CW ad cA) post A args s) D vwCl 2 (CW ad cA f a) lv pc st
def wb_X_isComplete_21 (post : Int → fS → aS → Prop) (y0 : Int) (f : fS) (a : aS) : Prop := (y0 = 0 ∨ y0 = 1) ∧ post y0 f a
set_option maxHeartbeats 4000000 in
set_option maxRecDepth 100000 in
theorem tb_X_isComplete_21 {p : Program} {l : Launch} {e : Env} {s : State} {m : MethodId} {args : Array Value} {below : List Frame} {meth : Method} {c : Code} {A : Nat → Prop} {D : va_G} {ad : Nat → Nat → Nat} {cA : Nat → Nat → ClassId} {post : Int → fS → aS → Prop} (hO : xOk cX_isComplete 2 RX (Cond.code yX_isComplete cX_isComplete 2 (some .boolean) :: xG) (some .boolean) p s m args meth c A D vwCl (taC cA)) : ∀ (y0 : Int) (f : fS) (a : aS), wb_X_isComplete_21 post y0 f a → gX_isComplete p l e s m args below meth c A D ad cA post f a [] 21 [.int (iI y0)] := by
  have hO9 := hO
  obtain ⟨hx, hb, hml, hown, hts, hr, hlk, hK, hN, hA⟩ := hO9
  intro y0 f a h
  unfold wb_X_isComplete_21 at h
  exact x_zret hx hb hr hlk hK dX_isComplete_21 h.1 h.2
def wp_X_isComplete (post : Int → fS → aS → Prop) (o1 : Nat) (f : fS) (a : aS) : Prop := (3 ≤ o1 ∧ o1 < 7) ∧ (ir (f o1 1) ∧ (ir ((f o1 0) * (f 0 0)) ∧ (((¬ f o1 1 = (f o1 0) * (f 0 0)) → (wb_X_isComplete_21 post 0 f a)) ∧ (¬ (¬ f o1 1 = (f o1 0) * (f 0 0)) → (wb_X_isComplete_21 post 1 f a)))))
set_option maxHeartbeats 4000000 in
set_option maxRecDepth 100000 in
theorem m_X_isComplete {l : Launch} {D : va_G} {ad : Nat → Nat → Nat} {cA : Nat → Nat → ClassId} {post : Int → fS → aS → Prop} {o1 : Nat} {f : fS} {a : aS} (h : wp_X_isComplete post o1 f a) : xCI l yX_isComplete (Cond.code yX_isComplete cX_isComplete 2 (some .boolean) :: xG) rmX_isComplete D vwCl (taC cA) (CW ad cA f a) [.ref (ad 0 0), .ref (ad o1 0)] (CW ad cA) post := by
  refine x_metI (cc := cX_isComplete) (nL := 2) (by decide) rfl (Nat.le_of_ble_eq_true rfl) ?_
  intro p e s m below meth c A hO
  have hO9 := hO
  obtain ⟨hx, hb, hml, hown, hts, hr, hlk, hK, hN, hA⟩ := hO9
  unfold wp_X_isComplete at h
  show gX_isComplete p l e s m _ below meth c A D ad cA post f a [(0, .ref (ad 0 0)), (1, .ref (ad o1 0))] 0 []
  refine x_aload_n hx hb dX_isComplete_0 rfl 1 rfl ?_
  obtain ⟨hg1, h⟩ := h
  refine x_getN hx hb hts (jnG _) hown hK _ (woG ad cA f a o1 hg1) rfl 1 (by decide) (va_Nw.use rfl (hN.1 _ nfX_123)) (fun _ h9 => h9) (v := .int (iI (f o1 1))) (by rfl) dX_isComplete_1 ?_
  refine x_aload_n hx hb dX_isComplete_4 rfl 1 rfl ?_
  refine x_getN hx hb hts (jnG _) hown hK _ (woG ad cA f a o1 hg1) rfl 0 (by decide) (va_Nw.use rfl (hN.1 _ nfX_73)) (fun _ h9 => h9) (v := .int (iI (f o1 0))) (by rfl) dX_isComplete_5 ?_
  refine x_aload_n hx hb dX_isComplete_8 rfl 0 rfl ?_
  refine x_get hx hb hts (jnX _) hown hK _ (woX ad cA f a) rfl 0 (by decide) (hts _ (List.mem_cons_of_mem _ kfX_18)) (fun _ h9 => h9) (v := .int (iI (f 0 0))) (by rfl) dX_isComplete_9 ?_
  refine x_imul hx hb dX_isComplete_12 ?_
  obtain ⟨hi2, h⟩ := h
  obtain ⟨hi3, h⟩ := h
  refine x_icmp_ne hx hb (tgt := 20) hi2 hi3 dX_isComplete_13 (by decide) (fun hc => ?_) (fun hc => ?_)
  · have h := h.1 hc
    refine x_iconst hx hb dX_isComplete_20 ?_
    refine x_sub [] rfl ?_
    exact tb_X_isComplete_21 hO 0 f a h
  · have h := h.2 hc
    refine x_iconst hx hb dX_isComplete_16 ?_
    refine x_goto hx hb (tgt := 21) dX_isComplete_17 (by decide) ?_
    refine x_sub [] rfl ?_
    exact tb_X_isComplete_21 hO 1 f a h
-- X_figure
abbrev rmX_figure : Room := { frames := 1, cells := 0, slots := 0, locals := 21 }
abbrev gX_figure (p : Program) (l : Launch) (e : Env) (s : State) (m : MethodId) (args : Array Value) (below : List Frame) (meth : Method) (c : Code) (A : Nat → Prop) (D : va_G) (ad : Nat → Nat → Nat) (cA : Nat → Nat → ClassId) (post : Int → fS → aS → Prop) (f : fS) (a : aS) (lv : List (Nat × Value)) (pc : Nat) (st : List Value) : Prop := xV p l e rmX_figure s m args below meth c s.heap A 0 0 (xQI below D vwCl (taC cA) (CW ad cA) post A args s) D vwCl 4 (CW ad cA f a) lv pc st
def wb_X_figure_79 (post : Int → fS → aS → Prop) (y0 : Int) (f : fS) (a : aS) : Prop := post y0 f a
set_option maxHeartbeats 4000000 in
set_option maxRecDepth 100000 in
theorem tb_X_figure_79 {p : Program} {l : Launch} {e : Env} {s : State} {m : MethodId} {args : Array Value} {below : List Frame} {meth : Method} {c : Code} {A : Nat → Prop} {D : va_G} {ad : Nat → Nat → Nat} {cA : Nat → Nat → ClassId} {post : Int → fS → aS → Prop} (hO : xOk cX_figure 4 RX (Cond.code yX_figure cX_figure 4 (some .int) :: xG) (some .int) p s m args meth c A D vwCl (taC cA)) : ∀ (y0 : Int) (f : fS) (a : aS), wb_X_figure_79 post y0 f a → gX_figure p l e s m args below meth c A D ad cA post f a [] 79 [.int (iI y0)] := by
  have hO9 := hO
  obtain ⟨hx, hb, hml, hown, hts, hr, hlk, hK, hN, hA⟩ := hO9
  intro y0 f a h
  unfold wb_X_figure_79 at h
  exact x_iret hx hb hr hlk hK dX_figure_79 h
def wp_X_figure (post : Int → fS → aS → Prop) (x1 : Int) (x2 : Int) (f : fS) (a : aS) : Prop := wp_X_isSubgroup (fun z1 f2 a3 => ir z1 ∧ (((¬ z1 = 0) → ((0 ≤ x1 ∧ x1 < 4) ∧ (∀ o7 : Nat, o7 = 3 + Int.toNat x1 → (ir x2 ∧ ((x2 = 0 → (post (f2 o7 0) f2 a3)) ∧ (x2 = 1 → (post (f2 o7 1) f2 a3)) ∧ (x2 = 2 → (post (f2 o7 2) f2 a3)) ∧ (x2 = 3 → (wp_X_isComplete (fun z9 f10 a11 => ir z9 ∧ (((z9 = 0) → (wb_X_figure_79 post 0 f10 a11)) ∧ (¬ (z9 = 0) → (wb_X_figure_79 post (f10 o7 0) f10 a11)))) o7 f2 a3)) ∧ ((x2 < 0 ∨ 3 < x2) → (post (-1) f2 a3))))))) ∧ (¬ (¬ z1 = 0) → (post (-1) f2 a3)))) x1 f a
set_option maxHeartbeats 4000000 in
set_option maxRecDepth 100000 in
theorem m_X_figure {l : Launch} {D : va_G} {ad : Nat → Nat → Nat} {cA : Nat → Nat → ClassId} {post : Int → fS → aS → Prop} {x1 : Int} {x2 : Int} {f : fS} {a : aS} (h : wp_X_figure post x1 x2 f a) : xCI l yX_figure (Cond.code yX_figure cX_figure 4 (some .int) :: xG) rmX_figure D vwCl (taC cA) (CW ad cA f a) [.ref (ad 0 0), .int (iI x1), .int (iI x2)] (CW ad cA) post := by
  refine x_metI (cc := cX_figure) (nL := 4) (by decide) rfl (Nat.le_of_ble_eq_true rfl) ?_
  intro p e s m below meth c A hO
  have hO9 := hO
  obtain ⟨hx, hb, hml, hown, hts, hr, hlk, hK, hN, hA⟩ := hO9
  unfold wp_X_figure at h
  show gX_figure p l e s m _ below meth c A D ad cA post f a [(0, .ref (ad 0 0)), (1, .int (iI x1)), (2, .int (iI x2))] 0 []
  refine x_aload_n hx hb dX_figure_0 rfl 0 rfl ?_
  refine x_iload_n hx hb dX_figure_1 rfl 1 rfl ?_
  refine x_cVi (n := 1) (st := []) (As := [.int (iI x1)]) ⟨hx, hb, hml, hown, hts⟩ hK hN (m_X_isSubgroup h) (x_cwV hts rfl rfl kcX_isSubgroup knX klX_70 kiX_isSubgroup keX_isSubgroup ⟨by decide, by decide, by decide +kernel⟩ ⟨by decide, by decide⟩) _ (woX ad cA f a) rfl hA rfl (Nat.le_of_ble_eq_true rfl) ⟨Nat.zero_le _, Nat.zero_le _⟩ rfl dX_figure_2 (fun z1 f2 a3 h => ?_)
  obtain ⟨hi4, h⟩ := h
  refine x_if_ne hx hb (tgt := 10) hi4  dX_figure_5 (by decide) (fun hc => ?_) (fun hc => ?_)
  · have h := h.1 hc
    refine x_aload_n hx hb dX_figure_10 rfl 0 rfl ?_
    refine x_get hx hb hts (jnX _) hown hK _ (woX ad cA f2 a3) rfl 2 (by decide) (hts _ (List.mem_cons_of_mem _ kfX_31)) (fun _ h9 => h9) (v := .ref (ad 0 3)) (by rfl) dX_figure_11 ?_
    refine x_iload_n hx hb dX_figure_14 rfl 1 rfl ?_
    obtain ⟨hj5, h⟩ := h
    refine x_aald hx hb hK _ _ (wa2X ad cA f2 a3) (wt2X cA) hj5.1 hj5.2 (by decide) (if_pos (by omega)) dX_figure_15 ?_
    have hg6 : 3 ≤ 3 + Int.toNat x1 ∧ 3 + Int.toNat x1 < 7 := by omega
    refine x_topo (fun o7 eo7 => ?_)
    have h := h o7 eo7
    have hgo7 := eo7 ▸ hg6
    refine x_astore_n hx hb dX_figure_16 rfl (by decide) (lv' := [(3, .ref (ad o7 0)), (0, .ref (ad 0 0)), (1, .int (iI x1)), (2, .int (iI x2))]) rfl ?_
    refine x_iload_n hx hb dX_figure_17 rfl 3 rfl ?_
    obtain ⟨hi8, h⟩ := h
    by_cases hq0 : x2 = 0
    · have h := h.1 hq0
      refine x_tsIn hx hb 0 (tgt := 48) hi8 dX_figure_18 hq0 (by decide) (by decide) rfl (by decide) ?_
      refine x_aload_n hx hb dX_figure_48 rfl 0 rfl ?_
      refine x_getN hx hb hts (jnG _) hown hK _ (woG ad cA f2 a3 o7 hgo7) rfl 0 (by decide) (va_Nw.use rfl (hN.1 _ nfX_73)) (fun _ h9 => h9) (v := .int (iI (f2 o7 0))) (by rfl) dX_figure_49 ?_
      exact x_iret hx hb hr hlk hK dX_figure_52 h
    by_cases hq1 : x2 = 1
    · have h := h.2.1 hq1
      refine x_tsIn hx hb 1 (tgt := 53) hi8 dX_figure_18 hq1 (by decide) (by decide) rfl (by decide) ?_
      refine x_aload_n hx hb dX_figure_53 rfl 0 rfl ?_
      refine x_getN hx hb hts (jnG _) hown hK _ (woG ad cA f2 a3 o7 hgo7) rfl 1 (by decide) (va_Nw.use rfl (hN.1 _ nfX_123)) (fun _ h9 => h9) (v := .int (iI (f2 o7 1))) (by rfl) dX_figure_54 ?_
      exact x_iret hx hb hr hlk hK dX_figure_57 h
    by_cases hq2 : x2 = 2
    · have h := h.2.2.1 hq2
      refine x_tsIn hx hb 2 (tgt := 58) hi8 dX_figure_18 hq2 (by decide) (by decide) rfl (by decide) ?_
      refine x_aload_n hx hb dX_figure_58 rfl 0 rfl ?_
      refine x_getN hx hb hts (jnG _) hown hK _ (woG ad cA f2 a3 o7 hgo7) rfl 2 (by decide) (va_Nw.use rfl (hN.1 _ nfX_126)) (fun _ h9 => h9) (v := .int (iI (f2 o7 2))) (by rfl) dX_figure_59 ?_
      exact x_iret hx hb hr hlk hK dX_figure_62 h
    by_cases hq3 : x2 = 3
    · have h := h.2.2.2.1 hq3
      refine x_tsIn hx hb 3 (tgt := 63) hi8 dX_figure_18 hq3 (by decide) (by decide) rfl (by decide) ?_
      refine x_aload_n hx hb dX_figure_63 rfl 1 rfl ?_
      refine x_aload_n hx hb dX_figure_64 rfl 0 rfl ?_
      refine x_cVi (n := 1) (st := []) (As := [.ref (ad o7 0)]) ⟨hx, hb, hml, hown, hts⟩ hK hN (m_X_isComplete h) (x_cwV hts rfl rfl kcX_isComplete knX klX_129 kiX_isComplete keX_isComplete ⟨by decide, by decide, by decide +kernel⟩ ⟨by decide, by decide⟩) _ (woX ad cA f2 a3) rfl hA rfl (Nat.le_of_ble_eq_true rfl) ⟨Nat.zero_le _, Nat.zero_le _⟩ rfl dX_figure_65 (fun z9 f10 a11 h => ?_)
      obtain ⟨hi12, h⟩ := h
      refine x_if_eq hx hb (tgt := 78) hi12  dX_figure_68 (by decide) (fun hc => ?_) (fun hc => ?_)
      · have h := h.1 hc
        refine x_iconst hx hb dX_figure_78 ?_
        refine x_sub [] rfl ?_
        exact tb_X_figure_79 hO 0 f10 a11 h
      · have h := h.2 hc
        refine x_aload_n hx hb dX_figure_71 rfl 0 rfl ?_
        refine x_getN hx hb hts (jnG _) hown hK _ (woG ad cA f10 a11 o7 hgo7) rfl 0 (by decide) (va_Nw.use rfl (hN.1 _ nfX_73)) (fun _ h9 => h9) (v := .int (iI (f10 o7 0))) (by rfl) dX_figure_72 ?_
        refine x_goto hx hb (tgt := 79) dX_figure_75 (by decide) ?_
        refine x_sub [] rfl ?_
        exact tb_X_figure_79 hO (f10 o7 0) f10 a11 h
    have hq : x2 < 0 ∨ 3 < x2 := by omega
    have h := h.2.2.2.2 hq
    refine x_tsOut hx hb (tgt := 80) hi8 dX_figure_18 hq (by decide) ?_
    refine x_iconst hx hb dX_figure_80 ?_
    exact x_iret hx hb hr hlk hK dX_figure_81 h
  · have h := h.2 hc
    refine x_iconst hx hb dX_figure_8 ?_
    exact x_iret hx hb hr hlk hK dX_figure_9 h
-- G_liesUpon
abbrev rmG_liesUpon : Room := { frames := 1, cells := 0, slots := 0, locals := 22 }
abbrev gG_liesUpon (p : Program) (l : Launch) (e : Env) (s : State) (m : MethodId) (args : Array Value) (below : List Frame) (meth : Method) (c : Code) (A : Nat → Prop) (D : va_G) (ad : Nat → Nat → Nat) (cA : Nat → Nat → ClassId) (post : Int → fS → aS → Prop) (f : fS) (a : aS) (lv : List (Nat × Value)) (pc : Nat) (st : List Value) : Prop := xV p l e rmG_liesUpon s m args below meth c s.heap A 0 0 (xQI below D vwCl (taC cA) (CW ad cA) post A args s) D vwCl 6 (CW ad cA f a) lv pc st
def wb_G_liesUpon_121 (post : Int → fS → aS → Prop) (k75 : Nat → Nat → Int → Int → fS → aS → Prop) (o0 : Nat) (o1 : Nat) (x3 : Int) (x4 : Int) (f : fS) (a : aS) : Prop := k75 o0 o1 x3 (x4 + 2) f a
set_option maxHeartbeats 4000000 in
set_option maxRecDepth 100000 in
theorem tb_G_liesUpon_121 {p : Program} {l : Launch} {e : Env} {s : State} {m : MethodId} {args : Array Value} {below : List Frame} {meth : Method} {c : Code} {A : Nat → Prop} {D : va_G} {ad : Nat → Nat → Nat} {cA : Nat → Nat → ClassId} {post : Int → fS → aS → Prop} {k75 : Nat → Nat → Int → Int → fS → aS → Prop} (hO : xOk cG_liesUpon 6 RG (Cond.code yG_liesUpon cG_liesUpon 6 (some .boolean) :: xG) (some .boolean) p s m args meth c A D vwCl (taC cA)) (hk75 : ∀ (o0 : Nat) (o1 : Nat) (x3 : Int) (x4 : Int) (f : fS) (a : aS), k75 o0 o1 x3 x4 f a → gG_liesUpon p l e s m args below meth c A D ad cA post f a [(0, .ref (ad o0 0)), (1, .ref (ad o1 0)), (3, .int (iI x3)), (4, .int (iI x4))] 75 []) : ∀ (o0 : Nat) (o1 : Nat) (x3 : Int) (x4 : Int) (f : fS) (a : aS), wb_G_liesUpon_121 post k75 o0 o1 x3 x4 f a → gG_liesUpon p l e s m args below meth c A D ad cA post f a [(0, .ref (ad o0 0)), (1, .ref (ad o1 0)), (3, .int (iI x3)), (4, .int (iI x4))] 121 [] := by
  have hO9 := hO
  obtain ⟨hx, hb, hml, hown, hts, hr, hlk, hK, hN, hA⟩ := hO9
  intro o0 o1 x3 x4 f a h
  unfold wb_G_liesUpon_121 at h
  refine x_iinc hx hb dG_liesUpon_121 3 rfl (by decide) (lv' := [(4, .int (iI (x4 + 2))), (0, .ref (ad o0 0)), (1, .ref (ad o1 0)), (3, .int (iI x3))]) rfl ?_
  refine x_goto hx hb (tgt := 75) dG_liesUpon_124 (by decide) ?_
  refine x_sub [1, 2, 3, 0] rfl ?_
  exact hk75 o0 o1 x3 (x4 + 2) f a h
def wb_G_liesUpon_75 (post : Int → fS → aS → Prop) (k64 : Nat → Nat → Int → fS → aS → Prop) : Nat → Nat → Nat → Int → Int → fS → aS → Prop
  | 0, _, _, _, _, _, _ => False
  | n + 1, o0, o1, x3, x4, f, a => ir x4 ∧ (((6 ≤ x4) → (k64 o0 o1 (x3 + 1) f a)) ∧ (¬ (6 ≤ x4) → ((3 ≤ o0 ∧ o0 < 7) ∧ (wp_G_way (fun z17 f18 a19 => ir z17 ∧ (((z17 = -1) → (wb_G_liesUpon_121 post (wb_G_liesUpon_75 post k64 n) o0 o1 x3 x4 f18 a19)) ∧ (¬ (z17 = -1) → ((0 ≤ x3 ∧ x3 < 64) ∧ ((3 ≤ o1 ∧ o1 < 7) ∧ (wp_G_way (fun z23 f24 a25 => (0 ≤ z17 ∧ z17 < 64) ∧ (ir z23 ∧ (ir ((a25 o0 8) (Int.toNat z17)) ∧ (((z23 = (a25 o0 8) (Int.toNat z17)) → (wb_G_liesUpon_121 post (wb_G_liesUpon_75 post k64 n) o0 o1 x3 x4 f24 a25)) ∧ (¬ (z23 = (a25 o0 8) (Int.toNat z17)) → (post 0 f24 a25)))))) o1 ((a19 o0 8) (Int.toNat x3)) x4 f18 a19)))))) o0 x3 x4 f a))))
set_option maxHeartbeats 4000000 in
set_option maxRecDepth 100000 in
theorem tb_G_liesUpon_75 {p : Program} {l : Launch} {e : Env} {s : State} {m : MethodId} {args : Array Value} {below : List Frame} {meth : Method} {c : Code} {A : Nat → Prop} {D : va_G} {ad : Nat → Nat → Nat} {cA : Nat → Nat → ClassId} {post : Int → fS → aS → Prop} {k64 : Nat → Nat → Int → fS → aS → Prop} (hO : xOk cG_liesUpon 6 RG (Cond.code yG_liesUpon cG_liesUpon 6 (some .boolean) :: xG) (some .boolean) p s m args meth c A D vwCl (taC cA)) (hk64 : ∀ (o0 : Nat) (o1 : Nat) (x3 : Int) (f : fS) (a : aS), k64 o0 o1 x3 f a → gG_liesUpon p l e s m args below meth c A D ad cA post f a [(0, .ref (ad o0 0)), (1, .ref (ad o1 0)), (3, .int (iI x3))] 64 []) : ∀ (n : Nat) (o0 : Nat) (o1 : Nat) (x3 : Int) (x4 : Int) (f : fS) (a : aS), wb_G_liesUpon_75 post k64 n o0 o1 x3 x4 f a → gG_liesUpon p l e s m args below meth c A D ad cA post f a [(0, .ref (ad o0 0)), (1, .ref (ad o1 0)), (3, .int (iI x3)), (4, .int (iI x4))] 75 [] := by
  have hO9 := hO
  obtain ⟨hx, hb, hml, hown, hts, hr, hlk, hK, hN, hA⟩ := hO9
  intro n
  induction n with
  | zero => intro o0 o1 x3 x4 f a h; exact False.elim h
  | succ n ih =>
    intro o0 o1 x3 x4 f a h
    rw [wb_G_liesUpon_75] at h
    refine x_iload hx hb dG_liesUpon_75 3 rfl ?_
    refine x_bipush hx hb dG_liesUpon_77 (by decide) ?_
    obtain ⟨hi15, h⟩ := h
    refine x_icmp_ge hx hb (tgt := 127) hi15 (by decide) dG_liesUpon_79 (by decide) (fun hc => ?_) (fun hc => ?_)
    · have h := h.1 hc
      refine x_iinc hx hb dG_liesUpon_127 2 rfl (by decide) (lv' := [(3, .int (iI (x3 + 1))), (0, .ref (ad o0 0)), (1, .ref (ad o1 0)), (4, .int (iI x4))]) rfl ?_
      refine x_goto hx hb (tgt := 64) dG_liesUpon_130 (by decide) ?_
      refine x_sub [1, 2, 0] rfl ?_
      exact hk64 o0 o1 (x3 + 1) f a h
    · have h := h.2 hc
      refine x_aload_n hx hb dG_liesUpon_82 rfl 0 rfl ?_
      refine x_iload_n hx hb dG_liesUpon_83 rfl 2 rfl ?_
      refine x_iload hx hb dG_liesUpon_84 3 rfl ?_
      obtain ⟨hg16, h⟩ := h
      refine x_cVi (n := 2) (st := []) (As := [.int (iI x3), .int (iI x4)]) ⟨hx, hb, hml, hown, hts⟩ hK hN (m_G_way h) (x_cwV hts rfl rfl kcG_way knG klG_49 kiG_way keG_way ⟨by decide, by decide, by decide +kernel⟩ ⟨by decide, by decide⟩) _ (woG ad cA f a o0 hg16) rfl hA rfl (Nat.le_of_ble_eq_true rfl) ⟨Nat.zero_le _, Nat.zero_le _⟩ rfl dG_liesUpon_86 (fun z17 f18 a19 h => ?_)
      refine x_istore hx hb dG_liesUpon_89 (by decide) (lv' := [(5, .int (iI z17)), (0, .ref (ad o0 0)), (1, .ref (ad o1 0)), (3, .int (iI x3)), (4, .int (iI x4))]) rfl ?_
      refine x_iload hx hb dG_liesUpon_91 0 rfl ?_
      refine x_iconst hx hb dG_liesUpon_93 ?_
      obtain ⟨hi20, h⟩ := h
      refine x_icmp_eq hx hb (tgt := 121) hi20 (by decide) dG_liesUpon_94 (by decide) (fun hc => ?_) (fun hc => ?_)
      · have h := h.1 hc
        refine x_sub [1, 2, 3, 4] rfl ?_
        exact tb_G_liesUpon_121 hO ih o0 o1 x3 x4 f18 a19 h
      · have h := h.2 hc
        refine x_aload_n hx hb dG_liesUpon_97 rfl 2 rfl ?_
        refine x_aload_n hx hb dG_liesUpon_98 rfl 1 rfl ?_
        refine x_get hx hb hts (jnG _) hown hK _ (woG ad cA f18 a19 o0 hg16) rfl 8 (by decide) (hts _ (List.mem_cons_of_mem _ kfG_27)) (fun _ h9 => h9) (v := .ref (ad o0 9)) (by rfl) dG_liesUpon_99 ?_
        refine x_iload_n hx hb dG_liesUpon_102 rfl 3 rfl ?_
        obtain ⟨hj21, h⟩ := h
        refine x_iald hx hb hK _ _ (wa8G ad cA f18 a19 o0 hg16) (wt8G cA o0 hg16) hj21.1 hj21.2 (by decide) dG_liesUpon_103 ?_
        refine x_iload hx hb dG_liesUpon_104 4 rfl ?_
        obtain ⟨hg22, h⟩ := h
        refine x_cVi (n := 2) (st := []) (As := [.int (iI ((a19 o0 8) (Int.toNat x3))), .int (iI x4)]) ⟨hx, hb, hml, hown, hts⟩ hK hN (m_G_way h) (x_cwV hts rfl rfl kcG_way knG klG_49 kiG_way keG_way ⟨by decide, by decide, by decide +kernel⟩ ⟨by decide, by decide⟩) _ (woG ad cA f18 a19 o1 hg22) rfl hA rfl (Nat.le_of_ble_eq_true rfl) ⟨Nat.zero_le _, Nat.zero_le _⟩ rfl dG_liesUpon_106 (fun z23 f24 a25 h => ?_)
        refine x_aload_n hx hb dG_liesUpon_109 rfl 1 rfl ?_
        refine x_get hx hb hts (jnG _) hown hK _ (woG ad cA f24 a25 o0 hg16) rfl 8 (by decide) (hts _ (List.mem_cons_of_mem _ kfG_27)) (fun _ h9 => h9) (v := .ref (ad o0 9)) (by rfl) dG_liesUpon_110 ?_
        refine x_iload hx hb dG_liesUpon_113 0 rfl ?_
        obtain ⟨hj26, h⟩ := h
        refine x_iald hx hb hK _ _ (wa8G ad cA f24 a25 o0 hg16) (wt8G cA o0 hg16) hj26.1 hj26.2 (by decide) dG_liesUpon_115 ?_
        obtain ⟨hi27, h⟩ := h
        obtain ⟨hi28, h⟩ := h
        refine x_icmp_eq hx hb (tgt := 121) hi27 hi28 dG_liesUpon_116 (by decide) (fun hc => ?_) (fun hc => ?_)
        · have h := h.1 hc
          refine x_sub [1, 2, 3, 4] rfl ?_
          exact tb_G_liesUpon_121 hO ih o0 o1 x3 x4 f24 a25 h
        · have h := h.2 hc
          refine x_iconst hx hb dG_liesUpon_119 ?_
          exact x_zret hx hb hr hlk hK dG_liesUpon_120 (by decide) h
def wb_G_liesUpon_64 (post : Int → fS → aS → Prop) : Nat → Nat → Nat → Int → fS → aS → Prop
  | 0, _, _, _, _, _ => False
  | n + 1, o0, o1, x3, f, a => (3 ≤ o0 ∧ o0 < 7) ∧ (ir x3 ∧ (ir (f o0 0) ∧ (((f o0 0 ≤ x3) → (post 1 f a)) ∧ (¬ (f o0 0 ≤ x3) → (∃ j, wb_G_liesUpon_75 post (wb_G_liesUpon_64 post n) j o0 o1 x3 0 f a)))))
set_option maxHeartbeats 4000000 in
set_option maxRecDepth 100000 in
theorem tb_G_liesUpon_64 {p : Program} {l : Launch} {e : Env} {s : State} {m : MethodId} {args : Array Value} {below : List Frame} {meth : Method} {c : Code} {A : Nat → Prop} {D : va_G} {ad : Nat → Nat → Nat} {cA : Nat → Nat → ClassId} {post : Int → fS → aS → Prop} (hO : xOk cG_liesUpon 6 RG (Cond.code yG_liesUpon cG_liesUpon 6 (some .boolean) :: xG) (some .boolean) p s m args meth c A D vwCl (taC cA)) : ∀ (n : Nat) (o0 : Nat) (o1 : Nat) (x3 : Int) (f : fS) (a : aS), wb_G_liesUpon_64 post n o0 o1 x3 f a → gG_liesUpon p l e s m args below meth c A D ad cA post f a [(0, .ref (ad o0 0)), (1, .ref (ad o1 0)), (3, .int (iI x3))] 64 [] := by
  have hO9 := hO
  obtain ⟨hx, hb, hml, hown, hts, hr, hlk, hK, hN, hA⟩ := hO9
  intro n
  induction n with
  | zero => intro o0 o1 x3 f a h; exact False.elim h
  | succ n ih =>
    intro o0 o1 x3 f a h
    rw [wb_G_liesUpon_64] at h
    refine x_iload_n hx hb dG_liesUpon_64 rfl 2 rfl ?_
    refine x_aload_n hx hb dG_liesUpon_65 rfl 0 rfl ?_
    obtain ⟨hg12, h⟩ := h
    refine x_get hx hb hts (jnG _) hown hK _ (woG ad cA f a o0 hg12) rfl 0 (by decide) (hts _ (List.mem_cons_of_mem _ kfG_33)) (fun _ h9 => h9) (v := .int (iI (f o0 0))) (by rfl) dG_liesUpon_66 ?_
    obtain ⟨hi13, h⟩ := h
    obtain ⟨hi14, h⟩ := h
    refine x_icmp_ge hx hb (tgt := 133) hi13 hi14 dG_liesUpon_69 (by decide) (fun hc => ?_) (fun hc => ?_)
    · have h := h.1 hc
      refine x_iconst hx hb dG_liesUpon_133 ?_
      exact x_zret hx hb hr hlk hK dG_liesUpon_134 (by decide) h
    · have h := h.2 hc
      refine x_iconst hx hb dG_liesUpon_72 ?_
      refine x_istore hx hb dG_liesUpon_73 (by decide) (lv' := [(4, .int (iI 0)), (0, .ref (ad o0 0)), (1, .ref (ad o1 0)), (3, .int (iI x3))]) rfl ?_
      obtain ⟨j, h⟩ := h
      refine x_sub [1, 2, 3, 0] rfl ?_
      exact tb_G_liesUpon_75 hO ih j o0 o1 x3 0 f a h
def wb_G_liesUpon_9 (post : Int → fS → aS → Prop) : Nat → Nat → Nat → Int → fS → aS → Prop
  | 0, _, _, _, _, _ => False
  | n + 1, o0, o1, x3, f, a => (3 ≤ o0 ∧ o0 < 7) ∧ (ir x3 ∧ (ir (f o0 0) ∧ (((f o0 0 ≤ x3) → (∃ j, wb_G_liesUpon_64 post j o0 o1 0 f a)) ∧ (¬ (f o0 0 ≤ x3) → ((0 ≤ x3 ∧ x3 < 64) ∧ ((0 ≤ a o0 5 (Int.toNat x3) ∧ a o0 5 (Int.toNat x3) < 64) ∧ ((3 ≤ o1 ∧ o1 < 7) ∧ (wp_G_way (fun z8 f9 a10 => ir ((va_up (a10 o0 8) (Int.toNat x3) z8) (Int.toNat x3)) ∧ (((¬ (va_up (a10 o0 8) (Int.toNat x3) z8) (Int.toNat x3) = -1) → (wb_G_liesUpon_9 post n o0 o1 (x3 + 1) f9 (setA a10 o0 8 (va_up (a10 o0 8) (Int.toNat x3) z8)))) ∧ (¬ (¬ (va_up (a10 o0 8) (Int.toNat x3) z8) (Int.toNat x3) = -1) → (post 0 f9 (setA a10 o0 8 (va_up (a10 o0 8) (Int.toNat x3) z8)))))) o1 (a o0 8 (Int.toNat (a o0 5 (Int.toNat x3)))) (a o0 6 (Int.toNat x3)) f a))))))))
set_option maxHeartbeats 4000000 in
set_option maxRecDepth 100000 in
theorem tb_G_liesUpon_9 {p : Program} {l : Launch} {e : Env} {s : State} {m : MethodId} {args : Array Value} {below : List Frame} {meth : Method} {c : Code} {A : Nat → Prop} {D : va_G} {ad : Nat → Nat → Nat} {cA : Nat → Nat → ClassId} {post : Int → fS → aS → Prop} (hO : xOk cG_liesUpon 6 RG (Cond.code yG_liesUpon cG_liesUpon 6 (some .boolean) :: xG) (some .boolean) p s m args meth c A D vwCl (taC cA)) : ∀ (n : Nat) (o0 : Nat) (o1 : Nat) (x3 : Int) (f : fS) (a : aS), wb_G_liesUpon_9 post n o0 o1 x3 f a → gG_liesUpon p l e s m args below meth c A D ad cA post f a [(0, .ref (ad o0 0)), (1, .ref (ad o1 0)), (3, .int (iI x3))] 9 [] := by
  have hO9 := hO
  obtain ⟨hx, hb, hml, hown, hts, hr, hlk, hK, hN, hA⟩ := hO9
  intro n
  induction n with
  | zero => intro o0 o1 x3 f a h; exact False.elim h
  | succ n ih =>
    intro o0 o1 x3 f a h
    rw [wb_G_liesUpon_9] at h
    refine x_iload_n hx hb dG_liesUpon_9 rfl 2 rfl ?_
    refine x_aload_n hx hb dG_liesUpon_10 rfl 0 rfl ?_
    obtain ⟨hg2, h⟩ := h
    refine x_get hx hb hts (jnG _) hown hK _ (woG ad cA f a o0 hg2) rfl 0 (by decide) (hts _ (List.mem_cons_of_mem _ kfG_33)) (fun _ h9 => h9) (v := .int (iI (f o0 0))) (by rfl) dG_liesUpon_11 ?_
    obtain ⟨hi3, h⟩ := h
    obtain ⟨hi4, h⟩ := h
    refine x_icmp_ge hx hb (tgt := 62) hi3 hi4 dG_liesUpon_14 (by decide) (fun hc => ?_) (fun hc => ?_)
    · have h := h.1 hc
      refine x_iconst hx hb dG_liesUpon_62 ?_
      refine x_istore_n hx hb dG_liesUpon_63 rfl (by decide) (lv' := [(3, .int (iI 0)), (0, .ref (ad o0 0)), (1, .ref (ad o1 0))]) rfl ?_
      obtain ⟨j, h⟩ := h
      refine x_sub [1, 2, 0] rfl ?_
      exact tb_G_liesUpon_64 hO j o0 o1 0 f a h
    · have h := h.2 hc
      refine x_aload_n hx hb dG_liesUpon_17 rfl 0 rfl ?_
      refine x_get hx hb hts (jnG _) hown hK _ (woG ad cA f a o0 hg2) rfl 8 (by decide) (hts _ (List.mem_cons_of_mem _ kfG_27)) (fun _ h9 => h9) (v := .ref (ad o0 9)) (by rfl) dG_liesUpon_18 ?_
      refine x_iload_n hx hb dG_liesUpon_21 rfl 2 rfl ?_
      refine x_aload_n hx hb dG_liesUpon_22 rfl 1 rfl ?_
      refine x_aload_n hx hb dG_liesUpon_23 rfl 0 rfl ?_
      refine x_get hx hb hts (jnG _) hown hK _ (woG ad cA f a o0 hg2) rfl 8 (by decide) (hts _ (List.mem_cons_of_mem _ kfG_27)) (fun _ h9 => h9) (v := .ref (ad o0 9)) (by rfl) dG_liesUpon_24 ?_
      refine x_aload_n hx hb dG_liesUpon_27 rfl 0 rfl ?_
      refine x_get hx hb hts (jnG _) hown hK _ (woG ad cA f a o0 hg2) rfl 5 (by decide) (hts _ (List.mem_cons_of_mem _ kfG_18)) (fun _ h9 => h9) (v := .ref (ad o0 6)) (by rfl) dG_liesUpon_28 ?_
      refine x_iload_n hx hb dG_liesUpon_31 rfl 2 rfl ?_
      obtain ⟨hj5, h⟩ := h
      refine x_iald hx hb hK _ _ (wa5G ad cA f a o0 hg2) (wt5G cA o0 hg2) hj5.1 hj5.2 (by decide) dG_liesUpon_32 ?_
      obtain ⟨hj6, h⟩ := h
      refine x_iald hx hb hK _ _ (wa8G ad cA f a o0 hg2) (wt8G cA o0 hg2) hj6.1 hj6.2 (by decide) dG_liesUpon_33 ?_
      refine x_aload_n hx hb dG_liesUpon_34 rfl 0 rfl ?_
      refine x_get hx hb hts (jnG _) hown hK _ (woG ad cA f a o0 hg2) rfl 6 (by decide) (hts _ (List.mem_cons_of_mem _ kfG_21)) (fun _ h9 => h9) (v := .ref (ad o0 7)) (by rfl) dG_liesUpon_35 ?_
      refine x_iload_n hx hb dG_liesUpon_38 rfl 2 rfl ?_
      refine x_iald hx hb hK _ _ (wa6G ad cA f a o0 hg2) (wt6G cA o0 hg2) hj5.1 hj5.2 (by decide) dG_liesUpon_39 ?_
      obtain ⟨hg7, h⟩ := h
      refine x_cVi (n := 2) (st := [.int (iI x3), .ref (ad o0 9)]) (As := [.int (iI (a o0 8 (Int.toNat (a o0 5 (Int.toNat x3))))), .int (iI (a o0 6 (Int.toNat x3)))]) ⟨hx, hb, hml, hown, hts⟩ hK hN (m_G_way h) (x_cwV hts rfl rfl kcG_way knG klG_49 kiG_way keG_way ⟨by decide, by decide, by decide +kernel⟩ ⟨by decide, by decide⟩) _ (woG ad cA f a o1 hg7) rfl hA rfl (Nat.le_of_ble_eq_true rfl) ⟨Nat.zero_le _, Nat.zero_le _⟩ rfl dG_liesUpon_40 (fun z8 f9 a10 h => ?_)
      refine x_iast hx hb hK _ _ (wa8G ad cA f9 a10 o0 hg2) (wt8G cA o0 hg2) hj5.1 hj5.2 (by decide) dG_liesUpon_43 (ws8G ad cA f9 a10 (va_up (a10 o0 8) (Int.toNat x3) z8) o0 hg2) ?_
      refine x_aload_n hx hb dG_liesUpon_44 rfl 0 rfl ?_
      refine x_get hx hb hts (jnG _) hown hK _ (woG ad cA f9 (setA a10 o0 8 (va_up (a10 o0 8) (Int.toNat x3) z8)) o0 hg2) rfl 8 (by decide) (hts _ (List.mem_cons_of_mem _ kfG_27)) (fun _ h9 => h9) (v := .ref (ad o0 9)) (by rfl) dG_liesUpon_45 ?_
      refine x_iload_n hx hb dG_liesUpon_48 rfl 2 rfl ?_
      refine x_iald hx hb hK _ _ (wa8G ad cA f9 (setA a10 o0 8 (va_up (a10 o0 8) (Int.toNat x3) z8)) o0 hg2) (wt8G cA o0 hg2) hj5.1 hj5.2 (by decide) dG_liesUpon_49 ?_
      refine x_eqi (congrFun (setA_s a10 o0 8 (va_up (a10 o0 8) (Int.toNat x3) z8)) _) ?_
      refine x_iconst hx hb dG_liesUpon_50 ?_
      obtain ⟨hi11, h⟩ := h
      refine x_icmp_ne hx hb (tgt := 56) hi11 (by decide) dG_liesUpon_51 (by decide) (fun hc => ?_) (fun hc => ?_)
      · have h := h.1 hc
        refine x_iinc hx hb dG_liesUpon_56 2 rfl (by decide) (lv' := [(3, .int (iI (x3 + 1))), (0, .ref (ad o0 0)), (1, .ref (ad o1 0))]) rfl ?_
        refine x_goto hx hb (tgt := 9) dG_liesUpon_59 (by decide) ?_
        refine x_sub [1, 2, 0] rfl ?_
        exact ih o0 o1 (x3 + 1) f9 (setA a10 o0 8 (va_up (a10 o0 8) (Int.toNat x3) z8)) h
      · have h := h.2 hc
        refine x_iconst hx hb dG_liesUpon_54 ?_
        exact x_zret hx hb hr hlk hK dG_liesUpon_55 (by decide) h
def wp_G_liesUpon (post : Int → fS → aS → Prop) (o0 : Nat) (o1 : Nat) (x2 : Int) (f : fS) (a : aS) : Prop := (3 ≤ o0 ∧ o0 < 7) ∧ (∃ j, wb_G_liesUpon_9 post j o0 o1 1 f (setA a o0 8 (va_up (a o0 8) (Int.toNat 0) x2)))
set_option maxHeartbeats 4000000 in
set_option maxRecDepth 100000 in
theorem m_G_liesUpon {l : Launch} {D : va_G} {ad : Nat → Nat → Nat} {cA : Nat → Nat → ClassId} {post : Int → fS → aS → Prop} {o0 : Nat} {o1 : Nat} {x2 : Int} {f : fS} {a : aS} (h : wp_G_liesUpon post o0 o1 x2 f a) : xCI l yG_liesUpon (Cond.code yG_liesUpon cG_liesUpon 6 (some .boolean) :: xG) rmG_liesUpon D vwCl (taC cA) (CW ad cA f a) [.ref (ad o0 0), .ref (ad o1 0), .int (iI x2)] (CW ad cA) post := by
  refine x_metI (cc := cG_liesUpon) (nL := 6) (by decide) rfl (Nat.le_of_ble_eq_true rfl) ?_
  intro p e s m below meth c A hO
  have hO9 := hO
  obtain ⟨hx, hb, hml, hown, hts, hr, hlk, hK, hN, hA⟩ := hO9
  unfold wp_G_liesUpon at h
  show gG_liesUpon p l e s m _ below meth c A D ad cA post f a [(0, .ref (ad o0 0)), (1, .ref (ad o1 0)), (2, .int (iI x2))] 0 []
  refine x_aload_n hx hb dG_liesUpon_0 rfl 0 rfl ?_
  obtain ⟨hg1, h⟩ := h
  refine x_get hx hb hts (jnG _) hown hK _ (woG ad cA f a o0 hg1) rfl 8 (by decide) (hts _ (List.mem_cons_of_mem _ kfG_27)) (fun _ h9 => h9) (v := .ref (ad o0 9)) (by rfl) dG_liesUpon_1 ?_
  refine x_iconst hx hb dG_liesUpon_4 ?_
  refine x_iload_n hx hb dG_liesUpon_5 rfl 2 rfl ?_
  refine x_iast hx hb hK _ _ (wa8G ad cA f a o0 hg1) (wt8G cA o0 hg1) (by decide) (by decide) (by decide) dG_liesUpon_6 (ws8G ad cA f a (va_up (a o0 8) (Int.toNat 0) x2) o0 hg1) ?_
  refine x_iconst hx hb dG_liesUpon_7 ?_
  refine x_istore_n hx hb dG_liesUpon_8 rfl (by decide) (lv' := [(3, .int (iI 1)), (0, .ref (ad o0 0)), (1, .ref (ad o1 0)), (2, .int (iI x2))]) rfl ?_
  obtain ⟨j, h⟩ := h
  refine x_sub [1, 2, 0] rfl ?_
  exact tb_G_liesUpon_9 hO j o0 o1 1 f (setA a o0 8 (va_up (a o0 8) (Int.toNat 0) x2)) h
