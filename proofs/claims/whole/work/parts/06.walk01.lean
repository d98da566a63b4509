-- X_isLetter
abbrev rmX_isLetter : Room := { frames := 0, cells := 0, slots := 0, locals := 0 }
abbrev gX_isLetter (p : Program) (l : Launch) (e : Env) (s : State) (m : MethodId) (args : Array Value) (below : List Frame) (meth : Method) (c : Code) (A : Nat → Prop) (D : va_G) (ad : Nat → Nat → Nat) (cA : Nat → Nat → ClassId) (post : Int → fS → aS → Prop) (f : fS) (a : aS) (lv : List (Nat × Value)) (pc : Nat) (st : List Value) : Prop := xV p l e rmX_isLetter s m args below meth c s.heap A 0 0 (xQI below D vwCl (taC cA) (CW ad cA) post A args s) D vwCl 2 (CW ad cA f a) lv pc st
def wb_X_isLetter_26 (post : Int → fS → aS → Prop) (y0 : Int) (f : fS) (a : aS) : Prop := (y0 = 0 ∨ y0 = 1) ∧ post y0 f a
set_option maxHeartbeats 4000000 in
set_option maxRecDepth 100000 in
theorem tb_X_isLetter_26 {p : Program} {l : Launch} {e : Env} {s : State} {m : MethodId} {args : Array Value} {below : List Frame} {meth : Method} {c : Code} {A : Nat → Prop} {D : va_G} {ad : Nat → Nat → Nat} {cA : Nat → Nat → ClassId} {post : Int → fS → aS → Prop} (hO : xOk cX_isLetter 2 RX (Cond.code yX_isLetter cX_isLetter 2 (some .boolean) :: xG) (some .boolean) p s m args meth c A D vwCl (taC cA)) : ∀ (y0 : Int) (f : fS) (a : aS), wb_X_isLetter_26 post y0 f a → gX_isLetter p l e s m args below meth c A D ad cA post f a [] 26 [.int (iI y0)] := by
  have hO9 := hO
  obtain ⟨hx, hb, hml, hown, hts, hr, hlk, hK, hN, hA⟩ := hO9
  intro y0 f a h
  unfold wb_X_isLetter_26 at h
  exact x_zret hx hb hr hlk hK dX_isLetter_26 h.1 h.2
def wb_X_isLetter_25 (post : Int → fS → aS → Prop) (f : fS) (a : aS) : Prop := wb_X_isLetter_26 post 0 f a
set_option maxHeartbeats 4000000 in
set_option maxRecDepth 100000 in
theorem tb_X_isLetter_25 {p : Program} {l : Launch} {e : Env} {s : State} {m : MethodId} {args : Array Value} {below : List Frame} {meth : Method} {c : Code} {A : Nat → Prop} {D : va_G} {ad : Nat → Nat → Nat} {cA : Nat → Nat → ClassId} {post : Int → fS → aS → Prop} (hO : xOk cX_isLetter 2 RX (Cond.code yX_isLetter cX_isLetter 2 (some .boolean) :: xG) (some .boolean) p s m args meth c A D vwCl (taC cA)) : ∀ (f : fS) (a : aS), wb_X_isLetter_25 post f a → gX_isLetter p l e s m args below meth c A D ad cA post f a [] 25 [] := by
  have hO9 := hO
  obtain ⟨hx, hb, hml, hown, hts, hr, hlk, hK, hN, hA⟩ := hO9
  intro f a h
  unfold wb_X_isLetter_25 at h
  refine x_iconst hx hb dX_isLetter_25 ?_
  exact tb_X_isLetter_26 hO 0 f a h
def wp_X_isLetter (post : Int → fS → aS → Prop) (x1 : Int) (f : fS) (a : aS) : Prop := ir x1 ∧ (((x1 = 0) → (wb_X_isLetter_25 post f a)) ∧ (¬ (x1 = 0) → (ir (-(f 0 0)) ∧ (((x1 < -(f 0 0)) → (wb_X_isLetter_25 post f a)) ∧ (¬ (x1 < -(f 0 0)) → (ir (f 0 0) ∧ (((f 0 0 < x1) → (wb_X_isLetter_25 post f a)) ∧ (¬ (f 0 0 < x1) → (wb_X_isLetter_26 post 1 f a)))))))))
set_option maxHeartbeats 4000000 in
set_option maxRecDepth 100000 in
theorem m_X_isLetter {l : Launch} {D : va_G} {ad : Nat → Nat → Nat} {cA : Nat → Nat → ClassId} {post : Int → fS → aS → Prop} {x1 : Int} {f : fS} {a : aS} (h : wp_X_isLetter post x1 f a) : xCI l yX_isLetter (Cond.code yX_isLetter cX_isLetter 2 (some .boolean) :: xG) rmX_isLetter D vwCl (taC cA) (CW ad cA f a) [.ref (ad 0 0), .int (iI x1)] (CW ad cA) post := by
  refine x_metI (cc := cX_isLetter) (nL := 2) (by decide) rfl (Nat.le_of_ble_eq_true rfl) ?_
  intro p e s m below meth c A hO
  have hO9 := hO
  obtain ⟨hx, hb, hml, hown, hts, hr, hlk, hK, hN, hA⟩ := hO9
  unfold wp_X_isLetter at h
  show gX_isLetter p l e s m _ below meth c A D ad cA post f a [(0, .ref (ad 0 0)), (1, .int (iI x1))] 0 []
  refine x_iload_n hx hb dX_isLetter_0 rfl 1 rfl ?_
  obtain ⟨hi1, h⟩ := h
  refine x_if_eq hx hb (tgt := 25) hi1  dX_isLetter_1 (by decide) (fun hc => ?_) (fun hc => ?_)
  · have h := h.1 hc
    refine x_sub [] rfl ?_
    exact tb_X_isLetter_25 hO f a h
  · have h := h.2 hc
    refine x_iload_n hx hb dX_isLetter_4 rfl 1 rfl ?_
    refine x_aload_n hx hb dX_isLetter_5 rfl 0 rfl ?_
    refine x_get hx hb hts (jnX _) hown hK _ (woX ad cA f a) rfl 0 (by decide) (hts _ (List.mem_cons_of_mem _ kfX_18)) (fun _ h9 => h9) (v := .int (iI (f 0 0))) (by rfl) dX_isLetter_6 ?_
    refine x_ineg hx hb dX_isLetter_9 ?_
    obtain ⟨hi2, h⟩ := h
    refine x_icmp_lt hx hb (tgt := 25) hi1 hi2 dX_isLetter_10 (by decide) (fun hc => ?_) (fun hc => ?_)
    · have h := h.1 hc
      refine x_sub [] rfl ?_
      exact tb_X_isLetter_25 hO f a h
    · have h := h.2 hc
      refine x_iload_n hx hb dX_isLetter_13 rfl 1 rfl ?_
      refine x_aload_n hx hb dX_isLetter_14 rfl 0 rfl ?_
      refine x_get hx hb hts (jnX _) hown hK _ (woX ad cA f a) rfl 0 (by decide) (hts _ (List.mem_cons_of_mem _ kfX_18)) (fun _ h9 => h9) (v := .int (iI (f 0 0))) (by rfl) dX_isLetter_15 ?_
      obtain ⟨hi3, h⟩ := h
      refine x_icmp_gt hx hb (tgt := 25) hi1 hi3 dX_isLetter_18 (by decide) (fun hc => ?_) (fun hc => ?_)
      · have h := h.1 hc
        refine x_sub [] rfl ?_
        exact tb_X_isLetter_25 hO f a h
      · have h := h.2 hc
        refine x_iconst hx hb dX_isLetter_21 ?_
        refine x_goto hx hb (tgt := 26) dX_isLetter_22 (by decide) ?_
        refine x_sub [] rfl ?_
        exact tb_X_isLetter_26 hO 1 f a h
-- W_append
abbrev rmW_append : Room := { frames := 0, cells := 0, slots := 0, locals := 0 }
abbrev gW_append (p : Program) (l : Launch) (e : Env) (s : State) (m : MethodId) (args : Array Value) (below : List Frame) (meth : Method) (c : Code) (A : Nat → Prop) (D : va_G) (ad : Nat → Nat → Nat) (cA : Nat → Nat → ClassId) (post : Int → fS → aS → Prop) (f : fS) (a : aS) (lv : List (Nat × Value)) (pc : Nat) (st : List Value) : Prop := xV p l e rmW_append s m args below meth c s.heap A 0 0 (xQI below D vwCl (taC cA) (CW ad cA) post A args s) D vwCl 2 (CW ad cA f a) lv pc st
def wb_W_append_38 (post : Int → fS → aS → Prop) (x1 : Int) (f : fS) (a : aS) : Prop := ir (f 1 1) ∧ (((f 1 1 < 24) → ((0 ≤ f 1 1 ∧ f 1 1 < 24) ∧ (post ((f 1 1) + 1) (setF f 1 1 ((f 1 1) + 1)) (setA a 1 0 (va_up (a 1 0) (Int.toNat (f 1 1)) x1))))) ∧ (¬ (f 1 1 < 24) → (post (-2) f a)))
set_option maxHeartbeats 4000000 in
set_option maxRecDepth 100000 in
theorem tb_W_append_38 {p : Program} {l : Launch} {e : Env} {s : State} {m : MethodId} {args : Array Value} {below : List Frame} {meth : Method} {c : Code} {A : Nat → Prop} {D : va_G} {ad : Nat → Nat → Nat} {cA : Nat → Nat → ClassId} {post : Int → fS → aS → Prop} (hO : xOk cW_append 2 RW (Cond.code yW_append cW_append 2 (some .int) :: xG) (some .int) p s m args meth c A D vwCl (taC cA)) : ∀ (x1 : Int) (f : fS) (a : aS), wb_W_append_38 post x1 f a → gW_append p l e s m args below meth c A D ad cA post f a [(0, .ref (ad 1 0)), (1, .int (iI x1))] 38 [] := by
  have hO9 := hO
  obtain ⟨hx, hb, hml, hown, hts, hr, hlk, hK, hN, hA⟩ := hO9
  intro x1 f a h
  unfold wb_W_append_38 at h
  refine x_aload_n hx hb dW_append_38 rfl 0 rfl ?_
  refine x_get hx hb hts (jnW _) hown hK _ (woW ad cA f a) rfl 1 (by decide) (hts _ (List.mem_cons_of_mem _ kfW_15)) (fun _ h9 => h9) (v := .int (iI (f 1 1))) (by rfl) dW_append_39 ?_
  refine x_bipush hx hb dW_append_42 (by decide) ?_
  obtain ⟨hi5, h⟩ := h
  refine x_icmp_lt hx hb (tgt := 50) hi5 (by decide) dW_append_44 (by decide) (fun hc => ?_) (fun hc => ?_)
  · have h := h.1 hc
    refine x_aload_n hx hb dW_append_50 rfl 0 rfl ?_
    refine x_get hx hb hts (jnW _) hown hK _ (woW ad cA f a) rfl 0 (by decide) (hts _ (List.mem_cons_of_mem _ kfW_9)) (fun _ h9 => h9) (v := .ref (ad 1 1)) (by rfl) dW_append_51 ?_
    refine x_aload_n hx hb dW_append_54 rfl 0 rfl ?_
    refine x_get hx hb hts (jnW _) hown hK _ (woW ad cA f a) rfl 1 (by decide) (hts _ (List.mem_cons_of_mem _ kfW_15)) (fun _ h9 => h9) (v := .int (iI (f 1 1))) (by rfl) dW_append_55 ?_
    refine x_iload_n hx hb dW_append_58 rfl 1 rfl ?_
    obtain ⟨hj6, h⟩ := h
    refine x_iast hx hb hK _ _ (wa0W ad cA f a) (wt0W cA) hj6.1 hj6.2 (by decide) dW_append_59 (ws0W ad cA f a (va_up (a 1 0) (Int.toNat (f 1 1)) x1)) ?_
    refine x_aload_n hx hb dW_append_60 rfl 0 rfl ?_
    refine x_dup hx hb rfl dW_append_61 ?_
    refine x_get hx hb hts (jnW _) hown hK _ (woW ad cA f (setA a 1 0 (va_up (a 1 0) (Int.toNat (f 1 1)) x1))) rfl 1 (by decide) (hts _ (List.mem_cons_of_mem _ kfW_15)) (fun _ h9 => h9) (v := .int (iI (f 1 1))) (by rfl) dW_append_62 ?_
    refine x_iconst hx hb dW_append_65 ?_
    refine x_iadd hx hb dW_append_66 ?_
    refine x_put hx hb hts (jnW _) tyW tkW nmW hown hK _ (woW ad cA f (setA a 1 0 (va_up (a 1 0) (Int.toNat (f 1 1)) x1))) rfl 1 (by decide) (hts _ (List.mem_cons_of_mem _ kfW_15)) (fun _ h9 => h9) rfl (by decide +kernel) (Nat.le_of_ble_eq_true rfl) dW_append_67 (wf1W ad cA f (setA a 1 0 (va_up (a 1 0) (Int.toNat (f 1 1)) x1)) ((f 1 1) + 1)) ?_
    refine x_aload_n hx hb dW_append_70 rfl 0 rfl ?_
    refine x_get hx hb hts (jnW _) hown hK _ (woW ad cA (setF f 1 1 ((f 1 1) + 1)) (setA a 1 0 (va_up (a 1 0) (Int.toNat (f 1 1)) x1))) rfl 1 (by decide) (hts _ (List.mem_cons_of_mem _ kfW_15)) (fun _ h9 => h9) (v := .int (iI ((setF f 1 1 ((f 1 1) + 1)) 1 1))) (by rfl) dW_append_71 ?_
    refine x_eqi (setF_s f 1 1 ((f 1 1) + 1)) ?_
    exact x_iret hx hb hr hlk hK dW_append_74 h
  · have h := h.2 hc
    refine x_bipush hx hb dW_append_47 (by decide) ?_
    exact x_iret hx hb hr hlk hK dW_append_49 h
def wp_W_append (post : Int → fS → aS → Prop) (x1 : Int) (f : fS) (a : aS) : Prop := ir (f 1 1) ∧ (((f 1 1 ≤ 0) → (wb_W_append_38 post x1 f a)) ∧ (¬ (f 1 1 ≤ 0) → ((0 ≤ (f 1 1) - 1 ∧ (f 1 1) - 1 < 24) ∧ (ir (a 1 0 (Int.toNat ((f 1 1) - 1))) ∧ (ir (-x1) ∧ (((¬ a 1 0 (Int.toNat ((f 1 1) - 1)) = -x1) → (wb_W_append_38 post x1 f a)) ∧ (¬ (¬ a 1 0 (Int.toNat ((f 1 1) - 1)) = -x1) → (post ((f 1 1) - 1) (setF f 1 1 ((f 1 1) - 1)) a))))))))
set_option maxHeartbeats 4000000 in
set_option maxRecDepth 100000 in
theorem m_W_append {l : Launch} {D : va_G} {ad : Nat → Nat → Nat} {cA : Nat → Nat → ClassId} {post : Int → fS → aS → Prop} {x1 : Int} {f : fS} {a : aS} (h : wp_W_append post x1 f a) : xCI l yW_append (Cond.code yW_append cW_append 2 (some .int) :: xG) rmW_append D vwCl (taC cA) (CW ad cA f a) [.ref (ad 1 0), .int (iI x1)] (CW ad cA) post := by
  refine x_metI (cc := cW_append) (nL := 2) (by decide) rfl (Nat.le_of_ble_eq_true rfl) ?_
  intro p e s m below meth c A hO
  have hO9 := hO
  obtain ⟨hx, hb, hml, hown, hts, hr, hlk, hK, hN, hA⟩ := hO9
  unfold wp_W_append at h
  show gW_append p l e s m _ below meth c A D ad cA post f a [(0, .ref (ad 1 0)), (1, .int (iI x1))] 0 []
  refine x_aload_n hx hb dW_append_0 rfl 0 rfl ?_
  refine x_get hx hb hts (jnW _) hown hK _ (woW ad cA f a) rfl 1 (by decide) (hts _ (List.mem_cons_of_mem _ kfW_15)) (fun _ h9 => h9) (v := .int (iI (f 1 1))) (by rfl) dW_append_1 ?_
  obtain ⟨hi1, h⟩ := h
  refine x_if_le hx hb (tgt := 38) hi1  dW_append_4 (by decide) (fun hc => ?_) (fun hc => ?_)
  · have h := h.1 hc
    exact tb_W_append_38 hO x1 f a h
  · have h := h.2 hc
    refine x_aload_n hx hb dW_append_7 rfl 0 rfl ?_
    refine x_get hx hb hts (jnW _) hown hK _ (woW ad cA f a) rfl 0 (by decide) (hts _ (List.mem_cons_of_mem _ kfW_9)) (fun _ h9 => h9) (v := .ref (ad 1 1)) (by rfl) dW_append_8 ?_
    refine x_aload_n hx hb dW_append_11 rfl 0 rfl ?_
    refine x_get hx hb hts (jnW _) hown hK _ (woW ad cA f a) rfl 1 (by decide) (hts _ (List.mem_cons_of_mem _ kfW_15)) (fun _ h9 => h9) (v := .int (iI (f 1 1))) (by rfl) dW_append_12 ?_
    refine x_iconst hx hb dW_append_15 ?_
    refine x_isub hx hb dW_append_16 ?_
    obtain ⟨hj2, h⟩ := h
    refine x_iald hx hb hK _ _ (wa0W ad cA f a) (wt0W cA) hj2.1 hj2.2 (by decide) dW_append_17 ?_
    refine x_iload_n hx hb dW_append_18 rfl 1 rfl ?_
    refine x_ineg hx hb dW_append_19 ?_
    obtain ⟨hi3, h⟩ := h
    obtain ⟨hi4, h⟩ := h
    refine x_icmp_ne hx hb (tgt := 38) hi3 hi4 dW_append_20 (by decide) (fun hc => ?_) (fun hc => ?_)
    · have h := h.1 hc
      exact tb_W_append_38 hO x1 f a h
    · have h := h.2 hc
      refine x_aload_n hx hb dW_append_23 rfl 0 rfl ?_
      refine x_dup hx hb rfl dW_append_24 ?_
      refine x_get hx hb hts (jnW _) hown hK _ (woW ad cA f a) rfl 1 (by decide) (hts _ (List.mem_cons_of_mem _ kfW_15)) (fun _ h9 => h9) (v := .int (iI (f 1 1))) (by rfl) dW_append_25 ?_
      refine x_iconst hx hb dW_append_28 ?_
      refine x_isub hx hb dW_append_29 ?_
      refine x_put hx hb hts (jnW _) tyW tkW nmW hown hK _ (woW ad cA f a) rfl 1 (by decide) (hts _ (List.mem_cons_of_mem _ kfW_15)) (fun _ h9 => h9) rfl (by decide +kernel) (Nat.le_of_ble_eq_true rfl) dW_append_30 (wf1W ad cA f a ((f 1 1) - 1)) ?_
      refine x_aload_n hx hb dW_append_33 rfl 0 rfl ?_
      refine x_get hx hb hts (jnW _) hown hK _ (woW ad cA (setF f 1 1 ((f 1 1) - 1)) a) rfl 1 (by decide) (hts _ (List.mem_cons_of_mem _ kfW_15)) (fun _ h9 => h9) (v := .int (iI ((setF f 1 1 ((f 1 1) - 1)) 1 1))) (by rfl) dW_append_34 ?_
      refine x_eqi (setF_s f 1 1 ((f 1 1) - 1)) ?_
      exact x_iret hx hb hr hlk hK dW_append_37 h
-- X_letter
abbrev rmX_letter : Room := { frames := 1, cells := 0, slots := 0, locals := 21 }
abbrev gX_letter (p : Program) (l : Launch) (e : Env) (s : State) (m : MethodId) (args : Array Value) (below : List Frame) (meth : Method) (c : Code) (A : Nat → Prop) (D : va_G) (ad : Nat → Nat → Nat) (cA : Nat → Nat → ClassId) (post : Int → fS → aS → Prop) (f : fS) (a : aS) (lv : List (Nat × Value)) (pc : Nat) (st : List Value) : Prop := xV p l e rmX_letter s m args below meth c s.heap A 0 0 (xQI below D vwCl (taC cA) (CW ad cA) post A args s) D vwCl 2 (CW ad cA f a) lv pc st
def wb_X_letter_20 (post : Int → fS → aS → Prop) (y0 : Int) (f : fS) (a : aS) : Prop := post y0 f a
set_option maxHeartbeats 4000000 in
set_option maxRecDepth 100000 in
theorem tb_X_letter_20 {p : Program} {l : Launch} {e : Env} {s : State} {m : MethodId} {args : Array Value} {below : List Frame} {meth : Method} {c : Code} {A : Nat → Prop} {D : va_G} {ad : Nat → Nat → Nat} {cA : Nat → Nat → ClassId} {post : Int → fS → aS → Prop} (hO : xOk cX_letter 2 RX (Cond.code yX_letter cX_letter 2 (some .int) :: xG) (some .int) p s m args meth c A D vwCl (taC cA)) : ∀ (y0 : Int) (f : fS) (a : aS), wb_X_letter_20 post y0 f a → gX_letter p l e s m args below meth c A D ad cA post f a [] 20 [.int (iI y0)] := by
  have hO9 := hO
  obtain ⟨hx, hb, hml, hown, hts, hr, hlk, hK, hN, hA⟩ := hO9
  intro y0 f a h
  unfold wb_X_letter_20 at h
  exact x_iret hx hb hr hlk hK dX_letter_20 h
def wp_X_letter (post : Int → fS → aS → Prop) (x1 : Int) (f : fS) (a : aS) : Prop := wp_X_isLetter (fun z1 f2 a3 => ir z1 ∧ (((z1 = 0) → (wb_X_letter_20 post (-1) f2 a3)) ∧ (¬ (z1 = 0) → (wp_W_append (fun z5 f6 a7 => wb_X_letter_20 post z5 f6 a7) x1 f2 a3)))) x1 f a
set_option maxHeartbeats 4000000 in
set_option maxRecDepth 100000 in
theorem m_X_letter {l : Launch} {D : va_G} {ad : Nat → Nat → Nat} {cA : Nat → Nat → ClassId} {post : Int → fS → aS → Prop} {x1 : Int} {f : fS} {a : aS} (h : wp_X_letter post x1 f a) : xCI l yX_letter (Cond.code yX_letter cX_letter 2 (some .int) :: xG) rmX_letter D vwCl (taC cA) (CW ad cA f a) [.ref (ad 0 0), .int (iI x1)] (CW ad cA) post := by
  refine x_metI (cc := cX_letter) (nL := 2) (by decide) rfl (Nat.le_of_ble_eq_true rfl) ?_
  intro p e s m below meth c A hO
  have hO9 := hO
  obtain ⟨hx, hb, hml, hown, hts, hr, hlk, hK, hN, hA⟩ := hO9
  unfold wp_X_letter at h
  show gX_letter p l e s m _ below meth c A D ad cA post f a [(0, .ref (ad 0 0)), (1, .int (iI x1))] 0 []
  refine x_aload_n hx hb dX_letter_0 rfl 0 rfl ?_
  refine x_iload_n hx hb dX_letter_1 rfl 1 rfl ?_
  refine x_cVi (n := 1) (st := []) (As := [.int (iI x1)]) ⟨hx, hb, hml, hown, hts⟩ hK hN (m_X_isLetter h) (x_cwV hts rfl rfl kcX_isLetter knX klX_43 kiX_isLetter keX_isLetter ⟨by decide, by decide, by decide +kernel⟩ ⟨by decide, by decide⟩) _ (woX ad cA f a) rfl hA rfl (Nat.le_of_ble_eq_true rfl) ⟨Nat.zero_le _, Nat.zero_le _⟩ rfl dX_letter_2 (fun z1 f2 a3 h => ?_)
  obtain ⟨hi4, h⟩ := h
  refine x_if_eq hx hb (tgt := 19) hi4  dX_letter_5 (by decide) (fun hc => ?_) (fun hc => ?_)
  · have h := h.1 hc
    refine x_iconst hx hb dX_letter_19 ?_
    refine x_sub [] rfl ?_
    exact tb_X_letter_20 hO (-1) f2 a3 h
  · have h := h.2 hc
    refine x_aload_n hx hb dX_letter_8 rfl 0 rfl ?_
    refine x_get hx hb hts (jnX _) hown hK _ (woX ad cA f2 a3) rfl 1 (by decide) (hts _ (List.mem_cons_of_mem _ kfX_25)) (fun _ h9 => h9) (v := .ref (ad 1 0)) (by rfl) dX_letter_9 ?_
    refine x_iload_n hx hb dX_letter_12 rfl 1 rfl ?_
    refine x_cVNi (n := 1) (st := []) (As := [.int (iI x1)]) ⟨hx, hb, hml, hown, hts⟩ hK hN (m_W_append h) (x_cwVN hts rfl rfl kcW_append knW hN nlX_47 kiW_append keW_append ⟨by decide, by decide, by decide +kernel⟩ ⟨by decide, by decide⟩) _ (woW ad cA f2 a3) rfl hA rfl (Nat.le_of_ble_eq_true rfl) ⟨Nat.zero_le _, Nat.zero_le _⟩ rfl dX_letter_13 (fun z5 f6 a7 h => ?_)
    refine x_goto hx hb (tgt := 20) dX_letter_16 (by decide) ?_
    refine x_sub [] rfl ?_
    exact tb_X_letter_20 hO z5 f6 a7 h
-- X_clear
abbrev rmX_clear : Room := { frames := 0, cells := 0, slots := 0, locals := 0 }
abbrev gX_clear (p : Program) (l : Launch) (e : Env) (s : State) (m : MethodId) (args : Array Value) (below : List Frame) (meth : Method) (c : Code) (A : Nat → Prop) (D : va_G) (ad : Nat → Nat → Nat) (cA : Nat → Nat → ClassId) (post : Int → fS → aS → Prop) (f : fS) (a : aS) (lv : List (Nat × Value)) (pc : Nat) (st : List Value) : Prop := xV p l e rmX_clear s m args below meth c s.heap A 0 0 (xQI below D vwCl (taC cA) (CW ad cA) post A args s) D vwCl 2 (CW ad cA f a) lv pc st
def wp_X_clear (post : Int → fS → aS → Prop) (f : fS) (a : aS) : Prop := ∀ t1 : Int, t1 = f 1 1 → (post t1 (setF f 1 1 0) a)
set_option maxHeartbeats 4000000 in
set_option maxRecDepth 100000 in
theorem m_X_clear {l : Launch} {D : va_G} {ad : Nat → Nat → Nat} {cA : Nat → Nat → ClassId} {post : Int → fS → aS → Prop} {f : fS} {a : aS} (h : wp_X_clear post  f a) : xCI l yX_clear (Cond.code yX_clear cX_clear 2 (some .int) :: xG) rmX_clear D vwCl (taC cA) (CW ad cA f a) [.ref (ad 0 0)] (CW ad cA) post := by
  refine x_metI (cc := cX_clear) (nL := 2) (by decide) rfl (Nat.le_of_ble_eq_true rfl) ?_
  intro p e s m below meth c A hO
  have hO9 := hO
  obtain ⟨hx, hb, hml, hown, hts, hr, hlk, hK, hN, hA⟩ := hO9
  unfold wp_X_clear at h
  show gX_clear p l e s m _ below meth c A D ad cA post f a [(0, .ref (ad 0 0))] 0 []
  refine x_aload_n hx hb dX_clear_0 rfl 0 rfl ?_
  refine x_get hx hb hts (jnX _) hown hK _ (woX ad cA f a) rfl 1 (by decide) (hts _ (List.mem_cons_of_mem _ kfX_25)) (fun _ h9 => h9) (v := .ref (ad 1 0)) (by rfl) dX_clear_1 ?_
  refine x_getN hx hb hts (jnW _) hown hK _ (woW ad cA f a) rfl 1 (by decide) (va_Nw.use rfl (hN.1 _ nfX_51)) (fun _ h9 => h9) (v := .int (iI (f 1 1))) (by rfl) dX_clear_4 ?_
  refine x_topi (fun t1 et1 => ?_)
  have h := h t1 et1
  refine x_istore_n hx hb dX_clear_7 rfl (by decide) (lv' := [(1, .int (iI t1)), (0, .ref (ad 0 0))]) rfl ?_
  refine x_aload_n hx hb dX_clear_8 rfl 1 rfl ?_
  refine x_get hx hb hts (jnX _) hown hK _ (woX ad cA f a) rfl 1 (by decide) (hts _ (List.mem_cons_of_mem _ kfX_25)) (fun _ h9 => h9) (v := .ref (ad 1 0)) (by rfl) dX_clear_9 ?_
  refine x_iconst hx hb dX_clear_12 ?_
  refine x_putN hx hb hts (jnW _) tyW tkW nmW hown hK _ (woW ad cA f a) rfl 1 (by decide) (va_Nw.use rfl (hN.1 _ nfX_51)) (fun _ h9 => h9) rfl (by decide +kernel) (Nat.le_of_ble_eq_true rfl) dX_clear_13 (wf1W ad cA f a 0) ?_
  refine x_iload_n hx hb dX_clear_16 rfl 0 rfl ?_
  exact x_iret hx hb hr hlk hK dX_clear_17 h
-- W_turnRound
abbrev rmW_turnRound : Room := { frames := 0, cells := 0, slots := 0, locals := 0 }
abbrev gW_turnRound (p : Program) (l : Launch) (e : Env) (s : State) (m : MethodId) (args : Array Value) (below : List Frame) (meth : Method) (c : Code) (A : Nat → Prop) (D : va_G) (ad : Nat → Nat → Nat) (cA : Nat → Nat → ClassId) (post : fS → aS → Prop) (f : fS) (a : aS) (lv : List (Nat × Value)) (pc : Nat) (st : List Value) : Prop := xV p l e rmW_turnRound s m args below meth c s.heap A 0 0 (xQV below D vwCl (taC cA) (CW ad cA) post A args s) D vwCl 4 (CW ad cA f a) lv pc st
def wb_W_turnRound_9 (post : fS → aS → Prop) : Nat → Int → Int → fS → aS → Prop
  | 0, _, _, _, _ => False
  | n + 1, x1, x2, f, a => ir x1 ∧ (ir x2 ∧ (((x2 < x1) → (post f a)) ∧ (¬ (x2 < x1) → ((0 ≤ x1 ∧ x1 < 24) ∧ (∀ t5 : Int, t5 = a 1 0 (Int.toNat x1) → ((0 ≤ x2 ∧ x2 < 24) ∧ (wb_W_turnRound_9 post n (x1 + 1) (x2 + (-1)) f (setA (setA a 1 0 (va_up (a 1 0) (Int.toNat x1) (-(a 1 0 (Int.toNat x2))))) 1 0 (va_up (va_up (a 1 0) (Int.toNat x1) (-(a 1 0 (Int.toNat x2)))) (Int.toNat x2) (-t5))))))))))
set_option maxHeartbeats 4000000 in
set_option maxRecDepth 100000 in
theorem tb_W_turnRound_9 {p : Program} {l : Launch} {e : Env} {s : State} {m : MethodId} {args : Array Value} {below : List Frame} {meth : Method} {c : Code} {A : Nat → Prop} {D : va_G} {ad : Nat → Nat → Nat} {cA : Nat → Nat → ClassId} {post : fS → aS → Prop} (hO : xOk cW_turnRound 4 RW (Cond.code yW_turnRound cW_turnRound 4 none :: xG) none p s m args meth c A D vwCl (taC cA)) : ∀ (n : Nat) (x1 : Int) (x2 : Int) (f : fS) (a : aS), wb_W_turnRound_9 post n x1 x2 f a → gW_turnRound p l e s m args below meth c A D ad cA post f a [(0, .ref (ad 1 0)), (1, .int (iI x1)), (2, .int (iI x2))] 9 [] := by
  have hO9 := hO
  obtain ⟨hx, hb, hml, hown, hts, hr, hlk, hK, hN, hA⟩ := hO9
  intro n
  induction n with
  | zero => intro x1 x2 f a h; exact False.elim h
  | succ n ih =>
    intro x1 x2 f a h
    rw [wb_W_turnRound_9] at h
    refine x_iload_n hx hb dW_turnRound_9 rfl 1 rfl ?_
    refine x_iload_n hx hb dW_turnRound_10 rfl 2 rfl ?_
    obtain ⟨hi2, h⟩ := h
    obtain ⟨hi3, h⟩ := h
    refine x_icmp_gt hx hb (tgt := 51) hi2 hi3 dW_turnRound_11 (by decide) (fun hc => ?_) (fun hc => ?_)
    · have h := h.1 hc
      exact x_vret hx hb hr hlk hK dW_turnRound_51 h
    · have h := h.2 hc
      refine x_aload_n hx hb dW_turnRound_14 rfl 0 rfl ?_
      refine x_get hx hb hts (jnW _) hown hK _ (woW ad cA f a) rfl 0 (by decide) (hts _ (List.mem_cons_of_mem _ kfW_9)) (fun _ h9 => h9) (v := .ref (ad 1 1)) (by rfl) dW_turnRound_15 ?_
      refine x_iload_n hx hb dW_turnRound_18 rfl 1 rfl ?_
      obtain ⟨hj4, h⟩ := h
      refine x_iald hx hb hK _ _ (wa0W ad cA f a) (wt0W cA) hj4.1 hj4.2 (by decide) dW_turnRound_19 ?_
      refine x_topi (fun t5 et5 => ?_)
      have h := h t5 et5
      refine x_istore_n hx hb dW_turnRound_20 rfl (by decide) (lv' := [(3, .int (iI t5)), (0, .ref (ad 1 0)), (1, .int (iI x1)), (2, .int (iI x2))]) rfl ?_
      refine x_aload_n hx hb dW_turnRound_21 rfl 1 rfl ?_
      refine x_get hx hb hts (jnW _) hown hK _ (woW ad cA f a) rfl 0 (by decide) (hts _ (List.mem_cons_of_mem _ kfW_9)) (fun _ h9 => h9) (v := .ref (ad 1 1)) (by rfl) dW_turnRound_22 ?_
      refine x_iload_n hx hb dW_turnRound_25 rfl 2 rfl ?_
      refine x_aload_n hx hb dW_turnRound_26 rfl 1 rfl ?_
      refine x_get hx hb hts (jnW _) hown hK _ (woW ad cA f a) rfl 0 (by decide) (hts _ (List.mem_cons_of_mem _ kfW_9)) (fun _ h9 => h9) (v := .ref (ad 1 1)) (by rfl) dW_turnRound_27 ?_
      refine x_iload_n hx hb dW_turnRound_30 rfl 3 rfl ?_
      obtain ⟨hj6, h⟩ := h
      refine x_iald hx hb hK _ _ (wa0W ad cA f a) (wt0W cA) hj6.1 hj6.2 (by decide) dW_turnRound_31 ?_
      refine x_ineg hx hb dW_turnRound_32 ?_
      refine x_iast hx hb hK _ _ (wa0W ad cA f a) (wt0W cA) hj4.1 hj4.2 (by decide) dW_turnRound_33 (ws0W ad cA f a (va_up (a 1 0) (Int.toNat x1) (-(a 1 0 (Int.toNat x2))))) ?_
      refine x_aload_n hx hb dW_turnRound_34 rfl 1 rfl ?_
      refine x_get hx hb hts (jnW _) hown hK _ (woW ad cA f (setA a 1 0 (va_up (a 1 0) (Int.toNat x1) (-(a 1 0 (Int.toNat x2)))))) rfl 0 (by decide) (hts _ (List.mem_cons_of_mem _ kfW_9)) (fun _ h9 => h9) (v := .ref (ad 1 1)) (by rfl) dW_turnRound_35 ?_
      refine x_iload_n hx hb dW_turnRound_38 rfl 3 rfl ?_
      refine x_iload_n hx hb dW_turnRound_39 rfl 0 rfl ?_
      refine x_ineg hx hb dW_turnRound_40 ?_
      refine x_iast hx hb hK _ _ (wa0W ad cA f (setA a 1 0 (va_up (a 1 0) (Int.toNat x1) (-(a 1 0 (Int.toNat x2)))))) (wt0W cA) hj6.1 hj6.2 (by decide) dW_turnRound_41 (Eq.trans (by rw [(setA_s a 1 0 (va_up (a 1 0) (Int.toNat x1) (-(a 1 0 (Int.toNat x2)))))]) (ws0W ad cA f (setA a 1 0 (va_up (a 1 0) (Int.toNat x1) (-(a 1 0 (Int.toNat x2))))) (va_up (va_up (a 1 0) (Int.toNat x1) (-(a 1 0 (Int.toNat x2)))) (Int.toNat x2) (-t5)))) ?_
      refine x_iinc hx hb dW_turnRound_42 2 rfl (by decide) (lv' := [(1, .int (iI (x1 + 1))), (3, .int (iI t5)), (0, .ref (ad 1 0)), (2, .int (iI x2))]) rfl ?_
      refine x_iinc hx hb dW_turnRound_45 3 rfl (by decide) (lv' := [(2, .int (iI (x2 + (-1)))), (1, .int (iI (x1 + 1))), (3, .int (iI t5)), (0, .ref (ad 1 0))]) rfl ?_
      refine x_goto hx hb (tgt := 9) dW_turnRound_48 (by decide) ?_
      refine x_sub [3, 1, 0] rfl ?_
      exact ih (x1 + 1) (x2 + (-1)) f (setA (setA a 1 0 (va_up (a 1 0) (Int.toNat x1) (-(a 1 0 (Int.toNat x2))))) 1 0 (va_up (va_up (a 1 0) (Int.toNat x1) (-(a 1 0 (Int.toNat x2)))) (Int.toNat x2) (-t5))) h
def wp_W_turnRound (post : fS → aS → Prop) (f : fS) (a : aS) : Prop := ∀ t1 : Int, t1 = (f 1 1) - 1 → (∃ j, wb_W_turnRound_9 post j 0 t1 f a)
set_option maxHeartbeats 4000000 in
set_option maxRecDepth 100000 in
theorem m_W_turnRound {l : Launch} {D : va_G} {ad : Nat → Nat → Nat} {cA : Nat → Nat → ClassId} {post : fS → aS → Prop} {f : fS} {a : aS} (h : wp_W_turnRound post  f a) : xCV l yW_turnRound (Cond.code yW_turnRound cW_turnRound 4 none :: xG) rmW_turnRound D vwCl (taC cA) (CW ad cA f a) [.ref (ad 1 0)] (CW ad cA) post := by
  refine x_metV (cc := cW_turnRound) (nL := 4) (by decide) rfl (Nat.le_of_ble_eq_true rfl) ?_
  intro p e s m below meth c A hO
  have hO9 := hO
  obtain ⟨hx, hb, hml, hown, hts, hr, hlk, hK, hN, hA⟩ := hO9
  unfold wp_W_turnRound at h
  show gW_turnRound p l e s m _ below meth c A D ad cA post f a [(0, .ref (ad 1 0))] 0 []
  refine x_iconst hx hb dW_turnRound_0 ?_
  refine x_istore_n hx hb dW_turnRound_1 rfl (by decide) (lv' := [(1, .int (iI 0)), (0, .ref (ad 1 0))]) rfl ?_
  refine x_aload_n hx hb dW_turnRound_2 rfl 1 rfl ?_
  refine x_get hx hb hts (jnW _) hown hK _ (woW ad cA f a) rfl 1 (by decide) (hts _ (List.mem_cons_of_mem _ kfW_15)) (fun _ h9 => h9) (v := .int (iI (f 1 1))) (by rfl) dW_turnRound_3 ?_
  refine x_iconst hx hb dW_turnRound_6 ?_
  refine x_isub hx hb dW_turnRound_7 ?_
  refine x_topi (fun t1 et1 => ?_)
  have h := h t1 et1
  refine x_istore_n hx hb dW_turnRound_8 rfl (by decide) (lv' := [(2, .int (iI t1)), (1, .int (iI 0)), (0, .ref (ad 1 0))]) rfl ?_
  obtain ⟨j, h⟩ := h
  refine x_sub [2, 1, 0] rfl ?_
  exact tb_W_turnRound_9 hO j 0 t1 f a h
-- X_invert
abbrev rmX_invert : Room := { frames := 1, cells := 0, slots := 0, locals := 23 }
abbrev gX_invert (p : Program) (l : Launch) (e : Env) (s : State) (m : MethodId) (args : Array Value) (below : List Frame) (meth : Method) (c : Code) (A : Nat → Prop) (D : va_G) (ad : Nat → Nat → Nat) (cA : Nat → Nat → ClassId) (post : Int → fS → aS → Prop) (f : fS) (a : aS) (lv : List (Nat × Value)) (pc : Nat) (st : List Value) : Prop := xV p l e rmX_invert s m args below meth c s.heap A 0 0 (xQI below D vwCl (taC cA) (CW ad cA) post A args s) D vwCl 1 (CW ad cA f a) lv pc st
def wp_X_invert (post : Int → fS → aS → Prop) (f : fS) (a : aS) : Prop := wp_W_turnRound (fun f2 a3 => post (f2 1 1) f2 a3)  f a
set_option maxHeartbeats 4000000 in
set_option maxRecDepth 100000 in
theorem m_X_invert {l : Launch} {D : va_G} {ad : Nat → Nat → Nat} {cA : Nat → Nat → ClassId} {post : Int → fS → aS → Prop} {f : fS} {a : aS} (h : wp_X_invert post  f a) : xCI l yX_invert (Cond.code yX_invert cX_invert 1 (some .int) :: xG) rmX_invert D vwCl (taC cA) (CW ad cA f a) [.ref (ad 0 0)] (CW ad cA) post := by
  refine x_metI (cc := cX_invert) (nL := 1) (by decide) rfl (Nat.le_of_ble_eq_true rfl) ?_
  intro p e s m below meth c A hO
  have hO9 := hO
  obtain ⟨hx, hb, hml, hown, hts, hr, hlk, hK, hN, hA⟩ := hO9
  unfold wp_X_invert at h
  show gX_invert p l e s m _ below meth c A D ad cA post f a [(0, .ref (ad 0 0))] 0 []
  refine x_aload_n hx hb dX_invert_0 rfl 0 rfl ?_
  refine x_get hx hb hts (jnX _) hown hK _ (woX ad cA f a) rfl 1 (by decide) (hts _ (List.mem_cons_of_mem _ kfX_25)) (fun _ h9 => h9) (v := .ref (ad 1 0)) (by rfl) dX_invert_1 ?_
  refine x_cVNv (n := 0) (st := []) (As := []) ⟨hx, hb, hml, hown, hts⟩ hK hN (m_W_turnRound h) (x_cwVN hts rfl rfl kcW_turnRound knW hN nlX_54 kiW_turnRound keW_turnRound ⟨by decide, by decide, by decide +kernel⟩ ⟨by decide, by decide⟩) _ (woW ad cA f a) rfl hA rfl (Nat.le_of_ble_eq_true rfl) ⟨Nat.zero_le _, Nat.zero_le _⟩ rfl dX_invert_4 (fun f2 a3 h => ?_)
  refine x_aload_n hx hb dX_invert_7 rfl 0 rfl ?_
  refine x_get hx hb hts (jnX _) hown hK _ (woX ad cA f2 a3) rfl 1 (by decide) (hts _ (List.mem_cons_of_mem _ kfX_25)) (fun _ h9 => h9) (v := .ref (ad 1 0)) (by rfl) dX_invert_8 ?_
  refine x_getN hx hb hts (jnW _) hown hK _ (woW ad cA f2 a3) rfl 1 (by decide) (va_Nw.use rfl (hN.1 _ nfX_51)) (fun _ h9 => h9) (v := .int (iI (f2 1 1))) (by rfl) dX_invert_11 ?_
  exact x_iret hx hb hr hlk hK dX_invert_14 h
-- X_at
abbrev rmX_at : Room := { frames := 0, cells := 0, slots := 0, locals := 0 }
abbrev gX_at (p : Program) (l : Launch) (e : Env) (s : State) (m : MethodId) (args : Array Value) (below : List Frame) (meth : Method) (c : Code) (A : Nat → Prop) (D : va_G) (ad : Nat → Nat → Nat) (cA : Nat → Nat → ClassId) (post : Int → fS → aS → Prop) (f : fS) (a : aS) (lv : List (Nat × Value)) (pc : Nat) (st : List Value) : Prop := xV p l e rmX_at s m args below meth c s.heap A 0 0 (xQI below D vwCl (taC cA) (CW ad cA) post A args s) D vwCl 2 (CW ad cA f a) lv pc st
def wb_X_at_28 (post : Int → fS → aS → Prop) (y0 : Int) (f : fS) (a : aS) : Prop := post y0 f a
set_option maxHeartbeats 4000000 in
set_option maxRecDepth 100000 in
theorem tb_X_at_28 {p : Program} {l : Launch} {e : Env} {s : State} {m : MethodId} {args : Array Value} {below : List Frame} {meth : Method} {c : Code} {A : Nat → Prop} {D : va_G} {ad : Nat → Nat → Nat} {cA : Nat → Nat → ClassId} {post : Int → fS → aS → Prop} (hO : xOk cX_at 2 RX (Cond.code yX_at cX_at 2 (some .int) :: xG) (some .int) p s m args meth c A D vwCl (taC cA)) : ∀ (y0 : Int) (f : fS) (a : aS), wb_X_at_28 post y0 f a → gX_at p l e s m args below meth c A D ad cA post f a [] 28 [.int (iI y0)] := by
  have hO9 := hO
  obtain ⟨hx, hb, hml, hown, hts, hr, hlk, hK, hN, hA⟩ := hO9
  intro y0 f a h
  unfold wb_X_at_28 at h
  exact x_iret hx hb hr hlk hK dX_at_28 h
def wb_X_at_27 (post : Int → fS → aS → Prop) (f : fS) (a : aS) : Prop := wb_X_at_28 post 0 f a
set_option maxHeartbeats 4000000 in
set_option maxRecDepth 100000 in
theorem tb_X_at_27 {p : Program} {l : Launch} {e : Env} {s : State} {m : MethodId} {args : Array Value} {below : List Frame} {meth : Method} {c : Code} {A : Nat → Prop} {D : va_G} {ad : Nat → Nat → Nat} {cA : Nat → Nat → ClassId} {post : Int → fS → aS → Prop} (hO : xOk cX_at 2 RX (Cond.code yX_at cX_at 2 (some .int) :: xG) (some .int) p s m args meth c A D vwCl (taC cA)) : ∀ (f : fS) (a : aS), wb_X_at_27 post f a → gX_at p l e s m args below meth c A D ad cA post f a [] 27 [] := by
  have hO9 := hO
  obtain ⟨hx, hb, hml, hown, hts, hr, hlk, hK, hN, hA⟩ := hO9
  intro f a h
  unfold wb_X_at_27 at h
  refine x_iconst hx hb dX_at_27 ?_
  exact tb_X_at_28 hO 0 f a h
def wp_X_at (post : Int → fS → aS → Prop) (x1 : Int) (f : fS) (a : aS) : Prop := ir x1 ∧ (((x1 < 0) → (wb_X_at_27 post f a)) ∧ (¬ (x1 < 0) → (ir (f 1 1) ∧ (((f 1 1 ≤ x1) → (wb_X_at_27 post f a)) ∧ (¬ (f 1 1 ≤ x1) → ((0 ≤ x1 ∧ x1 < 24) ∧ (wb_X_at_28 post (a 1 0 (Int.toNat x1)) f a)))))))
set_option maxHeartbeats 4000000 in
set_option maxRecDepth 100000 in
theorem m_X_at {l : Launch} {D : va_G} {ad : Nat → Nat → Nat} {cA : Nat → Nat → ClassId} {post : Int → fS → aS → Prop} {x1 : Int} {f : fS} {a : aS} (h : wp_X_at post x1 f a) : xCI l yX_at (Cond.code yX_at cX_at 2 (some .int) :: xG) rmX_at D vwCl (taC cA) (CW ad cA f a) [.ref (ad 0 0), .int (iI x1)] (CW ad cA) post := by
  refine x_metI (cc := cX_at) (nL := 2) (by decide) rfl (Nat.le_of_ble_eq_true rfl) ?_
  intro p e s m below meth c A hO
  have hO9 := hO
  obtain ⟨hx, hb, hml, hown, hts, hr, hlk, hK, hN, hA⟩ := hO9
  unfold wp_X_at at h
  show gX_at p l e s m _ below meth c A D ad cA post f a [(0, .ref (ad 0 0)), (1, .int (iI x1))] 0 []
  refine x_iload_n hx hb dX_at_0 rfl 1 rfl ?_
  obtain ⟨hi1, h⟩ := h
  refine x_if_lt hx hb (tgt := 27) hi1  dX_at_1 (by decide) (fun hc => ?_) (fun hc => ?_)
  · have h := h.1 hc
    refine x_sub [] rfl ?_
    exact tb_X_at_27 hO f a h
  · have h := h.2 hc
    refine x_iload_n hx hb dX_at_4 rfl 1 rfl ?_
    refine x_aload_n hx hb dX_at_5 rfl 0 rfl ?_
    refine x_get hx hb hts (jnX _) hown hK _ (woX ad cA f a) rfl 1 (by decide) (hts _ (List.mem_cons_of_mem _ kfX_25)) (fun _ h9 => h9) (v := .ref (ad 1 0)) (by rfl) dX_at_6 ?_
    refine x_getN hx hb hts (jnW _) hown hK _ (woW ad cA f a) rfl 1 (by decide) (va_Nw.use rfl (hN.1 _ nfX_51)) (fun _ h9 => h9) (v := .int (iI (f 1 1))) (by rfl) dX_at_9 ?_
    obtain ⟨hi2, h⟩ := h
    refine x_icmp_ge hx hb (tgt := 27) hi1 hi2 dX_at_12 (by decide) (fun hc => ?_) (fun hc => ?_)
    · have h := h.1 hc
      refine x_sub [] rfl ?_
      exact tb_X_at_27 hO f a h
    · have h := h.2 hc
      refine x_aload_n hx hb dX_at_15 rfl 0 rfl ?_
      refine x_get hx hb hts (jnX _) hown hK _ (woX ad cA f a) rfl 1 (by decide) (hts _ (List.mem_cons_of_mem _ kfX_25)) (fun _ h9 => h9) (v := .ref (ad 1 0)) (by rfl) dX_at_16 ?_
      refine x_getN hx hb hts (jnW _) hown hK _ (woW ad cA f a) rfl 0 (by decide) (va_Nw.use rfl (hN.1 _ nfX_57)) (fun _ h9 => h9) (v := .ref (ad 1 1)) (by rfl) dX_at_19 ?_
      refine x_iload_n hx hb dX_at_22 rfl 1 rfl ?_
      obtain ⟨hj3, h⟩ := h
      refine x_iald hx hb hK _ _ (wa0W ad cA f a) (wt0W cA) hj3.1 hj3.2 (by decide) dX_at_23 ?_
      refine x_goto hx hb (tgt := 28) dX_at_24 (by decide) ?_
      refine x_sub [] rfl ?_
      exact tb_X_at_28 hO (a 1 0 (Int.toNat x1)) f a h
-- X_isSubgroup
abbrev rmX_isSubgroup : Room := { frames := 0, cells := 0, slots := 0, locals := 0 }
abbrev gX_isSubgroup (p : Program) (l : Launch) (e : Env) (s : State) (m : MethodId) (args : Array Value) (below : List Frame) (meth : Method) (c : Code) (A : Nat → Prop) (D : va_G) (ad : Nat → Nat → Nat) (cA : Nat → Nat → ClassId) (post : Int → fS → aS → Prop) (f : fS) (a : aS) (lv : List (Nat × Value)) (pc : Nat) (st : List Value) : Prop := xV p l e rmX_isSubgroup s m args below meth c s.heap A 0 0 (xQI below D vwCl (taC cA) (CW ad cA) post A args s) D vwCl 2 (CW ad cA f a) lv pc st
def wb_X_isSubgroup_14 (post : Int → fS → aS → Prop) (y0 : Int) (f : fS) (a : aS) : Prop := (y0 = 0 ∨ y0 = 1) ∧ post y0 f a
set_option maxHeartbeats 4000000 in
set_option maxRecDepth 100000 in
theorem tb_X_isSubgroup_14 {p : Program} {l : Launch} {e : Env} {s : State} {m : MethodId} {args : Array Value} {below : List Frame} {meth : Method} {c : Code} {A : Nat → Prop} {D : va_G} {ad : Nat → Nat → Nat} {cA : Nat → Nat → ClassId} {post : Int → fS → aS → Prop} (hO : xOk cX_isSubgroup 2 RX (Cond.code yX_isSubgroup cX_isSubgroup 2 (some .boolean) :: xG) (some .boolean) p s m args meth c A D vwCl (taC cA)) : ∀ (y0 : Int) (f : fS) (a : aS), wb_X_isSubgroup_14 post y0 f a → gX_isSubgroup p l e s m args below meth c A D ad cA post f a [] 14 [.int (iI y0)] := by
  have hO9 := hO
  obtain ⟨hx, hb, hml, hown, hts, hr, hlk, hK, hN, hA⟩ := hO9
  intro y0 f a h
  unfold wb_X_isSubgroup_14 at h
  exact x_zret hx hb hr hlk hK dX_isSubgroup_14 h.1 h.2
def wb_X_isSubgroup_13 (post : Int → fS → aS → Prop) (f : fS) (a : aS) : Prop := wb_X_isSubgroup_14 post 0 f a
set_option maxHeartbeats 4000000 in
set_option maxRecDepth 100000 in
theorem tb_X_isSubgroup_13 {p : Program} {l : Launch} {e : Env} {s : State} {m : MethodId} {args : Array Value} {below : List Frame} {meth : Method} {c : Code} {A : Nat → Prop} {D : va_G} {ad : Nat → Nat → Nat} {cA : Nat → Nat → ClassId} {post : Int → fS → aS → Prop} (hO : xOk cX_isSubgroup 2 RX (Cond.code yX_isSubgroup cX_isSubgroup 2 (some .boolean) :: xG) (some .boolean) p s m args meth c A D vwCl (taC cA)) : ∀ (f : fS) (a : aS), wb_X_isSubgroup_13 post f a → gX_isSubgroup p l e s m args below meth c A D ad cA post f a [] 13 [] := by
  have hO9 := hO
  obtain ⟨hx, hb, hml, hown, hts, hr, hlk, hK, hN, hA⟩ := hO9
  intro f a h
  unfold wb_X_isSubgroup_13 at h
  refine x_iconst hx hb dX_isSubgroup_13 ?_
  exact tb_X_isSubgroup_14 hO 0 f a h
def wp_X_isSubgroup (post : Int → fS → aS → Prop) (x1 : Int) (f : fS) (a : aS) : Prop := ir x1 ∧ (((x1 < 0) → (wb_X_isSubgroup_13 post f a)) ∧ (¬ (x1 < 0) → (((4 ≤ x1) → (wb_X_isSubgroup_13 post f a)) ∧ (¬ (4 ≤ x1) → (wb_X_isSubgroup_14 post 1 f a)))))
set_option maxHeartbeats 4000000 in
set_option maxRecDepth 100000 in
theorem m_X_isSubgroup {l : Launch} {D : va_G} {ad : Nat → Nat → Nat} {cA : Nat → Nat → ClassId} {post : Int → fS → aS → Prop} {x1 : Int} {f : fS} {a : aS} (h : wp_X_isSubgroup post x1 f a) : xCI l yX_isSubgroup (Cond.code yX_isSubgroup cX_isSubgroup 2 (some .boolean) :: xG) rmX_isSubgroup D vwCl (taC cA) (CW ad cA f a) [.ref (ad 0 0), .int (iI x1)] (CW ad cA) post := by
  refine x_metI (cc := cX_isSubgroup) (nL := 2) (by decide) rfl (Nat.le_of_ble_eq_true rfl) ?_
  intro p e s m below meth c A hO
  have hO9 := hO
  obtain ⟨hx, hb, hml, hown, hts, hr, hlk, hK, hN, hA⟩ := hO9
  unfold wp_X_isSubgroup at h
  show gX_isSubgroup p l e s m _ below meth c A D ad cA post f a [(0, .ref (ad 0 0)), (1, .int (iI x1))] 0 []
  refine x_iload_n hx hb dX_isSubgroup_0 rfl 1 rfl ?_
  obtain ⟨hi1, h⟩ := h
  refine x_if_lt hx hb (tgt := 13) hi1  dX_isSubgroup_1 (by decide) (fun hc => ?_) (fun hc => ?_)
  · have h := h.1 hc
    refine x_sub [] rfl ?_
    exact tb_X_isSubgroup_13 hO f a h
  · have h := h.2 hc
    refine x_iload_n hx hb dX_isSubgroup_4 rfl 1 rfl ?_
    refine x_iconst hx hb dX_isSubgroup_5 ?_
    refine x_icmp_ge hx hb (tgt := 13) hi1 (by decide) dX_isSubgroup_6 (by decide) (fun hc => ?_) (fun hc => ?_)
    · have h := h.1 hc
      refine x_sub [] rfl ?_
      exact tb_X_isSubgroup_13 hO f a h
    · have h := h.2 hc
      refine x_iconst hx hb dX_isSubgroup_9 ?_
      refine x_goto hx hb (tgt := 14) dX_isSubgroup_10 (by decide) ?_
      refine x_sub [] rfl ?_
      exact tb_X_isSubgroup_14 hO 1 f a h
-- G_slotOfElement
abbrev rmG_slotOfElement : Room := { frames := 0, cells := 0, slots := 0, locals := 0 }
abbrev gG_slotOfElement (p : Program) (l : Launch) (e : Env) (s : State) (m : MethodId) (args : Array Value) (below : List Frame) (meth : Method) (c : Code) (A : Nat → Prop) (D : va_G) (ad : Nat → Nat → Nat) (cA : Nat → Nat → ClassId) (post : Int → fS → aS → Prop) (f : fS) (a : aS) (lv : List (Nat × Value)) (pc : Nat) (st : List Value) : Prop := xV p l e rmG_slotOfElement s m args below meth c s.heap A 0 0 (xQI below D vwCl (taC cA) (CW ad cA) post A args s) D vwCl 3 (CW ad cA f a) lv pc st
def wb_G_slotOfElement_12 (post : Int → fS → aS → Prop) (f : fS) (a : aS) : Prop := post (-1) f a
set_option maxHeartbeats 4000000 in
set_option maxRecDepth 100000 in
theorem tb_G_slotOfElement_12 {p : Program} {l : Launch} {e : Env} {s : State} {m : MethodId} {args : Array Value} {below : List Frame} {meth : Method} {c : Code} {A : Nat → Prop} {D : va_G} {ad : Nat → Nat → Nat} {cA : Nat → Nat → ClassId} {post : Int → fS → aS → Prop} (hO : xOk cG_slotOfElement 3 RG (Cond.code yG_slotOfElement cG_slotOfElement 3 (some .int) :: xG) (some .int) p s m args meth c A D vwCl (taC cA)) : ∀ (f : fS) (a : aS), wb_G_slotOfElement_12 post f a → gG_slotOfElement p l e s m args below meth c A D ad cA post f a [] 12 [] := by
  have hO9 := hO
  obtain ⟨hx, hb, hml, hown, hts, hr, hlk, hK, hN, hA⟩ := hO9
  intro f a h
  unfold wb_G_slotOfElement_12 at h
  refine x_iconst hx hb dG_slotOfElement_12 ?_
  exact x_iret hx hb hr hlk hK dG_slotOfElement_13 h
def wb_G_slotOfElement_16 (post : Int → fS → aS → Prop) : Nat → Nat → Int → Int → fS → aS → Prop
  | 0, _, _, _, _, _ => False
  | n + 1, o0, x1, x2, f, a => (3 ≤ o0 ∧ o0 < 7) ∧ (ir x2 ∧ (ir ((f o0 0) * 6) ∧ ((((f o0 0) * 6 ≤ x2) → (post (-1) f a)) ∧ (¬ ((f o0 0) * 6 ≤ x2) → ((0 ≤ x2 ∧ x2 < 384) ∧ (ir (a o0 4 (Int.toNat x2)) ∧ (ir (x1 + 1) ∧ (((¬ a o0 4 (Int.toNat x2) = x1 + 1) → (wb_G_slotOfElement_16 post n o0 x1 (x2 + 1) f a)) ∧ (¬ (¬ a o0 4 (Int.toNat x2) = x1 + 1) → (post x2 f a))))))))))
set_option maxHeartbeats 4000000 in
set_option maxRecDepth 100000 in
theorem tb_G_slotOfElement_16 {p : Program} {l : Launch} {e : Env} {s : State} {m : MethodId} {args : Array Value} {below : List Frame} {meth : Method} {c : Code} {A : Nat → Prop} {D : va_G} {ad : Nat → Nat → Nat} {cA : Nat → Nat → ClassId} {post : Int → fS → aS → Prop} (hO : xOk cG_slotOfElement 3 RG (Cond.code yG_slotOfElement cG_slotOfElement 3 (some .int) :: xG) (some .int) p s m args meth c A D vwCl (taC cA)) : ∀ (n : Nat) (o0 : Nat) (x1 : Int) (x2 : Int) (f : fS) (a : aS), wb_G_slotOfElement_16 post n o0 x1 x2 f a → gG_slotOfElement p l e s m args below meth c A D ad cA post f a [(0, .ref (ad o0 0)), (1, .int (iI x1)), (2, .int (iI x2))] 16 [] := by
  have hO9 := hO
  obtain ⟨hx, hb, hml, hown, hts, hr, hlk, hK, hN, hA⟩ := hO9
  intro n
  induction n with
  | zero => intro o0 x1 x2 f a h; exact False.elim h
  | succ n ih =>
    intro o0 x1 x2 f a h
    rw [wb_G_slotOfElement_16] at h
    refine x_iload_n hx hb dG_slotOfElement_16 rfl 2 rfl ?_
    refine x_aload_n hx hb dG_slotOfElement_17 rfl 0 rfl ?_
    obtain ⟨hg4, h⟩ := h
    refine x_get hx hb hts (jnG _) hown hK _ (woG ad cA f a o0 hg4) rfl 0 (by decide) (hts _ (List.mem_cons_of_mem _ kfG_33)) (fun _ h9 => h9) (v := .int (iI (f o0 0))) (by rfl) dG_slotOfElement_18 ?_
    refine x_bipush hx hb dG_slotOfElement_21 (by decide) ?_
    refine x_imul hx hb dG_slotOfElement_23 ?_
    obtain ⟨hi5, h⟩ := h
    obtain ⟨hi6, h⟩ := h
    refine x_icmp_ge hx hb (tgt := 47) hi5 hi6 dG_slotOfElement_24 (by decide) (fun hc => ?_) (fun hc => ?_)
    · have h := h.1 hc
      refine x_iconst hx hb dG_slotOfElement_47 ?_
      exact x_iret hx hb hr hlk hK dG_slotOfElement_48 h
    · have h := h.2 hc
      refine x_aload_n hx hb dG_slotOfElement_27 rfl 0 rfl ?_
      refine x_get hx hb hts (jnG _) hown hK _ (woG ad cA f a o0 hg4) rfl 4 (by decide) (hts _ (List.mem_cons_of_mem _ kfG_15)) (fun _ h9 => h9) (v := .ref (ad o0 5)) (by rfl) dG_slotOfElement_28 ?_
      refine x_iload_n hx hb dG_slotOfElement_31 rfl 2 rfl ?_
      obtain ⟨hj7, h⟩ := h
      refine x_iald hx hb hK _ _ (wa4G ad cA f a o0 hg4) (wt4G cA o0 hg4) hj7.1 hj7.2 (by decide) dG_slotOfElement_32 ?_
      refine x_iload_n hx hb dG_slotOfElement_33 rfl 1 rfl ?_
      refine x_iconst hx hb dG_slotOfElement_34 ?_
      refine x_iadd hx hb dG_slotOfElement_35 ?_
      obtain ⟨hi8, h⟩ := h
      obtain ⟨hi9, h⟩ := h
      refine x_icmp_ne hx hb (tgt := 41) hi8 hi9 dG_slotOfElement_36 (by decide) (fun hc => ?_) (fun hc => ?_)
      · have h := h.1 hc
        refine x_iinc hx hb dG_slotOfElement_41 2 rfl (by decide) (lv' := [(2, .int (iI (x2 + 1))), (0, .ref (ad o0 0)), (1, .int (iI x1))]) rfl ?_
        refine x_goto hx hb (tgt := 16) dG_slotOfElement_44 (by decide) ?_
        refine x_sub [1, 2, 0] rfl ?_
        exact ih o0 x1 (x2 + 1) f a h
      · have h := h.2 hc
        refine x_iload_n hx hb dG_slotOfElement_39 rfl 2 rfl ?_
        exact x_iret hx hb hr hlk hK dG_slotOfElement_40 h
def wp_G_slotOfElement (post : Int → fS → aS → Prop) (o0 : Nat) (x1 : Int) (f : fS) (a : aS) : Prop := ir x1 ∧ (((x1 < 0) → (wb_G_slotOfElement_12 post f a)) ∧ (¬ (x1 < 0) → ((3 ≤ o0 ∧ o0 < 7) ∧ (ir (f o0 2) ∧ (((x1 < f o0 2) → (∃ j, wb_G_slotOfElement_16 post j o0 x1 0 f a)) ∧ (¬ (x1 < f o0 2) → (wb_G_slotOfElement_12 post f a)))))))
set_option maxHeartbeats 4000000 in
set_option maxRecDepth 100000 in
theorem m_G_slotOfElement {l : Launch} {D : va_G} {ad : Nat → Nat → Nat} {cA : Nat → Nat → ClassId} {post : Int → fS → aS → Prop} {o0 : Nat} {x1 : Int} {f : fS} {a : aS} (h : wp_G_slotOfElement post o0 x1 f a) : xCI l yG_slotOfElement (Cond.code yG_slotOfElement cG_slotOfElement 3 (some .int) :: xG) rmG_slotOfElement D vwCl (taC cA) (CW ad cA f a) [.ref (ad o0 0), .int (iI x1)] (CW ad cA) post := by
  refine x_metI (cc := cG_slotOfElement) (nL := 3) (by decide) rfl (Nat.le_of_ble_eq_true rfl) ?_
  intro p e s m below meth c A hO
  have hO9 := hO
  obtain ⟨hx, hb, hml, hown, hts, hr, hlk, hK, hN, hA⟩ := hO9
  unfold wp_G_slotOfElement at h
  show gG_slotOfElement p l e s m _ below meth c A D ad cA post f a [(0, .ref (ad o0 0)), (1, .int (iI x1))] 0 []
  refine x_iload_n hx hb dG_slotOfElement_0 rfl 1 rfl ?_
  obtain ⟨hi1, h⟩ := h
  refine x_if_lt hx hb (tgt := 12) hi1  dG_slotOfElement_1 (by decide) (fun hc => ?_) (fun hc => ?_)
  · have h := h.1 hc
    refine x_sub [] rfl ?_
    exact tb_G_slotOfElement_12 hO f a h
  · have h := h.2 hc
    refine x_iload_n hx hb dG_slotOfElement_4 rfl 1 rfl ?_
    refine x_aload_n hx hb dG_slotOfElement_5 rfl 0 rfl ?_
    obtain ⟨hg2, h⟩ := h
    refine x_get hx hb hts (jnG _) hown hK _ (woG ad cA f a o0 hg2) rfl 2 (by decide) (hts _ (List.mem_cons_of_mem _ kfG_40)) (fun _ h9 => h9) (v := .int (iI (f o0 2))) (by rfl) dG_slotOfElement_6 ?_
    obtain ⟨hi3, h⟩ := h
    refine x_icmp_lt hx hb (tgt := 14) hi1 hi3 dG_slotOfElement_9 (by decide) (fun hc => ?_) (fun hc => ?_)
    · have h := h.1 hc
      refine x_iconst hx hb dG_slotOfElement_14 ?_
      refine x_istore_n hx hb dG_slotOfElement_15 rfl (by decide) (lv' := [(2, .int (iI 0)), (0, .ref (ad o0 0)), (1, .int (iI x1))]) rfl ?_
      obtain ⟨j, h⟩ := h
      refine x_sub [1, 2, 0] rfl ?_
      exact tb_G_slotOfElement_16 hO j o0 x1 0 f a h
    · have h := h.2 hc
      refine x_sub [] rfl ?_
      exact tb_G_slotOfElement_12 hO f a h
-- G_elementSize
abbrev rmG_elementSize : Room := { frames := 0, cells := 0, slots := 0, locals := 0 }
abbrev gG_elementSize (p : Program) (l : Launch) (e : Env) (s : State) (m : MethodId) (args : Array Value) (below : List Frame) (meth : Method) (c : Code) (A : Nat → Prop) (D : va_G) (ad : Nat → Nat → Nat) (cA : Nat → Nat → ClassId) (post : Int → fS → aS → Prop) (f : fS) (a : aS) (lv : List (Nat × Value)) (pc : Nat) (st : List Value) : Prop := xV p l e rmG_elementSize s m args below meth c s.heap A 0 0 (xQI below D vwCl (taC cA) (CW ad cA) post A args s) D vwCl 2 (CW ad cA f a) lv pc st
def wp_G_elementSize (post : Int → fS → aS → Prop) (o0 : Nat) (x1 : Int) (f : fS) (a : aS) : Prop := (3 ≤ o0 ∧ o0 < 7) ∧ ((0 ≤ x1 ∧ x1 ≤ 2147483647) ∧ ((0 ≤ x1 / 6 ∧ x1 / 6 < 64) ∧ ((0 ≤ x1 ∧ x1 < 384) ∧ ((0 ≤ a o0 3 (Int.toNat x1) ∧ a o0 3 (Int.toNat x1) < 64) ∧ (post (((a o0 7 (Int.toNat (x1 / 6))) + 1) + (a o0 7 (Int.toNat (a o0 3 (Int.toNat x1))))) f a)))))
set_option maxHeartbeats 4000000 in
set_option maxRecDepth 100000 in
theorem m_G_elementSize {l : Launch} {D : va_G} {ad : Nat → Nat → Nat} {cA : Nat → Nat → ClassId} {post : Int → fS → aS → Prop} {o0 : Nat} {x1 : Int} {f : fS} {a : aS} (h : wp_G_elementSize post o0 x1 f a) : xCI l yG_elementSize (Cond.code yG_elementSize cG_elementSize 2 (some .int) :: xG) rmG_elementSize D vwCl (taC cA) (CW ad cA f a) [.ref (ad o0 0), .int (iI x1)] (CW ad cA) post := by
  refine x_metI (cc := cG_elementSize) (nL := 2) (by decide) rfl (Nat.le_of_ble_eq_true rfl) ?_
  intro p e s m below meth c A hO
  have hO9 := hO
  obtain ⟨hx, hb, hml, hown, hts, hr, hlk, hK, hN, hA⟩ := hO9
  unfold wp_G_elementSize at h
  show gG_elementSize p l e s m _ below meth c A D ad cA post f a [(0, .ref (ad o0 0)), (1, .int (iI x1))] 0 []
  refine x_aload_n hx hb dG_elementSize_0 rfl 0 rfl ?_
  obtain ⟨hg1, h⟩ := h
  refine x_get hx hb hts (jnG _) hown hK _ (woG ad cA f a o0 hg1) rfl 7 (by decide) (hts _ (List.mem_cons_of_mem _ kfG_24)) (fun _ h9 => h9) (v := .ref (ad o0 8)) (by rfl) dG_elementSize_1 ?_
  refine x_iload_n hx hb dG_elementSize_4 rfl 1 rfl ?_
  refine x_bipush hx hb dG_elementSize_5 (by decide) ?_
  obtain ⟨hn2, h⟩ := h
  refine x_idiv hx hb hn2.1 hn2.2 (by decide) (by decide) dG_elementSize_7 ?_
  obtain ⟨hj3, h⟩ := h
  refine x_iald hx hb hK _ _ (wa7G ad cA f a o0 hg1) (wt7G cA o0 hg1) hj3.1 hj3.2 (by decide) dG_elementSize_8 ?_
  refine x_iconst hx hb dG_elementSize_9 ?_
  refine x_iadd hx hb dG_elementSize_10 ?_
  refine x_aload_n hx hb dG_elementSize_11 rfl 0 rfl ?_
  refine x_get hx hb hts (jnG _) hown hK _ (woG ad cA f a o0 hg1) rfl 7 (by decide) (hts _ (List.mem_cons_of_mem _ kfG_24)) (fun _ h9 => h9) (v := .ref (ad o0 8)) (by rfl) dG_elementSize_12 ?_
  refine x_aload_n hx hb dG_elementSize_15 rfl 0 rfl ?_
  refine x_get hx hb hts (jnG _) hown hK _ (woG ad cA f a o0 hg1) rfl 3 (by decide) (hts _ (List.mem_cons_of_mem _ kfG_9)) (fun _ h9 => h9) (v := .ref (ad o0 4)) (by rfl) dG_elementSize_16 ?_
  refine x_iload_n hx hb dG_elementSize_19 rfl 1 rfl ?_
  obtain ⟨hj4, h⟩ := h
  refine x_iald hx hb hK _ _ (wa3G ad cA f a o0 hg1) (wt3G cA o0 hg1) hj4.1 hj4.2 (by decide) dG_elementSize_20 ?_
  obtain ⟨hj5, h⟩ := h
  refine x_iald hx hb hK _ _ (wa7G ad cA f a o0 hg1) (wt7G cA o0 hg1) hj5.1 hj5.2 (by decide) dG_elementSize_21 ?_
  refine x_iadd hx hb dG_elementSize_22 ?_
  exact x_iret hx hb hr hlk hK dG_elementSize_23 h
-- X_length
abbrev rmX_length : Room := { frames := 1, cells := 0, slots := 0, locals := 22 }
abbrev gX_length (p : Program) (l : Launch) (e : Env) (s : State) (m : MethodId) (args : Array Value) (below : List Frame) (meth : Method) (c : Code) (A : Nat → Prop) (D : va_G) (ad : Nat → Nat → Nat) (cA : Nat → Nat → ClassId) (post : Int → fS → aS → Prop) (f : fS) (a : aS) (lv : List (Nat × Value)) (pc : Nat) (st : List Value) : Prop := xV p l e rmX_length s m args below meth c s.heap A 0 0 (xQI below D vwCl (taC cA) (CW ad cA) post A args s) D vwCl 4 (CW ad cA f a) lv pc st
def wb_X_length_40 (post : Int → fS → aS → Prop) (y0 : Int) (f : fS) (a : aS) : Prop := post y0 f a
set_option maxHeartbeats 4000000 in
set_option maxRecDepth 100000 in
theorem tb_X_length_40 {p : Program} {l : Launch} {e : Env} {s : State} {m : MethodId} {args : Array Value} {below : List Frame} {meth : Method} {c : Code} {A : Nat → Prop} {D : va_G} {ad : Nat → Nat → Nat} {cA : Nat → Nat → ClassId} {post : Int → fS → aS → Prop} (hO : xOk cX_length 4 RX (Cond.code yX_length cX_length 4 (some .int) :: xG) (some .int) p s m args meth c A D vwCl (taC cA)) : ∀ (y0 : Int) (f : fS) (a : aS), wb_X_length_40 post y0 f a → gX_length p l e s m args below meth c A D ad cA post f a [] 40 [.int (iI y0)] := by
  have hO9 := hO
  obtain ⟨hx, hb, hml, hown, hts, hr, hlk, hK, hN, hA⟩ := hO9
  intro y0 f a h
  unfold wb_X_length_40 at h
  exact x_iret hx hb hr hlk hK dX_length_40 h
def wp_X_length (post : Int → fS → aS → Prop) (x1 : Int) (x2 : Int) (f : fS) (a : aS) : Prop := wp_X_isSubgroup (fun z1 f2 a3 => ir z1 ∧ (((¬ z1 = 0) → ((0 ≤ x1 ∧ x1 < 4) ∧ (wp_G_slotOfElement (fun z7 f8 a9 => ir z7 ∧ (((¬ z7 = -1) → (wp_G_elementSize (fun z11 f12 a13 => wb_X_length_40 post z11 f12 a13) (3 + Int.toNat x1) z7 f8 a9)) ∧ (¬ (¬ z7 = -1) → (wb_X_length_40 post (-1) f8 a9)))) (3 + Int.toNat x1) x2 f2 a3))) ∧ (¬ (¬ z1 = 0) → (post (-1) f2 a3)))) x1 f a
set_option maxHeartbeats 4000000 in
set_option maxRecDepth 100000 in
theorem m_X_length {l : Launch} {D : va_G} {ad : Nat → Nat → Nat} {cA : Nat → Nat → ClassId} {post : Int → fS → aS → Prop} {x1 : Int} {x2 : Int} {f : fS} {a : aS} (h : wp_X_length post x1 x2 f a) : xCI l yX_length (Cond.code yX_length cX_length 4 (some .int) :: xG) rmX_length D vwCl (taC cA) (CW ad cA f a) [.ref (ad 0 0), .int (iI x1), .int (iI x2)] (CW ad cA) post := by
  refine x_metI (cc := cX_length) (nL := 4) (by decide) rfl (Nat.le_of_ble_eq_true rfl) ?_
  intro p e s m below meth c A hO
  have hO9 := hO
  obtain ⟨hx, hb, hml, hown, hts, hr, hlk, hK, hN, hA⟩ := hO9
  unfold wp_X_length at h
  show gX_length p l e s m _ below meth c A D ad cA post f a [(0, .ref (ad 0 0)), (1, .int (iI x1)), (2, .int (iI x2))] 0 []
  refine x_aload_n hx hb dX_length_0 rfl 0 rfl ?_
  refine x_iload_n hx hb dX_length_1 rfl 1 rfl ?_
  refine x_cVi (n := 1) (st := []) (As := [.int (iI x1)]) ⟨hx, hb, hml, hown, hts⟩ hK hN (m_X_isSubgroup h) (x_cwV hts rfl rfl kcX_isSubgroup knX klX_70 kiX_isSubgroup keX_isSubgroup ⟨by decide, by decide, by decide +kernel⟩ ⟨by decide, by decide⟩) _ (woX ad cA f a) rfl hA rfl (Nat.le_of_ble_eq_true rfl) ⟨Nat.zero_le _, Nat.zero_le _⟩ rfl dX_length_2 (fun z1 f2 a3 h => ?_)
  obtain ⟨hi4, h⟩ := h
  refine x_if_ne hx hb (tgt := 10) hi4  dX_length_5 (by decide) (fun hc => ?_) (fun hc => ?_)
  · have h := h.1 hc
    refine x_aload_n hx hb dX_length_10 rfl 0 rfl ?_
    refine x_get hx hb hts (jnX _) hown hK _ (woX ad cA f2 a3) rfl 2 (by decide) (hts _ (List.mem_cons_of_mem _ kfX_31)) (fun _ h9 => h9) (v := .ref (ad 0 3)) (by rfl) dX_length_11 ?_
    refine x_iload_n hx hb dX_length_14 rfl 1 rfl ?_
    obtain ⟨hj5, h⟩ := h
    refine x_aald hx hb hK _ _ (wa2X ad cA f2 a3) (wt2X cA) hj5.1 hj5.2 (by decide) (if_pos (by omega)) dX_length_15 ?_
    have hg6 : 3 ≤ 3 + Int.toNat x1 ∧ 3 + Int.toNat x1 < 7 := by omega
    refine x_iload_n hx hb dX_length_16 rfl 2 rfl ?_
    refine x_cVNi (n := 1) (st := []) (As := [.int (iI x2)]) ⟨hx, hb, hml, hown, hts⟩ hK hN (m_G_slotOfElement h) (x_cwVN hts rfl rfl kcG_slotOfElement knG hN nlX_64 kiG_slotOfElement keG_slotOfElement ⟨by decide, by decide, by decide +kernel⟩ ⟨by decide, by decide⟩) _ (woG ad cA f2 a3 (3 + Int.toNat x1) hg6) rfl hA rfl (Nat.le_of_ble_eq_true rfl) ⟨Nat.zero_le _, Nat.zero_le _⟩ rfl dX_length_17 (fun z7 f8 a9 h => ?_)
    refine x_istore_n hx hb dX_length_20 rfl (by decide) (lv' := [(3, .int (iI z7)), (0, .ref (ad 0 0)), (1, .int (iI x1)), (2, .int (iI x2))]) rfl ?_
    refine x_iload_n hx hb dX_length_21 rfl 0 rfl ?_
    refine x_iconst hx hb dX_length_22 ?_
    obtain ⟨hi10, h⟩ := h
    refine x_icmp_ne hx hb (tgt := 30) hi10 (by decide) dX_length_23 (by decide) (fun hc => ?_) (fun hc => ?_)
    · have h := h.1 hc
      refine x_aload_n hx hb dX_length_30 rfl 1 rfl ?_
      refine x_get hx hb hts (jnX _) hown hK _ (woX ad cA f8 a9) rfl 2 (by decide) (hts _ (List.mem_cons_of_mem _ kfX_31)) (fun _ h9 => h9) (v := .ref (ad 0 3)) (by rfl) dX_length_31 ?_
      refine x_iload_n hx hb dX_length_34 rfl 2 rfl ?_
      refine x_aald hx hb hK _ _ (wa2X ad cA f8 a9) (wt2X cA) hj5.1 hj5.2 (by decide) (if_pos (by omega)) dX_length_35 ?_
      refine x_iload_n hx hb dX_length_36 rfl 0 rfl ?_
      refine x_cVNi (n := 1) (st := []) (As := [.int (iI z7)]) ⟨hx, hb, hml, hown, hts⟩ hK hN (m_G_elementSize h) (x_cwVN hts rfl rfl kcG_elementSize knG hN nlX_120 kiG_elementSize keG_elementSize ⟨by decide, by decide, by decide +kernel⟩ ⟨by decide, by decide⟩) _ (woG ad cA f8 a9 (3 + Int.toNat x1) hg6) rfl hA rfl (Nat.le_of_ble_eq_true rfl) ⟨Nat.zero_le _, Nat.zero_le _⟩ rfl dX_length_37 (fun z11 f12 a13 h => ?_)
      refine x_sub [] rfl ?_
      exact tb_X_length_40 hO z11 f12 a13 h
    · have h := h.2 hc
      refine x_iconst hx hb dX_length_26 ?_
      refine x_goto hx hb (tgt := 40) dX_length_27 (by decide) ?_
      refine x_sub [] rfl ?_
      exact tb_X_length_40 hO (-1) f8 a9 h
  · have h := h.2 hc
    refine x_iconst hx hb dX_length_8 ?_
    exact x_iret hx hb hr hlk hK dX_length_9 h
-- G_climb
abbrev rmG_climb : Room := { frames := 0, cells := 0, slots := 0, locals := 0 }
abbrev gG_climb (p : Program) (l : Launch) (e : Env) (s : State) (m : MethodId) (args : Array Value) (below : List Frame) (meth : Method) (c : Code) (A : Nat → Prop) (D : va_G) (ad : Nat → Nat → Nat) (cA : Nat → Nat → ClassId) (post : Int → fS → aS → Prop) (f : fS) (a : aS) (lv : List (Nat × Value)) (pc : Nat) (st : List Value) : Prop := xV p l e rmG_climb s m args below meth c s.heap A 0 0 (xQI below D vwCl (taC cA) (CW ad cA) post A args s) D vwCl 5 (CW ad cA f a) lv pc st
def wb_G_climb_5 (post : Int → fS → aS → Prop) : Nat → Nat → Int → Int → Int → fS → aS → Prop
  | 0, _, _, _, _, _, _ => False
  | n + 1, o0, x2, x3, x4, f, a => ir x4 ∧ (ir x2 ∧ (((x2 ≤ x4) → (post x3 f a)) ∧ (¬ (x2 ≤ x4) → ((3 ≤ o0 ∧ o0 < 7) ∧ ((0 ≤ x3 ∧ x3 < 64) ∧ (∀ t5 : Int, t5 = a o0 5 (Int.toNat x3) → (wb_G_climb_5 post n o0 x2 t5 (x4 + 1) f a)))))))
set_option maxHeartbeats 4000000 in
set_option maxRecDepth 100000 in
theorem tb_G_climb_5 {p : Program} {l : Launch} {e : Env} {s : State} {m : MethodId} {args : Array Value} {below : List Frame} {meth : Method} {c : Code} {A : Nat → Prop} {D : va_G} {ad : Nat → Nat → Nat} {cA : Nat → Nat → ClassId} {post : Int → fS → aS → Prop} (hO : xOk cG_climb 5 RG (Cond.code yG_climb cG_climb 5 (some .int) :: xG) (some .int) p s m args meth c A D vwCl (taC cA)) : ∀ (n : Nat) (o0 : Nat) (x2 : Int) (x3 : Int) (x4 : Int) (f : fS) (a : aS), wb_G_climb_5 post n o0 x2 x3 x4 f a → gG_climb p l e s m args below meth c A D ad cA post f a [(0, .ref (ad o0 0)), (2, .int (iI x2)), (3, .int (iI x3)), (4, .int (iI x4))] 5 [] := by
  have hO9 := hO
  obtain ⟨hx, hb, hml, hown, hts, hr, hlk, hK, hN, hA⟩ := hO9
  intro n
  induction n with
  | zero => intro o0 x2 x3 x4 f a h; exact False.elim h
  | succ n ih =>
    intro o0 x2 x3 x4 f a h
    rw [wb_G_climb_5] at h
    refine x_iload hx hb dG_climb_5 3 rfl ?_
    refine x_iload_n hx hb dG_climb_7 rfl 1 rfl ?_
    obtain ⟨hi1, h⟩ := h
    obtain ⟨hi2, h⟩ := h
    refine x_icmp_ge hx hb (tgt := 24) hi1 hi2 dG_climb_8 (by decide) (fun hc => ?_) (fun hc => ?_)
    · have h := h.1 hc
      refine x_iload_n hx hb dG_climb_24 rfl 2 rfl ?_
      exact x_iret hx hb hr hlk hK dG_climb_25 h
    · have h := h.2 hc
      refine x_aload_n hx hb dG_climb_11 rfl 0 rfl ?_
      obtain ⟨hg3, h⟩ := h
      refine x_get hx hb hts (jnG _) hown hK _ (woG ad cA f a o0 hg3) rfl 5 (by decide) (hts _ (List.mem_cons_of_mem _ kfG_18)) (fun _ h9 => h9) (v := .ref (ad o0 6)) (by rfl) dG_climb_12 ?_
      refine x_iload_n hx hb dG_climb_15 rfl 2 rfl ?_
      obtain ⟨hj4, h⟩ := h
      refine x_iald hx hb hK _ _ (wa5G ad cA f a o0 hg3) (wt5G cA o0 hg3) hj4.1 hj4.2 (by decide) dG_climb_16 ?_
      refine x_topi (fun t5 et5 => ?_)
      have h := h t5 et5
      refine x_istore_n hx hb dG_climb_17 rfl (by decide) (lv' := [(3, .int (iI t5)), (0, .ref (ad o0 0)), (2, .int (iI x2)), (4, .int (iI x4))]) rfl ?_
      refine x_iinc hx hb dG_climb_18 3 rfl (by decide) (lv' := [(4, .int (iI (x4 + 1))), (3, .int (iI t5)), (0, .ref (ad o0 0)), (2, .int (iI x2))]) rfl ?_
      refine x_goto hx hb (tgt := 5) dG_climb_21 (by decide) ?_
      refine x_sub [2, 3, 1, 0] rfl ?_
      exact ih o0 x2 t5 (x4 + 1) f a h
def wp_G_climb (post : Int → fS → aS → Prop) (o0 : Nat) (x1 : Int) (x2 : Int) (f : fS) (a : aS) : Prop := ∃ j, wb_G_climb_5 post j o0 x2 x1 0 f a
set_option maxHeartbeats 4000000 in
set_option maxRecDepth 100000 in
theorem m_G_climb {l : Launch} {D : va_G} {ad : Nat → Nat → Nat} {cA : Nat → Nat → ClassId} {post : Int → fS → aS → Prop} {o0 : Nat} {x1 : Int} {x2 : Int} {f : fS} {a : aS} (h : wp_G_climb post o0 x1 x2 f a) : xCI l yG_climb (Cond.code yG_climb cG_climb 5 (some .int) :: xG) rmG_climb D vwCl (taC cA) (CW ad cA f a) [.ref (ad o0 0), .int (iI x1), .int (iI x2)] (CW ad cA) post := by
  refine x_metI (cc := cG_climb) (nL := 5) (by decide) rfl (Nat.le_of_ble_eq_true rfl) ?_
  intro p e s m below meth c A hO
  have hO9 := hO
  obtain ⟨hx, hb, hml, hown, hts, hr, hlk, hK, hN, hA⟩ := hO9
  unfold wp_G_climb at h
  show gG_climb p l e s m _ below meth c A D ad cA post f a [(0, .ref (ad o0 0)), (1, .int (iI x1)), (2, .int (iI x2))] 0 []
  refine x_iload_n hx hb dG_climb_0 rfl 1 rfl ?_
  refine x_istore_n hx hb dG_climb_1 rfl (by decide) (lv' := [(3, .int (iI x1)), (0, .ref (ad o0 0)), (1, .int (iI x1)), (2, .int (iI x2))]) rfl ?_
  refine x_iconst hx hb dG_climb_2 ?_
  refine x_istore hx hb dG_climb_3 (by decide) (lv' := [(4, .int (iI 0)), (3, .int (iI x1)), (0, .ref (ad o0 0)), (1, .int (iI x1)), (2, .int (iI x2))]) rfl ?_
  obtain ⟨j, h⟩ := h
  refine x_sub [2, 4, 1, 0] rfl ?_
  exact tb_G_climb_5 hO j o0 x2 x1 0 f a h
-- X_letterOf
abbrev rmX_letterOf : Room := { frames := 0, cells := 0, slots := 0, locals := 0 }
abbrev gX_letterOf (p : Program) (l : Launch) (e : Env) (s : State) (m : MethodId) (args : Array Value) (below : List Frame) (meth : Method) (c : Code) (A : Nat → Prop) (D : va_G) (ad : Nat → Nat → Nat) (cA : Nat → Nat → ClassId) (post : Int → fS → aS → Prop) (f : fS) (a : aS) (lv : List (Nat × Value)) (pc : Nat) (st : List Value) : Prop := xV p l e rmX_letterOf s m args below meth c s.heap A 0 0 (xQI below D vwCl (taC cA) (CW ad cA) post A args s) D vwCl 2 (CW ad cA f a) lv pc st
def wb_X_letterOf_18 (post : Int → fS → aS → Prop) (y0 : Int) (f : fS) (a : aS) : Prop := post y0 f a
set_option maxHeartbeats 4000000 in
set_option maxRecDepth 100000 in
theorem tb_X_letterOf_18 {p : Program} {l : Launch} {e : Env} {s : State} {m : MethodId} {args : Array Value} {below : List Frame} {meth : Method} {c : Code} {A : Nat → Prop} {D : va_G} {ad : Nat → Nat → Nat} {cA : Nat → Nat → ClassId} {post : Int → fS → aS → Prop} (hO : xOk cX_letterOf 2 RX (Cond.code yX_letterOf cX_letterOf 2 (some .int) :: xG) (some .int) p s m args meth c A D vwCl (taC cA)) : ∀ (y0 : Int) (f : fS) (a : aS), wb_X_letterOf_18 post y0 f a → gX_letterOf p l e s m args below meth c A D ad cA post f a [] 18 [.int (iI y0)] := by
  have hO9 := hO
  obtain ⟨hx, hb, hml, hown, hts, hr, hlk, hK, hN, hA⟩ := hO9
  intro y0 f a h
  unfold wb_X_letterOf_18 at h
  exact x_iret hx hb hr hlk hK dX_letterOf_18 h
def wp_X_letterOf (post : Int → fS → aS → Prop) (x0 : Int) (f : fS) (a : aS) : Prop := (0 ≤ x0 ∧ x0 < 6) ∧ (∀ t2 : Int, t2 = (x0 / 2) + 1 → (ir (x0 % 2) ∧ (((¬ x0 % 2 = 0) → (wb_X_letterOf_18 post (-t2) f a)) ∧ (¬ (¬ x0 % 2 = 0) → (wb_X_letterOf_18 post t2 f a)))))
set_option maxHeartbeats 4000000 in
set_option maxRecDepth 100000 in
theorem m_X_letterOf {l : Launch} {D : va_G} {ad : Nat → Nat → Nat} {cA : Nat → Nat → ClassId} {post : Int → fS → aS → Prop} {x0 : Int} {f : fS} {a : aS} (h : wp_X_letterOf post x0 f a) : xCI l yX_letterOf (Cond.code yX_letterOf cX_letterOf 2 (some .int) :: xG) rmX_letterOf D vwCl (taC cA) (CW ad cA f a) [.int (iI x0)] (CW ad cA) post := by
  refine x_metI (cc := cX_letterOf) (nL := 2) (by decide) rfl (Nat.le_of_ble_eq_true rfl) ?_
  intro p e s m below meth c A hO
  have hO9 := hO
  obtain ⟨hx, hb, hml, hown, hts, hr, hlk, hK, hN, hA⟩ := hO9
  unfold wp_X_letterOf at h
  show gX_letterOf p l e s m _ below meth c A D ad cA post f a [(0, .int (iI x0))] 0 []
  refine x_iload_n hx hb dX_letterOf_0 rfl 0 rfl ?_
  refine x_iconst hx hb dX_letterOf_1 ?_
  obtain ⟨hj1, h⟩ := h
  refine x_ishr1 hx hb hj1.1 hj1.2 dX_letterOf_2 ?_
  refine x_iconst hx hb dX_letterOf_3 ?_
  refine x_iadd hx hb dX_letterOf_4 ?_
  refine x_topi (fun t2 et2 => ?_)
  have h := h t2 et2
  refine x_istore_n hx hb dX_letterOf_5 rfl (by decide) (lv' := [(1, .int (iI t2)), (0, .int (iI x0))]) rfl ?_
  refine x_iload_n hx hb dX_letterOf_6 rfl 1 rfl ?_
  refine x_iconst hx hb dX_letterOf_7 ?_
  refine x_iand1 hx hb hj1.1 hj1.2 dX_letterOf_8 ?_
  obtain ⟨hi3, h⟩ := h
  refine x_if_ne hx hb (tgt := 16) hi3  dX_letterOf_9 (by decide) (fun hc => ?_) (fun hc => ?_)
  · have h := h.1 hc
    refine x_iload_n hx hb dX_letterOf_16 rfl 0 rfl ?_
    refine x_ineg hx hb dX_letterOf_17 ?_
    refine x_sub [] rfl ?_
    exact tb_X_letterOf_18 hO (-t2) f a h
  · have h := h.2 hc
    refine x_iload_n hx hb dX_letterOf_12 rfl 0 rfl ?_
    refine x_goto hx hb (tgt := 18) dX_letterOf_13 (by decide) ?_
    refine x_sub [] rfl ?_
    exact tb_X_letterOf_18 hO t2 f a h
-- G_elementLetter
abbrev rmG_elementLetter : Room := { frames := 1, cells := 0, slots := 0, locals := 24 }
abbrev gG_elementLetter (p : Program) (l : Launch) (e : Env) (s : State) (m : MethodId) (args : Array Value) (below : List Frame) (meth : Method) (c : Code) (A : Nat → Prop) (D : va_G) (ad : Nat → Nat → Nat) (cA : Nat → Nat → ClassId) (post : Int → fS → aS → Prop) (f : fS) (a : aS) (lv : List (Nat × Value)) (pc : Nat) (st : List Value) : Prop := xV p l e rmG_elementLetter s m args below meth c s.heap A 0 0 (xQI below D vwCl (taC cA) (CW ad cA) post A args s) D vwCl 5 (CW ad cA f a) lv pc st
def wp_G_elementLetter (post : Int → fS → aS → Prop) (o0 : Nat) (x1 : Int) (x2 : Int) (f : fS) (a : aS) : Prop := (0 ≤ x1 ∧ x1 ≤ 2147483647) ∧ (∀ t2 : Int, t2 = x1 / 6 → ((3 ≤ o0 ∧ o0 < 7) ∧ ((0 ≤ t2 ∧ t2 < 64) ∧ (∀ t5 : Int, t5 = a o0 7 (Int.toNat t2) → (ir x2 ∧ (ir t5 ∧ (((t5 ≤ x2) → (((¬ x2 = t5) → ((0 ≤ x1 ∧ x1 < 384) ∧ (wp_G_climb (fun z9 f10 a11 => (0 ≤ z9 ∧ z9 < 64) ∧ (wp_X_letterOf (fun z13 f14 a15 => post (-z13) f14 a15) ((a11 o0 6) (Int.toNat z9)) f10 a11)) o0 (a o0 3 (Int.toNat x1)) ((x2 - t5) - 1) f a))) ∧ (¬ (¬ x2 = t5) → (wp_X_letterOf (fun z16 f17 a18 => post z16 f17 a18) (x1 % 6) f a)))) ∧ (¬ (t5 ≤ x2) → (wp_G_climb (fun z19 f20 a21 => (0 ≤ z19 ∧ z19 < 64) ∧ (wp_X_letterOf (fun z23 f24 a25 => post z23 f24 a25) ((a21 o0 6) (Int.toNat z19)) f20 a21)) o0 t2 ((t5 - 1) - x2) f a)))))))))
set_option maxHeartbeats 4000000 in
set_option maxRecDepth 100000 in
theorem m_G_elementLetter {l : Launch} {D : va_G} {ad : Nat → Nat → Nat} {cA : Nat → Nat → ClassId} {post : Int → fS → aS → Prop} {o0 : Nat} {x1 : Int} {x2 : Int} {f : fS} {a : aS} (h : wp_G_elementLetter post o0 x1 x2 f a) : xCI l yG_elementLetter (Cond.code yG_elementLetter cG_elementLetter 5 (some .int) :: xG) rmG_elementLetter D vwCl (taC cA) (CW ad cA f a) [.ref (ad o0 0), .int (iI x1), .int (iI x2)] (CW ad cA) post := by
  refine x_metI (cc := cG_elementLetter) (nL := 5) (by decide) rfl (Nat.le_of_ble_eq_true rfl) ?_
  intro p e s m below meth c A hO
  have hO9 := hO
  obtain ⟨hx, hb, hml, hown, hts, hr, hlk, hK, hN, hA⟩ := hO9
  unfold wp_G_elementLetter at h
  show gG_elementLetter p l e s m _ below meth c A D ad cA post f a [(0, .ref (ad o0 0)), (1, .int (iI x1)), (2, .int (iI x2))] 0 []
  refine x_iload_n hx hb dG_elementLetter_0 rfl 1 rfl ?_
  refine x_bipush hx hb dG_elementLetter_1 (by decide) ?_
  obtain ⟨hn1, h⟩ := h
  refine x_idiv hx hb hn1.1 hn1.2 (by decide) (by decide) dG_elementLetter_3 ?_
  refine x_topi (fun t2 et2 => ?_)
  have h := h t2 et2
  refine x_istore_n hx hb dG_elementLetter_4 rfl (by decide) (lv' := [(3, .int (iI t2)), (0, .ref (ad o0 0)), (1, .int (iI x1)), (2, .int (iI x2))]) rfl ?_
  refine x_aload_n hx hb dG_elementLetter_5 rfl 1 rfl ?_
  obtain ⟨hg3, h⟩ := h
  refine x_get hx hb hts (jnG _) hown hK _ (woG ad cA f a o0 hg3) rfl 7 (by decide) (hts _ (List.mem_cons_of_mem _ kfG_24)) (fun _ h9 => h9) (v := .ref (ad o0 8)) (by rfl) dG_elementLetter_6 ?_
  refine x_iload_n hx hb dG_elementLetter_9 rfl 0 rfl ?_
  obtain ⟨hj4, h⟩ := h
  refine x_iald hx hb hK _ _ (wa7G ad cA f a o0 hg3) (wt7G cA o0 hg3) hj4.1 hj4.2 (by decide) dG_elementLetter_10 ?_
  refine x_topi (fun t5 et5 => ?_)
  have h := h t5 et5
  refine x_istore hx hb dG_elementLetter_11 (by decide) (lv' := [(4, .int (iI t5)), (3, .int (iI t2)), (0, .ref (ad o0 0)), (1, .int (iI x1)), (2, .int (iI x2))]) rfl ?_
  refine x_iload_n hx hb dG_elementLetter_13 rfl 4 rfl ?_
  refine x_iload hx hb dG_elementLetter_14 0 rfl ?_
  obtain ⟨hi6, h⟩ := h
  obtain ⟨hi7, h⟩ := h
  refine x_icmp_ge hx hb (tgt := 39) hi6 hi7 dG_elementLetter_16 (by decide) (fun hc => ?_) (fun hc => ?_)
  · have h := h.1 hc
    refine x_iload_n hx hb dG_elementLetter_39 rfl 4 rfl ?_
    refine x_iload hx hb dG_elementLetter_40 0 rfl ?_
    refine x_icmp_ne hx hb (tgt := 53) hi6 hi7 dG_elementLetter_42 (by decide) (fun hc => ?_) (fun hc => ?_)
    · have h := h.1 hc
      refine x_aload_n hx hb dG_elementLetter_53 rfl 2 rfl ?_
      refine x_get hx hb hts (jnG _) hown hK _ (woG ad cA f a o0 hg3) rfl 6 (by decide) (hts _ (List.mem_cons_of_mem _ kfG_21)) (fun _ h9 => h9) (v := .ref (ad o0 7)) (by rfl) dG_elementLetter_54 ?_
      refine x_aload_n hx hb dG_elementLetter_57 rfl 2 rfl ?_
      refine x_aload_n hx hb dG_elementLetter_58 rfl 2 rfl ?_
      refine x_get hx hb hts (jnG _) hown hK _ (woG ad cA f a o0 hg3) rfl 3 (by decide) (hts _ (List.mem_cons_of_mem _ kfG_9)) (fun _ h9 => h9) (v := .ref (ad o0 4)) (by rfl) dG_elementLetter_59 ?_
      refine x_iload_n hx hb dG_elementLetter_62 rfl 3 rfl ?_
      obtain ⟨hj8, h⟩ := h
      refine x_iald hx hb hK _ _ (wa3G ad cA f a o0 hg3) (wt3G cA o0 hg3) hj8.1 hj8.2 (by decide) dG_elementLetter_63 ?_
      refine x_iload_n hx hb dG_elementLetter_64 rfl 4 rfl ?_
      refine x_iload hx hb dG_elementLetter_65 0 rfl ?_
      refine x_isub hx hb dG_elementLetter_67 ?_
      refine x_iconst hx hb dG_elementLetter_68 ?_
      refine x_isub hx hb dG_elementLetter_69 ?_
      refine x_cVi (n := 2) (st := [.ref (ad o0 7)]) (As := [.int (iI (a o0 3 (Int.toNat x1))), .int (iI ((x2 - t5) - 1))]) ⟨hx, hb, hml, hown, hts⟩ hK hN (m_G_climb h) (x_cwV hts rfl rfl kcG_climb knG klG_53 kiG_climb keG_climb ⟨by decide, by decide, by decide +kernel⟩ ⟨by decide, by decide⟩) _ (woG ad cA f a o0 hg3) rfl hA rfl (Nat.le_of_ble_eq_true rfl) ⟨Nat.zero_le _, Nat.zero_le _⟩ rfl dG_elementLetter_70 (fun z9 f10 a11 h => ?_)
      obtain ⟨hj12, h⟩ := h
      refine x_iald hx hb hK _ _ (wa6G ad cA f10 a11 o0 hg3) (wt6G cA o0 hg3) hj12.1 hj12.2 (by decide) dG_elementLetter_73 ?_
      refine x_cSNi (n := 1) (st := []) (As := [.int (iI ((a11 o0 6) (Int.toNat z9)))]) ⟨hx, hb, hml, hown, hts⟩ hK hN (m_X_letterOf h) (x_cwSN hts rfl rfl kcX_letterOf knX hN nlG_56 ksX_letterOf ⟨by decide, by decide, by decide +kernel⟩ ⟨by decide, by decide⟩) hA rfl (Nat.le_of_ble_eq_true rfl) ⟨Nat.zero_le _, Nat.zero_le _⟩ rfl dG_elementLetter_74 (fun z13 f14 a15 h => ?_)
      refine x_ineg hx hb dG_elementLetter_77 ?_
      exact x_iret hx hb hr hlk hK dG_elementLetter_78 h
    · have h := h.2 hc
      refine x_iload_n hx hb dG_elementLetter_45 rfl 3 rfl ?_
      refine x_bipush hx hb dG_elementLetter_46 (by decide) ?_
      refine x_irem hx hb hn1.1 hn1.2 (by decide) (by decide) dG_elementLetter_48 ?_
      refine x_cSNi (n := 1) (st := []) (As := [.int (iI (x1 % 6))]) ⟨hx, hb, hml, hown, hts⟩ hK hN (m_X_letterOf h) (x_cwSN hts rfl rfl kcX_letterOf knX hN nlG_56 ksX_letterOf ⟨by decide, by decide, by decide +kernel⟩ ⟨by decide, by decide⟩) hA rfl (Nat.le_of_ble_eq_true rfl) ⟨Nat.zero_le _, Nat.zero_le _⟩ rfl dG_elementLetter_49 (fun z16 f17 a18 h => ?_)
      exact x_iret hx hb hr hlk hK dG_elementLetter_52 h
  · have h := h.2 hc
    refine x_aload_n hx hb dG_elementLetter_19 rfl 2 rfl ?_
    refine x_get hx hb hts (jnG _) hown hK _ (woG ad cA f a o0 hg3) rfl 6 (by decide) (hts _ (List.mem_cons_of_mem _ kfG_21)) (fun _ h9 => h9) (v := .ref (ad o0 7)) (by rfl) dG_elementLetter_20 ?_
    refine x_aload_n hx hb dG_elementLetter_23 rfl 2 rfl ?_
    refine x_iload_n hx hb dG_elementLetter_24 rfl 1 rfl ?_
    refine x_iload hx hb dG_elementLetter_25 0 rfl ?_
    refine x_iconst hx hb dG_elementLetter_27 ?_
    refine x_isub hx hb dG_elementLetter_28 ?_
    refine x_iload_n hx hb dG_elementLetter_29 rfl 4 rfl ?_
    refine x_isub hx hb dG_elementLetter_30 ?_
    refine x_cVi (n := 2) (st := [.ref (ad o0 7)]) (As := [.int (iI t2), .int (iI ((t5 - 1) - x2))]) ⟨hx, hb, hml, hown, hts⟩ hK hN (m_G_climb h) (x_cwV hts rfl rfl kcG_climb knG klG_53 kiG_climb keG_climb ⟨by decide, by decide, by decide +kernel⟩ ⟨by decide, by decide⟩) _ (woG ad cA f a o0 hg3) rfl hA rfl (Nat.le_of_ble_eq_true rfl) ⟨Nat.zero_le _, Nat.zero_le _⟩ rfl dG_elementLetter_31 (fun z19 f20 a21 h => ?_)
    obtain ⟨hj22, h⟩ := h
    refine x_iald hx hb hK _ _ (wa6G ad cA f20 a21 o0 hg3) (wt6G cA o0 hg3) hj22.1 hj22.2 (by decide) dG_elementLetter_34 ?_
    refine x_cSNi (n := 1) (st := []) (As := [.int (iI ((a21 o0 6) (Int.toNat z19)))]) ⟨hx, hb, hml, hown, hts⟩ hK hN (m_X_letterOf h) (x_cwSN hts rfl rfl kcX_letterOf knX hN nlG_56 ksX_letterOf ⟨by decide, by decide, by decide +kernel⟩ ⟨by decide, by decide⟩) hA rfl (Nat.le_of_ble_eq_true rfl) ⟨Nat.zero_le _, Nat.zero_le _⟩ rfl dG_elementLetter_35 (fun z23 f24 a25 h => ?_)
    exact x_iret hx hb hr hlk hK dG_elementLetter_38 h
-- X_take
abbrev rmX_take : Room := { frames := 2, cells := 0, slots := 0, locals := 48 }
abbrev gX_take (p : Program) (l : Launch) (e : Env) (s : State) (m : MethodId) (args : Array Value) (below : List Frame) (meth : Method) (c : Code) (A : Nat → Prop) (D : va_G) (ad : Nat → Nat → Nat) (cA : Nat → Nat → ClassId) (post : Int → fS → aS → Prop) (f : fS) (a : aS) (lv : List (Nat × Value)) (pc : Nat) (st : List Value) : Prop := xV p l e rmX_take s m args below meth c s.heap A 0 0 (xQI below D vwCl (taC cA) (CW ad cA) post A args s) D vwCl 7 (CW ad cA f a) lv pc st
def wb_X_take_42 (post : Int → fS → aS → Prop) : Nat → Int → Nat → Int → Int → fS → aS → Prop
  | 0, _, _, _, _, _, _ => False
  | n + 1, x3, o4, x5, x6, f, a => ir x6 ∧ (ir x3 ∧ (((x3 ≤ x6) → (post x3 (setF f 1 1 x3) a)) ∧ (¬ (x3 ≤ x6) → ((3 ≤ o4 ∧ o4 < 7) ∧ (wp_G_elementLetter (fun z14 f15 a16 => (0 ≤ x6 ∧ x6 < 24) ∧ (wb_X_take_42 post n x3 o4 x5 (x6 + 1) f15 (setA a16 1 0 (va_up (a16 1 0) (Int.toNat x6) z14)))) o4 x5 x6 f a)))))
set_option maxHeartbeats 4000000 in
set_option maxRecDepth 100000 in
theorem tb_X_take_42 {p : Program} {l : Launch} {e : Env} {s : State} {m : MethodId} {args : Array Value} {below : List Frame} {meth : Method} {c : Code} {A : Nat → Prop} {D : va_G} {ad : Nat → Nat → Nat} {cA : Nat → Nat → ClassId} {post : Int → fS → aS → Prop} (hO : xOk cX_take 7 RX (Cond.code yX_take cX_take 7 (some .int) :: xG) (some .int) p s m args meth c A D vwCl (taC cA)) : ∀ (n : Nat) (x3 : Int) (o4 : Nat) (x5 : Int) (x6 : Int) (f : fS) (a : aS), wb_X_take_42 post n x3 o4 x5 x6 f a → gX_take p l e s m args below meth c A D ad cA post f a [(0, .ref (ad 0 0)), (3, .int (iI x3)), (4, .ref (ad o4 0)), (5, .int (iI x5)), (6, .int (iI x6))] 42 [] := by
  have hO9 := hO
  obtain ⟨hx, hb, hml, hown, hts, hr, hlk, hK, hN, hA⟩ := hO9
  intro n
  induction n with
  | zero => intro x3 o4 x5 x6 f a h; exact False.elim h
  | succ n ih =>
    intro x3 o4 x5 x6 f a h
    rw [wb_X_take_42] at h
    refine x_iload hx hb dX_take_42 4 rfl ?_
    refine x_iload_n hx hb dX_take_44 rfl 1 rfl ?_
    obtain ⟨hi11, h⟩ := h
    obtain ⟨hi12, h⟩ := h
    refine x_icmp_ge hx hb (tgt := 73) hi11 hi12 dX_take_45 (by decide) (fun hc => ?_) (fun hc => ?_)
    · have h := h.1 hc
      refine x_aload_n hx hb dX_take_73 rfl 0 rfl ?_
      refine x_get hx hb hts (jnX _) hown hK _ (woX ad cA f a) rfl 1 (by decide) (hts _ (List.mem_cons_of_mem _ kfX_25)) (fun _ h9 => h9) (v := .ref (ad 1 0)) (by rfl) dX_take_74 ?_
      refine x_iload_n hx hb dX_take_77 rfl 1 rfl ?_
      refine x_putN hx hb hts (jnW _) tyW tkW nmW hown hK _ (woW ad cA f a) rfl 1 (by decide) (va_Nw.use rfl (hN.1 _ nfX_51)) (fun _ h9 => h9) rfl (by decide +kernel) (Nat.le_of_ble_eq_true rfl) dX_take_78 (wf1W ad cA f a x3) ?_
      refine x_iload_n hx hb dX_take_81 rfl 1 rfl ?_
      exact x_iret hx hb hr hlk hK dX_take_82 h
    · have h := h.2 hc
      refine x_aload_n hx hb dX_take_48 rfl 0 rfl ?_
      refine x_get hx hb hts (jnX _) hown hK _ (woX ad cA f a) rfl 1 (by decide) (hts _ (List.mem_cons_of_mem _ kfX_25)) (fun _ h9 => h9) (v := .ref (ad 1 0)) (by rfl) dX_take_49 ?_
      refine x_getN hx hb hts (jnW _) hown hK _ (woW ad cA f a) rfl 0 (by decide) (va_Nw.use rfl (hN.1 _ nfX_57)) (fun _ h9 => h9) (v := .ref (ad 1 1)) (by rfl) dX_take_52 ?_
      refine x_iload hx hb dX_take_55 4 rfl ?_
      refine x_aload hx hb dX_take_57 2 rfl ?_
      refine x_iload hx hb dX_take_59 3 rfl ?_
      refine x_iload hx hb dX_take_61 4 rfl ?_
      obtain ⟨hg13, h⟩ := h
      refine x_cVNi (n := 2) (st := [.int (iI x6), .ref (ad 1 1)]) (As := [.int (iI x5), .int (iI x6)]) ⟨hx, hb, hml, hown, hts⟩ hK hN (m_G_elementLetter h) (x_cwVN hts rfl rfl kcG_elementLetter knG hN nlX_67 kiG_elementLetter keG_elementLetter ⟨by decide, by decide, by decide +kernel⟩ ⟨by decide, by decide⟩) _ (woG ad cA f a o4 hg13) rfl hA rfl (Nat.le_of_ble_eq_true rfl) ⟨Nat.zero_le _, Nat.zero_le _⟩ rfl dX_take_63 (fun z14 f15 a16 h => ?_)
      obtain ⟨hj17, h⟩ := h
      refine x_iast hx hb hK _ _ (wa0W ad cA f15 a16) (wt0W cA) hj17.1 hj17.2 (by decide) dX_take_66 (ws0W ad cA f15 a16 (va_up (a16 1 0) (Int.toNat x6) z14)) ?_
      refine x_iinc hx hb dX_take_67 4 rfl (by decide) (lv' := [(6, .int (iI (x6 + 1))), (0, .ref (ad 0 0)), (3, .int (iI x3)), (4, .ref (ad o4 0)), (5, .int (iI x5))]) rfl ?_
      refine x_goto hx hb (tgt := 42) dX_take_70 (by decide) ?_
      refine x_sub [1, 2, 3, 4, 0] rfl ?_
      exact ih x3 o4 x5 (x6 + 1) f15 (setA a16 1 0 (va_up (a16 1 0) (Int.toNat x6) z14)) h
def wp_X_take (post : Int → fS → aS → Prop) (x1 : Int) (x2 : Int) (f : fS) (a : aS) : Prop := wp_X_length (fun z1 f2 a3 => ir z1 ∧ (((¬ z1 = -1) → (((z1 ≤ 24) → ((0 ≤ x1 ∧ x1 < 4) ∧ (∀ o7 : Nat, o7 = 3 + Int.toNat x1 → (wp_G_slotOfElement (fun z8 f9 a10 => ∃ j, wb_X_take_42 post j z1 o7 z8 0 f9 a10) o7 x2 f2 a3)))) ∧ (¬ (z1 ≤ 24) → (post (-2) f2 a3)))) ∧ (¬ (¬ z1 = -1) → (post (-1) f2 a3)))) x1 x2 f a
set_option maxHeartbeats 4000000 in
set_option maxRecDepth 100000 in
theorem m_X_take {l : Launch} {D : va_G} {ad : Nat → Nat → Nat} {cA : Nat → Nat → ClassId} {post : Int → fS → aS → Prop} {x1 : Int} {x2 : Int} {f : fS} {a : aS} (h : wp_X_take post x1 x2 f a) : xCI l yX_take (Cond.code yX_take cX_take 7 (some .int) :: xG) rmX_take D vwCl (taC cA) (CW ad cA f a) [.ref (ad 0 0), .int (iI x1), .int (iI x2)] (CW ad cA) post := by
  refine x_metI (cc := cX_take) (nL := 7) (by decide) rfl (Nat.le_of_ble_eq_true rfl) ?_
  intro p e s m below meth c A hO
  have hO9 := hO
  obtain ⟨hx, hb, hml, hown, hts, hr, hlk, hK, hN, hA⟩ := hO9
  unfold wp_X_take at h
  show gX_take p l e s m _ below meth c A D ad cA post f a [(0, .ref (ad 0 0)), (1, .int (iI x1)), (2, .int (iI x2))] 0 []
  refine x_aload_n hx hb dX_take_0 rfl 0 rfl ?_
  refine x_iload_n hx hb dX_take_1 rfl 1 rfl ?_
  refine x_iload_n hx hb dX_take_2 rfl 2 rfl ?_
  refine x_cVi (n := 2) (st := []) (As := [.int (iI x1), .int (iI x2)]) ⟨hx, hb, hml, hown, hts⟩ hK hN (m_X_length h) (x_cwV hts rfl rfl kcX_length knX klX_61 kiX_length keX_length ⟨by decide, by decide, by decide +kernel⟩ ⟨by decide, by decide⟩) _ (woX ad cA f a) rfl hA rfl (Nat.le_of_ble_eq_true rfl) ⟨Nat.zero_le _, Nat.zero_le _⟩ rfl dX_take_3 (fun z1 f2 a3 h => ?_)
  refine x_istore_n hx hb dX_take_6 rfl (by decide) (lv' := [(3, .int (iI z1)), (0, .ref (ad 0 0)), (1, .int (iI x1)), (2, .int (iI x2))]) rfl ?_
  refine x_iload_n hx hb dX_take_7 rfl 0 rfl ?_
  refine x_iconst hx hb dX_take_8 ?_
  obtain ⟨hi4, h⟩ := h
  refine x_icmp_ne hx hb (tgt := 14) hi4 (by decide) dX_take_9 (by decide) (fun hc => ?_) (fun hc => ?_)
  · have h := h.1 hc
    refine x_iload_n hx hb dX_take_14 rfl 0 rfl ?_
    refine x_bipush hx hb dX_take_15 (by decide) ?_
    refine x_icmp_le hx hb (tgt := 23) hi4 (by decide) dX_take_17 (by decide) (fun hc => ?_) (fun hc => ?_)
    · have h := h.1 hc
      refine x_aload_n hx hb dX_take_23 rfl 1 rfl ?_
      refine x_get hx hb hts (jnX _) hown hK _ (woX ad cA f2 a3) rfl 2 (by decide) (hts _ (List.mem_cons_of_mem _ kfX_31)) (fun _ h9 => h9) (v := .ref (ad 0 3)) (by rfl) dX_take_24 ?_
      refine x_iload_n hx hb dX_take_27 rfl 2 rfl ?_
      obtain ⟨hj5, h⟩ := h
      refine x_aald hx hb hK _ _ (wa2X ad cA f2 a3) (wt2X cA) hj5.1 hj5.2 (by decide) (if_pos (by omega)) dX_take_28 ?_
      have hg6 : 3 ≤ 3 + Int.toNat x1 ∧ 3 + Int.toNat x1 < 7 := by omega
      refine x_topo (fun o7 eo7 => ?_)
      have h := h o7 eo7
      have hgo7 := eo7 ▸ hg6
      refine x_astore hx hb dX_take_29 (by decide) (lv' := [(4, .ref (ad o7 0)), (3, .int (iI z1)), (0, .ref (ad 0 0)), (1, .int (iI x1)), (2, .int (iI x2))]) rfl ?_
      refine x_aload hx hb dX_take_31 0 rfl ?_
      refine x_iload_n hx hb dX_take_33 rfl 4 rfl ?_
      refine x_cVNi (n := 1) (st := []) (As := [.int (iI x2)]) ⟨hx, hb, hml, hown, hts⟩ hK hN (m_G_slotOfElement h) (x_cwVN hts rfl rfl kcG_slotOfElement knG hN nlX_64 kiG_slotOfElement keG_slotOfElement ⟨by decide, by decide, by decide +kernel⟩ ⟨by decide, by decide⟩) _ (woG ad cA f2 a3 o7 hgo7) rfl hA rfl (Nat.le_of_ble_eq_true rfl) ⟨Nat.zero_le _, Nat.zero_le _⟩ rfl dX_take_34 (fun z8 f9 a10 h => ?_)
      refine x_istore hx hb dX_take_37 (by decide) (lv' := [(5, .int (iI z8)), (4, .ref (ad o7 0)), (3, .int (iI z1)), (0, .ref (ad 0 0)), (1, .int (iI x1)), (2, .int (iI x2))]) rfl ?_
      refine x_iconst hx hb dX_take_39 ?_
      refine x_istore hx hb dX_take_40 (by decide) (lv' := [(6, .int (iI 0)), (5, .int (iI z8)), (4, .ref (ad o7 0)), (3, .int (iI z1)), (0, .ref (ad 0 0)), (1, .int (iI x1)), (2, .int (iI x2))]) rfl ?_
      obtain ⟨j, h⟩ := h
      refine x_sub [4, 3, 2, 1, 0] rfl ?_
      exact tb_X_take_42 hO j z1 o7 z8 0 f9 a10 h
    · have h := h.2 hc
      refine x_bipush hx hb dX_take_20 (by decide) ?_
      exact x_iret hx hb hr hlk hK dX_take_22 h
  · have h := h.2 hc
    refine x_iconst hx hb dX_take_12 ?_
    exact x_iret hx hb hr hlk hK dX_take_13 h
