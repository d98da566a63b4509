-- M_leadsBack
abbrev rmM_leadsBack : Room := { frames := 1, cells := 0, slots := 0, locals := 23 }
abbrev gM_leadsBack (p : Program) (l : Launch) (e : Env) (s : State) (m : MethodId) (args : Array Value) (below : List Frame) (meth : Method) (c : Code) (A : Nat → Prop) (D : va_G) (ad : Nat → Nat → Nat) (cA : Nat → Nat → ClassId) (post : Int → fS → aS → Prop) (f : fS) (a : aS) (lv : List (Nat × Value)) (pc : Nat) (st : List Value) : Prop := xV p l e rmM_leadsBack s m args below meth c s.heap A 0 0 (xQI below D vwCl (taM cA) (MW ad cA) post A args s) D vwCl 4 (MW ad cA f a) lv pc st
def wb_M_leadsBack_47 (post : Int → fS → aS → Prop) (y0 : Int) (f : fS) (a : aS) : Prop := (y0 = 0 ∨ y0 = 1) ∧ post y0 f a
set_option maxHeartbeats 4000000 in
set_option maxRecDepth 100000 in
theorem tb_M_leadsBack_47 {p : Program} {l : Launch} {e : Env} {s : State} {m : MethodId} {args : Array Value} {below : List Frame} {meth : Method} {c : Code} {A : Nat → Prop} {D : va_G} {ad : Nat → Nat → Nat} {cA : Nat → Nat → ClassId} {post : Int → fS → aS → Prop} (hO : xOk cM_leadsBack 4 RM (Cond.code yM_leadsBack cM_leadsBack 4 (some .boolean) :: xG) (some .boolean) p s m args meth c A D vwCl (taM cA)) : ∀ (y0 : Int) (f : fS) (a : aS), wb_M_leadsBack_47 post y0 f a → gM_leadsBack p l e s m args below meth c A D ad cA post f a [] 47 [.int (iI y0)] := by
  have hO9 := hO
  obtain ⟨hx, hb, hml, hown, hts, hr, hlk, hK, hN, hA⟩ := hO9
  intro y0 f a h
  unfold wb_M_leadsBack_47 at h
  exact x_zret hx hb hr hlk hK dM_leadsBack_47 h.1 h.2
def wb_M_leadsBack_38 (post : Int → fS → aS → Prop) (x2 : Int) (f : fS) (a : aS) : Prop := ir x2 ∧ (((¬ x2 = 0) → (wb_M_leadsBack_47 post 0 f a)) ∧ (¬ (¬ x2 = 0) → (wb_M_leadsBack_47 post 1 f a)))
set_option maxHeartbeats 4000000 in
set_option maxRecDepth 100000 in
theorem tb_M_leadsBack_38 {p : Program} {l : Launch} {e : Env} {s : State} {m : MethodId} {args : Array Value} {below : List Frame} {meth : Method} {c : Code} {A : Nat → Prop} {D : va_G} {ad : Nat → Nat → Nat} {cA : Nat → Nat → ClassId} {post : Int → fS → aS → Prop} (hO : xOk cM_leadsBack 4 RM (Cond.code yM_leadsBack cM_leadsBack 4 (some .boolean) :: xG) (some .boolean) p s m args meth c A D vwCl (taM cA)) : ∀ (x2 : Int) (f : fS) (a : aS), wb_M_leadsBack_38 post x2 f a → gM_leadsBack p l e s m args below meth c A D ad cA post f a [(2, .int (iI x2))] 38 [] := by
  have hO9 := hO
  obtain ⟨hx, hb, hml, hown, hts, hr, hlk, hK, hN, hA⟩ := hO9
  intro x2 f a h
  unfold wb_M_leadsBack_38 at h
  refine x_iload_n hx hb dM_leadsBack_38 rfl 0 rfl ?_
  obtain ⟨hi11, h⟩ := h
  refine x_if_ne hx hb (tgt := 46) hi11  dM_leadsBack_39 (by decide) (fun hc => ?_) (fun hc => ?_)
  · have h := h.1 hc
    refine x_iconst hx hb dM_leadsBack_46 ?_
    refine x_sub [] rfl ?_
    exact tb_M_leadsBack_47 hO 0 f a h
  · have h := h.2 hc
    refine x_iconst hx hb dM_leadsBack_42 ?_
    refine x_goto hx hb (tgt := 47) dM_leadsBack_43 (by decide) ?_
    refine x_sub [] rfl ?_
    exact tb_M_leadsBack_47 hO 1 f a h
def wb_M_leadsBack_4 (post : Int → fS → aS → Prop) : Nat → Int → Int → Int → fS → aS → Prop
  | 0, _, _, _, _, _ => False
  | n + 1, x1, x2, x3, f, a => ir x3 ∧ (ir (f 0 23) ∧ (((f 0 23 ≤ x3) → (wb_M_leadsBack_38 post x2 f a)) ∧ (¬ (f 0 23 ≤ x3) → (ir x2 ∧ (((x2 < 0) → (wb_M_leadsBack_38 post x2 f a)) ∧ (¬ (x2 < 0) → ((0 ≤ x3 ∧ x3 < 132) ∧ (wp_M_numberOf (fun z5 f6 a7 => wp_M_way (fun z8 f9 a10 => wb_M_leadsBack_4 post n x1 z8 (x3 + 1) f9 a10) x1 x2 z5 f6 a7) (a 0 24 (Int.toNat x3)) f a))))))))
set_option maxHeartbeats 4000000 in
set_option maxRecDepth 100000 in
theorem tb_M_leadsBack_4 {p : Program} {l : Launch} {e : Env} {s : State} {m : MethodId} {args : Array Value} {below : List Frame} {meth : Method} {c : Code} {A : Nat → Prop} {D : va_G} {ad : Nat → Nat → Nat} {cA : Nat → Nat → ClassId} {post : Int → fS → aS → Prop} (hO : xOk cM_leadsBack 4 RM (Cond.code yM_leadsBack cM_leadsBack 4 (some .boolean) :: xG) (some .boolean) p s m args meth c A D vwCl (taM cA)) : ∀ (n : Nat) (x1 : Int) (x2 : Int) (x3 : Int) (f : fS) (a : aS), wb_M_leadsBack_4 post n x1 x2 x3 f a → gM_leadsBack p l e s m args below meth c A D ad cA post f a [(0, .ref (ad 0 0)), (1, .int (iI x1)), (2, .int (iI x2)), (3, .int (iI x3))] 4 [] := by
  have hO9 := hO
  obtain ⟨hx, hb, hml, hown, hts, hr, hlk, hK, hN, hA⟩ := hO9
  intro n
  induction n with
  | zero => intro x1 x2 x3 f a h; exact False.elim h
  | succ n ih =>
    intro x1 x2 x3 f a h
    rw [wb_M_leadsBack_4] at h
    refine x_iload_n hx hb dM_leadsBack_4 rfl 3 rfl ?_
    refine x_aload_n hx hb dM_leadsBack_5 rfl 0 rfl ?_
    refine x_get hx hb hts (jnM _) hown hK _ (woM ad cA f a) rfl 23 (by decide) (hts _ (List.mem_cons_of_mem _ kfM_146)) (fun _ h9 => h9) (v := .int (iI (f 0 23))) (by rfl) dM_leadsBack_6 ?_
    obtain ⟨hi1, h⟩ := h
    obtain ⟨hi2, h⟩ := h
    refine x_icmp_ge hx hb (tgt := 38) hi1 hi2 dM_leadsBack_9 (by decide) (fun hc => ?_) (fun hc => ?_)
    · have h := h.1 hc
      refine x_sub [2] rfl ?_
      exact tb_M_leadsBack_38 hO x2 f a h
    · have h := h.2 hc
      refine x_iload_n hx hb dM_leadsBack_12 rfl 2 rfl ?_
      obtain ⟨hi3, h⟩ := h
      refine x_if_lt hx hb (tgt := 38) hi3  dM_leadsBack_13 (by decide) (fun hc => ?_) (fun hc => ?_)
      · have h := h.1 hc
        refine x_sub [2] rfl ?_
        exact tb_M_leadsBack_38 hO x2 f a h
      · have h := h.2 hc
        refine x_aload_n hx hb dM_leadsBack_16 rfl 0 rfl ?_
        refine x_iload_n hx hb dM_leadsBack_17 rfl 1 rfl ?_
        refine x_iload_n hx hb dM_leadsBack_18 rfl 2 rfl ?_
        refine x_aload_n hx hb dM_leadsBack_19 rfl 0 rfl ?_
        refine x_get hx hb hts (jnM _) hown hK _ (woM ad cA f a) rfl 24 (by decide) (hts _ (List.mem_cons_of_mem _ kfM_55)) (fun _ h9 => h9) (v := .ref (ad 0 25)) (by rfl) dM_leadsBack_20 ?_
        refine x_iload_n hx hb dM_leadsBack_23 rfl 3 rfl ?_
        obtain ⟨hj4, h⟩ := h
        refine x_iald hx hb hK _ _ (wa24M ad cA f a) (wt24M cA) hj4.1 hj4.2 (by decide) dM_leadsBack_24 ?_
        refine x_cSi (n := 1) (st := [.int (iI x2), .int (iI x1), .ref (ad 0 0)]) (As := [.int (iI (a 0 24 (Int.toNat x3)))]) ⟨hx, hb, hml, hown, hts⟩ hK hN (m_M_numberOf h) (x_cwS hts rfl rfl kcM_numberOf knM klM_78 ksM_numberOf ⟨by decide, by decide, by decide +kernel⟩ ⟨by decide, by decide⟩) hA rfl (Nat.le_of_ble_eq_true rfl) ⟨Nat.zero_le _, Nat.zero_le _⟩ rfl dM_leadsBack_25 (fun z5 f6 a7 h => ?_)
        refine x_cVi (n := 3) (st := []) (As := [.int (iI x1), .int (iI x2), .int (iI z5)]) ⟨hx, hb, hml, hown, hts⟩ hK hN (m_M_way h) (x_cwV hts rfl rfl kcM_way knM klM_82 kiM_way keM_way ⟨by decide, by decide, by decide +kernel⟩ ⟨by decide, by decide⟩) _ (woM ad cA f6 a7) rfl hA rfl (Nat.le_of_ble_eq_true rfl) ⟨Nat.zero_le _, Nat.zero_le _⟩ rfl dM_leadsBack_28 (fun z8 f9 a10 h => ?_)
        refine x_istore_n hx hb dM_leadsBack_31 rfl (by decide) (lv' := [(2, .int (iI z8)), (0, .ref (ad 0 0)), (1, .int (iI x1)), (3, .int (iI x3))]) rfl ?_
        refine x_iinc hx hb dM_leadsBack_32 3 rfl (by decide) (lv' := [(3, .int (iI (x3 + 1))), (2, .int (iI z8)), (0, .ref (ad 0 0)), (1, .int (iI x1))]) rfl ?_
        refine x_goto hx hb (tgt := 4) dM_leadsBack_35 (by decide) ?_
        refine x_sub [2, 3, 1, 0] rfl ?_
        exact ih x1 z8 (x3 + 1) f9 a10 h
def wp_M_leadsBack (post : Int → fS → aS → Prop) (x1 : Int) (f : fS) (a : aS) : Prop := ∃ j, wb_M_leadsBack_4 post j x1 0 0 f a
set_option maxHeartbeats 4000000 in
set_option maxRecDepth 100000 in
theorem m_M_leadsBack {l : Launch} {D : va_G} {ad : Nat → Nat → Nat} {cA : Nat → Nat → ClassId} {post : Int → fS → aS → Prop} {x1 : Int} {f : fS} {a : aS} (h : wp_M_leadsBack post x1 f a) : xCI l yM_leadsBack (Cond.code yM_leadsBack cM_leadsBack 4 (some .boolean) :: xG) rmM_leadsBack D vwCl (taM cA) (MW ad cA f a) [.ref (ad 0 0), .int (iI x1)] (MW ad cA) post := by
  refine x_metI (cc := cM_leadsBack) (nL := 4) (by decide) rfl (Nat.le_of_ble_eq_true rfl) ?_
  intro p e s m below meth c A hO
  have hO9 := hO
  obtain ⟨hx, hb, hml, hown, hts, hr, hlk, hK, hN, hA⟩ := hO9
  unfold wp_M_leadsBack at h
  show gM_leadsBack p l e s m _ below meth c A D ad cA post f a [(0, .ref (ad 0 0)), (1, .int (iI x1))] 0 []
  refine x_iconst hx hb dM_leadsBack_0 ?_
  refine x_istore_n hx hb dM_leadsBack_1 rfl (by decide) (lv' := [(2, .int (iI 0)), (0, .ref (ad 0 0)), (1, .int (iI x1))]) rfl ?_
  refine x_iconst hx hb dM_leadsBack_2 ?_
  refine x_istore_n hx hb dM_leadsBack_3 rfl (by decide) (lv' := [(3, .int (iI 0)), (2, .int (iI 0)), (0, .ref (ad 0 0)), (1, .int (iI x1))]) rfl ?_
  obtain ⟨j, h⟩ := h
  refine x_sub [2, 3, 1, 0] rfl ?_
  exact tb_M_leadsBack_4 hO j x1 0 0 f a h
-- M_take
abbrev rmM_take : Room := { frames := 3, cells := 0, slots := 0, locals := 67 }
abbrev gM_take (p : Program) (l : Launch) (e : Env) (s : State) (m : MethodId) (args : Array Value) (below : List Frame) (meth : Method) (c : Code) (A : Nat → Prop) (D : va_G) (ad : Nat → Nat → Nat) (cA : Nat → Nat → ClassId) (post : Int → fS → aS → Prop) (f : fS) (a : aS) (lv : List (Nat × Value)) (pc : Nat) (st : List Value) : Prop := xV p l e rmM_take s m args below meth c s.heap A 0 0 (xQI below D vwCl (taM cA) (MW ad cA) post A args s) D vwCl 4 (MW ad cA f a) lv pc st
def wb_M_take_16 (post : Int → fS → aS → Prop) (f : fS) (a : aS) : Prop := post (-1) f a
set_option maxHeartbeats 4000000 in
set_option maxRecDepth 100000 in
theorem tb_M_take_16 {p : Program} {l : Launch} {e : Env} {s : State} {m : MethodId} {args : Array Value} {below : List Frame} {meth : Method} {c : Code} {A : Nat → Prop} {D : va_G} {ad : Nat → Nat → Nat} {cA : Nat → Nat → ClassId} {post : Int → fS → aS → Prop} (hO : xOk cM_take 4 RM (Cond.code yM_take cM_take 4 (some .int) :: xG) (some .int) p s m args meth c A D vwCl (taM cA)) : ∀ (f : fS) (a : aS), wb_M_take_16 post f a → gM_take p l e s m args below meth c A D ad cA post f a [] 16 [] := by
  have hO9 := hO
  obtain ⟨hx, hb, hml, hown, hts, hr, hlk, hK, hN, hA⟩ := hO9
  intro f a h
  unfold wb_M_take_16 at h
  refine x_iconst hx hb dM_take_16 ?_
  exact x_iret hx hb hr hlk hK dM_take_17 h
def wb_M_take_50 (post : Int → fS → aS → Prop) : Nat → Int → fS → aS → Prop
  | 0, _, _, _ => False
  | n + 1, x3, f, a => ir x3 ∧ (ir (f 0 1) ∧ (((f 0 1 ≤ x3) → (post (f 0 1) f a)) ∧ (¬ (f 0 1 ≤ x3) → ((0 ≤ x3 ∧ x3 < 132) ∧ ((0 ≤ x3 ∧ x3 < 24) ∧ (wb_M_take_50 post n (x3 + 1) f (setA a 0 2 (va_up (a 0 2) (Int.toNat x3) (a 0 24 (Int.toNat x3))))))))))
set_option maxHeartbeats 4000000 in
set_option maxRecDepth 100000 in
theorem tb_M_take_50 {p : Program} {l : Launch} {e : Env} {s : State} {m : MethodId} {args : Array Value} {below : List Frame} {meth : Method} {c : Code} {A : Nat → Prop} {D : va_G} {ad : Nat → Nat → Nat} {cA : Nat → Nat → ClassId} {post : Int → fS → aS → Prop} (hO : xOk cM_take 4 RM (Cond.code yM_take cM_take 4 (some .int) :: xG) (some .int) p s m args meth c A D vwCl (taM cA)) : ∀ (n : Nat) (x3 : Int) (f : fS) (a : aS), wb_M_take_50 post n x3 f a → gM_take p l e s m args below meth c A D ad cA post f a [(0, .ref (ad 0 0)), (3, .int (iI x3))] 50 [] := by
  have hO9 := hO
  obtain ⟨hx, hb, hml, hown, hts, hr, hlk, hK, hN, hA⟩ := hO9
  intro n
  induction n with
  | zero => intro x3 f a h; exact False.elim h
  | succ n ih =>
    intro x3 f a h
    rw [wb_M_take_50] at h
    refine x_iload_n hx hb dM_take_50 rfl 1 rfl ?_
    refine x_aload_n hx hb dM_take_51 rfl 0 rfl ?_
    refine x_get hx hb hts (jnM _) hown hK _ (woM ad cA f a) rfl 1 (by decide) (hts _ (List.mem_cons_of_mem _ kfM_66)) (fun _ h9 => h9) (v := .int (iI (f 0 1))) (by rfl) dM_take_52 ?_
    obtain ⟨hi13, h⟩ := h
    obtain ⟨hi14, h⟩ := h
    refine x_icmp_ge hx hb (tgt := 76) hi13 hi14 dM_take_55 (by decide) (fun hc => ?_) (fun hc => ?_)
    · have h := h.1 hc
      refine x_aload_n hx hb dM_take_76 rfl 0 rfl ?_
      refine x_get hx hb hts (jnM _) hown hK _ (woM ad cA f a) rfl 1 (by decide) (hts _ (List.mem_cons_of_mem _ kfM_66)) (fun _ h9 => h9) (v := .int (iI (f 0 1))) (by rfl) dM_take_77 ?_
      exact x_iret hx hb hr hlk hK dM_take_80 h
    · have h := h.2 hc
      refine x_aload_n hx hb dM_take_58 rfl 0 rfl ?_
      refine x_get hx hb hts (jnM _) hown hK _ (woM ad cA f a) rfl 2 (by decide) (hts _ (List.mem_cons_of_mem _ kfM_7)) (fun _ h9 => h9) (v := .ref (ad 0 3)) (by rfl) dM_take_59 ?_
      refine x_iload_n hx hb dM_take_62 rfl 1 rfl ?_
      refine x_aload_n hx hb dM_take_63 rfl 0 rfl ?_
      refine x_get hx hb hts (jnM _) hown hK _ (woM ad cA f a) rfl 24 (by decide) (hts _ (List.mem_cons_of_mem _ kfM_55)) (fun _ h9 => h9) (v := .ref (ad 0 25)) (by rfl) dM_take_64 ?_
      refine x_iload_n hx hb dM_take_67 rfl 1 rfl ?_
      obtain ⟨hj15, h⟩ := h
      refine x_iald hx hb hK _ _ (wa24M ad cA f a) (wt24M cA) hj15.1 hj15.2 (by decide) dM_take_68 ?_
      obtain ⟨hj16, h⟩ := h
      refine x_iast hx hb hK _ _ (wa2M ad cA f a) (wt2M cA) hj16.1 hj16.2 (by decide) dM_take_69 (ws2M ad cA f a (va_up (a 0 2) (Int.toNat x3) (a 0 24 (Int.toNat x3)))) ?_
      refine x_iinc hx hb dM_take_70 1 rfl (by decide) (lv' := [(3, .int (iI (x3 + 1))), (0, .ref (ad 0 0))]) rfl ?_
      refine x_goto hx hb (tgt := 50) dM_take_73 (by decide) ?_
      refine x_sub [1, 0] rfl ?_
      exact ih (x3 + 1) f (setA a 0 2 (va_up (a 0 2) (Int.toNat x3) (a 0 24 (Int.toNat x3)))) h
def wp_M_take (post : Int → fS → aS → Prop) (x1 : Int) (x2 : Int) (f : fS) (a : aS) : Prop := wp_M_isGroup (fun z1 f2 a3 => ir z1 ∧ (((z1 = 0) → (wb_M_take_16 post f2 a3)) ∧ (¬ (z1 = 0) → (wp_M_find (fun z5 f6 a7 => ir z5 ∧ (((¬ z5 = 0) → (wp_M_putElement (fun f10 a11 => ir (f10 0 23) ∧ (((f10 0 23 ≤ 24) → (∃ j, wb_M_take_50 post j 0 (setF f10 0 1 (f10 0 23)) a11)) ∧ (¬ (f10 0 23 ≤ 24) → (post (-2) f10 a11)))) x1 (setF f6 0 23 0) a7)) ∧ (¬ (¬ z5 = 0) → (wb_M_take_16 post f6 a7)))) x1 x2 f2 a3)))) x1 f a
set_option maxHeartbeats 4000000 in
set_option maxRecDepth 100000 in
theorem m_M_take {l : Launch} {D : va_G} {ad : Nat → Nat → Nat} {cA : Nat → Nat → ClassId} {post : Int → fS → aS → Prop} {x1 : Int} {x2 : Int} {f : fS} {a : aS} (h : wp_M_take post x1 x2 f a) : xCI l yM_take (Cond.code yM_take cM_take 4 (some .int) :: xG) rmM_take D vwCl (taM cA) (MW ad cA f a) [.ref (ad 0 0), .int (iI x1), .int (iI x2)] (MW ad cA) post := by
  refine x_metI (cc := cM_take) (nL := 4) (by decide) rfl (Nat.le_of_ble_eq_true rfl) ?_
  intro p e s m below meth c A hO
  have hO9 := hO
  obtain ⟨hx, hb, hml, hown, hts, hr, hlk, hK, hN, hA⟩ := hO9
  unfold wp_M_take at h
  show gM_take p l e s m _ below meth c A D ad cA post f a [(0, .ref (ad 0 0)), (1, .int (iI x1)), (2, .int (iI x2))] 0 []
  refine x_iload_n hx hb dM_take_0 rfl 1 rfl ?_
  refine x_cSi (n := 1) (st := []) (As := [.int (iI x1)]) ⟨hx, hb, hml, hown, hts⟩ hK hN (m_M_isGroup h) (x_cwS hts rfl rfl kcM_isGroup knM klM_101 ksM_isGroup ⟨by decide, by decide, by decide +kernel⟩ ⟨by decide, by decide⟩) hA rfl (Nat.le_of_ble_eq_true rfl) ⟨Nat.zero_le _, Nat.zero_le _⟩ rfl dM_take_1 (fun z1 f2 a3 h => ?_)
  obtain ⟨hi4, h⟩ := h
  refine x_if_eq hx hb (tgt := 16) hi4  dM_take_4 (by decide) (fun hc => ?_) (fun hc => ?_)
  · have h := h.1 hc
    refine x_sub [] rfl ?_
    exact tb_M_take_16 hO f2 a3 h
  · have h := h.2 hc
    refine x_aload_n hx hb dM_take_7 rfl 0 rfl ?_
    refine x_iload_n hx hb dM_take_8 rfl 1 rfl ?_
    refine x_iload_n hx hb dM_take_9 rfl 2 rfl ?_
    refine x_cVi (n := 2) (st := []) (As := [.int (iI x1), .int (iI x2)]) ⟨hx, hb, hml, hown, hts⟩ hK hN (m_M_find h) (x_cwV hts rfl rfl kcM_find knM klM_155 kiM_find keM_find ⟨by decide, by decide, by decide +kernel⟩ ⟨by decide, by decide⟩) _ (woM ad cA f2 a3) rfl hA rfl (Nat.le_of_ble_eq_true rfl) ⟨Nat.zero_le _, Nat.zero_le _⟩ rfl dM_take_10 (fun z5 f6 a7 h => ?_)
    obtain ⟨hi8, h⟩ := h
    refine x_if_ne hx hb (tgt := 18) hi8  dM_take_13 (by decide) (fun hc => ?_) (fun hc => ?_)
    · have h := h.1 hc
      refine x_aload_n hx hb dM_take_18 rfl 0 rfl ?_
      refine x_iconst hx hb dM_take_19 ?_
      refine x_put hx hb hts (jnM _) tyM tkM nmM hown hK _ (woM ad cA f6 a7) rfl 23 (by decide) (hts _ (List.mem_cons_of_mem _ kfM_146)) (fun _ h9 => h9) rfl (by decide +kernel) (Nat.le_of_ble_eq_true rfl) dM_take_20 (wf23M ad cA f6 a7 0) ?_
      refine x_aload_n hx hb dM_take_23 rfl 0 rfl ?_
      refine x_iload_n hx hb dM_take_24 rfl 1 rfl ?_
      refine x_cVv (n := 1) (st := []) (As := [.int (iI x1)]) ⟨hx, hb, hml, hown, hts⟩ hK hN (m_M_putElement h) (x_cwV hts rfl rfl kcM_putElement knM klM_159 kiM_putElement keM_putElement ⟨by decide, by decide, by decide +kernel⟩ ⟨by decide, by decide⟩) _ (woM ad cA (setF f6 0 23 0) a7) rfl hA rfl (Nat.le_of_ble_eq_true rfl) ⟨Nat.zero_le _, Nat.zero_le _⟩ rfl dM_take_25 (fun f10 a11 h => ?_)
      refine x_aload_n hx hb dM_take_28 rfl 0 rfl ?_
      refine x_get hx hb hts (jnM _) hown hK _ (woM ad cA f10 a11) rfl 23 (by decide) (hts _ (List.mem_cons_of_mem _ kfM_146)) (fun _ h9 => h9) (v := .int (iI (f10 0 23))) (by rfl) dM_take_29 ?_
      refine x_bipush hx hb dM_take_32 (by decide) ?_
      obtain ⟨hi12, h⟩ := h
      refine x_icmp_le hx hb (tgt := 40) hi12 (by decide) dM_take_34 (by decide) (fun hc => ?_) (fun hc => ?_)
      · have h := h.1 hc
        refine x_aload_n hx hb dM_take_40 rfl 0 rfl ?_
        refine x_aload_n hx hb dM_take_41 rfl 0 rfl ?_
        refine x_get hx hb hts (jnM _) hown hK _ (woM ad cA f10 a11) rfl 23 (by decide) (hts _ (List.mem_cons_of_mem _ kfM_146)) (fun _ h9 => h9) (v := .int (iI (f10 0 23))) (by rfl) dM_take_42 ?_
        refine x_put hx hb hts (jnM _) tyM tkM nmM hown hK _ (woM ad cA f10 a11) rfl 1 (by decide) (hts _ (List.mem_cons_of_mem _ kfM_66)) (fun _ h9 => h9) rfl (by decide +kernel) (Nat.le_of_ble_eq_true rfl) dM_take_45 (wf1M ad cA f10 a11 (f10 0 23)) ?_
        refine x_iconst hx hb dM_take_48 ?_
        refine x_istore_n hx hb dM_take_49 rfl (by decide) (lv' := [(3, .int (iI 0)), (0, .ref (ad 0 0)), (1, .int (iI x1)), (2, .int (iI x2))]) rfl ?_
        obtain ⟨j, h⟩ := h
        refine x_sub [1, 0] rfl ?_
        exact tb_M_take_50 hO j 0 (setF f10 0 1 (f10 0 23)) a11 h
      · have h := h.2 hc
        refine x_bipush hx hb dM_take_37 (by decide) ?_
        exact x_iret hx hb hr hlk hK dM_take_39 h
    · have h := h.2 hc
      refine x_sub [] rfl ?_
      exact tb_M_take_16 hO f6 a7 h
-- M_length
abbrev rmM_length : Room := { frames := 3, cells := 0, slots := 0, locals := 67 }
abbrev gM_length (p : Program) (l : Launch) (e : Env) (s : State) (m : MethodId) (args : Array Value) (below : List Frame) (meth : Method) (c : Code) (A : Nat → Prop) (D : va_G) (ad : Nat → Nat → Nat) (cA : Nat → Nat → ClassId) (post : Int → fS → aS → Prop) (f : fS) (a : aS) (lv : List (Nat × Value)) (pc : Nat) (st : List Value) : Prop := xV p l e rmM_length s m args below meth c s.heap A 0 0 (xQI below D vwCl (taM cA) (MW ad cA) post A args s) D vwCl 3 (MW ad cA f a) lv pc st
def wb_M_length_16 (post : Int → fS → aS → Prop) (f : fS) (a : aS) : Prop := post (-1) f a
set_option maxHeartbeats 4000000 in
set_option maxRecDepth 100000 in
theorem tb_M_length_16 {p : Program} {l : Launch} {e : Env} {s : State} {m : MethodId} {args : Array Value} {below : List Frame} {meth : Method} {c : Code} {A : Nat → Prop} {D : va_G} {ad : Nat → Nat → Nat} {cA : Nat → Nat → ClassId} {post : Int → fS → aS → Prop} (hO : xOk cM_length 3 RM (Cond.code yM_length cM_length 3 (some .int) :: xG) (some .int) p s m args meth c A D vwCl (taM cA)) : ∀ (f : fS) (a : aS), wb_M_length_16 post f a → gM_length p l e s m args below meth c A D ad cA post f a [] 16 [] := by
  have hO9 := hO
  obtain ⟨hx, hb, hml, hown, hts, hr, hlk, hK, hN, hA⟩ := hO9
  intro f a h
  unfold wb_M_length_16 at h
  refine x_iconst hx hb dM_length_16 ?_
  exact x_iret hx hb hr hlk hK dM_length_17 h
def wp_M_length (post : Int → fS → aS → Prop) (x1 : Int) (x2 : Int) (f : fS) (a : aS) : Prop := wp_M_isGroup (fun z1 f2 a3 => ir z1 ∧ (((z1 = 0) → (wb_M_length_16 post f2 a3)) ∧ (¬ (z1 = 0) → (wp_M_find (fun z5 f6 a7 => ir z5 ∧ (((¬ z5 = 0) → (wp_M_putElement (fun f10 a11 => post (f10 0 23) f10 a11) x1 (setF f6 0 23 0) a7)) ∧ (¬ (¬ z5 = 0) → (wb_M_length_16 post f6 a7)))) x1 x2 f2 a3)))) x1 f a
set_option maxHeartbeats 4000000 in
set_option maxRecDepth 100000 in
theorem m_M_length {l : Launch} {D : va_G} {ad : Nat → Nat → Nat} {cA : Nat → Nat → ClassId} {post : Int → fS → aS → Prop} {x1 : Int} {x2 : Int} {f : fS} {a : aS} (h : wp_M_length post x1 x2 f a) : xCI l yM_length (Cond.code yM_length cM_length 3 (some .int) :: xG) rmM_length D vwCl (taM cA) (MW ad cA f a) [.ref (ad 0 0), .int (iI x1), .int (iI x2)] (MW ad cA) post := by
  refine x_metI (cc := cM_length) (nL := 3) (by decide) rfl (Nat.le_of_ble_eq_true rfl) ?_
  intro p e s m below meth c A hO
  have hO9 := hO
  obtain ⟨hx, hb, hml, hown, hts, hr, hlk, hK, hN, hA⟩ := hO9
  unfold wp_M_length at h
  show gM_length p l e s m _ below meth c A D ad cA post f a [(0, .ref (ad 0 0)), (1, .int (iI x1)), (2, .int (iI x2))] 0 []
  refine x_iload_n hx hb dM_length_0 rfl 1 rfl ?_
  refine x_cSi (n := 1) (st := []) (As := [.int (iI x1)]) ⟨hx, hb, hml, hown, hts⟩ hK hN (m_M_isGroup h) (x_cwS hts rfl rfl kcM_isGroup knM klM_101 ksM_isGroup ⟨by decide, by decide, by decide +kernel⟩ ⟨by decide, by decide⟩) hA rfl (Nat.le_of_ble_eq_true rfl) ⟨Nat.zero_le _, Nat.zero_le _⟩ rfl dM_length_1 (fun z1 f2 a3 h => ?_)
  obtain ⟨hi4, h⟩ := h
  refine x_if_eq hx hb (tgt := 16) hi4  dM_length_4 (by decide) (fun hc => ?_) (fun hc => ?_)
  · have h := h.1 hc
    refine x_sub [] rfl ?_
    exact tb_M_length_16 hO f2 a3 h
  · have h := h.2 hc
    refine x_aload_n hx hb dM_length_7 rfl 0 rfl ?_
    refine x_iload_n hx hb dM_length_8 rfl 1 rfl ?_
    refine x_iload_n hx hb dM_length_9 rfl 2 rfl ?_
    refine x_cVi (n := 2) (st := []) (As := [.int (iI x1), .int (iI x2)]) ⟨hx, hb, hml, hown, hts⟩ hK hN (m_M_find h) (x_cwV hts rfl rfl kcM_find knM klM_155 kiM_find keM_find ⟨by decide, by decide, by decide +kernel⟩ ⟨by decide, by decide⟩) _ (woM ad cA f2 a3) rfl hA rfl (Nat.le_of_ble_eq_true rfl) ⟨Nat.zero_le _, Nat.zero_le _⟩ rfl dM_length_10 (fun z5 f6 a7 h => ?_)
    obtain ⟨hi8, h⟩ := h
    refine x_if_ne hx hb (tgt := 18) hi8  dM_length_13 (by decide) (fun hc => ?_) (fun hc => ?_)
    · have h := h.1 hc
      refine x_aload_n hx hb dM_length_18 rfl 0 rfl ?_
      refine x_iconst hx hb dM_length_19 ?_
      refine x_put hx hb hts (jnM _) tyM tkM nmM hown hK _ (woM ad cA f6 a7) rfl 23 (by decide) (hts _ (List.mem_cons_of_mem _ kfM_146)) (fun _ h9 => h9) rfl (by decide +kernel) (Nat.le_of_ble_eq_true rfl) dM_length_20 (wf23M ad cA f6 a7 0) ?_
      refine x_aload_n hx hb dM_length_23 rfl 0 rfl ?_
      refine x_iload_n hx hb dM_length_24 rfl 1 rfl ?_
      refine x_cVv (n := 1) (st := []) (As := [.int (iI x1)]) ⟨hx, hb, hml, hown, hts⟩ hK hN (m_M_putElement h) (x_cwV hts rfl rfl kcM_putElement knM klM_159 kiM_putElement keM_putElement ⟨by decide, by decide, by decide +kernel⟩ ⟨by decide, by decide⟩) _ (woM ad cA (setF f6 0 23 0) a7) rfl hA rfl (Nat.le_of_ble_eq_true rfl) ⟨Nat.zero_le _, Nat.zero_le _⟩ rfl dM_length_25 (fun f10 a11 h => ?_)
      refine x_aload_n hx hb dM_length_28 rfl 0 rfl ?_
      refine x_get hx hb hts (jnM _) hown hK _ (woM ad cA f10 a11) rfl 23 (by decide) (hts _ (List.mem_cons_of_mem _ kfM_146)) (fun _ h9 => h9) (v := .int (iI (f10 0 23))) (by rfl) dM_length_29 ?_
      exact x_iret hx hb hr hlk hK dM_length_32 h
    · have h := h.2 hc
      refine x_sub [] rfl ?_
      exact tb_M_length_16 hO f6 a7 h
-- M_basis
abbrev rmM_basis : Room := { frames := 3, cells := 0, slots := 0, locals := 67 }
abbrev gM_basis (p : Program) (l : Launch) (e : Env) (s : State) (m : MethodId) (args : Array Value) (below : List Frame) (meth : Method) (c : Code) (A : Nat → Prop) (D : va_G) (ad : Nat → Nat → Nat) (cA : Nat → Nat → ClassId) (post : Int → fS → aS → Prop) (f : fS) (a : aS) (lv : List (Nat × Value)) (pc : Nat) (st : List Value) : Prop := xV p l e rmM_basis s m args below meth c s.heap A 0 0 (xQI below D vwCl (taM cA) (MW ad cA) post A args s) D vwCl 4 (MW ad cA f a) lv pc st
def wb_M_basis_16 (post : Int → fS → aS → Prop) (f : fS) (a : aS) : Prop := post 0 f a
set_option maxHeartbeats 4000000 in
set_option maxRecDepth 100000 in
theorem tb_M_basis_16 {p : Program} {l : Launch} {e : Env} {s : State} {m : MethodId} {args : Array Value} {below : List Frame} {meth : Method} {c : Code} {A : Nat → Prop} {D : va_G} {ad : Nat → Nat → Nat} {cA : Nat → Nat → ClassId} {post : Int → fS → aS → Prop} (hO : xOk cM_basis 4 RM (Cond.code yM_basis cM_basis 4 (some .int) :: xG) (some .int) p s m args meth c A D vwCl (taM cA)) : ∀ (f : fS) (a : aS), wb_M_basis_16 post f a → gM_basis p l e s m args below meth c A D ad cA post f a [] 16 [] := by
  have hO9 := hO
  obtain ⟨hx, hb, hml, hown, hts, hr, hlk, hK, hN, hA⟩ := hO9
  intro f a h
  unfold wb_M_basis_16 at h
  refine x_iconst hx hb dM_basis_16 ?_
  exact x_iret hx hb hr hlk hK dM_basis_17 h
def wb_M_basis_50 (post : Int → fS → aS → Prop) (y0 : Int) (f : fS) (a : aS) : Prop := post y0 f a
set_option maxHeartbeats 4000000 in
set_option maxRecDepth 100000 in
theorem tb_M_basis_50 {p : Program} {l : Launch} {e : Env} {s : State} {m : MethodId} {args : Array Value} {below : List Frame} {meth : Method} {c : Code} {A : Nat → Prop} {D : va_G} {ad : Nat → Nat → Nat} {cA : Nat → Nat → ClassId} {post : Int → fS → aS → Prop} (hO : xOk cM_basis 4 RM (Cond.code yM_basis cM_basis 4 (some .int) :: xG) (some .int) p s m args meth c A D vwCl (taM cA)) : ∀ (y0 : Int) (f : fS) (a : aS), wb_M_basis_50 post y0 f a → gM_basis p l e s m args below meth c A D ad cA post f a [] 50 [.int (iI y0)] := by
  have hO9 := hO
  obtain ⟨hx, hb, hml, hown, hts, hr, hlk, hK, hN, hA⟩ := hO9
  intro y0 f a h
  unfold wb_M_basis_50 at h
  exact x_iret hx hb hr hlk hK dM_basis_50 h
def wb_M_basis_49 (post : Int → fS → aS → Prop) (f : fS) (a : aS) : Prop := wb_M_basis_50 post 0 f a
set_option maxHeartbeats 4000000 in
set_option maxRecDepth 100000 in
theorem tb_M_basis_49 {p : Program} {l : Launch} {e : Env} {s : State} {m : MethodId} {args : Array Value} {below : List Frame} {meth : Method} {c : Code} {A : Nat → Prop} {D : va_G} {ad : Nat → Nat → Nat} {cA : Nat → Nat → ClassId} {post : Int → fS → aS → Prop} (hO : xOk cM_basis 4 RM (Cond.code yM_basis cM_basis 4 (some .int) :: xG) (some .int) p s m args meth c A D vwCl (taM cA)) : ∀ (f : fS) (a : aS), wb_M_basis_49 post f a → gM_basis p l e s m args below meth c A D ad cA post f a [] 49 [] := by
  have hO9 := hO
  obtain ⟨hx, hb, hml, hown, hts, hr, hlk, hK, hN, hA⟩ := hO9
  intro f a h
  unfold wb_M_basis_49 at h
  refine x_iconst hx hb dM_basis_49 ?_
  exact tb_M_basis_50 hO 0 f a h
def wp_M_basis (post : Int → fS → aS → Prop) (x1 : Int) (x2 : Int) (x3 : Int) (f : fS) (a : aS) : Prop := wp_M_isGroup (fun z1 f2 a3 => ir z1 ∧ (((z1 = 0) → (wb_M_basis_16 post f2 a3)) ∧ (¬ (z1 = 0) → (wp_M_find (fun z5 f6 a7 => ir z5 ∧ (((¬ z5 = 0) → (wp_M_putElement (fun f10 a11 => ir x3 ∧ (((x3 < 0) → (wb_M_basis_49 post f10 a11)) ∧ (¬ (x3 < 0) → (ir (f10 0 23) ∧ (((f10 0 23 ≤ x3) → (wb_M_basis_49 post f10 a11)) ∧ (¬ (f10 0 23 ≤ x3) → ((0 ≤ x3 ∧ x3 < 132) ∧ (wb_M_basis_50 post ((a11 0 24) (Int.toNat x3)) f10 a11)))))))) x1 (setF f6 0 23 0) a7)) ∧ (¬ (¬ z5 = 0) → (wb_M_basis_16 post f6 a7)))) x1 x2 f2 a3)))) x1 f a
set_option maxHeartbeats 4000000 in
set_option maxRecDepth 100000 in
theorem m_M_basis {l : Launch} {D : va_G} {ad : Nat → Nat → Nat} {cA : Nat → Nat → ClassId} {post : Int → fS → aS → Prop} {x1 : Int} {x2 : Int} {x3 : Int} {f : fS} {a : aS} (h : wp_M_basis post x1 x2 x3 f a) : xCI l yM_basis (Cond.code yM_basis cM_basis 4 (some .int) :: xG) rmM_basis D vwCl (taM cA) (MW ad cA f a) [.ref (ad 0 0), .int (iI x1), .int (iI x2), .int (iI x3)] (MW ad cA) post := by
  refine x_metI (cc := cM_basis) (nL := 4) (by decide) rfl (Nat.le_of_ble_eq_true rfl) ?_
  intro p e s m below meth c A hO
  have hO9 := hO
  obtain ⟨hx, hb, hml, hown, hts, hr, hlk, hK, hN, hA⟩ := hO9
  unfold wp_M_basis at h
  show gM_basis p l e s m _ below meth c A D ad cA post f a [(0, .ref (ad 0 0)), (1, .int (iI x1)), (2, .int (iI x2)), (3, .int (iI x3))] 0 []
  refine x_iload_n hx hb dM_basis_0 rfl 1 rfl ?_
  refine x_cSi (n := 1) (st := []) (As := [.int (iI x1)]) ⟨hx, hb, hml, hown, hts⟩ hK hN (m_M_isGroup h) (x_cwS hts rfl rfl kcM_isGroup knM klM_101 ksM_isGroup ⟨by decide, by decide, by decide +kernel⟩ ⟨by decide, by decide⟩) hA rfl (Nat.le_of_ble_eq_true rfl) ⟨Nat.zero_le _, Nat.zero_le _⟩ rfl dM_basis_1 (fun z1 f2 a3 h => ?_)
  obtain ⟨hi4, h⟩ := h
  refine x_if_eq hx hb (tgt := 16) hi4  dM_basis_4 (by decide) (fun hc => ?_) (fun hc => ?_)
  · have h := h.1 hc
    refine x_sub [] rfl ?_
    exact tb_M_basis_16 hO f2 a3 h
  · have h := h.2 hc
    refine x_aload_n hx hb dM_basis_7 rfl 0 rfl ?_
    refine x_iload_n hx hb dM_basis_8 rfl 1 rfl ?_
    refine x_iload_n hx hb dM_basis_9 rfl 2 rfl ?_
    refine x_cVi (n := 2) (st := []) (As := [.int (iI x1), .int (iI x2)]) ⟨hx, hb, hml, hown, hts⟩ hK hN (m_M_find h) (x_cwV hts rfl rfl kcM_find knM klM_155 kiM_find keM_find ⟨by decide, by decide, by decide +kernel⟩ ⟨by decide, by decide⟩) _ (woM ad cA f2 a3) rfl hA rfl (Nat.le_of_ble_eq_true rfl) ⟨Nat.zero_le _, Nat.zero_le _⟩ rfl dM_basis_10 (fun z5 f6 a7 h => ?_)
    obtain ⟨hi8, h⟩ := h
    refine x_if_ne hx hb (tgt := 18) hi8  dM_basis_13 (by decide) (fun hc => ?_) (fun hc => ?_)
    · have h := h.1 hc
      refine x_aload_n hx hb dM_basis_18 rfl 0 rfl ?_
      refine x_iconst hx hb dM_basis_19 ?_
      refine x_put hx hb hts (jnM _) tyM tkM nmM hown hK _ (woM ad cA f6 a7) rfl 23 (by decide) (hts _ (List.mem_cons_of_mem _ kfM_146)) (fun _ h9 => h9) rfl (by decide +kernel) (Nat.le_of_ble_eq_true rfl) dM_basis_20 (wf23M ad cA f6 a7 0) ?_
      refine x_aload_n hx hb dM_basis_23 rfl 0 rfl ?_
      refine x_iload_n hx hb dM_basis_24 rfl 1 rfl ?_
      refine x_cVv (n := 1) (st := []) (As := [.int (iI x1)]) ⟨hx, hb, hml, hown, hts⟩ hK hN (m_M_putElement h) (x_cwV hts rfl rfl kcM_putElement knM klM_159 kiM_putElement keM_putElement ⟨by decide, by decide, by decide +kernel⟩ ⟨by decide, by decide⟩) _ (woM ad cA (setF f6 0 23 0) a7) rfl hA rfl (Nat.le_of_ble_eq_true rfl) ⟨Nat.zero_le _, Nat.zero_le _⟩ rfl dM_basis_25 (fun f10 a11 h => ?_)
      refine x_iload_n hx hb dM_basis_28 rfl 3 rfl ?_
      obtain ⟨hi12, h⟩ := h
      refine x_if_lt hx hb (tgt := 49) hi12  dM_basis_29 (by decide) (fun hc => ?_) (fun hc => ?_)
      · have h := h.1 hc
        refine x_sub [] rfl ?_
        exact tb_M_basis_49 hO f10 a11 h
      · have h := h.2 hc
        refine x_iload_n hx hb dM_basis_32 rfl 3 rfl ?_
        refine x_aload_n hx hb dM_basis_33 rfl 0 rfl ?_
        refine x_get hx hb hts (jnM _) hown hK _ (woM ad cA f10 a11) rfl 23 (by decide) (hts _ (List.mem_cons_of_mem _ kfM_146)) (fun _ h9 => h9) (v := .int (iI (f10 0 23))) (by rfl) dM_basis_34 ?_
        obtain ⟨hi13, h⟩ := h
        refine x_icmp_ge hx hb (tgt := 49) hi12 hi13 dM_basis_37 (by decide) (fun hc => ?_) (fun hc => ?_)
        · have h := h.1 hc
          refine x_sub [] rfl ?_
          exact tb_M_basis_49 hO f10 a11 h
        · have h := h.2 hc
          refine x_aload_n hx hb dM_basis_40 rfl 0 rfl ?_
          refine x_get hx hb hts (jnM _) hown hK _ (woM ad cA f10 a11) rfl 24 (by decide) (hts _ (List.mem_cons_of_mem _ kfM_55)) (fun _ h9 => h9) (v := .ref (ad 0 25)) (by rfl) dM_basis_41 ?_
          refine x_iload_n hx hb dM_basis_44 rfl 3 rfl ?_
          obtain ⟨hj14, h⟩ := h
          refine x_iald hx hb hK _ _ (wa24M ad cA f10 a11) (wt24M cA) hj14.1 hj14.2 (by decide) dM_basis_45 ?_
          refine x_goto hx hb (tgt := 50) dM_basis_46 (by decide) ?_
          refine x_sub [] rfl ?_
          exact tb_M_basis_50 hO ((a11 0 24) (Int.toNat x3)) f10 a11 h
    · have h := h.2 hc
      refine x_sub [] rfl ?_
      exact tb_M_basis_16 hO f6 a7 h
-- M_written
abbrev rmM_written : Room := { frames := 2, cells := 0, slots := 0, locals := 52 }
abbrev gM_written (p : Program) (l : Launch) (e : Env) (s : State) (m : MethodId) (args : Array Value) (below : List Frame) (meth : Method) (c : Code) (A : Nat → Prop) (D : va_G) (ad : Nat → Nat → Nat) (cA : Nat → Nat → ClassId) (post : Int → fS → aS → Prop) (f : fS) (a : aS) (lv : List (Nat × Value)) (pc : Nat) (st : List Value) : Prop := xV p l e rmM_written s m args below meth c s.heap A 0 0 (xQI below D vwCl (taM cA) (MW ad cA) post A args s) D vwCl 8 (MW ad cA f a) lv pc st
def wb_M_written_15 (post : Int → fS → aS → Prop) (f : fS) (a : aS) : Prop := post 0 f a
set_option maxHeartbeats 4000000 in
set_option maxRecDepth 100000 in
theorem tb_M_written_15 {p : Program} {l : Launch} {e : Env} {s : State} {m : MethodId} {args : Array Value} {below : List Frame} {meth : Method} {c : Code} {A : Nat → Prop} {D : va_G} {ad : Nat → Nat → Nat} {cA : Nat → Nat → ClassId} {post : Int → fS → aS → Prop} (hO : xOk cM_written 8 RM (Cond.code yM_written cM_written 8 (some .int) :: xG) (some .int) p s m args meth c A D vwCl (taM cA)) : ∀ (f : fS) (a : aS), wb_M_written_15 post f a → gM_written p l e s m args below meth c A D ad cA post f a [] 15 [] := by
  have hO9 := hO
  obtain ⟨hx, hb, hml, hown, hts, hr, hlk, hK, hN, hA⟩ := hO9
  intro f a h
  unfold wb_M_written_15 at h
  refine x_iconst hx hb dM_written_15 ?_
  exact x_iret hx hb hr hlk hK dM_written_16 h
def wb_M_written_125 (post : Int → fS → aS → Prop) (k25 : Int → Int → Int → Int → Int → fS → aS → Prop) (x1 : Int) (x2 : Int) (x4 : Int) (x5 : Int) (x7 : Int) (f : fS) (a : aS) : Prop := k25 x1 x2 x7 x4 (x5 + 1) f a
set_option maxHeartbeats 4000000 in
set_option maxRecDepth 100000 in
theorem tb_M_written_125 {p : Program} {l : Launch} {e : Env} {s : State} {m : MethodId} {args : Array Value} {below : List Frame} {meth : Method} {c : Code} {A : Nat → Prop} {D : va_G} {ad : Nat → Nat → Nat} {cA : Nat → Nat → ClassId} {post : Int → fS → aS → Prop} {k25 : Int → Int → Int → Int → Int → fS → aS → Prop} (hO : xOk cM_written 8 RM (Cond.code yM_written cM_written 8 (some .int) :: xG) (some .int) p s m args meth c A D vwCl (taM cA)) (hk25 : ∀ (x1 : Int) (x2 : Int) (x3 : Int) (x4 : Int) (x5 : Int) (f : fS) (a : aS), k25 x1 x2 x3 x4 x5 f a → gM_written p l e s m args below meth c A D ad cA post f a [(0, .ref (ad 0 0)), (1, .int (iI x1)), (2, .int (iI x2)), (3, .int (iI x3)), (4, .int (iI x4)), (5, .int (iI x5))] 25 []) : ∀ (x1 : Int) (x2 : Int) (x4 : Int) (x5 : Int) (x7 : Int) (f : fS) (a : aS), wb_M_written_125 post k25 x1 x2 x4 x5 x7 f a → gM_written p l e s m args below meth c A D ad cA post f a [(0, .ref (ad 0 0)), (1, .int (iI x1)), (2, .int (iI x2)), (4, .int (iI x4)), (5, .int (iI x5)), (7, .int (iI x7))] 125 [] := by
  have hO9 := hO
  obtain ⟨hx, hb, hml, hown, hts, hr, hlk, hK, hN, hA⟩ := hO9
  intro x1 x2 x4 x5 x7 f a h
  unfold wb_M_written_125 at h
  refine x_iload hx hb dM_written_125 5 rfl ?_
  refine x_istore_n hx hb dM_written_127 rfl (by decide) (lv' := [(3, .int (iI x7)), (0, .ref (ad 0 0)), (1, .int (iI x1)), (2, .int (iI x2)), (4, .int (iI x4)), (5, .int (iI x5)), (7, .int (iI x7))]) rfl ?_
  refine x_iinc hx hb dM_written_128 5 rfl (by decide) (lv' := [(5, .int (iI (x5 + 1))), (3, .int (iI x7)), (0, .ref (ad 0 0)), (1, .int (iI x1)), (2, .int (iI x2)), (4, .int (iI x4)), (7, .int (iI x7))]) rfl ?_
  refine x_goto hx hb (tgt := 25) dM_written_131 (by decide) ?_
  refine x_sub [2, 3, 4, 1, 5, 0] rfl ?_
  exact hk25 x1 x2 x7 x4 (x5 + 1) f a h
def wb_M_written_121 (post : Int → fS → aS → Prop) (y0 : Int) (f : fS) (a : aS) : Prop := post y0 f a
set_option maxHeartbeats 4000000 in
set_option maxRecDepth 100000 in
theorem tb_M_written_121 {p : Program} {l : Launch} {e : Env} {s : State} {m : MethodId} {args : Array Value} {below : List Frame} {meth : Method} {c : Code} {A : Nat → Prop} {D : va_G} {ad : Nat → Nat → Nat} {cA : Nat → Nat → ClassId} {post : Int → fS → aS → Prop} (hO : xOk cM_written 8 RM (Cond.code yM_written cM_written 8 (some .int) :: xG) (some .int) p s m args meth c A D vwCl (taM cA)) : ∀ (y0 : Int) (f : fS) (a : aS), wb_M_written_121 post y0 f a → gM_written p l e s m args below meth c A D ad cA post f a [] 121 [.int (iI y0)] := by
  have hO9 := hO
  obtain ⟨hx, hb, hml, hown, hts, hr, hlk, hK, hN, hA⟩ := hO9
  intro y0 f a h
  unfold wb_M_written_121 at h
  exact x_iret hx hb hr hlk hK dM_written_121 h
def wb_M_written_25 (post : Int → fS → aS → Prop) : Nat → Int → Int → Int → Int → Int → fS → aS → Prop
  | 0, _, _, _, _, _, _, _ => False
  | n + 1, x1, x2, x3, x4, x5, f, a => ir x5 ∧ (ir (f 0 1) ∧ (((f 0 1 ≤ x5) → (post 0 f a)) ∧ (¬ (f 0 1 ≤ x5) → ((0 ≤ x5 ∧ x5 < 24) ∧ (wp_M_numberOf (fun z12 f13 a14 => wp_M_way (fun z15 f16 a17 => wp_M_isTree (fun z18 f19 a20 => ir z18 ∧ (((¬ z18 = 0) → (wb_M_written_125 post (wb_M_written_25 post n) x1 x2 x4 x5 z15 f19 a20)) ∧ (¬ (¬ z18 = 0) → (ir x4 ∧ (ir x2 ∧ (((¬ x4 = x2) → (wb_M_written_125 post (wb_M_written_25 post n) x1 x2 (x4 + 1) x5 z15 f19 a20)) ∧ (¬ (¬ x4 = x2) → (ir ((a20 0 2) (Int.toNat x5)) ∧ ((((a20 0 2) (Int.toNat x5) ≤ 0) → (wp_M_elementsBefore (fun z25 f26 a27 => wb_M_written_121 post ((-z25) - 1) f26 a27) x1 z15 (-((a20 0 2) (Int.toNat x5))) f19 a20)) ∧ (¬ ((a20 0 2) (Int.toNat x5) ≤ 0) → (wp_M_elementsBefore (fun z28 f29 a30 => wb_M_written_121 post (z28 + 1) f29 a30) x1 x3 ((a20 0 2) (Int.toNat x5)) f19 a20))))))))))) x1 x3 z12 z15 f16 a17) x1 x3 z12 f13 a14) (a 0 2 (Int.toNat x5)) f a)))))
set_option maxHeartbeats 4000000 in
set_option maxRecDepth 100000 in
theorem tb_M_written_25 {p : Program} {l : Launch} {e : Env} {s : State} {m : MethodId} {args : Array Value} {below : List Frame} {meth : Method} {c : Code} {A : Nat → Prop} {D : va_G} {ad : Nat → Nat → Nat} {cA : Nat → Nat → ClassId} {post : Int → fS → aS → Prop} (hO : xOk cM_written 8 RM (Cond.code yM_written cM_written 8 (some .int) :: xG) (some .int) p s m args meth c A D vwCl (taM cA)) : ∀ (n : Nat) (x1 : Int) (x2 : Int) (x3 : Int) (x4 : Int) (x5 : Int) (f : fS) (a : aS), wb_M_written_25 post n x1 x2 x3 x4 x5 f a → gM_written p l e s m args below meth c A D ad cA post f a [(0, .ref (ad 0 0)), (1, .int (iI x1)), (2, .int (iI x2)), (3, .int (iI x3)), (4, .int (iI x4)), (5, .int (iI x5))] 25 [] := by
  have hO9 := hO
  obtain ⟨hx, hb, hml, hown, hts, hr, hlk, hK, hN, hA⟩ := hO9
  intro n
  induction n with
  | zero => intro x1 x2 x3 x4 x5 f a h; exact False.elim h
  | succ n ih =>
    intro x1 x2 x3 x4 x5 f a h
    rw [wb_M_written_25] at h
    refine x_iload hx hb dM_written_25 5 rfl ?_
    refine x_aload_n hx hb dM_written_27 rfl 0 rfl ?_
    refine x_get hx hb hts (jnM _) hown hK _ (woM ad cA f a) rfl 1 (by decide) (hts _ (List.mem_cons_of_mem _ kfM_66)) (fun _ h9 => h9) (v := .int (iI (f 0 1))) (by rfl) dM_written_28 ?_
    obtain ⟨hi9, h⟩ := h
    obtain ⟨hi10, h⟩ := h
    refine x_icmp_ge hx hb (tgt := 134) hi9 hi10 dM_written_31 (by decide) (fun hc => ?_) (fun hc => ?_)
    · have h := h.1 hc
      refine x_iconst hx hb dM_written_134 ?_
      exact x_iret hx hb hr hlk hK dM_written_135 h
    · have h := h.2 hc
      refine x_aload_n hx hb dM_written_34 rfl 0 rfl ?_
      refine x_get hx hb hts (jnM _) hown hK _ (woM ad cA f a) rfl 2 (by decide) (hts _ (List.mem_cons_of_mem _ kfM_7)) (fun _ h9 => h9) (v := .ref (ad 0 3)) (by rfl) dM_written_35 ?_
      refine x_iload hx hb dM_written_38 5 rfl ?_
      obtain ⟨hj11, h⟩ := h
      refine x_iald hx hb hK _ _ (wa2M ad cA f a) (wt2M cA) hj11.1 hj11.2 (by decide) dM_written_40 ?_
      refine x_cSi (n := 1) (st := []) (As := [.int (iI (a 0 2 (Int.toNat x5)))]) ⟨hx, hb, hml, hown, hts⟩ hK hN (m_M_numberOf h) (x_cwS hts rfl rfl kcM_numberOf knM klM_78 ksM_numberOf ⟨by decide, by decide, by decide +kernel⟩ ⟨by decide, by decide⟩) hA rfl (Nat.le_of_ble_eq_true rfl) ⟨Nat.zero_le _, Nat.zero_le _⟩ rfl dM_written_41 (fun z12 f13 a14 h => ?_)
      refine x_istore hx hb dM_written_44 (by decide) (lv' := [(6, .int (iI z12)), (0, .ref (ad 0 0)), (1, .int (iI x1)), (2, .int (iI x2)), (3, .int (iI x3)), (4, .int (iI x4)), (5, .int (iI x5))]) rfl ?_
      refine x_aload_n hx hb dM_written_46 rfl 1 rfl ?_
      refine x_iload_n hx hb dM_written_47 rfl 2 rfl ?_
      refine x_iload_n hx hb dM_written_48 rfl 4 rfl ?_
      refine x_iload hx hb dM_written_49 0 rfl ?_
      refine x_cVi (n := 3) (st := []) (As := [.int (iI x1), .int (iI x3), .int (iI z12)]) ⟨hx, hb, hml, hown, hts⟩ hK hN (m_M_way h) (x_cwV hts rfl rfl kcM_way knM klM_82 kiM_way keM_way ⟨by decide, by decide, by decide +kernel⟩ ⟨by decide, by decide⟩) _ (woM ad cA f13 a14) rfl hA rfl (Nat.le_of_ble_eq_true rfl) ⟨Nat.zero_le _, Nat.zero_le _⟩ rfl dM_written_51 (fun z15 f16 a17 h => ?_)
      refine x_istore hx hb dM_written_54 (by decide) (lv' := [(7, .int (iI z15)), (6, .int (iI z12)), (0, .ref (ad 0 0)), (1, .int (iI x1)), (2, .int (iI x2)), (3, .int (iI x3)), (4, .int (iI x4)), (5, .int (iI x5))]) rfl ?_
      refine x_aload_n hx hb dM_written_56 rfl 2 rfl ?_
      refine x_iload_n hx hb dM_written_57 rfl 3 rfl ?_
      refine x_iload_n hx hb dM_written_58 rfl 5 rfl ?_
      refine x_iload hx hb dM_written_59 1 rfl ?_
      refine x_iload hx hb dM_written_61 0 rfl ?_
      refine x_cVi (n := 4) (st := []) (As := [.int (iI x1), .int (iI x3), .int (iI z12), .int (iI z15)]) ⟨hx, hb, hml, hown, hts⟩ hK hN (m_M_isTree h) (x_cwV hts rfl rfl kcM_isTree knM klM_130 kiM_isTree keM_isTree ⟨by decide, by decide, by decide +kernel⟩ ⟨by decide, by decide⟩) _ (woM ad cA f16 a17) rfl hA rfl (Nat.le_of_ble_eq_true rfl) ⟨Nat.zero_le _, Nat.zero_le _⟩ rfl dM_written_63 (fun z18 f19 a20 h => ?_)
      obtain ⟨hi21, h⟩ := h
      refine x_if_ne hx hb (tgt := 125) hi21  dM_written_66 (by decide) (fun hc => ?_) (fun hc => ?_)
      · have h := h.1 hc
        refine x_sub [2, 3, 4, 6, 7, 0] rfl ?_
        exact tb_M_written_125 hO ih x1 x2 x4 x5 z15 f19 a20 h
      · have h := h.2 hc
        refine x_iload hx hb dM_written_69 6 rfl ?_
        refine x_iload_n hx hb dM_written_71 rfl 4 rfl ?_
        obtain ⟨hi22, h⟩ := h
        obtain ⟨hi23, h⟩ := h
        refine x_icmp_ne hx hb (tgt := 122) hi22 hi23 dM_written_72 (by decide) (fun hc => ?_) (fun hc => ?_)
        · have h := h.1 hc
          refine x_iinc hx hb dM_written_122 6 rfl (by decide) (lv' := [(4, .int (iI (x4 + 1))), (7, .int (iI z15)), (6, .int (iI z12)), (0, .ref (ad 0 0)), (1, .int (iI x1)), (2, .int (iI x2)), (3, .int (iI x3)), (5, .int (iI x5))]) rfl ?_
          refine x_sub [3, 4, 5, 0, 7, 1] rfl ?_
          exact tb_M_written_125 hO ih x1 x2 (x4 + 1) x5 z15 f19 a20 h
        · have h := h.2 hc
          refine x_aload_n hx hb dM_written_75 rfl 2 rfl ?_
          refine x_get hx hb hts (jnM _) hown hK _ (woM ad cA f19 a20) rfl 2 (by decide) (hts _ (List.mem_cons_of_mem _ kfM_7)) (fun _ h9 => h9) (v := .ref (ad 0 3)) (by rfl) dM_written_76 ?_
          refine x_iload hx hb dM_written_79 7 rfl ?_
          refine x_iald hx hb hK _ _ (wa2M ad cA f19 a20) (wt2M cA) hj11.1 hj11.2 (by decide) dM_written_81 ?_
          obtain ⟨hi24, h⟩ := h
          refine x_if_le hx hb (tgt := 103) hi24  dM_written_82 (by decide) (fun hc => ?_) (fun hc => ?_)
          · have h := h.1 hc
            refine x_aload_n hx hb dM_written_103 rfl 2 rfl ?_
            refine x_iload_n hx hb dM_written_104 rfl 3 rfl ?_
            refine x_iload hx hb dM_written_105 0 rfl ?_
            refine x_aload_n hx hb dM_written_107 rfl 2 rfl ?_
            refine x_get hx hb hts (jnM _) hown hK _ (woM ad cA f19 a20) rfl 2 (by decide) (hts _ (List.mem_cons_of_mem _ kfM_7)) (fun _ h9 => h9) (v := .ref (ad 0 3)) (by rfl) dM_written_108 ?_
            refine x_iload hx hb dM_written_111 7 rfl ?_
            refine x_iald hx hb hK _ _ (wa2M ad cA f19 a20) (wt2M cA) hj11.1 hj11.2 (by decide) dM_written_113 ?_
            refine x_ineg hx hb dM_written_114 ?_
            refine x_cVi (n := 3) (st := []) (As := [.int (iI x1), .int (iI z15), .int (iI (-((a20 0 2) (Int.toNat x5))))]) ⟨hx, hb, hml, hown, hts⟩ hK hN (m_M_elementsBefore h) (x_cwV hts rfl rfl kcM_elementsBefore knM klM_134 kiM_elementsBefore keM_elementsBefore ⟨by decide, by decide, by decide +kernel⟩ ⟨by decide, by decide⟩) _ (woM ad cA f19 a20) rfl hA rfl (Nat.le_of_ble_eq_true rfl) ⟨Nat.zero_le _, Nat.zero_le _⟩ rfl dM_written_115 (fun z25 f26 a27 h => ?_)
            refine x_ineg hx hb dM_written_118 ?_
            refine x_iconst hx hb dM_written_119 ?_
            refine x_isub hx hb dM_written_120 ?_
            refine x_sub [] rfl ?_
            exact tb_M_written_121 hO ((-z25) - 1) f26 a27 h
          · have h := h.2 hc
            refine x_aload_n hx hb dM_written_85 rfl 2 rfl ?_
            refine x_iload_n hx hb dM_written_86 rfl 3 rfl ?_
            refine x_iload_n hx hb dM_written_87 rfl 5 rfl ?_
            refine x_aload_n hx hb dM_written_88 rfl 2 rfl ?_
            refine x_get hx hb hts (jnM _) hown hK _ (woM ad cA f19 a20) rfl 2 (by decide) (hts _ (List.mem_cons_of_mem _ kfM_7)) (fun _ h9 => h9) (v := .ref (ad 0 3)) (by rfl) dM_written_89 ?_
            refine x_iload hx hb dM_written_92 7 rfl ?_
            refine x_iald hx hb hK _ _ (wa2M ad cA f19 a20) (wt2M cA) hj11.1 hj11.2 (by decide) dM_written_94 ?_
            refine x_cVi (n := 3) (st := []) (As := [.int (iI x1), .int (iI x3), .int (iI ((a20 0 2) (Int.toNat x5)))]) ⟨hx, hb, hml, hown, hts⟩ hK hN (m_M_elementsBefore h) (x_cwV hts rfl rfl kcM_elementsBefore knM klM_134 kiM_elementsBefore keM_elementsBefore ⟨by decide, by decide, by decide +kernel⟩ ⟨by decide, by decide⟩) _ (woM ad cA f19 a20) rfl hA rfl (Nat.le_of_ble_eq_true rfl) ⟨Nat.zero_le _, Nat.zero_le _⟩ rfl dM_written_95 (fun z28 f29 a30 h => ?_)
            refine x_iconst hx hb dM_written_98 ?_
            refine x_iadd hx hb dM_written_99 ?_
            refine x_goto hx hb (tgt := 121) dM_written_100 (by decide) ?_
            refine x_sub [] rfl ?_
            exact tb_M_written_121 hO (z28 + 1) f29 a30 h
def wp_M_written (post : Int → fS → aS → Prop) (x1 : Int) (x2 : Int) (f : fS) (a : aS) : Prop := wp_M_isGroup (fun z1 f2 a3 => ir z1 ∧ (((z1 = 0) → (wb_M_written_15 post f2 a3)) ∧ (¬ (z1 = 0) → (wp_M_walk (fun z5 f6 a7 => ir z5 ∧ (((z5 = 0) → (∃ j, wb_M_written_25 post j x1 x2 0 0 0 f6 a7)) ∧ (¬ (z5 = 0) → (wb_M_written_15 post f6 a7)))) x1 f2 a3)))) x1 f a
set_option maxHeartbeats 4000000 in
set_option maxRecDepth 100000 in
theorem m_M_written {l : Launch} {D : va_G} {ad : Nat → Nat → Nat} {cA : Nat → Nat → ClassId} {post : Int → fS → aS → Prop} {x1 : Int} {x2 : Int} {f : fS} {a : aS} (h : wp_M_written post x1 x2 f a) : xCI l yM_written (Cond.code yM_written cM_written 8 (some .int) :: xG) rmM_written D vwCl (taM cA) (MW ad cA f a) [.ref (ad 0 0), .int (iI x1), .int (iI x2)] (MW ad cA) post := by
  refine x_metI (cc := cM_written) (nL := 8) (by decide) rfl (Nat.le_of_ble_eq_true rfl) ?_
  intro p e s m below meth c A hO
  have hO9 := hO
  obtain ⟨hx, hb, hml, hown, hts, hr, hlk, hK, hN, hA⟩ := hO9
  unfold wp_M_written at h
  show gM_written p l e s m _ below meth c A D ad cA post f a [(0, .ref (ad 0 0)), (1, .int (iI x1)), (2, .int (iI x2))] 0 []
  refine x_iload_n hx hb dM_written_0 rfl 1 rfl ?_
  refine x_cSi (n := 1) (st := []) (As := [.int (iI x1)]) ⟨hx, hb, hml, hown, hts⟩ hK hN (m_M_isGroup h) (x_cwS hts rfl rfl kcM_isGroup knM klM_101 ksM_isGroup ⟨by decide, by decide, by decide +kernel⟩ ⟨by decide, by decide⟩) hA rfl (Nat.le_of_ble_eq_true rfl) ⟨Nat.zero_le _, Nat.zero_le _⟩ rfl dM_written_1 (fun z1 f2 a3 h => ?_)
  obtain ⟨hi4, h⟩ := h
  refine x_if_eq hx hb (tgt := 15) hi4  dM_written_4 (by decide) (fun hc => ?_) (fun hc => ?_)
  · have h := h.1 hc
    refine x_sub [] rfl ?_
    exact tb_M_written_15 hO f2 a3 h
  · have h := h.2 hc
    refine x_aload_n hx hb dM_written_7 rfl 0 rfl ?_
    refine x_iload_n hx hb dM_written_8 rfl 1 rfl ?_
    refine x_cVi (n := 1) (st := []) (As := [.int (iI x1)]) ⟨hx, hb, hml, hown, hts⟩ hK hN (m_M_walk h) (x_cwV hts rfl rfl kcM_walk knM klM_127 kiM_walk keM_walk ⟨by decide, by decide, by decide +kernel⟩ ⟨by decide, by decide⟩) _ (woM ad cA f2 a3) rfl hA rfl (Nat.le_of_ble_eq_true rfl) ⟨Nat.zero_le _, Nat.zero_le _⟩ rfl dM_written_9 (fun z5 f6 a7 h => ?_)
    obtain ⟨hi8, h⟩ := h
    refine x_if_eq hx hb (tgt := 17) hi8  dM_written_12 (by decide) (fun hc => ?_) (fun hc => ?_)
    · have h := h.1 hc
      refine x_iconst hx hb dM_written_17 ?_
      refine x_istore_n hx hb dM_written_18 rfl (by decide) (lv' := [(3, .int (iI 0)), (0, .ref (ad 0 0)), (1, .int (iI x1)), (2, .int (iI x2))]) rfl ?_
      refine x_iconst hx hb dM_written_19 ?_
      refine x_istore hx hb dM_written_20 (by decide) (lv' := [(4, .int (iI 0)), (3, .int (iI 0)), (0, .ref (ad 0 0)), (1, .int (iI x1)), (2, .int (iI x2))]) rfl ?_
      refine x_iconst hx hb dM_written_22 ?_
      refine x_istore hx hb dM_written_23 (by decide) (lv' := [(5, .int (iI 0)), (4, .int (iI 0)), (3, .int (iI 0)), (0, .ref (ad 0 0)), (1, .int (iI x1)), (2, .int (iI x2))]) rfl ?_
      obtain ⟨j, h⟩ := h
      refine x_sub [3, 4, 5, 2, 1, 0] rfl ?_
      exact tb_M_written_25 hO j x1 x2 0 0 0 f6 a7 h
    · have h := h.2 hc
      refine x_sub [] rfl ?_
      exact tb_M_written_15 hO f6 a7 h
-- M_target
abbrev rmM_target : Room := { frames := 1, cells := 0, slots := 0, locals := 23 }
abbrev gM_target (p : Program) (l : Launch) (e : Env) (s : State) (m : MethodId) (args : Array Value) (below : List Frame) (meth : Method) (c : Code) (A : Nat → Prop) (D : va_G) (ad : Nat → Nat → Nat) (cA : Nat → Nat → ClassId) (post : Int → fS → aS → Prop) (f : fS) (a : aS) (lv : List (Nat × Value)) (pc : Nat) (st : List Value) : Prop := xV p l e rmM_target s m args below meth c s.heap A 0 0 (xQI below D vwCl (taM cA) (MW ad cA) post A args s) D vwCl 4 (MW ad cA f a) lv pc st
def wb_M_target_43 (post : Int → fS → aS → Prop) (y0 : Int) (f : fS) (a : aS) : Prop := post y0 f a
set_option maxHeartbeats 4000000 in
set_option maxRecDepth 100000 in
theorem tb_M_target_43 {p : Program} {l : Launch} {e : Env} {s : State} {m : MethodId} {args : Array Value} {below : List Frame} {meth : Method} {c : Code} {A : Nat → Prop} {D : va_G} {ad : Nat → Nat → Nat} {cA : Nat → Nat → ClassId} {post : Int → fS → aS → Prop} (hO : xOk cM_target 4 RM (Cond.code yM_target cM_target 4 (some .int) :: xG) (some .int) p s m args meth c A D vwCl (taM cA)) : ∀ (y0 : Int) (f : fS) (a : aS), wb_M_target_43 post y0 f a → gM_target p l e s m args below meth c A D ad cA post f a [] 43 [.int (iI y0)] := by
  have hO9 := hO
  obtain ⟨hx, hb, hml, hown, hts, hr, hlk, hK, hN, hA⟩ := hO9
  intro y0 f a h
  unfold wb_M_target_43 at h
  exact x_iret hx hb hr hlk hK dM_target_43 h
def wb_M_target_42 (post : Int → fS → aS → Prop) (f : fS) (a : aS) : Prop := wb_M_target_43 post (-1) f a
set_option maxHeartbeats 4000000 in
set_option maxRecDepth 100000 in
theorem tb_M_target_42 {p : Program} {l : Launch} {e : Env} {s : State} {m : MethodId} {args : Array Value} {below : List Frame} {meth : Method} {c : Code} {A : Nat → Prop} {D : va_G} {ad : Nat → Nat → Nat} {cA : Nat → Nat → ClassId} {post : Int → fS → aS → Prop} (hO : xOk cM_target 4 RM (Cond.code yM_target cM_target 4 (some .int) :: xG) (some .int) p s m args meth c A D vwCl (taM cA)) : ∀ (f : fS) (a : aS), wb_M_target_42 post f a → gM_target p l e s m args below meth c A D ad cA post f a [] 42 [] := by
  have hO9 := hO
  obtain ⟨hx, hb, hml, hown, hts, hr, hlk, hK, hN, hA⟩ := hO9
  intro f a h
  unfold wb_M_target_42 at h
  refine x_iconst hx hb dM_target_42 ?_
  exact tb_M_target_43 hO (-1) f a h
def wp_M_target (post : Int → fS → aS → Prop) (x1 : Int) (x2 : Int) (x3 : Int) (f : fS) (a : aS) : Prop := wp_M_isGroup (fun z1 f2 a3 => ir z1 ∧ (((z1 = 0) → (wb_M_target_42 post f2 a3)) ∧ (¬ (z1 = 0) → (ir x2 ∧ (((x2 < 0) → (wb_M_target_42 post f2 a3)) ∧ (¬ (x2 < 0) → ((0 ≤ x1 ∧ x1 < 4) ∧ (ir ((a3 0 3) (Int.toNat x1)) ∧ ((((a3 0 3) (Int.toNat x1) ≤ x2) → (wb_M_target_42 post f2 a3)) ∧ (¬ ((a3 0 3) (Int.toNat x1) ≤ x2) → (wp_M_isLetter (fun z8 f9 a10 => ir z8 ∧ (((z8 = 0) → (wb_M_target_42 post f9 a10)) ∧ (¬ (z8 = 0) → (wp_M_numberOf (fun z12 f13 a14 => wp_M_way (fun z15 f16 a17 => wb_M_target_43 post z15 f16 a17) x1 x2 z12 f13 a14) x3 f9 a10)))) x3 f2 a3))))))))))) x1 f a
set_option maxHeartbeats 4000000 in
set_option maxRecDepth 100000 in
theorem m_M_target {l : Launch} {D : va_G} {ad : Nat → Nat → Nat} {cA : Nat → Nat → ClassId} {post : Int → fS → aS → Prop} {x1 : Int} {x2 : Int} {x3 : Int} {f : fS} {a : aS} (h : wp_M_target post x1 x2 x3 f a) : xCI l yM_target (Cond.code yM_target cM_target 4 (some .int) :: xG) rmM_target D vwCl (taM cA) (MW ad cA f a) [.ref (ad 0 0), .int (iI x1), .int (iI x2), .int (iI x3)] (MW ad cA) post := by
  refine x_metI (cc := cM_target) (nL := 4) (by decide) rfl (Nat.le_of_ble_eq_true rfl) ?_
  intro p e s m below meth c A hO
  have hO9 := hO
  obtain ⟨hx, hb, hml, hown, hts, hr, hlk, hK, hN, hA⟩ := hO9
  unfold wp_M_target at h
  show gM_target p l e s m _ below meth c A D ad cA post f a [(0, .ref (ad 0 0)), (1, .int (iI x1)), (2, .int (iI x2)), (3, .int (iI x3))] 0 []
  refine x_iload_n hx hb dM_target_0 rfl 1 rfl ?_
  refine x_cSi (n := 1) (st := []) (As := [.int (iI x1)]) ⟨hx, hb, hml, hown, hts⟩ hK hN (m_M_isGroup h) (x_cwS hts rfl rfl kcM_isGroup knM klM_101 ksM_isGroup ⟨by decide, by decide, by decide +kernel⟩ ⟨by decide, by decide⟩) hA rfl (Nat.le_of_ble_eq_true rfl) ⟨Nat.zero_le _, Nat.zero_le _⟩ rfl dM_target_1 (fun z1 f2 a3 h => ?_)
  obtain ⟨hi4, h⟩ := h
  refine x_if_eq hx hb (tgt := 42) hi4  dM_target_4 (by decide) (fun hc => ?_) (fun hc => ?_)
  · have h := h.1 hc
    refine x_sub [] rfl ?_
    exact tb_M_target_42 hO f2 a3 h
  · have h := h.2 hc
    refine x_iload_n hx hb dM_target_7 rfl 2 rfl ?_
    obtain ⟨hi5, h⟩ := h
    refine x_if_lt hx hb (tgt := 42) hi5  dM_target_8 (by decide) (fun hc => ?_) (fun hc => ?_)
    · have h := h.1 hc
      refine x_sub [] rfl ?_
      exact tb_M_target_42 hO f2 a3 h
    · have h := h.2 hc
      refine x_iload_n hx hb dM_target_11 rfl 2 rfl ?_
      refine x_aload_n hx hb dM_target_12 rfl 0 rfl ?_
      refine x_get hx hb hts (jnM _) hown hK _ (woM ad cA f2 a3) rfl 3 (by decide) (hts _ (List.mem_cons_of_mem _ kfM_13)) (fun _ h9 => h9) (v := .ref (ad 0 4)) (by rfl) dM_target_13 ?_
      refine x_iload_n hx hb dM_target_16 rfl 1 rfl ?_
      obtain ⟨hj6, h⟩ := h
      refine x_iald hx hb hK _ _ (wa3M ad cA f2 a3) (wt3M cA) hj6.1 hj6.2 (by decide) dM_target_17 ?_
      obtain ⟨hi7, h⟩ := h
      refine x_icmp_ge hx hb (tgt := 42) hi5 hi7 dM_target_18 (by decide) (fun hc => ?_) (fun hc => ?_)
      · have h := h.1 hc
        refine x_sub [] rfl ?_
        exact tb_M_target_42 hO f2 a3 h
      · have h := h.2 hc
        refine x_aload_n hx hb dM_target_21 rfl 0 rfl ?_
        refine x_iload_n hx hb dM_target_22 rfl 3 rfl ?_
        refine x_cVi (n := 1) (st := []) (As := [.int (iI x3)]) ⟨hx, hb, hml, hown, hts⟩ hK hN (m_M_isLetter h) (x_cwV hts rfl rfl kcM_isLetter knM klM_62 kiM_isLetter keM_isLetter ⟨by decide, by decide, by decide +kernel⟩ ⟨by decide, by decide⟩) _ (woM ad cA f2 a3) rfl hA rfl (Nat.le_of_ble_eq_true rfl) ⟨Nat.zero_le _, Nat.zero_le _⟩ rfl dM_target_23 (fun z8 f9 a10 h => ?_)
        obtain ⟨hi11, h⟩ := h
        refine x_if_eq hx hb (tgt := 42) hi11  dM_target_26 (by decide) (fun hc => ?_) (fun hc => ?_)
        · have h := h.1 hc
          refine x_sub [] rfl ?_
          exact tb_M_target_42 hO f9 a10 h
        · have h := h.2 hc
          refine x_aload_n hx hb dM_target_29 rfl 0 rfl ?_
          refine x_iload_n hx hb dM_target_30 rfl 1 rfl ?_
          refine x_iload_n hx hb dM_target_31 rfl 2 rfl ?_
          refine x_iload_n hx hb dM_target_32 rfl 3 rfl ?_
          refine x_cSi (n := 1) (st := [.int (iI x2), .int (iI x1), .ref (ad 0 0)]) (As := [.int (iI x3)]) ⟨hx, hb, hml, hown, hts⟩ hK hN (m_M_numberOf h) (x_cwS hts rfl rfl kcM_numberOf knM klM_78 ksM_numberOf ⟨by decide, by decide, by decide +kernel⟩ ⟨by decide, by decide⟩) hA rfl (Nat.le_of_ble_eq_true rfl) ⟨Nat.zero_le _, Nat.zero_le _⟩ rfl dM_target_33 (fun z12 f13 a14 h => ?_)
          refine x_cVi (n := 3) (st := []) (As := [.int (iI x1), .int (iI x2), .int (iI z12)]) ⟨hx, hb, hml, hown, hts⟩ hK hN (m_M_way h) (x_cwV hts rfl rfl kcM_way knM klM_82 kiM_way keM_way ⟨by decide, by decide, by decide +kernel⟩ ⟨by decide, by decide⟩) _ (woM ad cA f13 a14) rfl hA rfl (Nat.le_of_ble_eq_true rfl) ⟨Nat.zero_le _, Nat.zero_le _⟩ rfl dM_target_36 (fun z15 f16 a17 h => ?_)
          refine x_goto hx hb (tgt := 43) dM_target_39 (by decide) ?_
          refine x_sub [] rfl ?_
          exact tb_M_target_43 hO z15 f16 a17 h
-- M_figure
abbrev rmM_figure : Room := { frames := 3, cells := 0, slots := 0, locals := 73 }
abbrev gM_figure (p : Program) (l : Launch) (e : Env) (s : State) (m : MethodId) (args : Array Value) (below : List Frame) (meth : Method) (c : Code) (A : Nat → Prop) (D : va_G) (ad : Nat → Nat → Nat) (cA : Nat → Nat → ClassId) (post : Int → fS → aS → Prop) (f : fS) (a : aS) (lv : List (Nat × Value)) (pc : Nat) (st : List Value) : Prop := xV p l e rmM_figure s m args below meth c s.heap A 0 0 (xQI below D vwCl (taM cA) (MW ad cA) post A args s) D vwCl 6 (MW ad cA f a) lv pc st
def wb_M_figure_16 (post : Int → fS → aS → Prop) (f : fS) (a : aS) : Prop := post (-1) f a
set_option maxHeartbeats 4000000 in
set_option maxRecDepth 100000 in
theorem tb_M_figure_16 {p : Program} {l : Launch} {e : Env} {s : State} {m : MethodId} {args : Array Value} {below : List Frame} {meth : Method} {c : Code} {A : Nat → Prop} {D : va_G} {ad : Nat → Nat → Nat} {cA : Nat → Nat → ClassId} {post : Int → fS → aS → Prop} (hO : xOk cM_figure 6 RM (Cond.code yM_figure cM_figure 6 (some .int) :: xG) (some .int) p s m args meth c A D vwCl (taM cA)) : ∀ (f : fS) (a : aS), wb_M_figure_16 post f a → gM_figure p l e s m args below meth c A D ad cA post f a [] 16 [] := by
  have hO9 := hO
  obtain ⟨hx, hb, hml, hown, hts, hr, hlk, hK, hN, hA⟩ := hO9
  intro f a h
  unfold wb_M_figure_16 at h
  refine x_iconst hx hb dM_figure_16 ?_
  exact x_iret hx hb hr hlk hK dM_figure_17 h
def wb_M_figure_140 (post : Int → fS → aS → Prop) (y0 : Int) (f : fS) (a : aS) : Prop := post y0 f a
set_option maxHeartbeats 4000000 in
set_option maxRecDepth 100000 in
theorem tb_M_figure_140 {p : Program} {l : Launch} {e : Env} {s : State} {m : MethodId} {args : Array Value} {below : List Frame} {meth : Method} {c : Code} {A : Nat → Prop} {D : va_G} {ad : Nat → Nat → Nat} {cA : Nat → Nat → ClassId} {post : Int → fS → aS → Prop} (hO : xOk cM_figure 6 RM (Cond.code yM_figure cM_figure 6 (some .int) :: xG) (some .int) p s m args meth c A D vwCl (taM cA)) : ∀ (y0 : Int) (f : fS) (a : aS), wb_M_figure_140 post y0 f a → gM_figure p l e s m args below meth c A D ad cA post f a [] 140 [.int (iI y0)] := by
  have hO9 := hO
  obtain ⟨hx, hb, hml, hown, hts, hr, hlk, hK, hN, hA⟩ := hO9
  intro y0 f a h
  unfold wb_M_figure_140 at h
  exact x_iret hx hb hr hlk hK dM_figure_140 h
def wb_M_figure_63 (post : Int → fS → aS → Prop) (k37 : Int → Int → Int → Int → Int → fS → aS → Prop) (x1 : Int) (x2 : Int) (x4 : Int) (x5 : Int) (y0 : Int) (f : fS) (a : aS) : Prop := k37 x1 x2 y0 x4 (x5 + 1) f a
set_option maxHeartbeats 4000000 in
set_option maxRecDepth 100000 in
theorem tb_M_figure_63 {p : Program} {l : Launch} {e : Env} {s : State} {m : MethodId} {args : Array Value} {below : List Frame} {meth : Method} {c : Code} {A : Nat → Prop} {D : va_G} {ad : Nat → Nat → Nat} {cA : Nat → Nat → ClassId} {post : Int → fS → aS → Prop} {k37 : Int → Int → Int → Int → Int → fS → aS → Prop} (hO : xOk cM_figure 6 RM (Cond.code yM_figure cM_figure 6 (some .int) :: xG) (some .int) p s m args meth c A D vwCl (taM cA)) (hk37 : ∀ (x1 : Int) (x2 : Int) (x3 : Int) (x4 : Int) (x5 : Int) (f : fS) (a : aS), k37 x1 x2 x3 x4 x5 f a → gM_figure p l e s m args below meth c A D ad cA post f a [(0, .ref (ad 0 0)), (1, .int (iI x1)), (2, .int (iI x2)), (3, .int (iI x3)), (4, .int (iI x4)), (5, .int (iI x5))] 37 []) : ∀ (x1 : Int) (x2 : Int) (x4 : Int) (x5 : Int) (y0 : Int) (f : fS) (a : aS), wb_M_figure_63 post k37 x1 x2 x4 x5 y0 f a → gM_figure p l e s m args below meth c A D ad cA post f a [(0, .ref (ad 0 0)), (1, .int (iI x1)), (2, .int (iI x2)), (4, .int (iI x4)), (5, .int (iI x5))] 63 [.int (iI y0)] := by
  have hO9 := hO
  obtain ⟨hx, hb, hml, hown, hts, hr, hlk, hK, hN, hA⟩ := hO9
  intro x1 x2 x4 x5 y0 f a h
  unfold wb_M_figure_63 at h
  refine x_istore_n hx hb dM_figure_63 rfl (by decide) (lv' := [(3, .int (iI y0)), (0, .ref (ad 0 0)), (1, .int (iI x1)), (2, .int (iI x2)), (4, .int (iI x4)), (5, .int (iI x5))]) rfl ?_
  refine x_iinc hx hb dM_figure_64 5 rfl (by decide) (lv' := [(5, .int (iI (x5 + 1))), (3, .int (iI y0)), (0, .ref (ad 0 0)), (1, .int (iI x1)), (2, .int (iI x2)), (4, .int (iI x4))]) rfl ?_
  refine x_goto hx hb (tgt := 37) dM_figure_67 (by decide) ?_
  refine x_sub [2, 3, 4, 1, 5, 0] rfl ?_
  exact hk37 x1 x2 y0 x4 (x5 + 1) f a h
def wb_M_figure_37 (post : Int → fS → aS → Prop) (k23 : Int → Int → Int → Int → fS → aS → Prop) : Nat → Int → Int → Int → Int → Int → fS → aS → Prop
  | 0, _, _, _, _, _, _, _ => False
  | n + 1, x1, x2, x3, x4, x5, f, a => ir x5 ∧ (((6 ≤ x5) → (k23 x1 x2 x3 (x4 + 1) f a)) ∧ (¬ (6 ≤ x5) → (wp_M_way (fun z17 f18 a19 => ir z17 ∧ (((z17 < 0) → (wb_M_figure_63 post (wb_M_figure_37 post k23 n) x1 x2 x4 x5 x3 f18 a19)) ∧ (¬ (z17 < 0) → (wb_M_figure_63 post (wb_M_figure_37 post k23 n) x1 x2 x4 x5 (x3 + 1) f18 a19)))) x1 x4 x5 f a)))
set_option maxHeartbeats 4000000 in
set_option maxRecDepth 100000 in
theorem tb_M_figure_37 {p : Program} {l : Launch} {e : Env} {s : State} {m : MethodId} {args : Array Value} {below : List Frame} {meth : Method} {c : Code} {A : Nat → Prop} {D : va_G} {ad : Nat → Nat → Nat} {cA : Nat → Nat → ClassId} {post : Int → fS → aS → Prop} {k23 : Int → Int → Int → Int → fS → aS → Prop} (hO : xOk cM_figure 6 RM (Cond.code yM_figure cM_figure 6 (some .int) :: xG) (some .int) p s m args meth c A D vwCl (taM cA)) (hk23 : ∀ (x1 : Int) (x2 : Int) (x3 : Int) (x4 : Int) (f : fS) (a : aS), k23 x1 x2 x3 x4 f a → gM_figure p l e s m args below meth c A D ad cA post f a [(0, .ref (ad 0 0)), (1, .int (iI x1)), (2, .int (iI x2)), (3, .int (iI x3)), (4, .int (iI x4))] 23 []) : ∀ (n : Nat) (x1 : Int) (x2 : Int) (x3 : Int) (x4 : Int) (x5 : Int) (f : fS) (a : aS), wb_M_figure_37 post k23 n x1 x2 x3 x4 x5 f a → gM_figure p l e s m args below meth c A D ad cA post f a [(0, .ref (ad 0 0)), (1, .int (iI x1)), (2, .int (iI x2)), (3, .int (iI x3)), (4, .int (iI x4)), (5, .int (iI x5))] 37 [] := by
  have hO9 := hO
  obtain ⟨hx, hb, hml, hown, hts, hr, hlk, hK, hN, hA⟩ := hO9
  intro n
  induction n with
  | zero => intro x1 x2 x3 x4 x5 f a h; exact False.elim h
  | succ n ih =>
    intro x1 x2 x3 x4 x5 f a h
    rw [wb_M_figure_37] at h
    refine x_iload hx hb dM_figure_37 5 rfl ?_
    refine x_bipush hx hb dM_figure_39 (by decide) ?_
    obtain ⟨hi16, h⟩ := h
    refine x_icmp_ge hx hb (tgt := 70) hi16 (by decide) dM_figure_41 (by decide) (fun hc => ?_) (fun hc => ?_)
    · have h := h.1 hc
      refine x_iinc hx hb dM_figure_70 4 rfl (by decide) (lv' := [(4, .int (iI (x4 + 1))), (0, .ref (ad 0 0)), (1, .int (iI x1)), (2, .int (iI x2)), (3, .int (iI x3)), (5, .int (iI x5))]) rfl ?_
      refine x_goto hx hb (tgt := 23) dM_figure_73 (by decide) ?_
      refine x_sub [1, 2, 3, 4, 0] rfl ?_
      exact hk23 x1 x2 x3 (x4 + 1) f a h
    · have h := h.2 hc
      refine x_aload_n hx hb dM_figure_44 rfl 0 rfl ?_
      refine x_iload_n hx hb dM_figure_45 rfl 1 rfl ?_
      refine x_iload hx hb dM_figure_46 4 rfl ?_
      refine x_iload hx hb dM_figure_48 5 rfl ?_
      refine x_cVi (n := 3) (st := []) (As := [.int (iI x1), .int (iI x4), .int (iI x5)]) ⟨hx, hb, hml, hown, hts⟩ hK hN (m_M_way h) (x_cwV hts rfl rfl kcM_way knM klM_82 kiM_way keM_way ⟨by decide, by decide, by decide +kernel⟩ ⟨by decide, by decide⟩) _ (woM ad cA f a) rfl hA rfl (Nat.le_of_ble_eq_true rfl) ⟨Nat.zero_le _, Nat.zero_le _⟩ rfl dM_figure_50 (fun z17 f18 a19 h => ?_)
      obtain ⟨hi20, h⟩ := h
      refine x_if_lt hx hb (tgt := 62) hi20  dM_figure_53 (by decide) (fun hc => ?_) (fun hc => ?_)
      · have h := h.1 hc
        refine x_iload_n hx hb dM_figure_62 rfl 3 rfl ?_
        refine x_sub [0, 1, 2, 4, 5] rfl ?_
        exact tb_M_figure_63 hO ih x1 x2 x4 x5 x3 f18 a19 h
      · have h := h.2 hc
        refine x_iload_n hx hb dM_figure_56 rfl 3 rfl ?_
        refine x_iconst hx hb dM_figure_57 ?_
        refine x_iadd hx hb dM_figure_58 ?_
        refine x_goto hx hb (tgt := 63) dM_figure_59 (by decide) ?_
        refine x_sub [0, 1, 2, 4, 5] rfl ?_
        exact tb_M_figure_63 hO ih x1 x2 x4 x5 (x3 + 1) f18 a19 h
def wb_M_figure_23 (post : Int → fS → aS → Prop) : Nat → Int → Int → Int → Int → fS → aS → Prop
  | 0, _, _, _, _, _, _ => False
  | n + 1, x1, x2, x3, x4, f, a => (0 ≤ x1 ∧ x1 < 4) ∧ (ir x4 ∧ (ir (a 0 3 (Int.toNat x1)) ∧ (((a 0 3 (Int.toNat x1) ≤ x4) → (ir x2 ∧ (((¬ x2 = 0) → (((¬ x2 = 1) → (((¬ x2 = 2) → (ir x3 ∧ (ir ((2 * (f 0 0)) * (a 0 3 (Int.toNat x1))) ∧ (((¬ x3 = (2 * (f 0 0)) * (a 0 3 (Int.toNat x1))) → (wb_M_figure_140 post 0 f a)) ∧ (¬ (¬ x3 = (2 * (f 0 0)) * (a 0 3 (Int.toNat x1))) → (wb_M_figure_140 post (a 0 3 (Int.toNat x1)) f a)))))) ∧ (¬ (¬ x2 = 2) → (wp_M_elements (fun z12 f13 a14 => wb_M_figure_140 post z12 f13 a14) x1 f a)))) ∧ (¬ (¬ x2 = 1) → ((0 ≤ x3 ∧ x3 ≤ 2147483647) ∧ (wb_M_figure_140 post (x3 / 2) f a))))) ∧ (¬ (¬ x2 = 0) → (wb_M_figure_140 post (a 0 3 (Int.toNat x1)) f a))))) ∧ (¬ (a 0 3 (Int.toNat x1) ≤ x4) → (∃ j, wb_M_figure_37 post (wb_M_figure_23 post n) j x1 x2 x3 x4 0 f a)))))
set_option maxHeartbeats 4000000 in
set_option maxRecDepth 100000 in
theorem tb_M_figure_23 {p : Program} {l : Launch} {e : Env} {s : State} {m : MethodId} {args : Array Value} {below : List Frame} {meth : Method} {c : Code} {A : Nat → Prop} {D : va_G} {ad : Nat → Nat → Nat} {cA : Nat → Nat → ClassId} {post : Int → fS → aS → Prop} (hO : xOk cM_figure 6 RM (Cond.code yM_figure cM_figure 6 (some .int) :: xG) (some .int) p s m args meth c A D vwCl (taM cA)) : ∀ (n : Nat) (x1 : Int) (x2 : Int) (x3 : Int) (x4 : Int) (f : fS) (a : aS), wb_M_figure_23 post n x1 x2 x3 x4 f a → gM_figure p l e s m args below meth c A D ad cA post f a [(0, .ref (ad 0 0)), (1, .int (iI x1)), (2, .int (iI x2)), (3, .int (iI x3)), (4, .int (iI x4))] 23 [] := by
  have hO9 := hO
  obtain ⟨hx, hb, hml, hown, hts, hr, hlk, hK, hN, hA⟩ := hO9
  intro n
  induction n with
  | zero => intro x1 x2 x3 x4 f a h; exact False.elim h
  | succ n ih =>
    intro x1 x2 x3 x4 f a h
    rw [wb_M_figure_23] at h
    refine x_iload hx hb dM_figure_23 4 rfl ?_
    refine x_aload_n hx hb dM_figure_25 rfl 0 rfl ?_
    refine x_get hx hb hts (jnM _) hown hK _ (woM ad cA f a) rfl 3 (by decide) (hts _ (List.mem_cons_of_mem _ kfM_13)) (fun _ h9 => h9) (v := .ref (ad 0 4)) (by rfl) dM_figure_26 ?_
    refine x_iload_n hx hb dM_figure_29 rfl 1 rfl ?_
    obtain ⟨hj6, h⟩ := h
    refine x_iald hx hb hK _ _ (wa3M ad cA f a) (wt3M cA) hj6.1 hj6.2 (by decide) dM_figure_30 ?_
    obtain ⟨hi7, h⟩ := h
    obtain ⟨hi8, h⟩ := h
    refine x_icmp_ge hx hb (tgt := 76) hi7 hi8 dM_figure_31 (by decide) (fun hc => ?_) (fun hc => ?_)
    · have h := h.1 hc
      refine x_iload_n hx hb dM_figure_76 rfl 2 rfl ?_
      obtain ⟨hi9, h⟩ := h
      refine x_if_ne hx hb (tgt := 89) hi9  dM_figure_77 (by decide) (fun hc => ?_) (fun hc => ?_)
      · have h := h.1 hc
        refine x_iload_n hx hb dM_figure_89 rfl 2 rfl ?_
        refine x_iconst hx hb dM_figure_90 ?_
        refine x_icmp_ne hx hb (tgt := 100) hi9 (by decide) dM_figure_91 (by decide) (fun hc => ?_) (fun hc => ?_)
        · have h := h.1 hc
          refine x_iload_n hx hb dM_figure_100 rfl 2 rfl ?_
          refine x_iconst hx hb dM_figure_101 ?_
          refine x_icmp_ne hx hb (tgt := 113) hi9 (by decide) dM_figure_102 (by decide) (fun hc => ?_) (fun hc => ?_)
          · have h := h.1 hc
            refine x_iload_n hx hb dM_figure_113 rfl 3 rfl ?_
            refine x_iconst hx hb dM_figure_114 ?_
            refine x_aload_n hx hb dM_figure_115 rfl 0 rfl ?_
            refine x_get hx hb hts (jnM _) hown hK _ (woM ad cA f a) rfl 0 (by decide) (hts _ (List.mem_cons_of_mem _ kfM_58)) (fun _ h9 => h9) (v := .int (iI (f 0 0))) (by rfl) dM_figure_116 ?_
            refine x_imul hx hb dM_figure_119 ?_
            refine x_aload_n hx hb dM_figure_120 rfl 0 rfl ?_
            refine x_get hx hb hts (jnM _) hown hK _ (woM ad cA f a) rfl 3 (by decide) (hts _ (List.mem_cons_of_mem _ kfM_13)) (fun _ h9 => h9) (v := .ref (ad 0 4)) (by rfl) dM_figure_121 ?_
            refine x_iload_n hx hb dM_figure_124 rfl 1 rfl ?_
            refine x_iald hx hb hK _ _ (wa3M ad cA f a) (wt3M cA) hj6.1 hj6.2 (by decide) dM_figure_125 ?_
            refine x_imul hx hb dM_figure_126 ?_
            obtain ⟨hi10, h⟩ := h
            obtain ⟨hi11, h⟩ := h
            refine x_icmp_ne hx hb (tgt := 139) hi10 hi11 dM_figure_127 (by decide) (fun hc => ?_) (fun hc => ?_)
            · have h := h.1 hc
              refine x_iconst hx hb dM_figure_139 ?_
              refine x_sub [] rfl ?_
              exact tb_M_figure_140 hO 0 f a h
            · have h := h.2 hc
              refine x_aload_n hx hb dM_figure_130 rfl 0 rfl ?_
              refine x_get hx hb hts (jnM _) hown hK _ (woM ad cA f a) rfl 3 (by decide) (hts _ (List.mem_cons_of_mem _ kfM_13)) (fun _ h9 => h9) (v := .ref (ad 0 4)) (by rfl) dM_figure_131 ?_
              refine x_iload_n hx hb dM_figure_134 rfl 1 rfl ?_
              refine x_iald hx hb hK _ _ (wa3M ad cA f a) (wt3M cA) hj6.1 hj6.2 (by decide) dM_figure_135 ?_
              refine x_goto hx hb (tgt := 140) dM_figure_136 (by decide) ?_
              refine x_sub [] rfl ?_
              exact tb_M_figure_140 hO (a 0 3 (Int.toNat x1)) f a h
          · have h := h.2 hc
            refine x_aload_n hx hb dM_figure_105 rfl 0 rfl ?_
            refine x_iload_n hx hb dM_figure_106 rfl 1 rfl ?_
            refine x_cVi (n := 1) (st := []) (As := [.int (iI x1)]) ⟨hx, hb, hml, hown, hts⟩ hK hN (m_M_elements h) (x_cwV hts rfl rfl kcM_elements knM klM_162 kiM_elements keM_elements ⟨by decide, by decide, by decide +kernel⟩ ⟨by decide, by decide⟩) _ (woM ad cA f a) rfl hA rfl (Nat.le_of_ble_eq_true rfl) ⟨Nat.zero_le _, Nat.zero_le _⟩ rfl dM_figure_107 (fun z12 f13 a14 h => ?_)
            refine x_goto hx hb (tgt := 140) dM_figure_110 (by decide) ?_
            refine x_sub [] rfl ?_
            exact tb_M_figure_140 hO z12 f13 a14 h
        · have h := h.2 hc
          refine x_iload_n hx hb dM_figure_94 rfl 3 rfl ?_
          refine x_iconst hx hb dM_figure_95 ?_
          obtain ⟨hn15, h⟩ := h
          refine x_idiv hx hb hn15.1 hn15.2 (by decide) (by decide) dM_figure_96 ?_
          refine x_goto hx hb (tgt := 140) dM_figure_97 (by decide) ?_
          refine x_sub [] rfl ?_
          exact tb_M_figure_140 hO (x3 / 2) f a h
      · have h := h.2 hc
        refine x_aload_n hx hb dM_figure_80 rfl 0 rfl ?_
        refine x_get hx hb hts (jnM _) hown hK _ (woM ad cA f a) rfl 3 (by decide) (hts _ (List.mem_cons_of_mem _ kfM_13)) (fun _ h9 => h9) (v := .ref (ad 0 4)) (by rfl) dM_figure_81 ?_
        refine x_iload_n hx hb dM_figure_84 rfl 1 rfl ?_
        refine x_iald hx hb hK _ _ (wa3M ad cA f a) (wt3M cA) hj6.1 hj6.2 (by decide) dM_figure_85 ?_
        refine x_goto hx hb (tgt := 140) dM_figure_86 (by decide) ?_
        refine x_sub [] rfl ?_
        exact tb_M_figure_140 hO (a 0 3 (Int.toNat x1)) f a h
    · have h := h.2 hc
      refine x_iconst hx hb dM_figure_34 ?_
      refine x_istore hx hb dM_figure_35 (by decide) (lv' := [(5, .int (iI 0)), (0, .ref (ad 0 0)), (1, .int (iI x1)), (2, .int (iI x2)), (3, .int (iI x3)), (4, .int (iI x4))]) rfl ?_
      obtain ⟨j, h⟩ := h
      refine x_sub [1, 2, 3, 4, 5, 0] rfl ?_
      exact tb_M_figure_37 hO ih j x1 x2 x3 x4 0 f a h
def wp_M_figure (post : Int → fS → aS → Prop) (x1 : Int) (x2 : Int) (f : fS) (a : aS) : Prop := wp_M_isGroup (fun z1 f2 a3 => ir z1 ∧ (((z1 = 0) → (wb_M_figure_16 post f2 a3)) ∧ (¬ (z1 = 0) → (ir x2 ∧ (((x2 < 0) → (wb_M_figure_16 post f2 a3)) ∧ (¬ (x2 < 0) → (((x2 ≤ 3) → (∃ j, wb_M_figure_23 post j x1 x2 0 0 f2 a3)) ∧ (¬ (x2 ≤ 3) → (wb_M_figure_16 post f2 a3))))))))) x1 f a
set_option maxHeartbeats 4000000 in
set_option maxRecDepth 100000 in
theorem m_M_figure {l : Launch} {D : va_G} {ad : Nat → Nat → Nat} {cA : Nat → Nat → ClassId} {post : Int → fS → aS → Prop} {x1 : Int} {x2 : Int} {f : fS} {a : aS} (h : wp_M_figure post x1 x2 f a) : xCI l yM_figure (Cond.code yM_figure cM_figure 6 (some .int) :: xG) rmM_figure D vwCl (taM cA) (MW ad cA f a) [.ref (ad 0 0), .int (iI x1), .int (iI x2)] (MW ad cA) post := by
  refine x_metI (cc := cM_figure) (nL := 6) (by decide) rfl (Nat.le_of_ble_eq_true rfl) ?_
  intro p e s m below meth c A hO
  have hO9 := hO
  obtain ⟨hx, hb, hml, hown, hts, hr, hlk, hK, hN, hA⟩ := hO9
  unfold wp_M_figure at h
  show gM_figure p l e s m _ below meth c A D ad cA post f a [(0, .ref (ad 0 0)), (1, .int (iI x1)), (2, .int (iI x2))] 0 []
  refine x_iload_n hx hb dM_figure_0 rfl 1 rfl ?_
  refine x_cSi (n := 1) (st := []) (As := [.int (iI x1)]) ⟨hx, hb, hml, hown, hts⟩ hK hN (m_M_isGroup h) (x_cwS hts rfl rfl kcM_isGroup knM klM_101 ksM_isGroup ⟨by decide, by decide, by decide +kernel⟩ ⟨by decide, by decide⟩) hA rfl (Nat.le_of_ble_eq_true rfl) ⟨Nat.zero_le _, Nat.zero_le _⟩ rfl dM_figure_1 (fun z1 f2 a3 h => ?_)
  obtain ⟨hi4, h⟩ := h
  refine x_if_eq hx hb (tgt := 16) hi4  dM_figure_4 (by decide) (fun hc => ?_) (fun hc => ?_)
  · have h := h.1 hc
    refine x_sub [] rfl ?_
    exact tb_M_figure_16 hO f2 a3 h
  · have h := h.2 hc
    refine x_iload_n hx hb dM_figure_7 rfl 2 rfl ?_
    obtain ⟨hi5, h⟩ := h
    refine x_if_lt hx hb (tgt := 16) hi5  dM_figure_8 (by decide) (fun hc => ?_) (fun hc => ?_)
    · have h := h.1 hc
      refine x_sub [] rfl ?_
      exact tb_M_figure_16 hO f2 a3 h
    · have h := h.2 hc
      refine x_iload_n hx hb dM_figure_11 rfl 2 rfl ?_
      refine x_iconst hx hb dM_figure_12 ?_
      refine x_icmp_le hx hb (tgt := 18) hi5 (by decide) dM_figure_13 (by decide) (fun hc => ?_) (fun hc => ?_)
      · have h := h.1 hc
        refine x_iconst hx hb dM_figure_18 ?_
        refine x_istore_n hx hb dM_figure_19 rfl (by decide) (lv' := [(3, .int (iI 0)), (0, .ref (ad 0 0)), (1, .int (iI x1)), (2, .int (iI x2))]) rfl ?_
        refine x_iconst hx hb dM_figure_20 ?_
        refine x_istore hx hb dM_figure_21 (by decide) (lv' := [(4, .int (iI 0)), (3, .int (iI 0)), (0, .ref (ad 0 0)), (1, .int (iI x1)), (2, .int (iI x2))]) rfl ?_
        obtain ⟨j, h⟩ := h
        refine x_sub [2, 3, 4, 1, 0] rfl ?_
        exact tb_M_figure_23 hO j x1 x2 0 0 f2 a3 h
      · have h := h.2 hc
        refine x_sub [] rfl ?_
        exact tb_M_figure_16 hO f2 a3 h
