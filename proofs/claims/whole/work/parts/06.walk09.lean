-- M_walk
abbrev rmM_walk : Room := { frames := 1, cells := 0, slots := 0, locals := 23 }
abbrev gM_walk (p : Program) (l : Launch) (e : Env) (s : State) (m : MethodId) (args : Array Value) (below : List Frame) (meth : Method) (c : Code) (A : Nat → Prop) (D : va_G) (ad : Nat → Nat → Nat) (cA : Nat → Nat → ClassId) (post : Int → fS → aS → Prop) (f : fS) (a : aS) (lv : List (Nat × Value)) (pc : Nat) (st : List Value) : Prop := xV p l e rmM_walk s m args below meth c s.heap A 0 0 (xQI below D vwCl (taM cA) (MW ad cA) post A args s) D vwCl 4 (MW ad cA f a) lv pc st
def wb_M_walk_38 (post : Int → fS → aS → Prop) (x2 : Int) (f : fS) (a : aS) : Prop := post x2 f a
set_option maxHeartbeats 4000000 in
set_option maxRecDepth 100000 in
theorem tb_M_walk_38 {p : Program} {l : Launch} {e : Env} {s : State} {m : MethodId} {args : Array Value} {below : List Frame} {meth : Method} {c : Code} {A : Nat → Prop} {D : va_G} {ad : Nat → Nat → Nat} {cA : Nat → Nat → ClassId} {post : Int → fS → aS → Prop} (hO : xOk cM_walk 4 RM (Cond.code yM_walk cM_walk 4 (some .int) :: xG) (some .int) p s m args meth c A D vwCl (taM cA)) : ∀ (x2 : Int) (f : fS) (a : aS), wb_M_walk_38 post x2 f a → gM_walk p l e s m args below meth c A D ad cA post f a [(2, .int (iI x2))] 38 [] := by
  have hO9 := hO
  obtain ⟨hx, hb, hml, hown, hts, hr, hlk, hK, hN, hA⟩ := hO9
  intro x2 f a h
  unfold wb_M_walk_38 at h
  refine x_iload_n hx hb dM_walk_38 rfl 0 rfl ?_
  exact x_iret hx hb hr hlk hK dM_walk_39 h
def wb_M_walk_4 (post : Int → fS → aS → Prop) : Nat → Int → Int → Int → fS → aS → Prop
  | 0, _, _, _, _, _ => False
  | n + 1, x1, x2, x3, f, a => ir x3 ∧ (ir (f 0 1) ∧ (((f 0 1 ≤ x3) → (wb_M_walk_38 post x2 f a)) ∧ (¬ (f 0 1 ≤ x3) → (ir x2 ∧ (((x2 < 0) → (wb_M_walk_38 post x2 f a)) ∧ (¬ (x2 < 0) → ((0 ≤ x3 ∧ x3 < 24) ∧ (wp_M_numberOf (fun z5 f6 a7 => wp_M_way (fun z8 f9 a10 => wb_M_walk_4 post n x1 z8 (x3 + 1) f9 a10) x1 x2 z5 f6 a7) (a 0 2 (Int.toNat x3)) f a))))))))
set_option maxHeartbeats 4000000 in
set_option maxRecDepth 100000 in
theorem tb_M_walk_4 {p : Program} {l : Launch} {e : Env} {s : State} {m : MethodId} {args : Array Value} {below : List Frame} {meth : Method} {c : Code} {A : Nat → Prop} {D : va_G} {ad : Nat → Nat → Nat} {cA : Nat → Nat → ClassId} {post : Int → fS → aS → Prop} (hO : xOk cM_walk 4 RM (Cond.code yM_walk cM_walk 4 (some .int) :: xG) (some .int) p s m args meth c A D vwCl (taM cA)) : ∀ (n : Nat) (x1 : Int) (x2 : Int) (x3 : Int) (f : fS) (a : aS), wb_M_walk_4 post n x1 x2 x3 f a → gM_walk p l e s m args below meth c A D ad cA post f a [(0, .ref (ad 0 0)), (1, .int (iI x1)), (2, .int (iI x2)), (3, .int (iI x3))] 4 [] := by
  have hO9 := hO
  obtain ⟨hx, hb, hml, hown, hts, hr, hlk, hK, hN, hA⟩ := hO9
  intro n
  induction n with
  | zero => intro x1 x2 x3 f a h; exact False.elim h
  | succ n ih =>
    intro x1 x2 x3 f a h
    rw [wb_M_walk_4] at h
    refine x_iload_n hx hb dM_walk_4 rfl 3 rfl ?_
    refine x_aload_n hx hb dM_walk_5 rfl 0 rfl ?_
    refine x_get hx hb hts (jnM _) hown hK _ (woM ad cA f a) rfl 1 (by decide) (hts _ (List.mem_cons_of_mem _ kfM_66)) (fun _ h9 => h9) (v := .int (iI (f 0 1))) (by rfl) dM_walk_6 ?_
    obtain ⟨hi1, h⟩ := h
    obtain ⟨hi2, h⟩ := h
    refine x_icmp_ge hx hb (tgt := 38) hi1 hi2 dM_walk_9 (by decide) (fun hc => ?_) (fun hc => ?_)
    · have h := h.1 hc
      refine x_sub [2] rfl ?_
      exact tb_M_walk_38 hO x2 f a h
    · have h := h.2 hc
      refine x_iload_n hx hb dM_walk_12 rfl 2 rfl ?_
      obtain ⟨hi3, h⟩ := h
      refine x_if_lt hx hb (tgt := 38) hi3  dM_walk_13 (by decide) (fun hc => ?_) (fun hc => ?_)
      · have h := h.1 hc
        refine x_sub [2] rfl ?_
        exact tb_M_walk_38 hO x2 f a h
      · have h := h.2 hc
        refine x_aload_n hx hb dM_walk_16 rfl 0 rfl ?_
        refine x_iload_n hx hb dM_walk_17 rfl 1 rfl ?_
        refine x_iload_n hx hb dM_walk_18 rfl 2 rfl ?_
        refine x_aload_n hx hb dM_walk_19 rfl 0 rfl ?_
        refine x_get hx hb hts (jnM _) hown hK _ (woM ad cA f a) rfl 2 (by decide) (hts _ (List.mem_cons_of_mem _ kfM_7)) (fun _ h9 => h9) (v := .ref (ad 0 3)) (by rfl) dM_walk_20 ?_
        refine x_iload_n hx hb dM_walk_23 rfl 3 rfl ?_
        obtain ⟨hj4, h⟩ := h
        refine x_iald hx hb hK _ _ (wa2M ad cA f a) (wt2M cA) hj4.1 hj4.2 (by decide) dM_walk_24 ?_
        refine x_cSi (n := 1) (st := [.int (iI x2), .int (iI x1), .ref (ad 0 0)]) (As := [.int (iI (a 0 2 (Int.toNat x3)))]) ⟨hx, hb, hml, hown, hts⟩ hK hN (m_M_numberOf h) (x_cwS hts rfl rfl kcM_numberOf knM klM_78 ksM_numberOf ⟨by decide, by decide, by decide +kernel⟩ ⟨by decide, by decide⟩) hA rfl (Nat.le_of_ble_eq_true rfl) ⟨Nat.zero_le _, Nat.zero_le _⟩ rfl dM_walk_25 (fun z5 f6 a7 h => ?_)
        refine x_cVi (n := 3) (st := []) (As := [.int (iI x1), .int (iI x2), .int (iI z5)]) ⟨hx, hb, hml, hown, hts⟩ hK hN (m_M_way h) (x_cwV hts rfl rfl kcM_way knM klM_82 kiM_way keM_way ⟨by decide, by decide, by decide +kernel⟩ ⟨by decide, by decide⟩) _ (woM ad cA f6 a7) rfl hA rfl (Nat.le_of_ble_eq_true rfl) ⟨Nat.zero_le _, Nat.zero_le _⟩ rfl dM_walk_28 (fun z8 f9 a10 h => ?_)
        refine x_istore_n hx hb dM_walk_31 rfl (by decide) (lv' := [(2, .int (iI z8)), (0, .ref (ad 0 0)), (1, .int (iI x1)), (3, .int (iI x3))]) rfl ?_
        refine x_iinc hx hb dM_walk_32 3 rfl (by decide) (lv' := [(3, .int (iI (x3 + 1))), (2, .int (iI z8)), (0, .ref (ad 0 0)), (1, .int (iI x1))]) rfl ?_
        refine x_goto hx hb (tgt := 4) dM_walk_35 (by decide) ?_
        refine x_sub [2, 3, 1, 0] rfl ?_
        exact ih x1 z8 (x3 + 1) f9 a10 h
def wp_M_walk (post : Int → fS → aS → Prop) (x1 : Int) (f : fS) (a : aS) : Prop := ∃ j, wb_M_walk_4 post j x1 0 0 f a
set_option maxHeartbeats 4000000 in
set_option maxRecDepth 100000 in
theorem m_M_walk {l : Launch} {D : va_G} {ad : Nat → Nat → Nat} {cA : Nat → Nat → ClassId} {post : Int → fS → aS → Prop} {x1 : Int} {f : fS} {a : aS} (h : wp_M_walk post x1 f a) : xCI l yM_walk (Cond.code yM_walk cM_walk 4 (some .int) :: xG) rmM_walk D vwCl (taM cA) (MW ad cA f a) [.ref (ad 0 0), .int (iI x1)] (MW ad cA) post := by
  refine x_metI (cc := cM_walk) (nL := 4) (by decide) rfl (Nat.le_of_ble_eq_true rfl) ?_
  intro p e s m below meth c A hO
  have hO9 := hO
  obtain ⟨hx, hb, hml, hown, hts, hr, hlk, hK, hN, hA⟩ := hO9
  unfold wp_M_walk at h
  show gM_walk p l e s m _ below meth c A D ad cA post f a [(0, .ref (ad 0 0)), (1, .int (iI x1))] 0 []
  refine x_iconst hx hb dM_walk_0 ?_
  refine x_istore_n hx hb dM_walk_1 rfl (by decide) (lv' := [(2, .int (iI 0)), (0, .ref (ad 0 0)), (1, .int (iI x1))]) rfl ?_
  refine x_iconst hx hb dM_walk_2 ?_
  refine x_istore_n hx hb dM_walk_3 rfl (by decide) (lv' := [(3, .int (iI 0)), (2, .int (iI 0)), (0, .ref (ad 0 0)), (1, .int (iI x1))]) rfl ?_
  obtain ⟨j, h⟩ := h
  refine x_sub [2, 3, 1, 0] rfl ?_
  exact tb_M_walk_4 hO j x1 0 0 f a h
-- M_trace
abbrev rmM_trace : Room := { frames := 2, cells := 0, slots := 0, locals := 46 }
abbrev gM_trace (p : Program) (l : Launch) (e : Env) (s : State) (m : MethodId) (args : Array Value) (below : List Frame) (meth : Method) (c : Code) (A : Nat → Prop) (D : va_G) (ad : Nat → Nat → Nat) (cA : Nat → Nat → ClassId) (post : Int → fS → aS → Prop) (f : fS) (a : aS) (lv : List (Nat × Value)) (pc : Nat) (st : List Value) : Prop := xV p l e rmM_trace s m args below meth c s.heap A 0 0 (xQI below D vwCl (taM cA) (MW ad cA) post A args s) D vwCl 2 (MW ad cA f a) lv pc st
def wb_M_trace_16 (post : Int → fS → aS → Prop) (y0 : Int) (f : fS) (a : aS) : Prop := post y0 f a
set_option maxHeartbeats 4000000 in
set_option maxRecDepth 100000 in
theorem tb_M_trace_16 {p : Program} {l : Launch} {e : Env} {s : State} {m : MethodId} {args : Array Value} {below : List Frame} {meth : Method} {c : Code} {A : Nat → Prop} {D : va_G} {ad : Nat → Nat → Nat} {cA : Nat → Nat → ClassId} {post : Int → fS → aS → Prop} (hO : xOk cM_trace 2 RM (Cond.code yM_trace cM_trace 2 (some .int) :: xG) (some .int) p s m args meth c A D vwCl (taM cA)) : ∀ (y0 : Int) (f : fS) (a : aS), wb_M_trace_16 post y0 f a → gM_trace p l e s m args below meth c A D ad cA post f a [] 16 [.int (iI y0)] := by
  have hO9 := hO
  obtain ⟨hx, hb, hml, hown, hts, hr, hlk, hK, hN, hA⟩ := hO9
  intro y0 f a h
  unfold wb_M_trace_16 at h
  exact x_iret hx hb hr hlk hK dM_trace_16 h
def wp_M_trace (post : Int → fS → aS → Prop) (x1 : Int) (f : fS) (a : aS) : Prop := wp_M_isGroup (fun z1 f2 a3 => ir z1 ∧ (((z1 = 0) → (wb_M_trace_16 post (-1) f2 a3)) ∧ (¬ (z1 = 0) → (wp_M_walk (fun z5 f6 a7 => wb_M_trace_16 post z5 f6 a7) x1 f2 a3)))) x1 f a
set_option maxHeartbeats 4000000 in
set_option maxRecDepth 100000 in
theorem m_M_trace {l : Launch} {D : va_G} {ad : Nat → Nat → Nat} {cA : Nat → Nat → ClassId} {post : Int → fS → aS → Prop} {x1 : Int} {f : fS} {a : aS} (h : wp_M_trace post x1 f a) : xCI l yM_trace (Cond.code yM_trace cM_trace 2 (some .int) :: xG) rmM_trace D vwCl (taM cA) (MW ad cA f a) [.ref (ad 0 0), .int (iI x1)] (MW ad cA) post := by
  refine x_metI (cc := cM_trace) (nL := 2) (by decide) rfl (Nat.le_of_ble_eq_true rfl) ?_
  intro p e s m below meth c A hO
  have hO9 := hO
  obtain ⟨hx, hb, hml, hown, hts, hr, hlk, hK, hN, hA⟩ := hO9
  unfold wp_M_trace at h
  show gM_trace p l e s m _ below meth c A D ad cA post f a [(0, .ref (ad 0 0)), (1, .int (iI x1))] 0 []
  refine x_iload_n hx hb dM_trace_0 rfl 1 rfl ?_
  refine x_cSi (n := 1) (st := []) (As := [.int (iI x1)]) ⟨hx, hb, hml, hown, hts⟩ hK hN (m_M_isGroup h) (x_cwS hts rfl rfl kcM_isGroup knM klM_101 ksM_isGroup ⟨by decide, by decide, by decide +kernel⟩ ⟨by decide, by decide⟩) hA rfl (Nat.le_of_ble_eq_true rfl) ⟨Nat.zero_le _, Nat.zero_le _⟩ rfl dM_trace_1 (fun z1 f2 a3 h => ?_)
  obtain ⟨hi4, h⟩ := h
  refine x_if_eq hx hb (tgt := 15) hi4  dM_trace_4 (by decide) (fun hc => ?_) (fun hc => ?_)
  · have h := h.1 hc
    refine x_iconst hx hb dM_trace_15 ?_
    refine x_sub [] rfl ?_
    exact tb_M_trace_16 hO (-1) f2 a3 h
  · have h := h.2 hc
    refine x_aload_n hx hb dM_trace_7 rfl 0 rfl ?_
    refine x_iload_n hx hb dM_trace_8 rfl 1 rfl ?_
    refine x_cVi (n := 1) (st := []) (As := [.int (iI x1)]) ⟨hx, hb, hml, hown, hts⟩ hK hN (m_M_walk h) (x_cwV hts rfl rfl kcM_walk knM klM_127 kiM_walk keM_walk ⟨by decide, by decide, by decide +kernel⟩ ⟨by decide, by decide⟩) _ (woM ad cA f2 a3) rfl hA rfl (Nat.le_of_ble_eq_true rfl) ⟨Nat.zero_le _, Nat.zero_le _⟩ rfl dM_trace_9 (fun z5 f6 a7 h => ?_)
    refine x_goto hx hb (tgt := 16) dM_trace_12 (by decide) ?_
    refine x_sub [] rfl ?_
    exact tb_M_trace_16 hO z5 f6 a7 h
-- M_member
abbrev rmM_member : Room := { frames := 2, cells := 0, slots := 0, locals := 46 }
abbrev gM_member (p : Program) (l : Launch) (e : Env) (s : State) (m : MethodId) (args : Array Value) (below : List Frame) (meth : Method) (c : Code) (A : Nat → Prop) (D : va_G) (ad : Nat → Nat → Nat) (cA : Nat → Nat → ClassId) (post : Int → fS → aS → Prop) (f : fS) (a : aS) (lv : List (Nat × Value)) (pc : Nat) (st : List Value) : Prop := xV p l e rmM_member s m args below meth c s.heap A 0 0 (xQI below D vwCl (taM cA) (MW ad cA) post A args s) D vwCl 2 (MW ad cA f a) lv pc st
def wb_M_member_20 (post : Int → fS → aS → Prop) (y0 : Int) (f : fS) (a : aS) : Prop := (y0 = 0 ∨ y0 = 1) ∧ post y0 f a
set_option maxHeartbeats 4000000 in
set_option maxRecDepth 100000 in
theorem tb_M_member_20 {p : Program} {l : Launch} {e : Env} {s : State} {m : MethodId} {args : Array Value} {below : List Frame} {meth : Method} {c : Code} {A : Nat → Prop} {D : va_G} {ad : Nat → Nat → Nat} {cA : Nat → Nat → ClassId} {post : Int → fS → aS → Prop} (hO : xOk cM_member 2 RM (Cond.code yM_member cM_member 2 (some .boolean) :: xG) (some .boolean) p s m args meth c A D vwCl (taM cA)) : ∀ (y0 : Int) (f : fS) (a : aS), wb_M_member_20 post y0 f a → gM_member p l e s m args below meth c A D ad cA post f a [] 20 [.int (iI y0)] := by
  have hO9 := hO
  obtain ⟨hx, hb, hml, hown, hts, hr, hlk, hK, hN, hA⟩ := hO9
  intro y0 f a h
  unfold wb_M_member_20 at h
  exact x_zret hx hb hr hlk hK dM_member_20 h.1 h.2
def wb_M_member_19 (post : Int → fS → aS → Prop) (f : fS) (a : aS) : Prop := wb_M_member_20 post 0 f a
set_option maxHeartbeats 4000000 in
set_option maxRecDepth 100000 in
theorem tb_M_member_19 {p : Program} {l : Launch} {e : Env} {s : State} {m : MethodId} {args : Array Value} {below : List Frame} {meth : Method} {c : Code} {A : Nat → Prop} {D : va_G} {ad : Nat → Nat → Nat} {cA : Nat → Nat → ClassId} {post : Int → fS → aS → Prop} (hO : xOk cM_member 2 RM (Cond.code yM_member cM_member 2 (some .boolean) :: xG) (some .boolean) p s m args meth c A D vwCl (taM cA)) : ∀ (f : fS) (a : aS), wb_M_member_19 post f a → gM_member p l e s m args below meth c A D ad cA post f a [] 19 [] := by
  have hO9 := hO
  obtain ⟨hx, hb, hml, hown, hts, hr, hlk, hK, hN, hA⟩ := hO9
  intro f a h
  unfold wb_M_member_19 at h
  refine x_iconst hx hb dM_member_19 ?_
  exact tb_M_member_20 hO 0 f a h
def wp_M_member (post : Int → fS → aS → Prop) (x1 : Int) (f : fS) (a : aS) : Prop := wp_M_isGroup (fun z1 f2 a3 => ir z1 ∧ (((z1 = 0) → (wb_M_member_19 post f2 a3)) ∧ (¬ (z1 = 0) → (wp_M_walk (fun z5 f6 a7 => ir z5 ∧ (((¬ z5 = 0) → (wb_M_member_19 post f6 a7)) ∧ (¬ (¬ z5 = 0) → (wb_M_member_20 post 1 f6 a7)))) x1 f2 a3)))) x1 f a
set_option maxHeartbeats 4000000 in
set_option maxRecDepth 100000 in
theorem m_M_member {l : Launch} {D : va_G} {ad : Nat → Nat → Nat} {cA : Nat → Nat → ClassId} {post : Int → fS → aS → Prop} {x1 : Int} {f : fS} {a : aS} (h : wp_M_member post x1 f a) : xCI l yM_member (Cond.code yM_member cM_member 2 (some .boolean) :: xG) rmM_member D vwCl (taM cA) (MW ad cA f a) [.ref (ad 0 0), .int (iI x1)] (MW ad cA) post := by
  refine x_metI (cc := cM_member) (nL := 2) (by decide) rfl (Nat.le_of_ble_eq_true rfl) ?_
  intro p e s m below meth c A hO
  have hO9 := hO
  obtain ⟨hx, hb, hml, hown, hts, hr, hlk, hK, hN, hA⟩ := hO9
  unfold wp_M_member at h
  show gM_member p l e s m _ below meth c A D ad cA post f a [(0, .ref (ad 0 0)), (1, .int (iI x1))] 0 []
  refine x_iload_n hx hb dM_member_0 rfl 1 rfl ?_
  refine x_cSi (n := 1) (st := []) (As := [.int (iI x1)]) ⟨hx, hb, hml, hown, hts⟩ hK hN (m_M_isGroup h) (x_cwS hts rfl rfl kcM_isGroup knM klM_101 ksM_isGroup ⟨by decide, by decide, by decide +kernel⟩ ⟨by decide, by decide⟩) hA rfl (Nat.le_of_ble_eq_true rfl) ⟨Nat.zero_le _, Nat.zero_le _⟩ rfl dM_member_1 (fun z1 f2 a3 h => ?_)
  obtain ⟨hi4, h⟩ := h
  refine x_if_eq hx hb (tgt := 19) hi4  dM_member_4 (by decide) (fun hc => ?_) (fun hc => ?_)
  · have h := h.1 hc
    refine x_sub [] rfl ?_
    exact tb_M_member_19 hO f2 a3 h
  · have h := h.2 hc
    refine x_aload_n hx hb dM_member_7 rfl 0 rfl ?_
    refine x_iload_n hx hb dM_member_8 rfl 1 rfl ?_
    refine x_cVi (n := 1) (st := []) (As := [.int (iI x1)]) ⟨hx, hb, hml, hown, hts⟩ hK hN (m_M_walk h) (x_cwV hts rfl rfl kcM_walk knM klM_127 kiM_walk keM_walk ⟨by decide, by decide, by decide +kernel⟩ ⟨by decide, by decide⟩) _ (woM ad cA f2 a3) rfl hA rfl (Nat.le_of_ble_eq_true rfl) ⟨Nat.zero_le _, Nat.zero_le _⟩ rfl dM_member_9 (fun z5 f6 a7 h => ?_)
    obtain ⟨hi8, h⟩ := h
    refine x_if_ne hx hb (tgt := 19) hi8  dM_member_12 (by decide) (fun hc => ?_) (fun hc => ?_)
    · have h := h.1 hc
      refine x_sub [] rfl ?_
      exact tb_M_member_19 hO f6 a7 h
    · have h := h.2 hc
      refine x_iconst hx hb dM_member_15 ?_
      refine x_goto hx hb (tgt := 20) dM_member_16 (by decide) ?_
      refine x_sub [] rfl ?_
      exact tb_M_member_20 hO 1 f6 a7 h
-- M_isTree
abbrev rmM_isTree : Room := { frames := 0, cells := 0, slots := 0, locals := 0 }
abbrev gM_isTree (p : Program) (l : Launch) (e : Env) (s : State) (m : MethodId) (args : Array Value) (below : List Frame) (meth : Method) (c : Code) (A : Nat → Prop) (D : va_G) (ad : Nat → Nat → Nat) (cA : Nat → Nat → ClassId) (post : Int → fS → aS → Prop) (f : fS) (a : aS) (lv : List (Nat × Value)) (pc : Nat) (st : List Value) : Prop := xV p l e rmM_isTree s m args below meth c s.heap A 0 0 (xQI below D vwCl (taM cA) (MW ad cA) post A args s) D vwCl 6 (MW ad cA f a) lv pc st
def wb_M_isTree_91 (post : Int → fS → aS → Prop) (y0 : Int) (f : fS) (a : aS) : Prop := (y0 = 0 ∨ y0 = 1) ∧ post y0 f a
set_option maxHeartbeats 4000000 in
set_option maxRecDepth 100000 in
theorem tb_M_isTree_91 {p : Program} {l : Launch} {e : Env} {s : State} {m : MethodId} {args : Array Value} {below : List Frame} {meth : Method} {c : Code} {A : Nat → Prop} {D : va_G} {ad : Nat → Nat → Nat} {cA : Nat → Nat → ClassId} {post : Int → fS → aS → Prop} (hO : xOk cM_isTree 6 RM (Cond.code yM_isTree cM_isTree 6 (some .boolean) :: xG) (some .boolean) p s m args meth c A D vwCl (taM cA)) : ∀ (y0 : Int) (f : fS) (a : aS), wb_M_isTree_91 post y0 f a → gM_isTree p l e s m args below meth c A D ad cA post f a [] 91 [.int (iI y0)] := by
  have hO9 := hO
  obtain ⟨hx, hb, hml, hown, hts, hr, hlk, hK, hN, hA⟩ := hO9
  intro y0 f a h
  unfold wb_M_isTree_91 at h
  exact x_zret hx hb hr hlk hK dM_isTree_91 h.1 h.2
def wb_M_isTree_86 (post : Int → fS → aS → Prop) (f : fS) (a : aS) : Prop := wb_M_isTree_91 post 1 f a
set_option maxHeartbeats 4000000 in
set_option maxRecDepth 100000 in
theorem tb_M_isTree_86 {p : Program} {l : Launch} {e : Env} {s : State} {m : MethodId} {args : Array Value} {below : List Frame} {meth : Method} {c : Code} {A : Nat → Prop} {D : va_G} {ad : Nat → Nat → Nat} {cA : Nat → Nat → ClassId} {post : Int → fS → aS → Prop} (hO : xOk cM_isTree 6 RM (Cond.code yM_isTree cM_isTree 6 (some .boolean) :: xG) (some .boolean) p s m args meth c A D vwCl (taM cA)) : ∀ (f : fS) (a : aS), wb_M_isTree_86 post f a → gM_isTree p l e s m args below meth c A D ad cA post f a [] 86 [] := by
  have hO9 := hO
  obtain ⟨hx, hb, hml, hown, hts, hr, hlk, hK, hN, hA⟩ := hO9
  intro f a h
  unfold wb_M_isTree_86 at h
  refine x_iconst hx hb dM_isTree_86 ?_
  refine x_goto hx hb (tgt := 91) dM_isTree_87 (by decide) ?_
  exact tb_M_isTree_91 hO 1 f a h
def wb_M_isTree_90 (post : Int → fS → aS → Prop) (f : fS) (a : aS) : Prop := wb_M_isTree_91 post 0 f a
set_option maxHeartbeats 4000000 in
set_option maxRecDepth 100000 in
theorem tb_M_isTree_90 {p : Program} {l : Launch} {e : Env} {s : State} {m : MethodId} {args : Array Value} {below : List Frame} {meth : Method} {c : Code} {A : Nat → Prop} {D : va_G} {ad : Nat → Nat → Nat} {cA : Nat → Nat → ClassId} {post : Int → fS → aS → Prop} (hO : xOk cM_isTree 6 RM (Cond.code yM_isTree cM_isTree 6 (some .boolean) :: xG) (some .boolean) p s m args meth c A D vwCl (taM cA)) : ∀ (f : fS) (a : aS), wb_M_isTree_90 post f a → gM_isTree p l e s m args below meth c A D ad cA post f a [] 90 [] := by
  have hO9 := hO
  obtain ⟨hx, hb, hml, hown, hts, hr, hlk, hK, hN, hA⟩ := hO9
  intro f a h
  unfold wb_M_isTree_90 at h
  refine x_iconst hx hb dM_isTree_90 ?_
  exact tb_M_isTree_91 hO 0 f a h
def wb_M_isTree_42 (post : Int → fS → aS → Prop) (x1 : Int) (x2 : Int) (x3 : Int) (x4 : Int) (y0 : Int) (f : fS) (a : aS) : Prop := ir y0 ∧ (((¬ y0 = 0) → (wb_M_isTree_86 post f a)) ∧ (¬ (¬ y0 = 0) → (ir x2 ∧ (((x2 ≤ 0) → (wb_M_isTree_90 post f a)) ∧ (¬ (x2 ≤ 0) → ((0 ≤ (64 * x1) + x2 ∧ (64 * x1) + x2 < 256) ∧ (ir (a 0 5 (Int.toNat ((64 * x1) + x2))) ∧ (ir x4 ∧ (((¬ a 0 5 (Int.toNat ((64 * x1) + x2)) = x4) → (wb_M_isTree_90 post f a)) ∧ (¬ (¬ a 0 5 (Int.toNat ((64 * x1) + x2)) = x4) → ((0 ≤ x3 ∧ x3 < 6) ∧ (ir (a 0 6 (Int.toNat ((64 * x1) + x2))) ∧ (ir (cx x3) ∧ (((¬ a 0 6 (Int.toNat ((64 * x1) + x2)) = cx x3) → (wb_M_isTree_90 post f a)) ∧ (¬ (¬ a 0 6 (Int.toNat ((64 * x1) + x2)) = cx x3) → (wb_M_isTree_86 post f a))))))))))))))))
set_option maxHeartbeats 4000000 in
set_option maxRecDepth 100000 in
theorem tb_M_isTree_42 {p : Program} {l : Launch} {e : Env} {s : State} {m : MethodId} {args : Array Value} {below : List Frame} {meth : Method} {c : Code} {A : Nat → Prop} {D : va_G} {ad : Nat → Nat → Nat} {cA : Nat → Nat → ClassId} {post : Int → fS → aS → Prop} (hO : xOk cM_isTree 6 RM (Cond.code yM_isTree cM_isTree 6 (some .boolean) :: xG) (some .boolean) p s m args meth c A D vwCl (taM cA)) : ∀ (x1 : Int) (x2 : Int) (x3 : Int) (x4 : Int) (y0 : Int) (f : fS) (a : aS), wb_M_isTree_42 post x1 x2 x3 x4 y0 f a → gM_isTree p l e s m args below meth c A D ad cA post f a [(0, .ref (ad 0 0)), (1, .int (iI x1)), (2, .int (iI x2)), (3, .int (iI x3)), (4, .int (iI x4))] 42 [.int (iI y0)] := by
  have hO9 := hO
  obtain ⟨hx, hb, hml, hown, hts, hr, hlk, hK, hN, hA⟩ := hO9
  intro x1 x2 x3 x4 y0 f a h
  unfold wb_M_isTree_42 at h
  refine x_istore hx hb dM_isTree_42 (by decide) (lv' := [(5, .int (iI y0)), (0, .ref (ad 0 0)), (1, .int (iI x1)), (2, .int (iI x2)), (3, .int (iI x3)), (4, .int (iI x4))]) rfl ?_
  refine x_iload hx hb dM_isTree_44 0 rfl ?_
  obtain ⟨hi7, h⟩ := h
  refine x_if_ne hx hb (tgt := 86) hi7  dM_isTree_46 (by decide) (fun hc => ?_) (fun hc => ?_)
  · have h := h.1 hc
    refine x_sub [] rfl ?_
    exact tb_M_isTree_86 hO f a h
  · have h := h.2 hc
    refine x_iload_n hx hb dM_isTree_49 rfl 3 rfl ?_
    obtain ⟨hi8, h⟩ := h
    refine x_if_le hx hb (tgt := 90) hi8  dM_isTree_50 (by decide) (fun hc => ?_) (fun hc => ?_)
    · have h := h.1 hc
      refine x_sub [] rfl ?_
      exact tb_M_isTree_90 hO f a h
    · have h := h.2 hc
      refine x_aload_n hx hb dM_isTree_53 rfl 1 rfl ?_
      refine x_get hx hb hts (jnM _) hown hK _ (woM ad cA f a) rfl 5 (by decide) (hts _ (List.mem_cons_of_mem _ kfM_19)) (fun _ h9 => h9) (v := .ref (ad 0 6)) (by rfl) dM_isTree_54 ?_
      refine x_bipush hx hb dM_isTree_57 (by decide) ?_
      refine x_iload_n hx hb dM_isTree_59 rfl 2 rfl ?_
      refine x_imul hx hb dM_isTree_60 ?_
      refine x_iload_n hx hb dM_isTree_61 rfl 3 rfl ?_
      refine x_iadd hx hb dM_isTree_62 ?_
      obtain ⟨hj9, h⟩ := h
      refine x_iald hx hb hK _ _ (wa5M ad cA f a) (wt5M cA) hj9.1 hj9.2 (by decide) dM_isTree_63 ?_
      refine x_iload hx hb dM_isTree_64 5 rfl ?_
      obtain ⟨hi10, h⟩ := h
      obtain ⟨hi11, h⟩ := h
      refine x_icmp_ne hx hb (tgt := 90) hi10 hi11 dM_isTree_66 (by decide) (fun hc => ?_) (fun hc => ?_)
      · have h := h.1 hc
        refine x_sub [] rfl ?_
        exact tb_M_isTree_90 hO f a h
      · have h := h.2 hc
        refine x_aload_n hx hb dM_isTree_69 rfl 1 rfl ?_
        refine x_get hx hb hts (jnM _) hown hK _ (woM ad cA f a) rfl 6 (by decide) (hts _ (List.mem_cons_of_mem _ kfM_22)) (fun _ h9 => h9) (v := .ref (ad 0 7)) (by rfl) dM_isTree_70 ?_
        refine x_bipush hx hb dM_isTree_73 (by decide) ?_
        refine x_iload_n hx hb dM_isTree_75 rfl 2 rfl ?_
        refine x_imul hx hb dM_isTree_76 ?_
        refine x_iload_n hx hb dM_isTree_77 rfl 3 rfl ?_
        refine x_iadd hx hb dM_isTree_78 ?_
        refine x_iald hx hb hK _ _ (wa6M ad cA f a) (wt6M cA) hj9.1 hj9.2 (by decide) dM_isTree_79 ?_
        refine x_iload_n hx hb dM_isTree_80 rfl 4 rfl ?_
        refine x_iconst hx hb dM_isTree_81 ?_
        obtain ⟨hj12, h⟩ := h
        refine x_ixor1 hx hb hj12.1 hj12.2 dM_isTree_82 ?_
        obtain ⟨hi13, h⟩ := h
        obtain ⟨hi14, h⟩ := h
        refine x_icmp_ne hx hb (tgt := 90) hi13 hi14 dM_isTree_83 (by decide) (fun hc => ?_) (fun hc => ?_)
        · have h := h.1 hc
          refine x_sub [] rfl ?_
          exact tb_M_isTree_90 hO f a h
        · have h := h.2 hc
          refine x_sub [] rfl ?_
          exact tb_M_isTree_86 hO f a h
def wb_M_isTree_41 (post : Int → fS → aS → Prop) (x1 : Int) (x2 : Int) (x3 : Int) (x4 : Int) (f : fS) (a : aS) : Prop := wb_M_isTree_42 post x1 x2 x3 x4 0 f a
set_option maxHeartbeats 4000000 in
set_option maxRecDepth 100000 in
theorem tb_M_isTree_41 {p : Program} {l : Launch} {e : Env} {s : State} {m : MethodId} {args : Array Value} {below : List Frame} {meth : Method} {c : Code} {A : Nat → Prop} {D : va_G} {ad : Nat → Nat → Nat} {cA : Nat → Nat → ClassId} {post : Int → fS → aS → Prop} (hO : xOk cM_isTree 6 RM (Cond.code yM_isTree cM_isTree 6 (some .boolean) :: xG) (some .boolean) p s m args meth c A D vwCl (taM cA)) : ∀ (x1 : Int) (x2 : Int) (x3 : Int) (x4 : Int) (f : fS) (a : aS), wb_M_isTree_41 post x1 x2 x3 x4 f a → gM_isTree p l e s m args below meth c A D ad cA post f a [(0, .ref (ad 0 0)), (1, .int (iI x1)), (2, .int (iI x2)), (3, .int (iI x3)), (4, .int (iI x4))] 41 [] := by
  have hO9 := hO
  obtain ⟨hx, hb, hml, hown, hts, hr, hlk, hK, hN, hA⟩ := hO9
  intro x1 x2 x3 x4 f a h
  unfold wb_M_isTree_41 at h
  refine x_iconst hx hb dM_isTree_41 ?_
  exact tb_M_isTree_42 hO x1 x2 x3 x4 0 f a h
def wp_M_isTree (post : Int → fS → aS → Prop) (x1 : Int) (x2 : Int) (x3 : Int) (x4 : Int) (f : fS) (a : aS) : Prop := ir x4 ∧ (((x4 ≤ 0) → (wb_M_isTree_41 post x1 x2 x3 x4 f a)) ∧ (¬ (x4 ≤ 0) → ((0 ≤ (64 * x1) + x4 ∧ (64 * x1) + x4 < 256) ∧ (ir (a 0 5 (Int.toNat ((64 * x1) + x4))) ∧ (ir x2 ∧ (((¬ a 0 5 (Int.toNat ((64 * x1) + x4)) = x2) → (wb_M_isTree_41 post x1 x2 x3 x4 f a)) ∧ (¬ (¬ a 0 5 (Int.toNat ((64 * x1) + x4)) = x2) → (ir (a 0 6 (Int.toNat ((64 * x1) + x4))) ∧ (ir x3 ∧ (((¬ a 0 6 (Int.toNat ((64 * x1) + x4)) = x3) → (wb_M_isTree_41 post x1 x2 x3 x4 f a)) ∧ (¬ (¬ a 0 6 (Int.toNat ((64 * x1) + x4)) = x3) → (wb_M_isTree_42 post x1 x2 x3 x4 1 f a))))))))))))
set_option maxHeartbeats 4000000 in
set_option maxRecDepth 100000 in
theorem m_M_isTree {l : Launch} {D : va_G} {ad : Nat → Nat → Nat} {cA : Nat → Nat → ClassId} {post : Int → fS → aS → Prop} {x1 : Int} {x2 : Int} {x3 : Int} {x4 : Int} {f : fS} {a : aS} (h : wp_M_isTree post x1 x2 x3 x4 f a) : xCI l yM_isTree (Cond.code yM_isTree cM_isTree 6 (some .boolean) :: xG) rmM_isTree D vwCl (taM cA) (MW ad cA f a) [.ref (ad 0 0), .int (iI x1), .int (iI x2), .int (iI x3), .int (iI x4)] (MW ad cA) post := by
  refine x_metI (cc := cM_isTree) (nL := 6) (by decide) rfl (Nat.le_of_ble_eq_true rfl) ?_
  intro p e s m below meth c A hO
  have hO9 := hO
  obtain ⟨hx, hb, hml, hown, hts, hr, hlk, hK, hN, hA⟩ := hO9
  unfold wp_M_isTree at h
  show gM_isTree p l e s m _ below meth c A D ad cA post f a [(0, .ref (ad 0 0)), (1, .int (iI x1)), (2, .int (iI x2)), (3, .int (iI x3)), (4, .int (iI x4))] 0 []
  refine x_iload hx hb dM_isTree_0 4 rfl ?_
  obtain ⟨hi1, h⟩ := h
  refine x_if_le hx hb (tgt := 41) hi1  dM_isTree_2 (by decide) (fun hc => ?_) (fun hc => ?_)
  · have h := h.1 hc
    exact tb_M_isTree_41 hO x1 x2 x3 x4 f a h
  · have h := h.2 hc
    refine x_aload_n hx hb dM_isTree_5 rfl 0 rfl ?_
    refine x_get hx hb hts (jnM _) hown hK _ (woM ad cA f a) rfl 5 (by decide) (hts _ (List.mem_cons_of_mem _ kfM_19)) (fun _ h9 => h9) (v := .ref (ad 0 6)) (by rfl) dM_isTree_6 ?_
    refine x_bipush hx hb dM_isTree_9 (by decide) ?_
    refine x_iload_n hx hb dM_isTree_11 rfl 1 rfl ?_
    refine x_imul hx hb dM_isTree_12 ?_
    refine x_iload hx hb dM_isTree_13 4 rfl ?_
    refine x_iadd hx hb dM_isTree_15 ?_
    obtain ⟨hj2, h⟩ := h
    refine x_iald hx hb hK _ _ (wa5M ad cA f a) (wt5M cA) hj2.1 hj2.2 (by decide) dM_isTree_16 ?_
    refine x_iload_n hx hb dM_isTree_17 rfl 2 rfl ?_
    obtain ⟨hi3, h⟩ := h
    obtain ⟨hi4, h⟩ := h
    refine x_icmp_ne hx hb (tgt := 41) hi3 hi4 dM_isTree_18 (by decide) (fun hc => ?_) (fun hc => ?_)
    · have h := h.1 hc
      exact tb_M_isTree_41 hO x1 x2 x3 x4 f a h
    · have h := h.2 hc
      refine x_aload_n hx hb dM_isTree_21 rfl 0 rfl ?_
      refine x_get hx hb hts (jnM _) hown hK _ (woM ad cA f a) rfl 6 (by decide) (hts _ (List.mem_cons_of_mem _ kfM_22)) (fun _ h9 => h9) (v := .ref (ad 0 7)) (by rfl) dM_isTree_22 ?_
      refine x_bipush hx hb dM_isTree_25 (by decide) ?_
      refine x_iload_n hx hb dM_isTree_27 rfl 1 rfl ?_
      refine x_imul hx hb dM_isTree_28 ?_
      refine x_iload hx hb dM_isTree_29 4 rfl ?_
      refine x_iadd hx hb dM_isTree_31 ?_
      refine x_iald hx hb hK _ _ (wa6M ad cA f a) (wt6M cA) hj2.1 hj2.2 (by decide) dM_isTree_32 ?_
      refine x_iload_n hx hb dM_isTree_33 rfl 3 rfl ?_
      obtain ⟨hi5, h⟩ := h
      obtain ⟨hi6, h⟩ := h
      refine x_icmp_ne hx hb (tgt := 41) hi5 hi6 dM_isTree_34 (by decide) (fun hc => ?_) (fun hc => ?_)
      · have h := h.1 hc
        exact tb_M_isTree_41 hO x1 x2 x3 x4 f a h
      · have h := h.2 hc
        refine x_iconst hx hb dM_isTree_37 ?_
        refine x_goto hx hb (tgt := 42) dM_isTree_38 (by decide) ?_
        exact tb_M_isTree_42 hO x1 x2 x3 x4 1 f a h
-- M_elementsBefore
abbrev rmM_elementsBefore : Room := { frames := 1, cells := 0, slots := 0, locals := 25 }
abbrev gM_elementsBefore (p : Program) (l : Launch) (e : Env) (s : State) (m : MethodId) (args : Array Value) (below : List Frame) (meth : Method) (c : Code) (A : Nat → Prop) (D : va_G) (ad : Nat → Nat → Nat) (cA : Nat → Nat → ClassId) (post : Int → fS → aS → Prop) (f : fS) (a : aS) (lv : List (Nat × Value)) (pc : Nat) (st : List Value) : Prop := xV p l e rmM_elementsBefore s m args below meth c s.heap A 0 0 (xQI below D vwCl (taM cA) (MW ad cA) post A args s) D vwCl 8 (MW ad cA f a) lv pc st
def wb_M_elementsBefore_89 (post : Int → fS → aS → Prop) (k6 : Int → Int → Int → Int → Int → fS → aS → Prop) (x1 : Int) (x2 : Int) (x3 : Int) (x4 : Int) (x5 : Int) (f : fS) (a : aS) : Prop := k6 x1 x2 x3 x4 (x5 + 1) f a
set_option maxHeartbeats 4000000 in
set_option maxRecDepth 100000 in
theorem tb_M_elementsBefore_89 {p : Program} {l : Launch} {e : Env} {s : State} {m : MethodId} {args : Array Value} {below : List Frame} {meth : Method} {c : Code} {A : Nat → Prop} {D : va_G} {ad : Nat → Nat → Nat} {cA : Nat → Nat → ClassId} {post : Int → fS → aS → Prop} {k6 : Int → Int → Int → Int → Int → fS → aS → Prop} (hO : xOk cM_elementsBefore 8 RM (Cond.code yM_elementsBefore cM_elementsBefore 8 (some .int) :: xG) (some .int) p s m args meth c A D vwCl (taM cA)) (hk6 : ∀ (x1 : Int) (x2 : Int) (x3 : Int) (x4 : Int) (x5 : Int) (f : fS) (a : aS), k6 x1 x2 x3 x4 x5 f a → gM_elementsBefore p l e s m args below meth c A D ad cA post f a [(0, .ref (ad 0 0)), (1, .int (iI x1)), (2, .int (iI x2)), (3, .int (iI x3)), (4, .int (iI x4)), (5, .int (iI x5))] 6 []) : ∀ (x1 : Int) (x2 : Int) (x3 : Int) (x4 : Int) (x5 : Int) (f : fS) (a : aS), wb_M_elementsBefore_89 post k6 x1 x2 x3 x4 x5 f a → gM_elementsBefore p l e s m args below meth c A D ad cA post f a [(0, .ref (ad 0 0)), (1, .int (iI x1)), (2, .int (iI x2)), (3, .int (iI x3)), (4, .int (iI x4)), (5, .int (iI x5))] 89 [] := by
  have hO9 := hO
  obtain ⟨hx, hb, hml, hown, hts, hr, hlk, hK, hN, hA⟩ := hO9
  intro x1 x2 x3 x4 x5 f a h
  unfold wb_M_elementsBefore_89 at h
  refine x_iinc hx hb dM_elementsBefore_89 5 rfl (by decide) (lv' := [(5, .int (iI (x5 + 1))), (0, .ref (ad 0 0)), (1, .int (iI x1)), (2, .int (iI x2)), (3, .int (iI x3)), (4, .int (iI x4))]) rfl ?_
  refine x_goto hx hb (tgt := 6) dM_elementsBefore_92 (by decide) ?_
  refine x_sub [1, 2, 3, 4, 5, 0] rfl ?_
  exact hk6 x1 x2 x3 x4 (x5 + 1) f a h
def wb_M_elementsBefore_81 (post : Int → fS → aS → Prop) (k15 : Int → Int → Int → Int → Int → Int → fS → aS → Prop) (x1 : Int) (x2 : Int) (x3 : Int) (x5 : Int) (x6 : Int) (y0 : Int) (f : fS) (a : aS) : Prop := k15 x1 x2 x3 y0 x5 (x6 + 1) f a
set_option maxHeartbeats 4000000 in
set_option maxRecDepth 100000 in
theorem tb_M_elementsBefore_81 {p : Program} {l : Launch} {e : Env} {s : State} {m : MethodId} {args : Array Value} {below : List Frame} {meth : Method} {c : Code} {A : Nat → Prop} {D : va_G} {ad : Nat → Nat → Nat} {cA : Nat → Nat → ClassId} {post : Int → fS → aS → Prop} {k15 : Int → Int → Int → Int → Int → Int → fS → aS → Prop} (hO : xOk cM_elementsBefore 8 RM (Cond.code yM_elementsBefore cM_elementsBefore 8 (some .int) :: xG) (some .int) p s m args meth c A D vwCl (taM cA)) (hk15 : ∀ (x1 : Int) (x2 : Int) (x3 : Int) (x4 : Int) (x5 : Int) (x6 : Int) (f : fS) (a : aS), k15 x1 x2 x3 x4 x5 x6 f a → gM_elementsBefore p l e s m args below meth c A D ad cA post f a [(0, .ref (ad 0 0)), (1, .int (iI x1)), (2, .int (iI x2)), (3, .int (iI x3)), (4, .int (iI x4)), (5, .int (iI x5)), (6, .int (iI x6))] 15 []) : ∀ (x1 : Int) (x2 : Int) (x3 : Int) (x5 : Int) (x6 : Int) (y0 : Int) (f : fS) (a : aS), wb_M_elementsBefore_81 post k15 x1 x2 x3 x5 x6 y0 f a → gM_elementsBefore p l e s m args below meth c A D ad cA post f a [(0, .ref (ad 0 0)), (1, .int (iI x1)), (2, .int (iI x2)), (3, .int (iI x3)), (5, .int (iI x5)), (6, .int (iI x6))] 81 [.int (iI y0)] := by
  have hO9 := hO
  obtain ⟨hx, hb, hml, hown, hts, hr, hlk, hK, hN, hA⟩ := hO9
  intro x1 x2 x3 x5 x6 y0 f a h
  unfold wb_M_elementsBefore_81 at h
  refine x_istore hx hb dM_elementsBefore_81 (by decide) (lv' := [(4, .int (iI y0)), (0, .ref (ad 0 0)), (1, .int (iI x1)), (2, .int (iI x2)), (3, .int (iI x3)), (5, .int (iI x5)), (6, .int (iI x6))]) rfl ?_
  refine x_iinc hx hb dM_elementsBefore_83 6 rfl (by decide) (lv' := [(6, .int (iI (x6 + 1))), (4, .int (iI y0)), (0, .ref (ad 0 0)), (1, .int (iI x1)), (2, .int (iI x2)), (3, .int (iI x3)), (5, .int (iI x5))]) rfl ?_
  refine x_goto hx hb (tgt := 15) dM_elementsBefore_86 (by decide) ?_
  refine x_sub [2, 3, 4, 5, 1, 6, 0] rfl ?_
  exact hk15 x1 x2 x3 y0 x5 (x6 + 1) f a h
def wb_M_elementsBefore_79 (post : Int → fS → aS → Prop) (k15 : Int → Int → Int → Int → Int → Int → fS → aS → Prop) (x1 : Int) (x2 : Int) (x3 : Int) (x4 : Int) (x5 : Int) (x6 : Int) (f : fS) (a : aS) : Prop := wb_M_elementsBefore_81 post k15 x1 x2 x3 x5 x6 x4 f a
set_option maxHeartbeats 4000000 in
set_option maxRecDepth 100000 in
theorem tb_M_elementsBefore_79 {p : Program} {l : Launch} {e : Env} {s : State} {m : MethodId} {args : Array Value} {below : List Frame} {meth : Method} {c : Code} {A : Nat → Prop} {D : va_G} {ad : Nat → Nat → Nat} {cA : Nat → Nat → ClassId} {post : Int → fS → aS → Prop} {k15 : Int → Int → Int → Int → Int → Int → fS → aS → Prop} (hO : xOk cM_elementsBefore 8 RM (Cond.code yM_elementsBefore cM_elementsBefore 8 (some .int) :: xG) (some .int) p s m args meth c A D vwCl (taM cA)) (hk15 : ∀ (x1 : Int) (x2 : Int) (x3 : Int) (x4 : Int) (x5 : Int) (x6 : Int) (f : fS) (a : aS), k15 x1 x2 x3 x4 x5 x6 f a → gM_elementsBefore p l e s m args below meth c A D ad cA post f a [(0, .ref (ad 0 0)), (1, .int (iI x1)), (2, .int (iI x2)), (3, .int (iI x3)), (4, .int (iI x4)), (5, .int (iI x5)), (6, .int (iI x6))] 15 []) : ∀ (x1 : Int) (x2 : Int) (x3 : Int) (x4 : Int) (x5 : Int) (x6 : Int) (f : fS) (a : aS), wb_M_elementsBefore_79 post k15 x1 x2 x3 x4 x5 x6 f a → gM_elementsBefore p l e s m args below meth c A D ad cA post f a [(0, .ref (ad 0 0)), (1, .int (iI x1)), (2, .int (iI x2)), (3, .int (iI x3)), (4, .int (iI x4)), (5, .int (iI x5)), (6, .int (iI x6))] 79 [] := by
  have hO9 := hO
  obtain ⟨hx, hb, hml, hown, hts, hr, hlk, hK, hN, hA⟩ := hO9
  intro x1 x2 x3 x4 x5 x6 f a h
  unfold wb_M_elementsBefore_79 at h
  refine x_iload hx hb dM_elementsBefore_79 4 rfl ?_
  refine x_sub [0, 1, 2, 3, 5, 6] rfl ?_
  exact tb_M_elementsBefore_81 hO hk15 x1 x2 x3 x5 x6 x4 f a h
def wb_M_elementsBefore_36 (post : Int → fS → aS → Prop) (k15 : Int → Int → Int → Int → Int → Int → fS → aS → Prop) (x1 : Int) (x2 : Int) (x3 : Int) (x4 : Int) (x5 : Int) (x6 : Int) (f : fS) (a : aS) : Prop := wp_M_numberOf (fun z8 f9 a10 => wp_M_way (fun z11 f12 a13 => ir z11 ∧ (((z11 < 0) → (wb_M_elementsBefore_79 post k15 x1 x2 x3 x4 x5 x6 f12 a13)) ∧ (¬ (z11 < 0) → (wp_M_numberOf (fun z15 f16 a17 => wp_M_isTree (fun z18 f19 a20 => ir z18 ∧ (((¬ z18 = 0) → (wb_M_elementsBefore_79 post k15 x1 x2 x3 x4 x5 x6 f19 a20)) ∧ (¬ (¬ z18 = 0) → (wb_M_elementsBefore_81 post k15 x1 x2 x3 x5 x6 (x4 + 1) f19 a20)))) x1 x5 z15 z11 f16 a17) x6 f12 a13)))) x1 x5 z8 f9 a10) x6 f a
set_option maxHeartbeats 4000000 in
set_option maxRecDepth 100000 in
theorem tb_M_elementsBefore_36 {p : Program} {l : Launch} {e : Env} {s : State} {m : MethodId} {args : Array Value} {below : List Frame} {meth : Method} {c : Code} {A : Nat → Prop} {D : va_G} {ad : Nat → Nat → Nat} {cA : Nat → Nat → ClassId} {post : Int → fS → aS → Prop} {k15 : Int → Int → Int → Int → Int → Int → fS → aS → Prop} (hO : xOk cM_elementsBefore 8 RM (Cond.code yM_elementsBefore cM_elementsBefore 8 (some .int) :: xG) (some .int) p s m args meth c A D vwCl (taM cA)) (hk15 : ∀ (x1 : Int) (x2 : Int) (x3 : Int) (x4 : Int) (x5 : Int) (x6 : Int) (f : fS) (a : aS), k15 x1 x2 x3 x4 x5 x6 f a → gM_elementsBefore p l e s m args below meth c A D ad cA post f a [(0, .ref (ad 0 0)), (1, .int (iI x1)), (2, .int (iI x2)), (3, .int (iI x3)), (4, .int (iI x4)), (5, .int (iI x5)), (6, .int (iI x6))] 15 []) : ∀ (x1 : Int) (x2 : Int) (x3 : Int) (x4 : Int) (x5 : Int) (x6 : Int) (f : fS) (a : aS), wb_M_elementsBefore_36 post k15 x1 x2 x3 x4 x5 x6 f a → gM_elementsBefore p l e s m args below meth c A D ad cA post f a [(0, .ref (ad 0 0)), (1, .int (iI x1)), (2, .int (iI x2)), (3, .int (iI x3)), (4, .int (iI x4)), (5, .int (iI x5)), (6, .int (iI x6))] 36 [] := by
  have hO9 := hO
  obtain ⟨hx, hb, hml, hown, hts, hr, hlk, hK, hN, hA⟩ := hO9
  intro x1 x2 x3 x4 x5 x6 f a h
  unfold wb_M_elementsBefore_36 at h
  refine x_aload_n hx hb dM_elementsBefore_36 rfl 0 rfl ?_
  refine x_iload_n hx hb dM_elementsBefore_37 rfl 1 rfl ?_
  refine x_iload hx hb dM_elementsBefore_38 5 rfl ?_
  refine x_iload hx hb dM_elementsBefore_40 6 rfl ?_
  refine x_cSi (n := 1) (st := [.int (iI x5), .int (iI x1), .ref (ad 0 0)]) (As := [.int (iI x6)]) ⟨hx, hb, hml, hown, hts⟩ hK hN (m_M_numberOf h) (x_cwS hts rfl rfl kcM_numberOf knM klM_78 ksM_numberOf ⟨by decide, by decide, by decide +kernel⟩ ⟨by decide, by decide⟩) hA rfl (Nat.le_of_ble_eq_true rfl) ⟨Nat.zero_le _, Nat.zero_le _⟩ rfl dM_elementsBefore_42 (fun z8 f9 a10 h => ?_)
  refine x_cVi (n := 3) (st := []) (As := [.int (iI x1), .int (iI x5), .int (iI z8)]) ⟨hx, hb, hml, hown, hts⟩ hK hN (m_M_way h) (x_cwV hts rfl rfl kcM_way knM klM_82 kiM_way keM_way ⟨by decide, by decide, by decide +kernel⟩ ⟨by decide, by decide⟩) _ (woM ad cA f9 a10) rfl hA rfl (Nat.le_of_ble_eq_true rfl) ⟨Nat.zero_le _, Nat.zero_le _⟩ rfl dM_elementsBefore_45 (fun z11 f12 a13 h => ?_)
  refine x_istore hx hb dM_elementsBefore_48 (by decide) (lv' := [(7, .int (iI z11)), (0, .ref (ad 0 0)), (1, .int (iI x1)), (2, .int (iI x2)), (3, .int (iI x3)), (4, .int (iI x4)), (5, .int (iI x5)), (6, .int (iI x6))]) rfl ?_
  refine x_iload hx hb dM_elementsBefore_50 0 rfl ?_
  obtain ⟨hi14, h⟩ := h
  refine x_if_lt hx hb (tgt := 79) hi14  dM_elementsBefore_52 (by decide) (fun hc => ?_) (fun hc => ?_)
  · have h := h.1 hc
    refine x_sub [1, 2, 3, 4, 5, 6, 7] rfl ?_
    exact tb_M_elementsBefore_79 hO hk15 x1 x2 x3 x4 x5 x6 f12 a13 h
  · have h := h.2 hc
    refine x_aload_n hx hb dM_elementsBefore_55 rfl 1 rfl ?_
    refine x_iload_n hx hb dM_elementsBefore_56 rfl 2 rfl ?_
    refine x_iload hx hb dM_elementsBefore_57 6 rfl ?_
    refine x_iload hx hb dM_elementsBefore_59 7 rfl ?_
    refine x_cSi (n := 1) (st := [.int (iI x5), .int (iI x1), .ref (ad 0 0)]) (As := [.int (iI x6)]) ⟨hx, hb, hml, hown, hts⟩ hK hN (m_M_numberOf h) (x_cwS hts rfl rfl kcM_numberOf knM klM_78 ksM_numberOf ⟨by decide, by decide, by decide +kernel⟩ ⟨by decide, by decide⟩) hA rfl (Nat.le_of_ble_eq_true rfl) ⟨Nat.zero_le _, Nat.zero_le _⟩ rfl dM_elementsBefore_61 (fun z15 f16 a17 h => ?_)
    refine x_iload hx hb dM_elementsBefore_64 0 rfl ?_
    refine x_cVi (n := 4) (st := []) (As := [.int (iI x1), .int (iI x5), .int (iI z15), .int (iI z11)]) ⟨hx, hb, hml, hown, hts⟩ hK hN (m_M_isTree h) (x_cwV hts rfl rfl kcM_isTree knM klM_130 kiM_isTree keM_isTree ⟨by decide, by decide, by decide +kernel⟩ ⟨by decide, by decide⟩) _ (woM ad cA f16 a17) rfl hA rfl (Nat.le_of_ble_eq_true rfl) ⟨Nat.zero_le _, Nat.zero_le _⟩ rfl dM_elementsBefore_66 (fun z18 f19 a20 h => ?_)
    obtain ⟨hi21, h⟩ := h
    refine x_if_ne hx hb (tgt := 79) hi21  dM_elementsBefore_69 (by decide) (fun hc => ?_) (fun hc => ?_)
    · have h := h.1 hc
      refine x_sub [1, 2, 3, 4, 5, 6, 7] rfl ?_
      exact tb_M_elementsBefore_79 hO hk15 x1 x2 x3 x4 x5 x6 f19 a20 h
    · have h := h.2 hc
      refine x_iload hx hb dM_elementsBefore_72 5 rfl ?_
      refine x_iconst hx hb dM_elementsBefore_74 ?_
      refine x_iadd hx hb dM_elementsBefore_75 ?_
      refine x_goto hx hb (tgt := 81) dM_elementsBefore_76 (by decide) ?_
      refine x_sub [1, 2, 3, 4, 6, 7] rfl ?_
      exact tb_M_elementsBefore_81 hO hk15 x1 x2 x3 x5 x6 (x4 + 1) f19 a20 h
def wb_M_elementsBefore_15 (post : Int → fS → aS → Prop) (k6 : Int → Int → Int → Int → Int → fS → aS → Prop) : Nat → Int → Int → Int → Int → Int → Int → fS → aS → Prop
  | 0, _, _, _, _, _, _, _, _ => False
  | n + 1, x1, x2, x3, x4, x5, x6, f, a => ir x6 ∧ (ir (f 0 0) ∧ (((f 0 0 < x6) → (wb_M_elementsBefore_89 post k6 x1 x2 x3 x4 x5 f a)) ∧ (¬ (f 0 0 < x6) → (ir x5 ∧ (ir x2 ∧ (((x5 < x2) → (wb_M_elementsBefore_36 post (wb_M_elementsBefore_15 post k6 n) x1 x2 x3 x4 x5 x6 f a)) ∧ (¬ (x5 < x2) → (ir x3 ∧ (((x3 ≤ x6) → (wb_M_elementsBefore_89 post k6 x1 x2 x3 x4 x5 f a)) ∧ (¬ (x3 ≤ x6) → (wb_M_elementsBefore_36 post (wb_M_elementsBefore_15 post k6 n) x1 x2 x3 x4 x5 x6 f a)))))))))))
set_option maxHeartbeats 4000000 in
set_option maxRecDepth 100000 in
theorem tb_M_elementsBefore_15 {p : Program} {l : Launch} {e : Env} {s : State} {m : MethodId} {args : Array Value} {below : List Frame} {meth : Method} {c : Code} {A : Nat → Prop} {D : va_G} {ad : Nat → Nat → Nat} {cA : Nat → Nat → ClassId} {post : Int → fS → aS → Prop} {k6 : Int → Int → Int → Int → Int → fS → aS → Prop} (hO : xOk cM_elementsBefore 8 RM (Cond.code yM_elementsBefore cM_elementsBefore 8 (some .int) :: xG) (some .int) p s m args meth c A D vwCl (taM cA)) (hk6 : ∀ (x1 : Int) (x2 : Int) (x3 : Int) (x4 : Int) (x5 : Int) (f : fS) (a : aS), k6 x1 x2 x3 x4 x5 f a → gM_elementsBefore p l e s m args below meth c A D ad cA post f a [(0, .ref (ad 0 0)), (1, .int (iI x1)), (2, .int (iI x2)), (3, .int (iI x3)), (4, .int (iI x4)), (5, .int (iI x5))] 6 []) : ∀ (n : Nat) (x1 : Int) (x2 : Int) (x3 : Int) (x4 : Int) (x5 : Int) (x6 : Int) (f : fS) (a : aS), wb_M_elementsBefore_15 post k6 n x1 x2 x3 x4 x5 x6 f a → gM_elementsBefore p l e s m args below meth c A D ad cA post f a [(0, .ref (ad 0 0)), (1, .int (iI x1)), (2, .int (iI x2)), (3, .int (iI x3)), (4, .int (iI x4)), (5, .int (iI x5)), (6, .int (iI x6))] 15 [] := by
  have hO9 := hO
  obtain ⟨hx, hb, hml, hown, hts, hr, hlk, hK, hN, hA⟩ := hO9
  intro n
  induction n with
  | zero => intro x1 x2 x3 x4 x5 x6 f a h; exact False.elim h
  | succ n ih =>
    intro x1 x2 x3 x4 x5 x6 f a h
    rw [wb_M_elementsBefore_15] at h
    refine x_iload hx hb dM_elementsBefore_15 6 rfl ?_
    refine x_aload_n hx hb dM_elementsBefore_17 rfl 0 rfl ?_
    refine x_get hx hb hts (jnM _) hown hK _ (woM ad cA f a) rfl 0 (by decide) (hts _ (List.mem_cons_of_mem _ kfM_58)) (fun _ h9 => h9) (v := .int (iI (f 0 0))) (by rfl) dM_elementsBefore_18 ?_
    obtain ⟨hi3, h⟩ := h
    obtain ⟨hi4, h⟩ := h
    refine x_icmp_gt hx hb (tgt := 89) hi3 hi4 dM_elementsBefore_21 (by decide) (fun hc => ?_) (fun hc => ?_)
    · have h := h.1 hc
      refine x_sub [0, 1, 2, 3, 4, 5] rfl ?_
      exact tb_M_elementsBefore_89 hO hk6 x1 x2 x3 x4 x5 f a h
    · have h := h.2 hc
      refine x_iload hx hb dM_elementsBefore_24 5 rfl ?_
      refine x_iload_n hx hb dM_elementsBefore_26 rfl 2 rfl ?_
      obtain ⟨hi5, h⟩ := h
      obtain ⟨hi6, h⟩ := h
      refine x_icmp_lt hx hb (tgt := 36) hi5 hi6 dM_elementsBefore_27 (by decide) (fun hc => ?_) (fun hc => ?_)
      · have h := h.1 hc
        exact tb_M_elementsBefore_36 hO ih x1 x2 x3 x4 x5 x6 f a h
      · have h := h.2 hc
        refine x_iload hx hb dM_elementsBefore_30 6 rfl ?_
        refine x_iload_n hx hb dM_elementsBefore_32 rfl 3 rfl ?_
        obtain ⟨hi7, h⟩ := h
        refine x_icmp_ge hx hb (tgt := 89) hi3 hi7 dM_elementsBefore_33 (by decide) (fun hc => ?_) (fun hc => ?_)
        · have h := h.1 hc
          refine x_sub [0, 1, 2, 3, 4, 5] rfl ?_
          exact tb_M_elementsBefore_89 hO hk6 x1 x2 x3 x4 x5 f a h
        · have h := h.2 hc
          exact tb_M_elementsBefore_36 hO ih x1 x2 x3 x4 x5 x6 f a h
def wb_M_elementsBefore_6 (post : Int → fS → aS → Prop) : Nat → Int → Int → Int → Int → Int → fS → aS → Prop
  | 0, _, _, _, _, _, _, _ => False
  | n + 1, x1, x2, x3, x4, x5, f, a => ir x5 ∧ (ir x2 ∧ (((x2 < x5) → (post x4 f a)) ∧ (¬ (x2 < x5) → (∃ j, wb_M_elementsBefore_15 post (wb_M_elementsBefore_6 post n) j x1 x2 x3 x4 x5 1 f a))))
set_option maxHeartbeats 4000000 in
set_option maxRecDepth 100000 in
theorem tb_M_elementsBefore_6 {p : Program} {l : Launch} {e : Env} {s : State} {m : MethodId} {args : Array Value} {below : List Frame} {meth : Method} {c : Code} {A : Nat → Prop} {D : va_G} {ad : Nat → Nat → Nat} {cA : Nat → Nat → ClassId} {post : Int → fS → aS → Prop} (hO : xOk cM_elementsBefore 8 RM (Cond.code yM_elementsBefore cM_elementsBefore 8 (some .int) :: xG) (some .int) p s m args meth c A D vwCl (taM cA)) : ∀ (n : Nat) (x1 : Int) (x2 : Int) (x3 : Int) (x4 : Int) (x5 : Int) (f : fS) (a : aS), wb_M_elementsBefore_6 post n x1 x2 x3 x4 x5 f a → gM_elementsBefore p l e s m args below meth c A D ad cA post f a [(0, .ref (ad 0 0)), (1, .int (iI x1)), (2, .int (iI x2)), (3, .int (iI x3)), (4, .int (iI x4)), (5, .int (iI x5))] 6 [] := by
  have hO9 := hO
  obtain ⟨hx, hb, hml, hown, hts, hr, hlk, hK, hN, hA⟩ := hO9
  intro n
  induction n with
  | zero => intro x1 x2 x3 x4 x5 f a h; exact False.elim h
  | succ n ih =>
    intro x1 x2 x3 x4 x5 f a h
    rw [wb_M_elementsBefore_6] at h
    refine x_iload hx hb dM_elementsBefore_6 5 rfl ?_
    refine x_iload_n hx hb dM_elementsBefore_8 rfl 2 rfl ?_
    obtain ⟨hi1, h⟩ := h
    obtain ⟨hi2, h⟩ := h
    refine x_icmp_gt hx hb (tgt := 95) hi1 hi2 dM_elementsBefore_9 (by decide) (fun hc => ?_) (fun hc => ?_)
    · have h := h.1 hc
      refine x_iload hx hb dM_elementsBefore_95 4 rfl ?_
      exact x_iret hx hb hr hlk hK dM_elementsBefore_97 h
    · have h := h.2 hc
      refine x_iconst hx hb dM_elementsBefore_12 ?_
      refine x_istore hx hb dM_elementsBefore_13 (by decide) (lv' := [(6, .int (iI 1)), (0, .ref (ad 0 0)), (1, .int (iI x1)), (2, .int (iI x2)), (3, .int (iI x3)), (4, .int (iI x4)), (5, .int (iI x5))]) rfl ?_
      obtain ⟨j, h⟩ := h
      refine x_sub [1, 2, 3, 4, 5, 6, 0] rfl ?_
      exact tb_M_elementsBefore_15 hO ih j x1 x2 x3 x4 x5 1 f a h
def wp_M_elementsBefore (post : Int → fS → aS → Prop) (x1 : Int) (x2 : Int) (x3 : Int) (f : fS) (a : aS) : Prop := ∃ j, wb_M_elementsBefore_6 post j x1 x2 x3 0 0 f a
set_option maxHeartbeats 4000000 in
set_option maxRecDepth 100000 in
theorem m_M_elementsBefore {l : Launch} {D : va_G} {ad : Nat → Nat → Nat} {cA : Nat → Nat → ClassId} {post : Int → fS → aS → Prop} {x1 : Int} {x2 : Int} {x3 : Int} {f : fS} {a : aS} (h : wp_M_elementsBefore post x1 x2 x3 f a) : xCI l yM_elementsBefore (Cond.code yM_elementsBefore cM_elementsBefore 8 (some .int) :: xG) rmM_elementsBefore D vwCl (taM cA) (MW ad cA f a) [.ref (ad 0 0), .int (iI x1), .int (iI x2), .int (iI x3)] (MW ad cA) post := by
  refine x_metI (cc := cM_elementsBefore) (nL := 8) (by decide) rfl (Nat.le_of_ble_eq_true rfl) ?_
  intro p e s m below meth c A hO
  have hO9 := hO
  obtain ⟨hx, hb, hml, hown, hts, hr, hlk, hK, hN, hA⟩ := hO9
  unfold wp_M_elementsBefore at h
  show gM_elementsBefore p l e s m _ below meth c A D ad cA post f a [(0, .ref (ad 0 0)), (1, .int (iI x1)), (2, .int (iI x2)), (3, .int (iI x3))] 0 []
  refine x_iconst hx hb dM_elementsBefore_0 ?_
  refine x_istore hx hb dM_elementsBefore_1 (by decide) (lv' := [(4, .int (iI 0)), (0, .ref (ad 0 0)), (1, .int (iI x1)), (2, .int (iI x2)), (3, .int (iI x3))]) rfl ?_
  refine x_iconst hx hb dM_elementsBefore_3 ?_
  refine x_istore hx hb dM_elementsBefore_4 (by decide) (lv' := [(5, .int (iI 0)), (4, .int (iI 0)), (0, .ref (ad 0 0)), (1, .int (iI x1)), (2, .int (iI x2)), (3, .int (iI x3))]) rfl ?_
  obtain ⟨j, h⟩ := h
  refine x_sub [2, 3, 4, 5, 1, 0] rfl ?_
  exact tb_M_elementsBefore_6 hO j x1 x2 x3 0 0 f a h
-- M_elements
abbrev rmM_elements : Room := { frames := 2, cells := 0, slots := 0, locals := 52 }
abbrev gM_elements (p : Program) (l : Launch) (e : Env) (s : State) (m : MethodId) (args : Array Value) (below : List Frame) (meth : Method) (c : Code) (A : Nat → Prop) (D : va_G) (ad : Nat → Nat → Nat) (cA : Nat → Nat → ClassId) (post : Int → fS → aS → Prop) (f : fS) (a : aS) (lv : List (Nat × Value)) (pc : Nat) (st : List Value) : Prop := xV p l e rmM_elements s m args below meth c s.heap A 0 0 (xQI below D vwCl (taM cA) (MW ad cA) post A args s) D vwCl 2 (MW ad cA f a) lv pc st
def wp_M_elements (post : Int → fS → aS → Prop) (x1 : Int) (f : fS) (a : aS) : Prop := (0 ≤ x1 ∧ x1 < 4) ∧ (wp_M_elementsBefore (fun z2 f3 a4 => post z2 f3 a4) x1 ((a 0 3 (Int.toNat x1)) - 1) ((f 0 0) + 1) f a)
set_option maxHeartbeats 4000000 in
set_option maxRecDepth 100000 in
theorem m_M_elements {l : Launch} {D : va_G} {ad : Nat → Nat → Nat} {cA : Nat → Nat → ClassId} {post : Int → fS → aS → Prop} {x1 : Int} {f : fS} {a : aS} (h : wp_M_elements post x1 f a) : xCI l yM_elements (Cond.code yM_elements cM_elements 2 (some .int) :: xG) rmM_elements D vwCl (taM cA) (MW ad cA f a) [.ref (ad 0 0), .int (iI x1)] (MW ad cA) post := by
  refine x_metI (cc := cM_elements) (nL := 2) (by decide) rfl (Nat.le_of_ble_eq_true rfl) ?_
  intro p e s m below meth c A hO
  have hO9 := hO
  obtain ⟨hx, hb, hml, hown, hts, hr, hlk, hK, hN, hA⟩ := hO9
  unfold wp_M_elements at h
  show gM_elements p l e s m _ below meth c A D ad cA post f a [(0, .ref (ad 0 0)), (1, .int (iI x1))] 0 []
  refine x_aload_n hx hb dM_elements_0 rfl 0 rfl ?_
  refine x_iload_n hx hb dM_elements_1 rfl 1 rfl ?_
  refine x_aload_n hx hb dM_elements_2 rfl 0 rfl ?_
  refine x_get hx hb hts (jnM _) hown hK _ (woM ad cA f a) rfl 3 (by decide) (hts _ (List.mem_cons_of_mem _ kfM_13)) (fun _ h9 => h9) (v := .ref (ad 0 4)) (by rfl) dM_elements_3 ?_
  refine x_iload_n hx hb dM_elements_6 rfl 1 rfl ?_
  obtain ⟨hj1, h⟩ := h
  refine x_iald hx hb hK _ _ (wa3M ad cA f a) (wt3M cA) hj1.1 hj1.2 (by decide) dM_elements_7 ?_
  refine x_iconst hx hb dM_elements_8 ?_
  refine x_isub hx hb dM_elements_9 ?_
  refine x_aload_n hx hb dM_elements_10 rfl 0 rfl ?_
  refine x_get hx hb hts (jnM _) hown hK _ (woM ad cA f a) rfl 0 (by decide) (hts _ (List.mem_cons_of_mem _ kfM_58)) (fun _ h9 => h9) (v := .int (iI (f 0 0))) (by rfl) dM_elements_11 ?_
  refine x_iconst hx hb dM_elements_14 ?_
  refine x_iadd hx hb dM_elements_15 ?_
  refine x_cVi (n := 3) (st := []) (As := [.int (iI x1), .int (iI ((a 0 3 (Int.toNat x1)) - 1)), .int (iI ((f 0 0) + 1))]) ⟨hx, hb, hml, hown, hts⟩ hK hN (m_M_elementsBefore h) (x_cwV hts rfl rfl kcM_elementsBefore knM klM_134 kiM_elementsBefore keM_elementsBefore ⟨by decide, by decide, by decide +kernel⟩ ⟨by decide, by decide⟩) _ (woM ad cA f a) rfl hA rfl (Nat.le_of_ble_eq_true rfl) ⟨Nat.zero_le _, Nat.zero_le _⟩ rfl dM_elements_16 (fun z2 f3 a4 h => ?_)
  exact x_iret hx hb hr hlk hK dM_elements_19 h
-- M_find
abbrev rmM_find : Room := { frames := 1, cells := 0, slots := 0, locals := 25 }
abbrev gM_find (p : Program) (l : Launch) (e : Env) (s : State) (m : MethodId) (args : Array Value) (below : List Frame) (meth : Method) (c : Code) (A : Nat → Prop) (D : va_G) (ad : Nat → Nat → Nat) (cA : Nat → Nat → ClassId) (post : Int → fS → aS → Prop) (f : fS) (a : aS) (lv : List (Nat × Value)) (pc : Nat) (st : List Value) : Prop := xV p l e rmM_find s m args below meth c s.heap A 0 0 (xQI below D vwCl (taM cA) (MW ad cA) post A args s) D vwCl 7 (MW ad cA f a) lv pc st
def wb_M_find_92 (post : Int → fS → aS → Prop) (k19 : Int → Int → Int → Int → Int → fS → aS → Prop) (x1 : Int) (x2 : Int) (x3 : Int) (x4 : Int) (x5 : Int) (f : fS) (a : aS) : Prop := k19 x1 x2 x3 x4 (x5 + 1) f a
set_option maxHeartbeats 4000000 in
set_option maxRecDepth 100000 in
theorem tb_M_find_92 {p : Program} {l : Launch} {e : Env} {s : State} {m : MethodId} {args : Array Value} {below : List Frame} {meth : Method} {c : Code} {A : Nat → Prop} {D : va_G} {ad : Nat → Nat → Nat} {cA : Nat → Nat → ClassId} {post : Int → fS → aS → Prop} {k19 : Int → Int → Int → Int → Int → fS → aS → Prop} (hO : xOk cM_find 7 RM (Cond.code yM_find cM_find 7 (some .boolean) :: xG) (some .boolean) p s m args meth c A D vwCl (taM cA)) (hk19 : ∀ (x1 : Int) (x2 : Int) (x3 : Int) (x4 : Int) (x5 : Int) (f : fS) (a : aS), k19 x1 x2 x3 x4 x5 f a → gM_find p l e s m args below meth c A D ad cA post f a [(0, .ref (ad 0 0)), (1, .int (iI x1)), (2, .int (iI x2)), (3, .int (iI x3)), (4, .int (iI x4)), (5, .int (iI x5))] 19 []) : ∀ (x1 : Int) (x2 : Int) (x3 : Int) (x4 : Int) (x5 : Int) (f : fS) (a : aS), wb_M_find_92 post k19 x1 x2 x3 x4 x5 f a → gM_find p l e s m args below meth c A D ad cA post f a [(0, .ref (ad 0 0)), (1, .int (iI x1)), (2, .int (iI x2)), (3, .int (iI x3)), (4, .int (iI x4)), (5, .int (iI x5))] 92 [] := by
  have hO9 := hO
  obtain ⟨hx, hb, hml, hown, hts, hr, hlk, hK, hN, hA⟩ := hO9
  intro x1 x2 x3 x4 x5 f a h
  unfold wb_M_find_92 at h
  refine x_iinc hx hb dM_find_92 5 rfl (by decide) (lv' := [(5, .int (iI (x5 + 1))), (0, .ref (ad 0 0)), (1, .int (iI x1)), (2, .int (iI x2)), (3, .int (iI x3)), (4, .int (iI x4))]) rfl ?_
  refine x_goto hx hb (tgt := 19) dM_find_95 (by decide) ?_
  refine x_sub [1, 2, 3, 4, 5, 0] rfl ?_
  exact hk19 x1 x2 x3 x4 (x5 + 1) f a h
def wb_M_find_19 (post : Int → fS → aS → Prop) (k5 : Int → Int → Int → Int → fS → aS → Prop) : Nat → Int → Int → Int → Int → Int → fS → aS → Prop
  | 0, _, _, _, _, _, _, _ => False
  | n + 1, x1, x2, x3, x4, x5, f, a => ir x5 ∧ (ir (f 0 0) ∧ (((f 0 0 < x5) → (k5 x1 x2 x3 (x4 + 1) f a)) ∧ (¬ (f 0 0 < x5) → (wp_M_numberOf (fun z6 f7 a8 => wp_M_way (fun z9 f10 a11 => ir z9 ∧ (((z9 < 0) → (wb_M_find_92 post (wb_M_find_19 post k5 n) x1 x2 x3 x4 x5 f10 a11)) ∧ (¬ (z9 < 0) → (wp_M_numberOf (fun z13 f14 a15 => wp_M_isTree (fun z16 f17 a18 => ir z16 ∧ (((¬ z16 = 0) → (wb_M_find_92 post (wb_M_find_19 post k5 n) x1 x2 x3 x4 x5 f17 a18)) ∧ (¬ (¬ z16 = 0) → (ir x3 ∧ (ir x2 ∧ (((¬ x3 = x2) → (wb_M_find_92 post (wb_M_find_19 post k5 n) x1 x2 (x3 + 1) x4 x5 f17 a18)) ∧ (¬ (¬ x3 = x2) → (post 1 (setF (setF (setF f17 0 20 x4) 0 21 x5) 0 22 z9) a18)))))))) x1 x4 z13 z9 f14 a15) x5 f10 a11)))) x1 x4 z6 f7 a8) x5 f a))))
set_option maxHeartbeats 4000000 in
set_option maxRecDepth 100000 in
theorem tb_M_find_19 {p : Program} {l : Launch} {e : Env} {s : State} {m : MethodId} {args : Array Value} {below : List Frame} {meth : Method} {c : Code} {A : Nat → Prop} {D : va_G} {ad : Nat → Nat → Nat} {cA : Nat → Nat → ClassId} {post : Int → fS → aS → Prop} {k5 : Int → Int → Int → Int → fS → aS → Prop} (hO : xOk cM_find 7 RM (Cond.code yM_find cM_find 7 (some .boolean) :: xG) (some .boolean) p s m args meth c A D vwCl (taM cA)) (hk5 : ∀ (x1 : Int) (x2 : Int) (x3 : Int) (x4 : Int) (f : fS) (a : aS), k5 x1 x2 x3 x4 f a → gM_find p l e s m args below meth c A D ad cA post f a [(0, .ref (ad 0 0)), (1, .int (iI x1)), (2, .int (iI x2)), (3, .int (iI x3)), (4, .int (iI x4))] 5 []) : ∀ (n : Nat) (x1 : Int) (x2 : Int) (x3 : Int) (x4 : Int) (x5 : Int) (f : fS) (a : aS), wb_M_find_19 post k5 n x1 x2 x3 x4 x5 f a → gM_find p l e s m args below meth c A D ad cA post f a [(0, .ref (ad 0 0)), (1, .int (iI x1)), (2, .int (iI x2)), (3, .int (iI x3)), (4, .int (iI x4)), (5, .int (iI x5))] 19 [] := by
  have hO9 := hO
  obtain ⟨hx, hb, hml, hown, hts, hr, hlk, hK, hN, hA⟩ := hO9
  intro n
  induction n with
  | zero => intro x1 x2 x3 x4 x5 f a h; exact False.elim h
  | succ n ih =>
    intro x1 x2 x3 x4 x5 f a h
    rw [wb_M_find_19] at h
    refine x_iload hx hb dM_find_19 5 rfl ?_
    refine x_aload_n hx hb dM_find_21 rfl 0 rfl ?_
    refine x_get hx hb hts (jnM _) hown hK _ (woM ad cA f a) rfl 0 (by decide) (hts _ (List.mem_cons_of_mem _ kfM_58)) (fun _ h9 => h9) (v := .int (iI (f 0 0))) (by rfl) dM_find_22 ?_
    obtain ⟨hi4, h⟩ := h
    obtain ⟨hi5, h⟩ := h
    refine x_icmp_gt hx hb (tgt := 98) hi4 hi5 dM_find_25 (by decide) (fun hc => ?_) (fun hc => ?_)
    · have h := h.1 hc
      refine x_iinc hx hb dM_find_98 4 rfl (by decide) (lv' := [(4, .int (iI (x4 + 1))), (0, .ref (ad 0 0)), (1, .int (iI x1)), (2, .int (iI x2)), (3, .int (iI x3)), (5, .int (iI x5))]) rfl ?_
      refine x_goto hx hb (tgt := 5) dM_find_101 (by decide) ?_
      refine x_sub [1, 2, 3, 4, 0] rfl ?_
      exact hk5 x1 x2 x3 (x4 + 1) f a h
    · have h := h.2 hc
      refine x_aload_n hx hb dM_find_28 rfl 0 rfl ?_
      refine x_iload_n hx hb dM_find_29 rfl 1 rfl ?_
      refine x_iload hx hb dM_find_30 4 rfl ?_
      refine x_iload hx hb dM_find_32 5 rfl ?_
      refine x_cSi (n := 1) (st := [.int (iI x4), .int (iI x1), .ref (ad 0 0)]) (As := [.int (iI x5)]) ⟨hx, hb, hml, hown, hts⟩ hK hN (m_M_numberOf h) (x_cwS hts rfl rfl kcM_numberOf knM klM_78 ksM_numberOf ⟨by decide, by decide, by decide +kernel⟩ ⟨by decide, by decide⟩) hA rfl (Nat.le_of_ble_eq_true rfl) ⟨Nat.zero_le _, Nat.zero_le _⟩ rfl dM_find_34 (fun z6 f7 a8 h => ?_)
      refine x_cVi (n := 3) (st := []) (As := [.int (iI x1), .int (iI x4), .int (iI z6)]) ⟨hx, hb, hml, hown, hts⟩ hK hN (m_M_way h) (x_cwV hts rfl rfl kcM_way knM klM_82 kiM_way keM_way ⟨by decide, by decide, by decide +kernel⟩ ⟨by decide, by decide⟩) _ (woM ad cA f7 a8) rfl hA rfl (Nat.le_of_ble_eq_true rfl) ⟨Nat.zero_le _, Nat.zero_le _⟩ rfl dM_find_37 (fun z9 f10 a11 h => ?_)
      refine x_istore hx hb dM_find_40 (by decide) (lv' := [(6, .int (iI z9)), (0, .ref (ad 0 0)), (1, .int (iI x1)), (2, .int (iI x2)), (3, .int (iI x3)), (4, .int (iI x4)), (5, .int (iI x5))]) rfl ?_
      refine x_iload hx hb dM_find_42 0 rfl ?_
      obtain ⟨hi12, h⟩ := h
      refine x_if_lt hx hb (tgt := 92) hi12  dM_find_44 (by decide) (fun hc => ?_) (fun hc => ?_)
      · have h := h.1 hc
        refine x_sub [1, 2, 3, 4, 5, 6] rfl ?_
        exact tb_M_find_92 hO ih x1 x2 x3 x4 x5 f10 a11 h
      · have h := h.2 hc
        refine x_aload_n hx hb dM_find_47 rfl 1 rfl ?_
        refine x_iload_n hx hb dM_find_48 rfl 2 rfl ?_
        refine x_iload hx hb dM_find_49 5 rfl ?_
        refine x_iload hx hb dM_find_51 6 rfl ?_
        refine x_cSi (n := 1) (st := [.int (iI x4), .int (iI x1), .ref (ad 0 0)]) (As := [.int (iI x5)]) ⟨hx, hb, hml, hown, hts⟩ hK hN (m_M_numberOf h) (x_cwS hts rfl rfl kcM_numberOf knM klM_78 ksM_numberOf ⟨by decide, by decide, by decide +kernel⟩ ⟨by decide, by decide⟩) hA rfl (Nat.le_of_ble_eq_true rfl) ⟨Nat.zero_le _, Nat.zero_le _⟩ rfl dM_find_53 (fun z13 f14 a15 h => ?_)
        refine x_iload hx hb dM_find_56 0 rfl ?_
        refine x_cVi (n := 4) (st := []) (As := [.int (iI x1), .int (iI x4), .int (iI z13), .int (iI z9)]) ⟨hx, hb, hml, hown, hts⟩ hK hN (m_M_isTree h) (x_cwV hts rfl rfl kcM_isTree knM klM_130 kiM_isTree keM_isTree ⟨by decide, by decide, by decide +kernel⟩ ⟨by decide, by decide⟩) _ (woM ad cA f14 a15) rfl hA rfl (Nat.le_of_ble_eq_true rfl) ⟨Nat.zero_le _, Nat.zero_le _⟩ rfl dM_find_58 (fun z16 f17 a18 h => ?_)
        obtain ⟨hi19, h⟩ := h
        refine x_if_ne hx hb (tgt := 92) hi19  dM_find_61 (by decide) (fun hc => ?_) (fun hc => ?_)
        · have h := h.1 hc
          refine x_sub [1, 2, 3, 4, 5, 6] rfl ?_
          exact tb_M_find_92 hO ih x1 x2 x3 x4 x5 f17 a18 h
        · have h := h.2 hc
          refine x_iload_n hx hb dM_find_64 rfl 4 rfl ?_
          refine x_iload_n hx hb dM_find_65 rfl 3 rfl ?_
          obtain ⟨hi20, h⟩ := h
          obtain ⟨hi21, h⟩ := h
          refine x_icmp_ne hx hb (tgt := 89) hi20 hi21 dM_find_66 (by decide) (fun hc => ?_) (fun hc => ?_)
          · have h := h.1 hc
            refine x_iinc hx hb dM_find_89 4 rfl (by decide) (lv' := [(3, .int (iI (x3 + 1))), (6, .int (iI z9)), (0, .ref (ad 0 0)), (1, .int (iI x1)), (2, .int (iI x2)), (4, .int (iI x4)), (5, .int (iI x5))]) rfl ?_
            refine x_sub [2, 3, 4, 0, 5, 6] rfl ?_
            exact tb_M_find_92 hO ih x1 x2 (x3 + 1) x4 x5 f17 a18 h
          · have h := h.2 hc
            refine x_aload_n hx hb dM_find_69 rfl 1 rfl ?_
            refine x_iload hx hb dM_find_70 5 rfl ?_
            refine x_put hx hb hts (jnM _) tyM tkM nmM hown hK _ (woM ad cA f17 a18) rfl 20 (by decide) (hts _ (List.mem_cons_of_mem _ kfM_137)) (fun _ h9 => h9) rfl (by decide +kernel) (Nat.le_of_ble_eq_true rfl) dM_find_72 (wf20M ad cA f17 a18 x4) ?_
            refine x_aload_n hx hb dM_find_75 rfl 1 rfl ?_
            refine x_iload hx hb dM_find_76 6 rfl ?_
            refine x_put hx hb hts (jnM _) tyM tkM nmM hown hK _ (woM ad cA (setF f17 0 20 x4) a18) rfl 21 (by decide) (hts _ (List.mem_cons_of_mem _ kfM_140)) (fun _ h9 => h9) rfl (by decide +kernel) (Nat.le_of_ble_eq_true rfl) dM_find_78 (wf21M ad cA (setF f17 0 20 x4) a18 x5) ?_
            refine x_aload_n hx hb dM_find_81 rfl 1 rfl ?_
            refine x_iload hx hb dM_find_82 0 rfl ?_
            refine x_put hx hb hts (jnM _) tyM tkM nmM hown hK _ (woM ad cA (setF (setF f17 0 20 x4) 0 21 x5) a18) rfl 22 (by decide) (hts _ (List.mem_cons_of_mem _ kfM_143)) (fun _ h9 => h9) rfl (by decide +kernel) (Nat.le_of_ble_eq_true rfl) dM_find_84 (wf22M ad cA (setF (setF f17 0 20 x4) 0 21 x5) a18 z9) ?_
            refine x_iconst hx hb dM_find_87 ?_
            exact x_zret hx hb hr hlk hK dM_find_88 (by decide) h
def wb_M_find_5 (post : Int → fS → aS → Prop) : Nat → Int → Int → Int → Int → fS → aS → Prop
  | 0, _, _, _, _, _, _ => False
  | n + 1, x1, x2, x3, x4, f, a => (0 ≤ x1 ∧ x1 < 4) ∧ (ir x4 ∧ (ir (a 0 3 (Int.toNat x1)) ∧ (((a 0 3 (Int.toNat x1) ≤ x4) → (post 0 f a)) ∧ (¬ (a 0 3 (Int.toNat x1) ≤ x4) → (∃ j, wb_M_find_19 post (wb_M_find_5 post n) j x1 x2 x3 x4 1 f a)))))
set_option maxHeartbeats 4000000 in
set_option maxRecDepth 100000 in
theorem tb_M_find_5 {p : Program} {l : Launch} {e : Env} {s : State} {m : MethodId} {args : Array Value} {below : List Frame} {meth : Method} {c : Code} {A : Nat → Prop} {D : va_G} {ad : Nat → Nat → Nat} {cA : Nat → Nat → ClassId} {post : Int → fS → aS → Prop} (hO : xOk cM_find 7 RM (Cond.code yM_find cM_find 7 (some .boolean) :: xG) (some .boolean) p s m args meth c A D vwCl (taM cA)) : ∀ (n : Nat) (x1 : Int) (x2 : Int) (x3 : Int) (x4 : Int) (f : fS) (a : aS), wb_M_find_5 post n x1 x2 x3 x4 f a → gM_find p l e s m args below meth c A D ad cA post f a [(0, .ref (ad 0 0)), (1, .int (iI x1)), (2, .int (iI x2)), (3, .int (iI x3)), (4, .int (iI x4))] 5 [] := by
  have hO9 := hO
  obtain ⟨hx, hb, hml, hown, hts, hr, hlk, hK, hN, hA⟩ := hO9
  intro n
  induction n with
  | zero => intro x1 x2 x3 x4 f a h; exact False.elim h
  | succ n ih =>
    intro x1 x2 x3 x4 f a h
    rw [wb_M_find_5] at h
    refine x_iload hx hb dM_find_5 4 rfl ?_
    refine x_aload_n hx hb dM_find_7 rfl 0 rfl ?_
    refine x_get hx hb hts (jnM _) hown hK _ (woM ad cA f a) rfl 3 (by decide) (hts _ (List.mem_cons_of_mem _ kfM_13)) (fun _ h9 => h9) (v := .ref (ad 0 4)) (by rfl) dM_find_8 ?_
    refine x_iload_n hx hb dM_find_11 rfl 1 rfl ?_
    obtain ⟨hj1, h⟩ := h
    refine x_iald hx hb hK _ _ (wa3M ad cA f a) (wt3M cA) hj1.1 hj1.2 (by decide) dM_find_12 ?_
    obtain ⟨hi2, h⟩ := h
    obtain ⟨hi3, h⟩ := h
    refine x_icmp_ge hx hb (tgt := 104) hi2 hi3 dM_find_13 (by decide) (fun hc => ?_) (fun hc => ?_)
    · have h := h.1 hc
      refine x_iconst hx hb dM_find_104 ?_
      exact x_zret hx hb hr hlk hK dM_find_105 (by decide) h
    · have h := h.2 hc
      refine x_iconst hx hb dM_find_16 ?_
      refine x_istore hx hb dM_find_17 (by decide) (lv' := [(5, .int (iI 1)), (0, .ref (ad 0 0)), (1, .int (iI x1)), (2, .int (iI x2)), (3, .int (iI x3)), (4, .int (iI x4))]) rfl ?_
      obtain ⟨j, h⟩ := h
      refine x_sub [1, 2, 3, 4, 5, 0] rfl ?_
      exact tb_M_find_19 hO ih j x1 x2 x3 x4 1 f a h
def wp_M_find (post : Int → fS → aS → Prop) (x1 : Int) (x2 : Int) (f : fS) (a : aS) : Prop := ∃ j, wb_M_find_5 post j x1 x2 0 0 f a
set_option maxHeartbeats 4000000 in
set_option maxRecDepth 100000 in
theorem m_M_find {l : Launch} {D : va_G} {ad : Nat → Nat → Nat} {cA : Nat → Nat → ClassId} {post : Int → fS → aS → Prop} {x1 : Int} {x2 : Int} {f : fS} {a : aS} (h : wp_M_find post x1 x2 f a) : xCI l yM_find (Cond.code yM_find cM_find 7 (some .boolean) :: xG) rmM_find D vwCl (taM cA) (MW ad cA f a) [.ref (ad 0 0), .int (iI x1), .int (iI x2)] (MW ad cA) post := by
  refine x_metI (cc := cM_find) (nL := 7) (by decide) rfl (Nat.le_of_ble_eq_true rfl) ?_
  intro p e s m below meth c A hO
  have hO9 := hO
  obtain ⟨hx, hb, hml, hown, hts, hr, hlk, hK, hN, hA⟩ := hO9
  unfold wp_M_find at h
  show gM_find p l e s m _ below meth c A D ad cA post f a [(0, .ref (ad 0 0)), (1, .int (iI x1)), (2, .int (iI x2))] 0 []
  refine x_iconst hx hb dM_find_0 ?_
  refine x_istore_n hx hb dM_find_1 rfl (by decide) (lv' := [(3, .int (iI 0)), (0, .ref (ad 0 0)), (1, .int (iI x1)), (2, .int (iI x2))]) rfl ?_
  refine x_iconst hx hb dM_find_2 ?_
  refine x_istore hx hb dM_find_3 (by decide) (lv' := [(4, .int (iI 0)), (3, .int (iI 0)), (0, .ref (ad 0 0)), (1, .int (iI x1)), (2, .int (iI x2))]) rfl ?_
  obtain ⟨j, h⟩ := h
  refine x_sub [2, 3, 4, 1, 0] rfl ?_
  exact tb_M_find_5 hO j x1 x2 0 0 f a h
-- M_put
abbrev rmM_put : Room := { frames := 0, cells := 0, slots := 0, locals := 0 }
abbrev gM_put (p : Program) (l : Launch) (e : Env) (s : State) (m : MethodId) (args : Array Value) (below : List Frame) (meth : Method) (c : Code) (A : Nat → Prop) (D : va_G) (ad : Nat → Nat → Nat) (cA : Nat → Nat → ClassId) (post : fS → aS → Prop) (f : fS) (a : aS) (lv : List (Nat × Value)) (pc : Nat) (st : List Value) : Prop := xV p l e rmM_put s m args below meth c s.heap A 0 0 (xQV below D vwCl (taM cA) (MW ad cA) post A args s) D vwCl 2 (MW ad cA f a) lv pc st
def wb_M_put_56 (post : fS → aS → Prop) (f : fS) (a : aS) : Prop := post f a
set_option maxHeartbeats 4000000 in
set_option maxRecDepth 100000 in
theorem tb_M_put_56 {p : Program} {l : Launch} {e : Env} {s : State} {m : MethodId} {args : Array Value} {below : List Frame} {meth : Method} {c : Code} {A : Nat → Prop} {D : va_G} {ad : Nat → Nat → Nat} {cA : Nat → Nat → ClassId} {post : fS → aS → Prop} (hO : xOk cM_put 2 RM (Cond.code yM_put cM_put 2 none :: xG) none p s m args meth c A D vwCl (taM cA)) : ∀ (f : fS) (a : aS), wb_M_put_56 post f a → gM_put p l e s m args below meth c A D ad cA post f a [] 56 [] := by
  have hO9 := hO
  obtain ⟨hx, hb, hml, hown, hts, hr, hlk, hK, hN, hA⟩ := hO9
  intro f a h
  unfold wb_M_put_56 at h
  exact x_vret hx hb hr hlk hK dM_put_56 h
def wb_M_put_36 (post : fS → aS → Prop) (x1 : Int) (f : fS) (a : aS) : Prop := (0 ≤ f 0 23 ∧ f 0 23 < 132) ∧ (wb_M_put_56 post (setF f 0 23 ((f 0 23) + 1)) (setA a 0 24 (va_up (a 0 24) (Int.toNat (f 0 23)) x1)))
set_option maxHeartbeats 4000000 in
set_option maxRecDepth 100000 in
theorem tb_M_put_36 {p : Program} {l : Launch} {e : Env} {s : State} {m : MethodId} {args : Array Value} {below : List Frame} {meth : Method} {c : Code} {A : Nat → Prop} {D : va_G} {ad : Nat → Nat → Nat} {cA : Nat → Nat → ClassId} {post : fS → aS → Prop} (hO : xOk cM_put 2 RM (Cond.code yM_put cM_put 2 none :: xG) none p s m args meth c A D vwCl (taM cA)) : ∀ (x1 : Int) (f : fS) (a : aS), wb_M_put_36 post x1 f a → gM_put p l e s m args below meth c A D ad cA post f a [(0, .ref (ad 0 0)), (1, .int (iI x1))] 36 [] := by
  have hO9 := hO
  obtain ⟨hx, hb, hml, hown, hts, hr, hlk, hK, hN, hA⟩ := hO9
  intro x1 f a h
  unfold wb_M_put_36 at h
  refine x_aload_n hx hb dM_put_36 rfl 0 rfl ?_
  refine x_get hx hb hts (jnM _) hown hK _ (woM ad cA f a) rfl 24 (by decide) (hts _ (List.mem_cons_of_mem _ kfM_55)) (fun _ h9 => h9) (v := .ref (ad 0 25)) (by rfl) dM_put_37 ?_
  refine x_aload_n hx hb dM_put_40 rfl 0 rfl ?_
  refine x_get hx hb hts (jnM _) hown hK _ (woM ad cA f a) rfl 23 (by decide) (hts _ (List.mem_cons_of_mem _ kfM_146)) (fun _ h9 => h9) (v := .int (iI (f 0 23))) (by rfl) dM_put_41 ?_
  refine x_iload_n hx hb dM_put_44 rfl 1 rfl ?_
  obtain ⟨hj5, h⟩ := h
  refine x_iast hx hb hK _ _ (wa24M ad cA f a) (wt24M cA) hj5.1 hj5.2 (by decide) dM_put_45 (ws24M ad cA f a (va_up (a 0 24) (Int.toNat (f 0 23)) x1)) ?_
  refine x_aload_n hx hb dM_put_46 rfl 0 rfl ?_
  refine x_dup hx hb rfl dM_put_47 ?_
  refine x_get hx hb hts (jnM _) hown hK _ (woM ad cA f (setA a 0 24 (va_up (a 0 24) (Int.toNat (f 0 23)) x1))) rfl 23 (by decide) (hts _ (List.mem_cons_of_mem _ kfM_146)) (fun _ h9 => h9) (v := .int (iI (f 0 23))) (by rfl) dM_put_48 ?_
  refine x_iconst hx hb dM_put_51 ?_
  refine x_iadd hx hb dM_put_52 ?_
  refine x_put hx hb hts (jnM _) tyM tkM nmM hown hK _ (woM ad cA f (setA a 0 24 (va_up (a 0 24) (Int.toNat (f 0 23)) x1))) rfl 23 (by decide) (hts _ (List.mem_cons_of_mem _ kfM_146)) (fun _ h9 => h9) rfl (by decide +kernel) (Nat.le_of_ble_eq_true rfl) dM_put_53 (wf23M ad cA f (setA a 0 24 (va_up (a 0 24) (Int.toNat (f 0 23)) x1)) ((f 0 23) + 1)) ?_
  refine x_sub [] rfl ?_
  exact tb_M_put_56 hO (setF f 0 23 ((f 0 23) + 1)) (setA a 0 24 (va_up (a 0 24) (Int.toNat (f 0 23)) x1)) h
def wp_M_put (post : fS → aS → Prop) (x1 : Int) (f : fS) (a : aS) : Prop := ir (f 0 23) ∧ (((f 0 23 ≤ 0) → (wb_M_put_36 post x1 f a)) ∧ (¬ (f 0 23 ≤ 0) → ((0 ≤ (f 0 23) - 1 ∧ (f 0 23) - 1 < 132) ∧ (ir (a 0 24 (Int.toNat ((f 0 23) - 1))) ∧ (ir (-x1) ∧ (((¬ a 0 24 (Int.toNat ((f 0 23) - 1)) = -x1) → (wb_M_put_36 post x1 f a)) ∧ (¬ (¬ a 0 24 (Int.toNat ((f 0 23) - 1)) = -x1) → (wb_M_put_56 post (setF f 0 23 ((f 0 23) - 1)) a))))))))
set_option maxHeartbeats 4000000 in
set_option maxRecDepth 100000 in
theorem m_M_put {l : Launch} {D : va_G} {ad : Nat → Nat → Nat} {cA : Nat → Nat → ClassId} {post : fS → aS → Prop} {x1 : Int} {f : fS} {a : aS} (h : wp_M_put post x1 f a) : xCV l yM_put (Cond.code yM_put cM_put 2 none :: xG) rmM_put D vwCl (taM cA) (MW ad cA f a) [.ref (ad 0 0), .int (iI x1)] (MW ad cA) post := by
  refine x_metV (cc := cM_put) (nL := 2) (by decide) rfl (Nat.le_of_ble_eq_true rfl) ?_
  intro p e s m below meth c A hO
  have hO9 := hO
  obtain ⟨hx, hb, hml, hown, hts, hr, hlk, hK, hN, hA⟩ := hO9
  unfold wp_M_put at h
  show gM_put p l e s m _ below meth c A D ad cA post f a [(0, .ref (ad 0 0)), (1, .int (iI x1))] 0 []
  refine x_aload_n hx hb dM_put_0 rfl 0 rfl ?_
  refine x_get hx hb hts (jnM _) hown hK _ (woM ad cA f a) rfl 23 (by decide) (hts _ (List.mem_cons_of_mem _ kfM_146)) (fun _ h9 => h9) (v := .int (iI (f 0 23))) (by rfl) dM_put_1 ?_
  obtain ⟨hi1, h⟩ := h
  refine x_if_le hx hb (tgt := 36) hi1  dM_put_4 (by decide) (fun hc => ?_) (fun hc => ?_)
  · have h := h.1 hc
    exact tb_M_put_36 hO x1 f a h
  · have h := h.2 hc
    refine x_aload_n hx hb dM_put_7 rfl 0 rfl ?_
    refine x_get hx hb hts (jnM _) hown hK _ (woM ad cA f a) rfl 24 (by decide) (hts _ (List.mem_cons_of_mem _ kfM_55)) (fun _ h9 => h9) (v := .ref (ad 0 25)) (by rfl) dM_put_8 ?_
    refine x_aload_n hx hb dM_put_11 rfl 0 rfl ?_
    refine x_get hx hb hts (jnM _) hown hK _ (woM ad cA f a) rfl 23 (by decide) (hts _ (List.mem_cons_of_mem _ kfM_146)) (fun _ h9 => h9) (v := .int (iI (f 0 23))) (by rfl) dM_put_12 ?_
    refine x_iconst hx hb dM_put_15 ?_
    refine x_isub hx hb dM_put_16 ?_
    obtain ⟨hj2, h⟩ := h
    refine x_iald hx hb hK _ _ (wa24M ad cA f a) (wt24M cA) hj2.1 hj2.2 (by decide) dM_put_17 ?_
    refine x_iload_n hx hb dM_put_18 rfl 1 rfl ?_
    refine x_ineg hx hb dM_put_19 ?_
    obtain ⟨hi3, h⟩ := h
    obtain ⟨hi4, h⟩ := h
    refine x_icmp_ne hx hb (tgt := 36) hi3 hi4 dM_put_20 (by decide) (fun hc => ?_) (fun hc => ?_)
    · have h := h.1 hc
      exact tb_M_put_36 hO x1 f a h
    · have h := h.2 hc
      refine x_aload_n hx hb dM_put_23 rfl 0 rfl ?_
      refine x_dup hx hb rfl dM_put_24 ?_
      refine x_get hx hb hts (jnM _) hown hK _ (woM ad cA f a) rfl 23 (by decide) (hts _ (List.mem_cons_of_mem _ kfM_146)) (fun _ h9 => h9) (v := .int (iI (f 0 23))) (by rfl) dM_put_25 ?_
      refine x_iconst hx hb dM_put_28 ?_
      refine x_isub hx hb dM_put_29 ?_
      refine x_put hx hb hts (jnM _) tyM tkM nmM hown hK _ (woM ad cA f a) rfl 23 (by decide) (hts _ (List.mem_cons_of_mem _ kfM_146)) (fun _ h9 => h9) rfl (by decide +kernel) (Nat.le_of_ble_eq_true rfl) dM_put_30 (wf23M ad cA f a ((f 0 23) - 1)) ?_
      refine x_goto hx hb (tgt := 56) dM_put_33 (by decide) ?_
      refine x_sub [] rfl ?_
      exact tb_M_put_56 hO (setF f 0 23 ((f 0 23) - 1)) a h
-- M_putWay
abbrev rmM_putWay : Room := { frames := 1, cells := 0, slots := 0, locals := 21 }
abbrev gM_putWay (p : Program) (l : Launch) (e : Env) (s : State) (m : MethodId) (args : Array Value) (below : List Frame) (meth : Method) (c : Code) (A : Nat → Prop) (D : va_G) (ad : Nat → Nat → Nat) (cA : Nat → Nat → ClassId) (post : fS → aS → Prop) (f : fS) (a : aS) (lv : List (Nat × Value)) (pc : Nat) (st : List Value) : Prop := xV p l e rmM_putWay s m args below meth c s.heap A 0 0 (xQV below D vwCl (taM cA) (MW ad cA) post A args s) D vwCl 5 (MW ad cA f a) lv pc st
def wb_M_putWay_20 (post : fS → aS → Prop) (k2 : Int → Int → Int → fS → aS → Prop) : Nat → Int → Int → Int → Int → fS → aS → Prop
  | 0, _, _, _, _, _, _ => False
  | n + 1, x1, x2, x3, x4, f, a => (0 ≤ (64 * x1) + x4 ∧ (64 * x1) + x4 < 256) ∧ (ir (a 0 7 (Int.toNat ((64 * x1) + x4))) ∧ (ir x3 ∧ (((a 0 7 (Int.toNat ((64 * x1) + x4)) ≤ x3) → (wp_M_letterOf (fun z7 f8 a9 => wp_M_put (fun f11 a12 => k2 x1 x2 (x3 + 1) f11 a12) z7 f8 a9) (a 0 6 (Int.toNat ((64 * x1) + x4))) f a)) ∧ (¬ (a 0 7 (Int.toNat ((64 * x1) + x4)) ≤ x3) → (∀ t13 : Int, t13 = a 0 5 (Int.toNat ((64 * x1) + x4)) → (wb_M_putWay_20 post k2 n x1 x2 x3 t13 f a))))))
set_option maxHeartbeats 4000000 in
set_option maxRecDepth 100000 in
theorem tb_M_putWay_20 {p : Program} {l : Launch} {e : Env} {s : State} {m : MethodId} {args : Array Value} {below : List Frame} {meth : Method} {c : Code} {A : Nat → Prop} {D : va_G} {ad : Nat → Nat → Nat} {cA : Nat → Nat → ClassId} {post : fS → aS → Prop} {k2 : Int → Int → Int → fS → aS → Prop} (hO : xOk cM_putWay 5 RM (Cond.code yM_putWay cM_putWay 5 none :: xG) none p s m args meth c A D vwCl (taM cA)) (hk2 : ∀ (x1 : Int) (x2 : Int) (x3 : Int) (f : fS) (a : aS), k2 x1 x2 x3 f a → gM_putWay p l e s m args below meth c A D ad cA post f a [(0, .ref (ad 0 0)), (1, .int (iI x1)), (2, .int (iI x2)), (3, .int (iI x3))] 2 []) : ∀ (n : Nat) (x1 : Int) (x2 : Int) (x3 : Int) (x4 : Int) (f : fS) (a : aS), wb_M_putWay_20 post k2 n x1 x2 x3 x4 f a → gM_putWay p l e s m args below meth c A D ad cA post f a [(0, .ref (ad 0 0)), (1, .int (iI x1)), (2, .int (iI x2)), (3, .int (iI x3)), (4, .int (iI x4))] 20 [] := by
  have hO9 := hO
  obtain ⟨hx, hb, hml, hown, hts, hr, hlk, hK, hN, hA⟩ := hO9
  intro n
  induction n with
  | zero => intro x1 x2 x3 x4 f a h; exact False.elim h
  | succ n ih =>
    intro x1 x2 x3 x4 f a h
    rw [wb_M_putWay_20] at h
    refine x_aload_n hx hb dM_putWay_20 rfl 0 rfl ?_
    refine x_get hx hb hts (jnM _) hown hK _ (woM ad cA f a) rfl 7 (by decide) (hts _ (List.mem_cons_of_mem _ kfM_25)) (fun _ h9 => h9) (v := .ref (ad 0 8)) (by rfl) dM_putWay_21 ?_
    refine x_bipush hx hb dM_putWay_24 (by decide) ?_
    refine x_iload_n hx hb dM_putWay_26 rfl 1 rfl ?_
    refine x_imul hx hb dM_putWay_27 ?_
    refine x_iload hx hb dM_putWay_28 4 rfl ?_
    refine x_iadd hx hb dM_putWay_30 ?_
    obtain ⟨hj4, h⟩ := h
    refine x_iald hx hb hK _ _ (wa7M ad cA f a) (wt7M cA) hj4.1 hj4.2 (by decide) dM_putWay_31 ?_
    refine x_iload_n hx hb dM_putWay_32 rfl 3 rfl ?_
    obtain ⟨hi5, h⟩ := h
    obtain ⟨hi6, h⟩ := h
    refine x_icmp_le hx hb (tgt := 53) hi5 hi6 dM_putWay_33 (by decide) (fun hc => ?_) (fun hc => ?_)
    · have h := h.1 hc
      refine x_aload_n hx hb dM_putWay_53 rfl 0 rfl ?_
      refine x_aload_n hx hb dM_putWay_54 rfl 0 rfl ?_
      refine x_get hx hb hts (jnM _) hown hK _ (woM ad cA f a) rfl 6 (by decide) (hts _ (List.mem_cons_of_mem _ kfM_22)) (fun _ h9 => h9) (v := .ref (ad 0 7)) (by rfl) dM_putWay_55 ?_
      refine x_bipush hx hb dM_putWay_58 (by decide) ?_
      refine x_iload_n hx hb dM_putWay_60 rfl 1 rfl ?_
      refine x_imul hx hb dM_putWay_61 ?_
      refine x_iload hx hb dM_putWay_62 4 rfl ?_
      refine x_iadd hx hb dM_putWay_64 ?_
      refine x_iald hx hb hK _ _ (wa6M ad cA f a) (wt6M cA) hj4.1 hj4.2 (by decide) dM_putWay_65 ?_
      refine x_cSi (n := 1) (st := [.ref (ad 0 0)]) (As := [.int (iI (a 0 6 (Int.toNat ((64 * x1) + x4))))]) ⟨hx, hb, hml, hown, hts⟩ hK hN (m_M_letterOf h) (x_cwS hts rfl rfl kcM_letterOf knM klM_124 ksM_letterOf ⟨by decide, by decide, by decide +kernel⟩ ⟨by decide, by decide⟩) hA rfl (Nat.le_of_ble_eq_true rfl) ⟨Nat.zero_le _, Nat.zero_le _⟩ rfl dM_putWay_66 (fun z7 f8 a9 h => ?_)
      refine x_cVv (n := 1) (st := []) (As := [.int (iI z7)]) ⟨hx, hb, hml, hown, hts⟩ hK hN (m_M_put h) (x_cwV hts rfl rfl kcM_put knM klM_149 kiM_put keM_put ⟨by decide, by decide, by decide +kernel⟩ ⟨by decide, by decide⟩) _ (woM ad cA f8 a9) rfl hA rfl (Nat.le_of_ble_eq_true rfl) ⟨Nat.zero_le _, Nat.zero_le _⟩ rfl dM_putWay_69 (fun f11 a12 h => ?_)
      refine x_iinc hx hb dM_putWay_72 3 rfl (by decide) (lv' := [(3, .int (iI (x3 + 1))), (0, .ref (ad 0 0)), (1, .int (iI x1)), (2, .int (iI x2)), (4, .int (iI x4))]) rfl ?_
      refine x_goto hx hb (tgt := 2) dM_putWay_75 (by decide) ?_
      refine x_sub [1, 2, 3, 0] rfl ?_
      exact hk2 x1 x2 (x3 + 1) f11 a12 h
    · have h := h.2 hc
      refine x_aload_n hx hb dM_putWay_36 rfl 0 rfl ?_
      refine x_get hx hb hts (jnM _) hown hK _ (woM ad cA f a) rfl 5 (by decide) (hts _ (List.mem_cons_of_mem _ kfM_19)) (fun _ h9 => h9) (v := .ref (ad 0 6)) (by rfl) dM_putWay_37 ?_
      refine x_bipush hx hb dM_putWay_40 (by decide) ?_
      refine x_iload_n hx hb dM_putWay_42 rfl 1 rfl ?_
      refine x_imul hx hb dM_putWay_43 ?_
      refine x_iload hx hb dM_putWay_44 4 rfl ?_
      refine x_iadd hx hb dM_putWay_46 ?_
      refine x_iald hx hb hK _ _ (wa5M ad cA f a) (wt5M cA) hj4.1 hj4.2 (by decide) dM_putWay_47 ?_
      refine x_topi (fun t13 et13 => ?_)
      have h := h t13 et13
      refine x_istore hx hb dM_putWay_48 (by decide) (lv' := [(4, .int (iI t13)), (0, .ref (ad 0 0)), (1, .int (iI x1)), (2, .int (iI x2)), (3, .int (iI x3))]) rfl ?_
      refine x_goto hx hb (tgt := 20) dM_putWay_50 (by decide) ?_
      refine x_sub [1, 2, 3, 4, 0] rfl ?_
      exact ih x1 x2 x3 t13 f a h
def wb_M_putWay_2 (post : fS → aS → Prop) : Nat → Int → Int → Int → fS → aS → Prop
  | 0, _, _, _, _, _ => False
  | n + 1, x1, x2, x3, f, a => (0 ≤ (64 * x1) + x2 ∧ (64 * x1) + x2 < 256) ∧ (ir x3 ∧ (ir (a 0 7 (Int.toNat ((64 * x1) + x2))) ∧ (((a 0 7 (Int.toNat ((64 * x1) + x2)) < x3) → (post f a)) ∧ (¬ (a 0 7 (Int.toNat ((64 * x1) + x2)) < x3) → (∃ j, wb_M_putWay_20 post (wb_M_putWay_2 post n) j x1 x2 x3 x2 f a)))))
set_option maxHeartbeats 4000000 in
set_option maxRecDepth 100000 in
theorem tb_M_putWay_2 {p : Program} {l : Launch} {e : Env} {s : State} {m : MethodId} {args : Array Value} {below : List Frame} {meth : Method} {c : Code} {A : Nat → Prop} {D : va_G} {ad : Nat → Nat → Nat} {cA : Nat → Nat → ClassId} {post : fS → aS → Prop} (hO : xOk cM_putWay 5 RM (Cond.code yM_putWay cM_putWay 5 none :: xG) none p s m args meth c A D vwCl (taM cA)) : ∀ (n : Nat) (x1 : Int) (x2 : Int) (x3 : Int) (f : fS) (a : aS), wb_M_putWay_2 post n x1 x2 x3 f a → gM_putWay p l e s m args below meth c A D ad cA post f a [(0, .ref (ad 0 0)), (1, .int (iI x1)), (2, .int (iI x2)), (3, .int (iI x3))] 2 [] := by
  have hO9 := hO
  obtain ⟨hx, hb, hml, hown, hts, hr, hlk, hK, hN, hA⟩ := hO9
  intro n
  induction n with
  | zero => intro x1 x2 x3 f a h; exact False.elim h
  | succ n ih =>
    intro x1 x2 x3 f a h
    rw [wb_M_putWay_2] at h
    refine x_iload_n hx hb dM_putWay_2 rfl 3 rfl ?_
    refine x_aload_n hx hb dM_putWay_3 rfl 0 rfl ?_
    refine x_get hx hb hts (jnM _) hown hK _ (woM ad cA f a) rfl 7 (by decide) (hts _ (List.mem_cons_of_mem _ kfM_25)) (fun _ h9 => h9) (v := .ref (ad 0 8)) (by rfl) dM_putWay_4 ?_
    refine x_bipush hx hb dM_putWay_7 (by decide) ?_
    refine x_iload_n hx hb dM_putWay_9 rfl 1 rfl ?_
    refine x_imul hx hb dM_putWay_10 ?_
    refine x_iload_n hx hb dM_putWay_11 rfl 2 rfl ?_
    refine x_iadd hx hb dM_putWay_12 ?_
    obtain ⟨hj1, h⟩ := h
    refine x_iald hx hb hK _ _ (wa7M ad cA f a) (wt7M cA) hj1.1 hj1.2 (by decide) dM_putWay_13 ?_
    obtain ⟨hi2, h⟩ := h
    obtain ⟨hi3, h⟩ := h
    refine x_icmp_gt hx hb (tgt := 78) hi2 hi3 dM_putWay_14 (by decide) (fun hc => ?_) (fun hc => ?_)
    · have h := h.1 hc
      exact x_vret hx hb hr hlk hK dM_putWay_78 h
    · have h := h.2 hc
      refine x_iload_n hx hb dM_putWay_17 rfl 2 rfl ?_
      refine x_istore hx hb dM_putWay_18 (by decide) (lv' := [(4, .int (iI x2)), (0, .ref (ad 0 0)), (1, .int (iI x1)), (2, .int (iI x2)), (3, .int (iI x3))]) rfl ?_
      obtain ⟨j, h⟩ := h
      refine x_sub [1, 2, 3, 4, 0] rfl ?_
      exact tb_M_putWay_20 hO ih j x1 x2 x3 x2 f a h
def wp_M_putWay (post : fS → aS → Prop) (x1 : Int) (x2 : Int) (f : fS) (a : aS) : Prop := ∃ j, wb_M_putWay_2 post j x1 x2 1 f a
set_option maxHeartbeats 4000000 in
set_option maxRecDepth 100000 in
theorem m_M_putWay {l : Launch} {D : va_G} {ad : Nat → Nat → Nat} {cA : Nat → Nat → ClassId} {post : fS → aS → Prop} {x1 : Int} {x2 : Int} {f : fS} {a : aS} (h : wp_M_putWay post x1 x2 f a) : xCV l yM_putWay (Cond.code yM_putWay cM_putWay 5 none :: xG) rmM_putWay D vwCl (taM cA) (MW ad cA f a) [.ref (ad 0 0), .int (iI x1), .int (iI x2)] (MW ad cA) post := by
  refine x_metV (cc := cM_putWay) (nL := 5) (by decide) rfl (Nat.le_of_ble_eq_true rfl) ?_
  intro p e s m below meth c A hO
  have hO9 := hO
  obtain ⟨hx, hb, hml, hown, hts, hr, hlk, hK, hN, hA⟩ := hO9
  unfold wp_M_putWay at h
  show gM_putWay p l e s m _ below meth c A D ad cA post f a [(0, .ref (ad 0 0)), (1, .int (iI x1)), (2, .int (iI x2))] 0 []
  refine x_iconst hx hb dM_putWay_0 ?_
  refine x_istore_n hx hb dM_putWay_1 rfl (by decide) (lv' := [(3, .int (iI 1)), (0, .ref (ad 0 0)), (1, .int (iI x1)), (2, .int (iI x2))]) rfl ?_
  obtain ⟨j, h⟩ := h
  refine x_sub [1, 2, 3, 0] rfl ?_
  exact tb_M_putWay_2 hO j x1 x2 1 f a h
-- M_putElement
abbrev rmM_putElement : Room := { frames := 2, cells := 0, slots := 0, locals := 45 }
abbrev gM_putElement (p : Program) (l : Launch) (e : Env) (s : State) (m : MethodId) (args : Array Value) (below : List Frame) (meth : Method) (c : Code) (A : Nat → Prop) (D : va_G) (ad : Nat → Nat → Nat) (cA : Nat → Nat → ClassId) (post : fS → aS → Prop) (f : fS) (a : aS) (lv : List (Nat × Value)) (pc : Nat) (st : List Value) : Prop := xV p l e rmM_putElement s m args below meth c s.heap A 0 0 (xQV below D vwCl (taM cA) (MW ad cA) post A args s) D vwCl 3 (MW ad cA f a) lv pc st
def wb_M_putElement_22 (post : fS → aS → Prop) : Nat → Int → Int → fS → aS → Prop
  | 0, _, _, _, _ => False
  | n + 1, x1, x2, f, a => ir x2 ∧ (((x2 ≤ 0) → (post f a)) ∧ (¬ (x2 ≤ 0) → ((0 ≤ (64 * x1) + x2 ∧ (64 * x1) + x2 < 256) ∧ (wp_M_letterOf (fun z10 f11 a12 => wp_M_put (fun f14 a15 => ∀ t16 : Int, t16 = (a15 0 5) (Int.toNat ((64 * x1) + x2)) → (wb_M_putElement_22 post n x1 t16 f14 a15)) (-z10) f11 a12) (a 0 6 (Int.toNat ((64 * x1) + x2))) f a))))
set_option maxHeartbeats 4000000 in
set_option maxRecDepth 100000 in
theorem tb_M_putElement_22 {p : Program} {l : Launch} {e : Env} {s : State} {m : MethodId} {args : Array Value} {below : List Frame} {meth : Method} {c : Code} {A : Nat → Prop} {D : va_G} {ad : Nat → Nat → Nat} {cA : Nat → Nat → ClassId} {post : fS → aS → Prop} (hO : xOk cM_putElement 3 RM (Cond.code yM_putElement cM_putElement 3 none :: xG) none p s m args meth c A D vwCl (taM cA)) : ∀ (n : Nat) (x1 : Int) (x2 : Int) (f : fS) (a : aS), wb_M_putElement_22 post n x1 x2 f a → gM_putElement p l e s m args below meth c A D ad cA post f a [(0, .ref (ad 0 0)), (1, .int (iI x1)), (2, .int (iI x2))] 22 [] := by
  have hO9 := hO
  obtain ⟨hx, hb, hml, hown, hts, hr, hlk, hK, hN, hA⟩ := hO9
  intro n
  induction n with
  | zero => intro x1 x2 f a h; exact False.elim h
  | succ n ih =>
    intro x1 x2 f a h
    rw [wb_M_putElement_22] at h
    refine x_iload_n hx hb dM_putElement_22 rfl 2 rfl ?_
    obtain ⟨hi8, h⟩ := h
    refine x_if_le hx hb (tgt := 60) hi8  dM_putElement_23 (by decide) (fun hc => ?_) (fun hc => ?_)
    · have h := h.1 hc
      exact x_vret hx hb hr hlk hK dM_putElement_60 h
    · have h := h.2 hc
      refine x_aload_n hx hb dM_putElement_26 rfl 0 rfl ?_
      refine x_aload_n hx hb dM_putElement_27 rfl 0 rfl ?_
      refine x_get hx hb hts (jnM _) hown hK _ (woM ad cA f a) rfl 6 (by decide) (hts _ (List.mem_cons_of_mem _ kfM_22)) (fun _ h9 => h9) (v := .ref (ad 0 7)) (by rfl) dM_putElement_28 ?_
      refine x_bipush hx hb dM_putElement_31 (by decide) ?_
      refine x_iload_n hx hb dM_putElement_33 rfl 1 rfl ?_
      refine x_imul hx hb dM_putElement_34 ?_
      refine x_iload_n hx hb dM_putElement_35 rfl 2 rfl ?_
      refine x_iadd hx hb dM_putElement_36 ?_
      obtain ⟨hj9, h⟩ := h
      refine x_iald hx hb hK _ _ (wa6M ad cA f a) (wt6M cA) hj9.1 hj9.2 (by decide) dM_putElement_37 ?_
      refine x_cSi (n := 1) (st := [.ref (ad 0 0)]) (As := [.int (iI (a 0 6 (Int.toNat ((64 * x1) + x2))))]) ⟨hx, hb, hml, hown, hts⟩ hK hN (m_M_letterOf h) (x_cwS hts rfl rfl kcM_letterOf knM klM_124 ksM_letterOf ⟨by decide, by decide, by decide +kernel⟩ ⟨by decide, by decide⟩) hA rfl (Nat.le_of_ble_eq_true rfl) ⟨Nat.zero_le _, Nat.zero_le _⟩ rfl dM_putElement_38 (fun z10 f11 a12 h => ?_)
      refine x_ineg hx hb dM_putElement_41 ?_
      refine x_cVv (n := 1) (st := []) (As := [.int (iI (-z10))]) ⟨hx, hb, hml, hown, hts⟩ hK hN (m_M_put h) (x_cwV hts rfl rfl kcM_put knM klM_149 kiM_put keM_put ⟨by decide, by decide, by decide +kernel⟩ ⟨by decide, by decide⟩) _ (woM ad cA f11 a12) rfl hA rfl (Nat.le_of_ble_eq_true rfl) ⟨Nat.zero_le _, Nat.zero_le _⟩ rfl dM_putElement_42 (fun f14 a15 h => ?_)
      refine x_aload_n hx hb dM_putElement_45 rfl 0 rfl ?_
      refine x_get hx hb hts (jnM _) hown hK _ (woM ad cA f14 a15) rfl 5 (by decide) (hts _ (List.mem_cons_of_mem _ kfM_19)) (fun _ h9 => h9) (v := .ref (ad 0 6)) (by rfl) dM_putElement_46 ?_
      refine x_bipush hx hb dM_putElement_49 (by decide) ?_
      refine x_iload_n hx hb dM_putElement_51 rfl 1 rfl ?_
      refine x_imul hx hb dM_putElement_52 ?_
      refine x_iload_n hx hb dM_putElement_53 rfl 2 rfl ?_
      refine x_iadd hx hb dM_putElement_54 ?_
      refine x_iald hx hb hK _ _ (wa5M ad cA f14 a15) (wt5M cA) hj9.1 hj9.2 (by decide) dM_putElement_55 ?_
      refine x_topi (fun t16 et16 => ?_)
      have h := h t16 et16
      refine x_istore_n hx hb dM_putElement_56 rfl (by decide) (lv' := [(2, .int (iI t16)), (0, .ref (ad 0 0)), (1, .int (iI x1))]) rfl ?_
      refine x_goto hx hb (tgt := 22) dM_putElement_57 (by decide) ?_
      refine x_sub [1, 2, 0] rfl ?_
      exact ih x1 t16 f14 a15 h
def wp_M_putElement (post : fS → aS → Prop) (x1 : Int) (f : fS) (a : aS) : Prop := wp_M_putWay (fun f2 a3 => wp_M_put (fun f5 a6 => ∀ t7 : Int, t7 = f5 0 22 → (∃ j, wb_M_putElement_22 post j x1 t7 f5 a6)) (f2 0 21) f2 a3) x1 (f 0 20) f a
set_option maxHeartbeats 4000000 in
set_option maxRecDepth 100000 in
theorem m_M_putElement {l : Launch} {D : va_G} {ad : Nat → Nat → Nat} {cA : Nat → Nat → ClassId} {post : fS → aS → Prop} {x1 : Int} {f : fS} {a : aS} (h : wp_M_putElement post x1 f a) : xCV l yM_putElement (Cond.code yM_putElement cM_putElement 3 none :: xG) rmM_putElement D vwCl (taM cA) (MW ad cA f a) [.ref (ad 0 0), .int (iI x1)] (MW ad cA) post := by
  refine x_metV (cc := cM_putElement) (nL := 3) (by decide) rfl (Nat.le_of_ble_eq_true rfl) ?_
  intro p e s m below meth c A hO
  have hO9 := hO
  obtain ⟨hx, hb, hml, hown, hts, hr, hlk, hK, hN, hA⟩ := hO9
  unfold wp_M_putElement at h
  show gM_putElement p l e s m _ below meth c A D ad cA post f a [(0, .ref (ad 0 0)), (1, .int (iI x1))] 0 []
  refine x_aload_n hx hb dM_putElement_0 rfl 0 rfl ?_
  refine x_iload_n hx hb dM_putElement_1 rfl 1 rfl ?_
  refine x_aload_n hx hb dM_putElement_2 rfl 0 rfl ?_
  refine x_get hx hb hts (jnM _) hown hK _ (woM ad cA f a) rfl 20 (by decide) (hts _ (List.mem_cons_of_mem _ kfM_137)) (fun _ h9 => h9) (v := .int (iI (f 0 20))) (by rfl) dM_putElement_3 ?_
  refine x_cVv (n := 2) (st := []) (As := [.int (iI x1), .int (iI (f 0 20))]) ⟨hx, hb, hml, hown, hts⟩ hK hN (m_M_putWay h) (x_cwV hts rfl rfl kcM_putWay knM klM_152 kiM_putWay keM_putWay ⟨by decide, by decide, by decide +kernel⟩ ⟨by decide, by decide⟩) _ (woM ad cA f a) rfl hA rfl (Nat.le_of_ble_eq_true rfl) ⟨Nat.zero_le _, Nat.zero_le _⟩ rfl dM_putElement_6 (fun f2 a3 h => ?_)
  refine x_aload_n hx hb dM_putElement_9 rfl 0 rfl ?_
  refine x_aload_n hx hb dM_putElement_10 rfl 0 rfl ?_
  refine x_get hx hb hts (jnM _) hown hK _ (woM ad cA f2 a3) rfl 21 (by decide) (hts _ (List.mem_cons_of_mem _ kfM_140)) (fun _ h9 => h9) (v := .int (iI (f2 0 21))) (by rfl) dM_putElement_11 ?_
  refine x_cVv (n := 1) (st := []) (As := [.int (iI (f2 0 21))]) ⟨hx, hb, hml, hown, hts⟩ hK hN (m_M_put h) (x_cwV hts rfl rfl kcM_put knM klM_149 kiM_put keM_put ⟨by decide, by decide, by decide +kernel⟩ ⟨by decide, by decide⟩) _ (woM ad cA f2 a3) rfl hA rfl (Nat.le_of_ble_eq_true rfl) ⟨Nat.zero_le _, Nat.zero_le _⟩ rfl dM_putElement_14 (fun f5 a6 h => ?_)
  refine x_aload_n hx hb dM_putElement_17 rfl 0 rfl ?_
  refine x_get hx hb hts (jnM _) hown hK _ (woM ad cA f5 a6) rfl 22 (by decide) (hts _ (List.mem_cons_of_mem _ kfM_143)) (fun _ h9 => h9) (v := .int (iI (f5 0 22))) (by rfl) dM_putElement_18 ?_
  refine x_topi (fun t7 et7 => ?_)
  have h := h t7 et7
  refine x_istore_n hx hb dM_putElement_21 rfl (by decide) (lv' := [(2, .int (iI t7)), (0, .ref (ad 0 0)), (1, .int (iI x1))]) rfl ?_
  obtain ⟨j, h⟩ := h
  refine x_sub [1, 2, 0] rfl ?_
  exact tb_M_putElement_22 hO j x1 t7 f5 a6 h
