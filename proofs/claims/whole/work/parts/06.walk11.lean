-- M_contains
abbrev rmM_contains : Room := { frames := 3, cells := 0, slots := 0, locals := 73 }
abbrev gM_contains (p : Program) (l : Launch) (e : Env) (s : State) (m : MethodId) (args : Array Value) (below : List Frame) (meth : Method) (c : Code) (A : Nat → Prop) (D : va_G) (ad : Nat → Nat → Nat) (cA : Nat → Nat → ClassId) (post : Int → fS → aS → Prop) (f : fS) (a : aS) (lv : List (Nat × Value)) (pc : Nat) (st : List Value) : Prop := xV p l e rmM_contains s m args below meth c s.heap A 0 0 (xQI below D vwCl (taM cA) (MW ad cA) post A args s) D vwCl 7 (MW ad cA f a) lv pc st
def wb_M_contains_14 (post : Int → fS → aS → Prop) (f : fS) (a : aS) : Prop := post 0 f a
set_option maxHeartbeats 4000000 in
set_option maxRecDepth 100000 in
theorem tb_M_contains_14 {p : Program} {l : Launch} {e : Env} {s : State} {m : MethodId} {args : Array Value} {below : List Frame} {meth : Method} {c : Code} {A : Nat → Prop} {D : va_G} {ad : Nat → Nat → Nat} {cA : Nat → Nat → ClassId} {post : Int → fS → aS → Prop} (hO : xOk cM_contains 7 RM (Cond.code yM_contains cM_contains 7 (some .boolean) :: xG) (some .boolean) p s m args meth c A D vwCl (taM cA)) : ∀ (f : fS) (a : aS), wb_M_contains_14 post f a → gM_contains p l e s m args below meth c A D ad cA post f a [] 14 [] := by
  have hO9 := hO
  obtain ⟨hx, hb, hml, hown, hts, hr, hlk, hK, hN, hA⟩ := hO9
  intro f a h
  unfold wb_M_contains_14 at h
  refine x_iconst hx hb dM_contains_14 ?_
  exact x_zret hx hb hr hlk hK dM_contains_15 (by decide) h
def wb_M_contains_83 (post : Int → fS → aS → Prop) (x3 : Int) (f : fS) (a : aS) : Prop := (x3 = 0 ∨ x3 = 1) ∧ post x3 f a
set_option maxHeartbeats 4000000 in
set_option maxRecDepth 100000 in
theorem tb_M_contains_83 {p : Program} {l : Launch} {e : Env} {s : State} {m : MethodId} {args : Array Value} {below : List Frame} {meth : Method} {c : Code} {A : Nat → Prop} {D : va_G} {ad : Nat → Nat → Nat} {cA : Nat → Nat → ClassId} {post : Int → fS → aS → Prop} (hO : xOk cM_contains 7 RM (Cond.code yM_contains cM_contains 7 (some .boolean) :: xG) (some .boolean) p s m args meth c A D vwCl (taM cA)) : ∀ (x3 : Int) (f : fS) (a : aS), wb_M_contains_83 post x3 f a → gM_contains p l e s m args below meth c A D ad cA post f a [(3, .int (iI x3))] 83 [] := by
  have hO9 := hO
  obtain ⟨hx, hb, hml, hown, hts, hr, hlk, hK, hN, hA⟩ := hO9
  intro x3 f a h
  unfold wb_M_contains_83 at h
  refine x_iload_n hx hb dM_contains_83 rfl 0 rfl ?_
  exact x_zret hx hb hr hlk hK dM_contains_84 h.1 h.2
def wb_M_contains_76 (post : Int → fS → aS → Prop) (k28 : Int → Int → Int → Int → Int → fS → aS → Prop) (x1 : Int) (x2 : Int) (x4 : Int) (x5 : Int) (y0 : Int) (f : fS) (a : aS) : Prop := k28 x1 x2 y0 x4 (x5 + 1) f a
set_option maxHeartbeats 4000000 in
set_option maxRecDepth 100000 in
theorem tb_M_contains_76 {p : Program} {l : Launch} {e : Env} {s : State} {m : MethodId} {args : Array Value} {below : List Frame} {meth : Method} {c : Code} {A : Nat → Prop} {D : va_G} {ad : Nat → Nat → Nat} {cA : Nat → Nat → ClassId} {post : Int → fS → aS → Prop} {k28 : Int → Int → Int → Int → Int → fS → aS → Prop} (hO : xOk cM_contains 7 RM (Cond.code yM_contains cM_contains 7 (some .boolean) :: xG) (some .boolean) p s m args meth c A D vwCl (taM cA)) (hk28 : ∀ (x1 : Int) (x2 : Int) (x3 : Int) (x4 : Int) (x5 : Int) (f : fS) (a : aS), k28 x1 x2 x3 x4 x5 f a → gM_contains p l e s m args below meth c A D ad cA post f a [(0, .ref (ad 0 0)), (1, .int (iI x1)), (2, .int (iI x2)), (3, .int (iI x3)), (4, .int (iI x4)), (5, .int (iI x5))] 28 []) : ∀ (x1 : Int) (x2 : Int) (x4 : Int) (x5 : Int) (y0 : Int) (f : fS) (a : aS), wb_M_contains_76 post k28 x1 x2 x4 x5 y0 f a → gM_contains p l e s m args below meth c A D ad cA post f a [(0, .ref (ad 0 0)), (1, .int (iI x1)), (2, .int (iI x2)), (4, .int (iI x4)), (5, .int (iI x5))] 76 [.int (iI y0)] := by
  have hO9 := hO
  obtain ⟨hx, hb, hml, hown, hts, hr, hlk, hK, hN, hA⟩ := hO9
  intro x1 x2 x4 x5 y0 f a h
  unfold wb_M_contains_76 at h
  refine x_istore_n hx hb dM_contains_76 rfl (by decide) (lv' := [(3, .int (iI y0)), (0, .ref (ad 0 0)), (1, .int (iI x1)), (2, .int (iI x2)), (4, .int (iI x4)), (5, .int (iI x5))]) rfl ?_
  refine x_iinc hx hb dM_contains_77 5 rfl (by decide) (lv' := [(5, .int (iI (x5 + 1))), (3, .int (iI y0)), (0, .ref (ad 0 0)), (1, .int (iI x1)), (2, .int (iI x2)), (4, .int (iI x4))]) rfl ?_
  refine x_goto hx hb (tgt := 28) dM_contains_80 (by decide) ?_
  refine x_sub [2, 3, 4, 1, 5, 0] rfl ?_
  exact hk28 x1 x2 y0 x4 (x5 + 1) f a h
def wb_M_contains_75 (post : Int → fS → aS → Prop) (k28 : Int → Int → Int → Int → Int → fS → aS → Prop) (x1 : Int) (x2 : Int) (x4 : Int) (x5 : Int) (f : fS) (a : aS) : Prop := wb_M_contains_76 post k28 x1 x2 x4 x5 0 f a
set_option maxHeartbeats 4000000 in
set_option maxRecDepth 100000 in
theorem tb_M_contains_75 {p : Program} {l : Launch} {e : Env} {s : State} {m : MethodId} {args : Array Value} {below : List Frame} {meth : Method} {c : Code} {A : Nat → Prop} {D : va_G} {ad : Nat → Nat → Nat} {cA : Nat → Nat → ClassId} {post : Int → fS → aS → Prop} {k28 : Int → Int → Int → Int → Int → fS → aS → Prop} (hO : xOk cM_contains 7 RM (Cond.code yM_contains cM_contains 7 (some .boolean) :: xG) (some .boolean) p s m args meth c A D vwCl (taM cA)) (hk28 : ∀ (x1 : Int) (x2 : Int) (x3 : Int) (x4 : Int) (x5 : Int) (f : fS) (a : aS), k28 x1 x2 x3 x4 x5 f a → gM_contains p l e s m args below meth c A D ad cA post f a [(0, .ref (ad 0 0)), (1, .int (iI x1)), (2, .int (iI x2)), (3, .int (iI x3)), (4, .int (iI x4)), (5, .int (iI x5))] 28 []) : ∀ (x1 : Int) (x2 : Int) (x4 : Int) (x5 : Int) (f : fS) (a : aS), wb_M_contains_75 post k28 x1 x2 x4 x5 f a → gM_contains p l e s m args below meth c A D ad cA post f a [(0, .ref (ad 0 0)), (1, .int (iI x1)), (2, .int (iI x2)), (4, .int (iI x4)), (5, .int (iI x5))] 75 [] := by
  have hO9 := hO
  obtain ⟨hx, hb, hml, hown, hts, hr, hlk, hK, hN, hA⟩ := hO9
  intro x1 x2 x4 x5 f a h
  unfold wb_M_contains_75 at h
  refine x_iconst hx hb dM_contains_75 ?_
  exact tb_M_contains_76 hO hk28 x1 x2 x4 x5 0 f a h
def wb_M_contains_28 (post : Int → fS → aS → Prop) : Nat → Int → Int → Int → Int → Int → fS → aS → Prop
  | 0, _, _, _, _, _, _, _ => False
  | n + 1, x1, x2, x3, x4, x5, f, a => ir x5 ∧ (ir x4 ∧ (((x4 ≤ x5) → (wb_M_contains_83 post x3 f a)) ∧ (¬ (x4 ≤ x5) → (ir x3 ∧ (((x3 = 0) → (wb_M_contains_83 post x3 f a)) ∧ (¬ (x3 = 0) → (wp_M_find (fun z15 f16 a17 => wp_M_putElement (fun f19 a20 => ir z15 ∧ (((z15 = 0) → (wb_M_contains_75 post (wb_M_contains_28 post n) x1 x2 x4 x5 f19 a20)) ∧ (¬ (z15 = 0) → (wp_M_leadsBack (fun z22 f23 a24 => ir z22 ∧ (((z22 = 0) → (wb_M_contains_75 post (wb_M_contains_28 post n) x1 x2 x4 x5 f23 a24)) ∧ (¬ (z22 = 0) → (wb_M_contains_76 post (wb_M_contains_28 post n) x1 x2 x4 x5 1 f23 a24)))) x1 f19 a20)))) x2 (setF f16 0 23 0) a17) x2 x5 f a)))))))
set_option maxHeartbeats 4000000 in
set_option maxRecDepth 100000 in
theorem tb_M_contains_28 {p : Program} {l : Launch} {e : Env} {s : State} {m : MethodId} {args : Array Value} {below : List Frame} {meth : Method} {c : Code} {A : Nat → Prop} {D : va_G} {ad : Nat → Nat → Nat} {cA : Nat → Nat → ClassId} {post : Int → fS → aS → Prop} (hO : xOk cM_contains 7 RM (Cond.code yM_contains cM_contains 7 (some .boolean) :: xG) (some .boolean) p s m args meth c A D vwCl (taM cA)) : ∀ (n : Nat) (x1 : Int) (x2 : Int) (x3 : Int) (x4 : Int) (x5 : Int) (f : fS) (a : aS), wb_M_contains_28 post n x1 x2 x3 x4 x5 f a → gM_contains p l e s m args below meth c A D ad cA post f a [(0, .ref (ad 0 0)), (1, .int (iI x1)), (2, .int (iI x2)), (3, .int (iI x3)), (4, .int (iI x4)), (5, .int (iI x5))] 28 [] := by
  have hO9 := hO
  obtain ⟨hx, hb, hml, hown, hts, hr, hlk, hK, hN, hA⟩ := hO9
  intro n
  induction n with
  | zero => intro x1 x2 x3 x4 x5 f a h; exact False.elim h
  | succ n ih =>
    intro x1 x2 x3 x4 x5 f a h
    rw [wb_M_contains_28] at h
    refine x_iload hx hb dM_contains_28 5 rfl ?_
    refine x_iload hx hb dM_contains_30 4 rfl ?_
    obtain ⟨hi12, h⟩ := h
    obtain ⟨hi13, h⟩ := h
    refine x_icmp_ge hx hb (tgt := 83) hi12 hi13 dM_contains_32 (by decide) (fun hc => ?_) (fun hc => ?_)
    · have h := h.1 hc
      refine x_sub [3] rfl ?_
      exact tb_M_contains_83 hO x3 f a h
    · have h := h.2 hc
      refine x_iload_n hx hb dM_contains_35 rfl 3 rfl ?_
      obtain ⟨hi14, h⟩ := h
      refine x_if_eq hx hb (tgt := 83) hi14  dM_contains_36 (by decide) (fun hc => ?_) (fun hc => ?_)
      · have h := h.1 hc
        refine x_sub [3] rfl ?_
        exact tb_M_contains_83 hO x3 f a h
      · have h := h.2 hc
        refine x_aload_n hx hb dM_contains_39 rfl 0 rfl ?_
        refine x_iload_n hx hb dM_contains_40 rfl 2 rfl ?_
        refine x_iload hx hb dM_contains_41 5 rfl ?_
        refine x_cVi (n := 2) (st := []) (As := [.int (iI x2), .int (iI x5)]) ⟨hx, hb, hml, hown, hts⟩ hK hN (m_M_find h) (x_cwV hts rfl rfl kcM_find knM klM_155 kiM_find keM_find ⟨by decide, by decide, by decide +kernel⟩ ⟨by decide, by decide⟩) _ (woM ad cA f a) rfl hA rfl (Nat.le_of_ble_eq_true rfl) ⟨Nat.zero_le _, Nat.zero_le _⟩ rfl dM_contains_43 (fun z15 f16 a17 h => ?_)
        refine x_istore hx hb dM_contains_46 (by decide) (lv' := [(6, .int (iI z15)), (0, .ref (ad 0 0)), (1, .int (iI x1)), (2, .int (iI x2)), (3, .int (iI x3)), (4, .int (iI x4)), (5, .int (iI x5))]) rfl ?_
        refine x_aload_n hx hb dM_contains_48 rfl 1 rfl ?_
        refine x_iconst hx hb dM_contains_49 ?_
        refine x_put hx hb hts (jnM _) tyM tkM nmM hown hK _ (woM ad cA f16 a17) rfl 23 (by decide) (hts _ (List.mem_cons_of_mem _ kfM_146)) (fun _ h9 => h9) rfl (by decide +kernel) (Nat.le_of_ble_eq_true rfl) dM_contains_50 (wf23M ad cA f16 a17 0) ?_
        refine x_aload_n hx hb dM_contains_53 rfl 1 rfl ?_
        refine x_iload_n hx hb dM_contains_54 rfl 3 rfl ?_
        refine x_cVv (n := 1) (st := []) (As := [.int (iI x2)]) ⟨hx, hb, hml, hown, hts⟩ hK hN (m_M_putElement h) (x_cwV hts rfl rfl kcM_putElement knM klM_159 kiM_putElement keM_putElement ⟨by decide, by decide, by decide +kernel⟩ ⟨by decide, by decide⟩) _ (woM ad cA (setF f16 0 23 0) a17) rfl hA rfl (Nat.le_of_ble_eq_true rfl) ⟨Nat.zero_le _, Nat.zero_le _⟩ rfl dM_contains_55 (fun f19 a20 h => ?_)
        refine x_iload hx hb dM_contains_58 0 rfl ?_
        obtain ⟨hi21, h⟩ := h
        refine x_if_eq hx hb (tgt := 75) hi21  dM_contains_60 (by decide) (fun hc => ?_) (fun hc => ?_)
        · have h := h.1 hc
          refine x_sub [1, 2, 3, 5, 6] rfl ?_
          exact tb_M_contains_75 hO ih x1 x2 x4 x5 f19 a20 h
        · have h := h.2 hc
          refine x_aload_n hx hb dM_contains_63 rfl 1 rfl ?_
          refine x_iload_n hx hb dM_contains_64 rfl 2 rfl ?_
          refine x_cVi (n := 1) (st := []) (As := [.int (iI x1)]) ⟨hx, hb, hml, hown, hts⟩ hK hN (m_M_leadsBack h) (x_cwV hts rfl rfl kcM_leadsBack knM klM_165 kiM_leadsBack keM_leadsBack ⟨by decide, by decide, by decide +kernel⟩ ⟨by decide, by decide⟩) _ (woM ad cA f19 a20) rfl hA rfl (Nat.le_of_ble_eq_true rfl) ⟨Nat.zero_le _, Nat.zero_le _⟩ rfl dM_contains_65 (fun z22 f23 a24 h => ?_)
          obtain ⟨hi25, h⟩ := h
          refine x_if_eq hx hb (tgt := 75) hi25  dM_contains_68 (by decide) (fun hc => ?_) (fun hc => ?_)
          · have h := h.1 hc
            refine x_sub [1, 2, 3, 5, 6] rfl ?_
            exact tb_M_contains_75 hO ih x1 x2 x4 x5 f23 a24 h
          · have h := h.2 hc
            refine x_iconst hx hb dM_contains_71 ?_
            refine x_goto hx hb (tgt := 76) dM_contains_72 (by decide) ?_
            refine x_sub [1, 2, 3, 5, 6] rfl ?_
            exact tb_M_contains_76 hO ih x1 x2 x4 x5 1 f23 a24 h
def wp_M_contains (post : Int → fS → aS → Prop) (x1 : Int) (x2 : Int) (f : fS) (a : aS) : Prop := wp_M_isGroup (fun z1 f2 a3 => ir z1 ∧ (((z1 = 0) → (wb_M_contains_14 post f2 a3)) ∧ (¬ (z1 = 0) → (wp_M_isGroup (fun z5 f6 a7 => ir z5 ∧ (((¬ z5 = 0) → (wp_M_elements (fun z9 f10 a11 => ∃ j, wb_M_contains_28 post j x1 x2 1 z9 0 f10 a11) x2 f6 a7)) ∧ (¬ (¬ z5 = 0) → (wb_M_contains_14 post f6 a7)))) x2 f2 a3)))) x1 f a
set_option maxHeartbeats 4000000 in
set_option maxRecDepth 100000 in
theorem m_M_contains {l : Launch} {D : va_G} {ad : Nat → Nat → Nat} {cA : Nat → Nat → ClassId} {post : Int → fS → aS → Prop} {x1 : Int} {x2 : Int} {f : fS} {a : aS} (h : wp_M_contains post x1 x2 f a) : xCI l yM_contains (Cond.code yM_contains cM_contains 7 (some .boolean) :: xG) rmM_contains D vwCl (taM cA) (MW ad cA f a) [.ref (ad 0 0), .int (iI x1), .int (iI x2)] (MW ad cA) post := by
  refine x_metI (cc := cM_contains) (nL := 7) (by decide) rfl (Nat.le_of_ble_eq_true rfl) ?_
  intro p e s m below meth c A hO
  have hO9 := hO
  obtain ⟨hx, hb, hml, hown, hts, hr, hlk, hK, hN, hA⟩ := hO9
  unfold wp_M_contains at h
  show gM_contains p l e s m _ below meth c A D ad cA post f a [(0, .ref (ad 0 0)), (1, .int (iI x1)), (2, .int (iI x2))] 0 []
  refine x_iload_n hx hb dM_contains_0 rfl 1 rfl ?_
  refine x_cSi (n := 1) (st := []) (As := [.int (iI x1)]) ⟨hx, hb, hml, hown, hts⟩ hK hN (m_M_isGroup h) (x_cwS hts rfl rfl kcM_isGroup knM klM_101 ksM_isGroup ⟨by decide, by decide, by decide +kernel⟩ ⟨by decide, by decide⟩) hA rfl (Nat.le_of_ble_eq_true rfl) ⟨Nat.zero_le _, Nat.zero_le _⟩ rfl dM_contains_1 (fun z1 f2 a3 h => ?_)
  obtain ⟨hi4, h⟩ := h
  refine x_if_eq hx hb (tgt := 14) hi4  dM_contains_4 (by decide) (fun hc => ?_) (fun hc => ?_)
  · have h := h.1 hc
    refine x_sub [] rfl ?_
    exact tb_M_contains_14 hO f2 a3 h
  · have h := h.2 hc
    refine x_iload_n hx hb dM_contains_7 rfl 2 rfl ?_
    refine x_cSi (n := 1) (st := []) (As := [.int (iI x2)]) ⟨hx, hb, hml, hown, hts⟩ hK hN (m_M_isGroup h) (x_cwS hts rfl rfl kcM_isGroup knM klM_101 ksM_isGroup ⟨by decide, by decide, by decide +kernel⟩ ⟨by decide, by decide⟩) hA rfl (Nat.le_of_ble_eq_true rfl) ⟨Nat.zero_le _, Nat.zero_le _⟩ rfl dM_contains_8 (fun z5 f6 a7 h => ?_)
    obtain ⟨hi8, h⟩ := h
    refine x_if_ne hx hb (tgt := 16) hi8  dM_contains_11 (by decide) (fun hc => ?_) (fun hc => ?_)
    · have h := h.1 hc
      refine x_iconst hx hb dM_contains_16 ?_
      refine x_istore_n hx hb dM_contains_17 rfl (by decide) (lv' := [(3, .int (iI 1)), (0, .ref (ad 0 0)), (1, .int (iI x1)), (2, .int (iI x2))]) rfl ?_
      refine x_aload_n hx hb dM_contains_18 rfl 1 rfl ?_
      refine x_iload_n hx hb dM_contains_19 rfl 3 rfl ?_
      refine x_cVi (n := 1) (st := []) (As := [.int (iI x2)]) ⟨hx, hb, hml, hown, hts⟩ hK hN (m_M_elements h) (x_cwV hts rfl rfl kcM_elements knM klM_162 kiM_elements keM_elements ⟨by decide, by decide, by decide +kernel⟩ ⟨by decide, by decide⟩) _ (woM ad cA f6 a7) rfl hA rfl (Nat.le_of_ble_eq_true rfl) ⟨Nat.zero_le _, Nat.zero_le _⟩ rfl dM_contains_20 (fun z9 f10 a11 h => ?_)
      refine x_istore hx hb dM_contains_23 (by decide) (lv' := [(4, .int (iI z9)), (3, .int (iI 1)), (0, .ref (ad 0 0)), (1, .int (iI x1)), (2, .int (iI x2))]) rfl ?_
      refine x_iconst hx hb dM_contains_25 ?_
      refine x_istore hx hb dM_contains_26 (by decide) (lv' := [(5, .int (iI 0)), (4, .int (iI z9)), (3, .int (iI 1)), (0, .ref (ad 0 0)), (1, .int (iI x1)), (2, .int (iI x2))]) rfl ?_
      obtain ⟨j, h⟩ := h
      refine x_sub [3, 4, 5, 2, 1, 0] rfl ?_
      exact tb_M_contains_28 hO j x1 x2 1 z9 0 f10 a11 h
    · have h := h.2 hc
      refine x_sub [] rfl ?_
      exact tb_M_contains_14 hO f6 a7 h
-- M_normal
abbrev rmM_normal : Room := { frames := 3, cells := 0, slots := 0, locals := 73 }
abbrev gM_normal (p : Program) (l : Launch) (e : Env) (s : State) (m : MethodId) (args : Array Value) (below : List Frame) (meth : Method) (c : Code) (A : Nat → Prop) (D : va_G) (ad : Nat → Nat → Nat) (cA : Nat → Nat → ClassId) (post : Int → fS → aS → Prop) (f : fS) (a : aS) (lv : List (Nat × Value)) (pc : Nat) (st : List Value) : Prop := xV p l e rmM_normal s m args below meth c s.heap A 0 0 (xQI below D vwCl (taM cA) (MW ad cA) post A args s) D vwCl 7 (MW ad cA f a) lv pc st
def wb_M_normal_117 (post : Int → fS → aS → Prop) (x2 : Int) (f : fS) (a : aS) : Prop := (x2 = 0 ∨ x2 = 1) ∧ post x2 f a
set_option maxHeartbeats 4000000 in
set_option maxRecDepth 100000 in
theorem tb_M_normal_117 {p : Program} {l : Launch} {e : Env} {s : State} {m : MethodId} {args : Array Value} {below : List Frame} {meth : Method} {c : Code} {A : Nat → Prop} {D : va_G} {ad : Nat → Nat → Nat} {cA : Nat → Nat → ClassId} {post : Int → fS → aS → Prop} (hO : xOk cM_normal 7 RM (Cond.code yM_normal cM_normal 7 (some .boolean) :: xG) (some .boolean) p s m args meth c A D vwCl (taM cA)) : ∀ (x2 : Int) (f : fS) (a : aS), wb_M_normal_117 post x2 f a → gM_normal p l e s m args below meth c A D ad cA post f a [(2, .int (iI x2))] 117 [] := by
  have hO9 := hO
  obtain ⟨hx, hb, hml, hown, hts, hr, hlk, hK, hN, hA⟩ := hO9
  intro x2 f a h
  unfold wb_M_normal_117 at h
  refine x_iload_n hx hb dM_normal_117 rfl 0 rfl ?_
  exact x_zret hx hb hr hlk hK dM_normal_118 h.1 h.2
def wb_M_normal_111 (post : Int → fS → aS → Prop) (k20 : Int → Int → Int → Int → fS → aS → Prop) (x1 : Int) (x2 : Int) (x3 : Int) (x4 : Int) (f : fS) (a : aS) : Prop := k20 x1 x2 x3 (x4 + 1) f a
set_option maxHeartbeats 4000000 in
set_option maxRecDepth 100000 in
theorem tb_M_normal_111 {p : Program} {l : Launch} {e : Env} {s : State} {m : MethodId} {args : Array Value} {below : List Frame} {meth : Method} {c : Code} {A : Nat → Prop} {D : va_G} {ad : Nat → Nat → Nat} {cA : Nat → Nat → ClassId} {post : Int → fS → aS → Prop} {k20 : Int → Int → Int → Int → fS → aS → Prop} (hO : xOk cM_normal 7 RM (Cond.code yM_normal cM_normal 7 (some .boolean) :: xG) (some .boolean) p s m args meth c A D vwCl (taM cA)) (hk20 : ∀ (x1 : Int) (x2 : Int) (x3 : Int) (x4 : Int) (f : fS) (a : aS), k20 x1 x2 x3 x4 f a → gM_normal p l e s m args below meth c A D ad cA post f a [(0, .ref (ad 0 0)), (1, .int (iI x1)), (2, .int (iI x2)), (3, .int (iI x3)), (4, .int (iI x4))] 20 []) : ∀ (x1 : Int) (x2 : Int) (x3 : Int) (x4 : Int) (f : fS) (a : aS), wb_M_normal_111 post k20 x1 x2 x3 x4 f a → gM_normal p l e s m args below meth c A D ad cA post f a [(0, .ref (ad 0 0)), (1, .int (iI x1)), (2, .int (iI x2)), (3, .int (iI x3)), (4, .int (iI x4))] 111 [] := by
  have hO9 := hO
  obtain ⟨hx, hb, hml, hown, hts, hr, hlk, hK, hN, hA⟩ := hO9
  intro x1 x2 x3 x4 f a h
  unfold wb_M_normal_111 at h
  refine x_iinc hx hb dM_normal_111 4 rfl (by decide) (lv' := [(4, .int (iI (x4 + 1))), (0, .ref (ad 0 0)), (1, .int (iI x1)), (2, .int (iI x2)), (3, .int (iI x3))]) rfl ?_
  refine x_goto hx hb (tgt := 20) dM_normal_114 (by decide) ?_
  refine x_sub [1, 2, 3, 4, 0] rfl ?_
  exact hk20 x1 x2 x3 (x4 + 1) f a h
def wb_M_normal_104 (post : Int → fS → aS → Prop) (k38 : Int → Int → Int → Int → Int → fS → aS → Prop) (x1 : Int) (x3 : Int) (x4 : Int) (x5 : Int) (y0 : Int) (f : fS) (a : aS) : Prop := k38 x1 y0 x3 x4 (x5 + 1) f a
set_option maxHeartbeats 4000000 in
set_option maxRecDepth 100000 in
theorem tb_M_normal_104 {p : Program} {l : Launch} {e : Env} {s : State} {m : MethodId} {args : Array Value} {below : List Frame} {meth : Method} {c : Code} {A : Nat → Prop} {D : va_G} {ad : Nat → Nat → Nat} {cA : Nat → Nat → ClassId} {post : Int → fS → aS → Prop} {k38 : Int → Int → Int → Int → Int → fS → aS → Prop} (hO : xOk cM_normal 7 RM (Cond.code yM_normal cM_normal 7 (some .boolean) :: xG) (some .boolean) p s m args meth c A D vwCl (taM cA)) (hk38 : ∀ (x1 : Int) (x2 : Int) (x3 : Int) (x4 : Int) (x5 : Int) (f : fS) (a : aS), k38 x1 x2 x3 x4 x5 f a → gM_normal p l e s m args below meth c A D ad cA post f a [(0, .ref (ad 0 0)), (1, .int (iI x1)), (2, .int (iI x2)), (3, .int (iI x3)), (4, .int (iI x4)), (5, .int (iI x5))] 38 []) : ∀ (x1 : Int) (x3 : Int) (x4 : Int) (x5 : Int) (y0 : Int) (f : fS) (a : aS), wb_M_normal_104 post k38 x1 x3 x4 x5 y0 f a → gM_normal p l e s m args below meth c A D ad cA post f a [(0, .ref (ad 0 0)), (1, .int (iI x1)), (3, .int (iI x3)), (4, .int (iI x4)), (5, .int (iI x5))] 104 [.int (iI y0)] := by
  have hO9 := hO
  obtain ⟨hx, hb, hml, hown, hts, hr, hlk, hK, hN, hA⟩ := hO9
  intro x1 x3 x4 x5 y0 f a h
  unfold wb_M_normal_104 at h
  refine x_istore_n hx hb dM_normal_104 rfl (by decide) (lv' := [(2, .int (iI y0)), (0, .ref (ad 0 0)), (1, .int (iI x1)), (3, .int (iI x3)), (4, .int (iI x4)), (5, .int (iI x5))]) rfl ?_
  refine x_iinc hx hb dM_normal_105 5 rfl (by decide) (lv' := [(5, .int (iI (x5 + 1))), (2, .int (iI y0)), (0, .ref (ad 0 0)), (1, .int (iI x1)), (3, .int (iI x3)), (4, .int (iI x4))]) rfl ?_
  refine x_goto hx hb (tgt := 38) dM_normal_108 (by decide) ?_
  refine x_sub [2, 3, 1, 4, 5, 0] rfl ?_
  exact hk38 x1 y0 x3 x4 (x5 + 1) f a h
def wb_M_normal_103 (post : Int → fS → aS → Prop) (k38 : Int → Int → Int → Int → Int → fS → aS → Prop) (x1 : Int) (x3 : Int) (x4 : Int) (x5 : Int) (f : fS) (a : aS) : Prop := wb_M_normal_104 post k38 x1 x3 x4 x5 0 f a
set_option maxHeartbeats 4000000 in
set_option maxRecDepth 100000 in
theorem tb_M_normal_103 {p : Program} {l : Launch} {e : Env} {s : State} {m : MethodId} {args : Array Value} {below : List Frame} {meth : Method} {c : Code} {A : Nat → Prop} {D : va_G} {ad : Nat → Nat → Nat} {cA : Nat → Nat → ClassId} {post : Int → fS → aS → Prop} {k38 : Int → Int → Int → Int → Int → fS → aS → Prop} (hO : xOk cM_normal 7 RM (Cond.code yM_normal cM_normal 7 (some .boolean) :: xG) (some .boolean) p s m args meth c A D vwCl (taM cA)) (hk38 : ∀ (x1 : Int) (x2 : Int) (x3 : Int) (x4 : Int) (x5 : Int) (f : fS) (a : aS), k38 x1 x2 x3 x4 x5 f a → gM_normal p l e s m args below meth c A D ad cA post f a [(0, .ref (ad 0 0)), (1, .int (iI x1)), (2, .int (iI x2)), (3, .int (iI x3)), (4, .int (iI x4)), (5, .int (iI x5))] 38 []) : ∀ (x1 : Int) (x3 : Int) (x4 : Int) (x5 : Int) (f : fS) (a : aS), wb_M_normal_103 post k38 x1 x3 x4 x5 f a → gM_normal p l e s m args below meth c A D ad cA post f a [(0, .ref (ad 0 0)), (1, .int (iI x1)), (3, .int (iI x3)), (4, .int (iI x4)), (5, .int (iI x5))] 103 [] := by
  have hO9 := hO
  obtain ⟨hx, hb, hml, hown, hts, hr, hlk, hK, hN, hA⟩ := hO9
  intro x1 x3 x4 x5 f a h
  unfold wb_M_normal_103 at h
  refine x_iconst hx hb dM_normal_103 ?_
  exact tb_M_normal_104 hO hk38 x1 x3 x4 x5 0 f a h
def wb_M_normal_38 (post : Int → fS → aS → Prop) (k20 : Int → Int → Int → Int → fS → aS → Prop) : Nat → Int → Int → Int → Int → Int → fS → aS → Prop
  | 0, _, _, _, _, _, _, _ => False
  | n + 1, x1, x2, x3, x4, x5, f, a => ir x5 ∧ (ir x3 ∧ (((x3 ≤ x5) → (wb_M_normal_111 post k20 x1 x2 x3 x4 f a)) ∧ (¬ (x3 ≤ x5) → (ir x2 ∧ (((x2 = 0) → (wb_M_normal_111 post k20 x1 x2 x3 x4 f a)) ∧ (¬ (x2 = 0) → (wp_M_find (fun z14 f15 a16 => wp_M_letterOf (fun z17 f18 a19 => wp_M_put (fun f21 a22 => wp_M_putElement (fun f24 a25 => wp_M_letterOf (fun z26 f27 a28 => wp_M_put (fun f30 a31 => ir z14 ∧ (((z14 = 0) → (wb_M_normal_103 post (wb_M_normal_38 post k20 n) x1 x3 x4 x5 f30 a31)) ∧ (¬ (z14 = 0) → (wp_M_leadsBack (fun z33 f34 a35 => ir z33 ∧ (((z33 = 0) → (wb_M_normal_103 post (wb_M_normal_38 post k20 n) x1 x3 x4 x5 f34 a35)) ∧ (¬ (z33 = 0) → (wb_M_normal_104 post (wb_M_normal_38 post k20 n) x1 x3 x4 x5 1 f34 a35)))) x1 f30 a31)))) z26 f27 a28) x4 f24 a25) x1 f21 a22) (-z17) f18 a19) x4 (setF f15 0 23 0) a16) x1 x5 f a)))))))
set_option maxHeartbeats 4000000 in
set_option maxRecDepth 100000 in
theorem tb_M_normal_38 {p : Program} {l : Launch} {e : Env} {s : State} {m : MethodId} {args : Array Value} {below : List Frame} {meth : Method} {c : Code} {A : Nat → Prop} {D : va_G} {ad : Nat → Nat → Nat} {cA : Nat → Nat → ClassId} {post : Int → fS → aS → Prop} {k20 : Int → Int → Int → Int → fS → aS → Prop} (hO : xOk cM_normal 7 RM (Cond.code yM_normal cM_normal 7 (some .boolean) :: xG) (some .boolean) p s m args meth c A D vwCl (taM cA)) (hk20 : ∀ (x1 : Int) (x2 : Int) (x3 : Int) (x4 : Int) (f : fS) (a : aS), k20 x1 x2 x3 x4 f a → gM_normal p l e s m args below meth c A D ad cA post f a [(0, .ref (ad 0 0)), (1, .int (iI x1)), (2, .int (iI x2)), (3, .int (iI x3)), (4, .int (iI x4))] 20 []) : ∀ (n : Nat) (x1 : Int) (x2 : Int) (x3 : Int) (x4 : Int) (x5 : Int) (f : fS) (a : aS), wb_M_normal_38 post k20 n x1 x2 x3 x4 x5 f a → gM_normal p l e s m args below meth c A D ad cA post f a [(0, .ref (ad 0 0)), (1, .int (iI x1)), (2, .int (iI x2)), (3, .int (iI x3)), (4, .int (iI x4)), (5, .int (iI x5))] 38 [] := by
  have hO9 := hO
  obtain ⟨hx, hb, hml, hown, hts, hr, hlk, hK, hN, hA⟩ := hO9
  intro n
  induction n with
  | zero => intro x1 x2 x3 x4 x5 f a h; exact False.elim h
  | succ n ih =>
    intro x1 x2 x3 x4 x5 f a h
    rw [wb_M_normal_38] at h
    refine x_iload hx hb dM_normal_38 5 rfl ?_
    refine x_iload_n hx hb dM_normal_40 rfl 3 rfl ?_
    obtain ⟨hi11, h⟩ := h
    obtain ⟨hi12, h⟩ := h
    refine x_icmp_ge hx hb (tgt := 111) hi11 hi12 dM_normal_41 (by decide) (fun hc => ?_) (fun hc => ?_)
    · have h := h.1 hc
      refine x_sub [0, 1, 2, 3, 4] rfl ?_
      exact tb_M_normal_111 hO hk20 x1 x2 x3 x4 f a h
    · have h := h.2 hc
      refine x_iload_n hx hb dM_normal_44 rfl 2 rfl ?_
      obtain ⟨hi13, h⟩ := h
      refine x_if_eq hx hb (tgt := 111) hi13  dM_normal_45 (by decide) (fun hc => ?_) (fun hc => ?_)
      · have h := h.1 hc
        refine x_sub [0, 1, 2, 3, 4] rfl ?_
        exact tb_M_normal_111 hO hk20 x1 x2 x3 x4 f a h
      · have h := h.2 hc
        refine x_aload_n hx hb dM_normal_48 rfl 0 rfl ?_
        refine x_iload_n hx hb dM_normal_49 rfl 1 rfl ?_
        refine x_iload hx hb dM_normal_50 5 rfl ?_
        refine x_cVi (n := 2) (st := []) (As := [.int (iI x1), .int (iI x5)]) ⟨hx, hb, hml, hown, hts⟩ hK hN (m_M_find h) (x_cwV hts rfl rfl kcM_find knM klM_155 kiM_find keM_find ⟨by decide, by decide, by decide +kernel⟩ ⟨by decide, by decide⟩) _ (woM ad cA f a) rfl hA rfl (Nat.le_of_ble_eq_true rfl) ⟨Nat.zero_le _, Nat.zero_le _⟩ rfl dM_normal_52 (fun z14 f15 a16 h => ?_)
        refine x_istore hx hb dM_normal_55 (by decide) (lv' := [(6, .int (iI z14)), (0, .ref (ad 0 0)), (1, .int (iI x1)), (2, .int (iI x2)), (3, .int (iI x3)), (4, .int (iI x4)), (5, .int (iI x5))]) rfl ?_
        refine x_aload_n hx hb dM_normal_57 rfl 1 rfl ?_
        refine x_iconst hx hb dM_normal_58 ?_
        refine x_put hx hb hts (jnM _) tyM tkM nmM hown hK _ (woM ad cA f15 a16) rfl 23 (by decide) (hts _ (List.mem_cons_of_mem _ kfM_146)) (fun _ h9 => h9) rfl (by decide +kernel) (Nat.le_of_ble_eq_true rfl) dM_normal_59 (wf23M ad cA f15 a16 0) ?_
        refine x_aload_n hx hb dM_normal_62 rfl 1 rfl ?_
        refine x_iload hx hb dM_normal_63 5 rfl ?_
        refine x_cSi (n := 1) (st := [.ref (ad 0 0)]) (As := [.int (iI x4)]) ⟨hx, hb, hml, hown, hts⟩ hK hN (m_M_letterOf h) (x_cwS hts rfl rfl kcM_letterOf knM klM_124 ksM_letterOf ⟨by decide, by decide, by decide +kernel⟩ ⟨by decide, by decide⟩) hA rfl (Nat.le_of_ble_eq_true rfl) ⟨Nat.zero_le _, Nat.zero_le _⟩ rfl dM_normal_65 (fun z17 f18 a19 h => ?_)
        refine x_ineg hx hb dM_normal_68 ?_
        refine x_cVv (n := 1) (st := []) (As := [.int (iI (-z17))]) ⟨hx, hb, hml, hown, hts⟩ hK hN (m_M_put h) (x_cwV hts rfl rfl kcM_put knM klM_149 kiM_put keM_put ⟨by decide, by decide, by decide +kernel⟩ ⟨by decide, by decide⟩) _ (woM ad cA f18 a19) rfl hA rfl (Nat.le_of_ble_eq_true rfl) ⟨Nat.zero_le _, Nat.zero_le _⟩ rfl dM_normal_69 (fun f21 a22 h => ?_)
        refine x_aload_n hx hb dM_normal_72 rfl 1 rfl ?_
        refine x_iload_n hx hb dM_normal_73 rfl 2 rfl ?_
        refine x_cVv (n := 1) (st := []) (As := [.int (iI x1)]) ⟨hx, hb, hml, hown, hts⟩ hK hN (m_M_putElement h) (x_cwV hts rfl rfl kcM_putElement knM klM_159 kiM_putElement keM_putElement ⟨by decide, by decide, by decide +kernel⟩ ⟨by decide, by decide⟩) _ (woM ad cA f21 a22) rfl hA rfl (Nat.le_of_ble_eq_true rfl) ⟨Nat.zero_le _, Nat.zero_le _⟩ rfl dM_normal_74 (fun f24 a25 h => ?_)
        refine x_aload_n hx hb dM_normal_77 rfl 1 rfl ?_
        refine x_iload hx hb dM_normal_78 5 rfl ?_
        refine x_cSi (n := 1) (st := [.ref (ad 0 0)]) (As := [.int (iI x4)]) ⟨hx, hb, hml, hown, hts⟩ hK hN (m_M_letterOf h) (x_cwS hts rfl rfl kcM_letterOf knM klM_124 ksM_letterOf ⟨by decide, by decide, by decide +kernel⟩ ⟨by decide, by decide⟩) hA rfl (Nat.le_of_ble_eq_true rfl) ⟨Nat.zero_le _, Nat.zero_le _⟩ rfl dM_normal_80 (fun z26 f27 a28 h => ?_)
        refine x_cVv (n := 1) (st := []) (As := [.int (iI z26)]) ⟨hx, hb, hml, hown, hts⟩ hK hN (m_M_put h) (x_cwV hts rfl rfl kcM_put knM klM_149 kiM_put keM_put ⟨by decide, by decide, by decide +kernel⟩ ⟨by decide, by decide⟩) _ (woM ad cA f27 a28) rfl hA rfl (Nat.le_of_ble_eq_true rfl) ⟨Nat.zero_le _, Nat.zero_le _⟩ rfl dM_normal_83 (fun f30 a31 h => ?_)
        refine x_iload hx hb dM_normal_86 0 rfl ?_
        obtain ⟨hi32, h⟩ := h
        refine x_if_eq hx hb (tgt := 103) hi32  dM_normal_88 (by decide) (fun hc => ?_) (fun hc => ?_)
        · have h := h.1 hc
          refine x_sub [1, 2, 4, 5, 6] rfl ?_
          exact tb_M_normal_103 hO ih x1 x3 x4 x5 f30 a31 h
        · have h := h.2 hc
          refine x_aload_n hx hb dM_normal_91 rfl 1 rfl ?_
          refine x_iload_n hx hb dM_normal_92 rfl 2 rfl ?_
          refine x_cVi (n := 1) (st := []) (As := [.int (iI x1)]) ⟨hx, hb, hml, hown, hts⟩ hK hN (m_M_leadsBack h) (x_cwV hts rfl rfl kcM_leadsBack knM klM_165 kiM_leadsBack keM_leadsBack ⟨by decide, by decide, by decide +kernel⟩ ⟨by decide, by decide⟩) _ (woM ad cA f30 a31) rfl hA rfl (Nat.le_of_ble_eq_true rfl) ⟨Nat.zero_le _, Nat.zero_le _⟩ rfl dM_normal_93 (fun z33 f34 a35 h => ?_)
          obtain ⟨hi36, h⟩ := h
          refine x_if_eq hx hb (tgt := 103) hi36  dM_normal_96 (by decide) (fun hc => ?_) (fun hc => ?_)
          · have h := h.1 hc
            refine x_sub [1, 2, 4, 5, 6] rfl ?_
            exact tb_M_normal_103 hO ih x1 x3 x4 x5 f34 a35 h
          · have h := h.2 hc
            refine x_iconst hx hb dM_normal_99 ?_
            refine x_goto hx hb (tgt := 104) dM_normal_100 (by decide) ?_
            refine x_sub [1, 2, 4, 5, 6] rfl ?_
            exact tb_M_normal_104 hO ih x1 x3 x4 x5 1 f34 a35 h
def wb_M_normal_20 (post : Int → fS → aS → Prop) : Nat → Int → Int → Int → Int → fS → aS → Prop
  | 0, _, _, _, _, _, _ => False
  | n + 1, x1, x2, x3, x4, f, a => ir x4 ∧ (ir (2 * (f 0 0)) ∧ (((2 * (f 0 0) ≤ x4) → (wb_M_normal_117 post x2 f a)) ∧ (¬ (2 * (f 0 0) ≤ x4) → (ir x2 ∧ (((x2 = 0) → (wb_M_normal_117 post x2 f a)) ∧ (¬ (x2 = 0) → (∃ j, wb_M_normal_38 post (wb_M_normal_20 post n) j x1 x2 x3 x4 0 f a)))))))
set_option maxHeartbeats 4000000 in
set_option maxRecDepth 100000 in
theorem tb_M_normal_20 {p : Program} {l : Launch} {e : Env} {s : State} {m : MethodId} {args : Array Value} {below : List Frame} {meth : Method} {c : Code} {A : Nat → Prop} {D : va_G} {ad : Nat → Nat → Nat} {cA : Nat → Nat → ClassId} {post : Int → fS → aS → Prop} (hO : xOk cM_normal 7 RM (Cond.code yM_normal cM_normal 7 (some .boolean) :: xG) (some .boolean) p s m args meth c A D vwCl (taM cA)) : ∀ (n : Nat) (x1 : Int) (x2 : Int) (x3 : Int) (x4 : Int) (f : fS) (a : aS), wb_M_normal_20 post n x1 x2 x3 x4 f a → gM_normal p l e s m args below meth c A D ad cA post f a [(0, .ref (ad 0 0)), (1, .int (iI x1)), (2, .int (iI x2)), (3, .int (iI x3)), (4, .int (iI x4))] 20 [] := by
  have hO9 := hO
  obtain ⟨hx, hb, hml, hown, hts, hr, hlk, hK, hN, hA⟩ := hO9
  intro n
  induction n with
  | zero => intro x1 x2 x3 x4 f a h; exact False.elim h
  | succ n ih =>
    intro x1 x2 x3 x4 f a h
    rw [wb_M_normal_20] at h
    refine x_iload hx hb dM_normal_20 4 rfl ?_
    refine x_iconst hx hb dM_normal_22 ?_
    refine x_aload_n hx hb dM_normal_23 rfl 0 rfl ?_
    refine x_get hx hb hts (jnM _) hown hK _ (woM ad cA f a) rfl 0 (by decide) (hts _ (List.mem_cons_of_mem _ kfM_58)) (fun _ h9 => h9) (v := .int (iI (f 0 0))) (by rfl) dM_normal_24 ?_
    refine x_imul hx hb dM_normal_27 ?_
    obtain ⟨hi8, h⟩ := h
    obtain ⟨hi9, h⟩ := h
    refine x_icmp_ge hx hb (tgt := 117) hi8 hi9 dM_normal_28 (by decide) (fun hc => ?_) (fun hc => ?_)
    · have h := h.1 hc
      refine x_sub [2] rfl ?_
      exact tb_M_normal_117 hO x2 f a h
    · have h := h.2 hc
      refine x_iload_n hx hb dM_normal_31 rfl 2 rfl ?_
      obtain ⟨hi10, h⟩ := h
      refine x_if_eq hx hb (tgt := 117) hi10  dM_normal_32 (by decide) (fun hc => ?_) (fun hc => ?_)
      · have h := h.1 hc
        refine x_sub [2] rfl ?_
        exact tb_M_normal_117 hO x2 f a h
      · have h := h.2 hc
        refine x_iconst hx hb dM_normal_35 ?_
        refine x_istore hx hb dM_normal_36 (by decide) (lv' := [(5, .int (iI 0)), (0, .ref (ad 0 0)), (1, .int (iI x1)), (2, .int (iI x2)), (3, .int (iI x3)), (4, .int (iI x4))]) rfl ?_
        obtain ⟨j, h⟩ := h
        refine x_sub [1, 2, 3, 4, 5, 0] rfl ?_
        exact tb_M_normal_38 hO ih j x1 x2 x3 x4 0 f a h
def wp_M_normal (post : Int → fS → aS → Prop) (x1 : Int) (f : fS) (a : aS) : Prop := wp_M_isGroup (fun z1 f2 a3 => ir z1 ∧ (((¬ z1 = 0) → (wp_M_elements (fun z5 f6 a7 => ∃ j, wb_M_normal_20 post j x1 1 z5 0 f6 a7) x1 f2 a3)) ∧ (¬ (¬ z1 = 0) → (post 0 f2 a3)))) x1 f a
set_option maxHeartbeats 4000000 in
set_option maxRecDepth 100000 in
theorem m_M_normal {l : Launch} {D : va_G} {ad : Nat → Nat → Nat} {cA : Nat → Nat → ClassId} {post : Int → fS → aS → Prop} {x1 : Int} {f : fS} {a : aS} (h : wp_M_normal post x1 f a) : xCI l yM_normal (Cond.code yM_normal cM_normal 7 (some .boolean) :: xG) rmM_normal D vwCl (taM cA) (MW ad cA f a) [.ref (ad 0 0), .int (iI x1)] (MW ad cA) post := by
  refine x_metI (cc := cM_normal) (nL := 7) (by decide) rfl (Nat.le_of_ble_eq_true rfl) ?_
  intro p e s m below meth c A hO
  have hO9 := hO
  obtain ⟨hx, hb, hml, hown, hts, hr, hlk, hK, hN, hA⟩ := hO9
  unfold wp_M_normal at h
  show gM_normal p l e s m _ below meth c A D ad cA post f a [(0, .ref (ad 0 0)), (1, .int (iI x1))] 0 []
  refine x_iload_n hx hb dM_normal_0 rfl 1 rfl ?_
  refine x_cSi (n := 1) (st := []) (As := [.int (iI x1)]) ⟨hx, hb, hml, hown, hts⟩ hK hN (m_M_isGroup h) (x_cwS hts rfl rfl kcM_isGroup knM klM_101 ksM_isGroup ⟨by decide, by decide, by decide +kernel⟩ ⟨by decide, by decide⟩) hA rfl (Nat.le_of_ble_eq_true rfl) ⟨Nat.zero_le _, Nat.zero_le _⟩ rfl dM_normal_1 (fun z1 f2 a3 h => ?_)
  obtain ⟨hi4, h⟩ := h
  refine x_if_ne hx hb (tgt := 9) hi4  dM_normal_4 (by decide) (fun hc => ?_) (fun hc => ?_)
  · have h := h.1 hc
    refine x_iconst hx hb dM_normal_9 ?_
    refine x_istore_n hx hb dM_normal_10 rfl (by decide) (lv' := [(2, .int (iI 1)), (0, .ref (ad 0 0)), (1, .int (iI x1))]) rfl ?_
    refine x_aload_n hx hb dM_normal_11 rfl 1 rfl ?_
    refine x_iload_n hx hb dM_normal_12 rfl 2 rfl ?_
    refine x_cVi (n := 1) (st := []) (As := [.int (iI x1)]) ⟨hx, hb, hml, hown, hts⟩ hK hN (m_M_elements h) (x_cwV hts rfl rfl kcM_elements knM klM_162 kiM_elements keM_elements ⟨by decide, by decide, by decide +kernel⟩ ⟨by decide, by decide⟩) _ (woM ad cA f2 a3) rfl hA rfl (Nat.le_of_ble_eq_true rfl) ⟨Nat.zero_le _, Nat.zero_le _⟩ rfl dM_normal_13 (fun z5 f6 a7 h => ?_)
    refine x_istore_n hx hb dM_normal_16 rfl (by decide) (lv' := [(3, .int (iI z5)), (2, .int (iI 1)), (0, .ref (ad 0 0)), (1, .int (iI x1))]) rfl ?_
    refine x_iconst hx hb dM_normal_17 ?_
    refine x_istore hx hb dM_normal_18 (by decide) (lv' := [(4, .int (iI 0)), (3, .int (iI z5)), (2, .int (iI 1)), (0, .ref (ad 0 0)), (1, .int (iI x1))]) rfl ?_
    obtain ⟨j, h⟩ := h
    refine x_sub [3, 4, 2, 1, 0] rfl ?_
    exact tb_M_normal_20 hO j x1 1 z5 0 f6 a7 h
  · have h := h.2 hc
    refine x_iconst hx hb dM_normal_7 ?_
    exact x_zret hx hb hr hlk hK dM_normal_8 (by decide) h
