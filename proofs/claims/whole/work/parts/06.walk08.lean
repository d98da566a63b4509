-- M_generate
abbrev rmM_generate : Room := { frames := 3, cells := 0, slots := 0, locals := 72 }
abbrev gM_generate (p : Program) (l : Launch) (e : Env) (s : State) (m : MethodId) (args : Array Value) (below : List Frame) (meth : Method) (c : Code) (A : Nat → Prop) (D : va_G) (ad : Nat → Nat → Nat) (cA : Nat → Nat → ClassId) (post : Int → fS → aS → Prop) (f : fS) (a : aS) (lv : List (Nat × Value)) (pc : Nat) (st : List Value) : Prop := xV p l e rmM_generate s m args below meth c s.heap A 0 0 (xQI below D vwCl (taM cA) (MW ad cA) post A args s) D vwCl 4 (MW ad cA f a) lv pc st
def wb_M_generate_115 (post : Int → fS → aS → Prop) (k70 : Int → Int → Int → fS → aS → Prop) (x1 : Int) (x2 : Int) (x3 : Int) (y1 : Int) (y2 : Int) (y3 : Int) (f : fS) (a : aS) : Prop := wp_M_addEdge (fun f28 a29 => k70 x1 x2 (x3 + 1) f28 a29) y1 y2 y3 f a
set_option maxHeartbeats 4000000 in
set_option maxRecDepth 100000 in
theorem tb_M_generate_115 {p : Program} {l : Launch} {e : Env} {s : State} {m : MethodId} {args : Array Value} {below : List Frame} {meth : Method} {c : Code} {A : Nat → Prop} {D : va_G} {ad : Nat → Nat → Nat} {cA : Nat → Nat → ClassId} {post : Int → fS → aS → Prop} {k70 : Int → Int → Int → fS → aS → Prop} (hO : xOk cM_generate 4 RM (Cond.code yM_generate cM_generate 4 (some .int) :: xG) (some .int) p s m args meth c A D vwCl (taM cA)) (hk70 : ∀ (x1 : Int) (x2 : Int) (x3 : Int) (f : fS) (a : aS), k70 x1 x2 x3 f a → gM_generate p l e s m args below meth c A D ad cA post f a [(0, .ref (ad 0 0)), (1, .int (iI x1)), (2, .int (iI x2)), (3, .int (iI x3))] 70 []) : ∀ (x1 : Int) (x2 : Int) (x3 : Int) (y1 : Int) (y2 : Int) (y3 : Int) (f : fS) (a : aS), wb_M_generate_115 post k70 x1 x2 x3 y1 y2 y3 f a → gM_generate p l e s m args below meth c A D ad cA post f a [(0, .ref (ad 0 0)), (1, .int (iI x1)), (2, .int (iI x2)), (3, .int (iI x3))] 115 [.int (iI y3), .int (iI y2), .int (iI y1), .ref (ad 0 0)] := by
  have hO9 := hO
  obtain ⟨hx, hb, hml, hown, hts, hr, hlk, hK, hN, hA⟩ := hO9
  intro x1 x2 x3 y1 y2 y3 f a h
  unfold wb_M_generate_115 at h
  refine x_cVv (n := 3) (st := []) (As := [.int (iI y1), .int (iI y2), .int (iI y3)]) ⟨hx, hb, hml, hown, hts⟩ hK hN (m_M_addEdge h) (x_cwV hts rfl rfl kcM_addEdge knM klM_86 kiM_addEdge keM_addEdge ⟨by decide, by decide, by decide +kernel⟩ ⟨by decide, by decide⟩) _ (woM ad cA f a) rfl hA rfl (Nat.le_of_ble_eq_true rfl) ⟨Nat.zero_le _, Nat.zero_le _⟩ rfl dM_generate_115 (fun f28 a29 h => ?_)
  refine x_iinc hx hb dM_generate_118 3 rfl (by decide) (lv' := [(3, .int (iI (x3 + 1))), (0, .ref (ad 0 0)), (1, .int (iI x1)), (2, .int (iI x2))]) rfl ?_
  refine x_goto hx hb (tgt := 70) dM_generate_121 (by decide) ?_
  refine x_sub [1, 2, 3, 0] rfl ?_
  exact hk70 x1 x2 (x3 + 1) f28 a29 h
def wb_M_generate_92 (post : Int → fS → aS → Prop) (k70 : Int → Int → Int → fS → aS → Prop) (x1 : Int) (x2 : Int) (x3 : Int) (y1 : Int) (f : fS) (a : aS) : Prop := (0 ≤ x3 ∧ x3 < 24) ∧ (ir x3 ∧ (ir ((f 0 1) - 1) ∧ (((¬ x3 = (f 0 1) - 1) → (wb_M_generate_115 post k70 x1 x2 x3 y1 (a 0 2 (Int.toNat x3)) (x2 + x3) f a)) ∧ (¬ (¬ x3 = (f 0 1) - 1) → (wb_M_generate_115 post k70 x1 x2 x3 y1 (a 0 2 (Int.toNat x3)) 0 f a)))))
set_option maxHeartbeats 4000000 in
set_option maxRecDepth 100000 in
theorem tb_M_generate_92 {p : Program} {l : Launch} {e : Env} {s : State} {m : MethodId} {args : Array Value} {below : List Frame} {meth : Method} {c : Code} {A : Nat → Prop} {D : va_G} {ad : Nat → Nat → Nat} {cA : Nat → Nat → ClassId} {post : Int → fS → aS → Prop} {k70 : Int → Int → Int → fS → aS → Prop} (hO : xOk cM_generate 4 RM (Cond.code yM_generate cM_generate 4 (some .int) :: xG) (some .int) p s m args meth c A D vwCl (taM cA)) (hk70 : ∀ (x1 : Int) (x2 : Int) (x3 : Int) (f : fS) (a : aS), k70 x1 x2 x3 f a → gM_generate p l e s m args below meth c A D ad cA post f a [(0, .ref (ad 0 0)), (1, .int (iI x1)), (2, .int (iI x2)), (3, .int (iI x3))] 70 []) : ∀ (x1 : Int) (x2 : Int) (x3 : Int) (y1 : Int) (f : fS) (a : aS), wb_M_generate_92 post k70 x1 x2 x3 y1 f a → gM_generate p l e s m args below meth c A D ad cA post f a [(0, .ref (ad 0 0)), (1, .int (iI x1)), (2, .int (iI x2)), (3, .int (iI x3))] 92 [.int (iI y1), .ref (ad 0 0)] := by
  have hO9 := hO
  obtain ⟨hx, hb, hml, hown, hts, hr, hlk, hK, hN, hA⟩ := hO9
  intro x1 x2 x3 y1 f a h
  unfold wb_M_generate_92 at h
  refine x_aload_n hx hb dM_generate_92 rfl 0 rfl ?_
  refine x_get hx hb hts (jnM _) hown hK _ (woM ad cA f a) rfl 2 (by decide) (hts _ (List.mem_cons_of_mem _ kfM_7)) (fun _ h9 => h9) (v := .ref (ad 0 3)) (by rfl) dM_generate_93 ?_
  refine x_iload_n hx hb dM_generate_96 rfl 3 rfl ?_
  obtain ⟨hj24, h⟩ := h
  refine x_iald hx hb hK _ _ (wa2M ad cA f a) (wt2M cA) hj24.1 hj24.2 (by decide) dM_generate_97 ?_
  refine x_iload_n hx hb dM_generate_98 rfl 3 rfl ?_
  refine x_aload_n hx hb dM_generate_99 rfl 0 rfl ?_
  refine x_get hx hb hts (jnM _) hown hK _ (woM ad cA f a) rfl 1 (by decide) (hts _ (List.mem_cons_of_mem _ kfM_66)) (fun _ h9 => h9) (v := .int (iI (f 0 1))) (by rfl) dM_generate_100 ?_
  refine x_iconst hx hb dM_generate_103 ?_
  refine x_isub hx hb dM_generate_104 ?_
  obtain ⟨hi25, h⟩ := h
  obtain ⟨hi26, h⟩ := h
  refine x_icmp_ne hx hb (tgt := 112) hi25 hi26 dM_generate_105 (by decide) (fun hc => ?_) (fun hc => ?_)
  · have h := h.1 hc
    refine x_iload_n hx hb dM_generate_112 rfl 2 rfl ?_
    refine x_iload_n hx hb dM_generate_113 rfl 3 rfl ?_
    refine x_iadd hx hb dM_generate_114 ?_
    exact tb_M_generate_115 hO hk70 x1 x2 x3 y1 (a 0 2 (Int.toNat x3)) (x2 + x3) f a h
  · have h := h.2 hc
    refine x_iconst hx hb dM_generate_108 ?_
    refine x_goto hx hb (tgt := 115) dM_generate_109 (by decide) ?_
    exact tb_M_generate_115 hO hk70 x1 x2 x3 y1 (a 0 2 (Int.toNat x3)) 0 f a h
def wb_M_generate_70 (post : Int → fS → aS → Prop) : Nat → Int → Int → Int → fS → aS → Prop
  | 0, _, _, _, _, _ => False
  | n + 1, x1, x2, x3, f, a => ir x3 ∧ (ir (f 0 1) ∧ (((f 0 1 ≤ x3) → (wp_M_fold (fun f19 a20 => wp_M_settle (fun z21 f22 a23 => post z21 f22 a23) x1 f19 a20)  f a)) ∧ (¬ (f 0 1 ≤ x3) → (((¬ x3 = 0) → (wb_M_generate_92 post (wb_M_generate_70 post n) x1 x2 x3 ((x2 + x3) - 1) f a)) ∧ (¬ (¬ x3 = 0) → (wb_M_generate_92 post (wb_M_generate_70 post n) x1 x2 x3 0 f a))))))
set_option maxHeartbeats 4000000 in
set_option maxRecDepth 100000 in
theorem tb_M_generate_70 {p : Program} {l : Launch} {e : Env} {s : State} {m : MethodId} {args : Array Value} {below : List Frame} {meth : Method} {c : Code} {A : Nat → Prop} {D : va_G} {ad : Nat → Nat → Nat} {cA : Nat → Nat → ClassId} {post : Int → fS → aS → Prop} (hO : xOk cM_generate 4 RM (Cond.code yM_generate cM_generate 4 (some .int) :: xG) (some .int) p s m args meth c A D vwCl (taM cA)) : ∀ (n : Nat) (x1 : Int) (x2 : Int) (x3 : Int) (f : fS) (a : aS), wb_M_generate_70 post n x1 x2 x3 f a → gM_generate p l e s m args below meth c A D ad cA post f a [(0, .ref (ad 0 0)), (1, .int (iI x1)), (2, .int (iI x2)), (3, .int (iI x3))] 70 [] := by
  have hO9 := hO
  obtain ⟨hx, hb, hml, hown, hts, hr, hlk, hK, hN, hA⟩ := hO9
  intro n
  induction n with
  | zero => intro x1 x2 x3 f a h; exact False.elim h
  | succ n ih =>
    intro x1 x2 x3 f a h
    rw [wb_M_generate_70] at h
    refine x_iload_n hx hb dM_generate_70 rfl 3 rfl ?_
    refine x_aload_n hx hb dM_generate_71 rfl 0 rfl ?_
    refine x_get hx hb hts (jnM _) hown hK _ (woM ad cA f a) rfl 1 (by decide) (hts _ (List.mem_cons_of_mem _ kfM_66)) (fun _ h9 => h9) (v := .int (iI (f 0 1))) (by rfl) dM_generate_72 ?_
    obtain ⟨hi16, h⟩ := h
    obtain ⟨hi17, h⟩ := h
    refine x_icmp_ge hx hb (tgt := 124) hi16 hi17 dM_generate_75 (by decide) (fun hc => ?_) (fun hc => ?_)
    · have h := h.1 hc
      refine x_aload_n hx hb dM_generate_124 rfl 0 rfl ?_
      refine x_cVv (n := 0) (st := []) (As := []) ⟨hx, hb, hml, hown, hts⟩ hK hN (m_M_fold h) (x_cwV hts rfl rfl kcM_fold knM klM_111 kiM_fold keM_fold ⟨by decide, by decide, by decide +kernel⟩ ⟨by decide, by decide⟩) _ (woM ad cA f a) rfl hA rfl (Nat.le_of_ble_eq_true rfl) ⟨Nat.zero_le _, Nat.zero_le _⟩ rfl dM_generate_125 (fun f19 a20 h => ?_)
      refine x_aload_n hx hb dM_generate_128 rfl 0 rfl ?_
      refine x_iload_n hx hb dM_generate_129 rfl 1 rfl ?_
      refine x_cVi (n := 1) (st := []) (As := [.int (iI x1)]) ⟨hx, hb, hml, hown, hts⟩ hK hN (m_M_settle h) (x_cwV hts rfl rfl kcM_settle knM klM_114 kiM_settle keM_settle ⟨by decide, by decide, by decide +kernel⟩ ⟨by decide, by decide⟩) _ (woM ad cA f19 a20) rfl hA rfl (Nat.le_of_ble_eq_true rfl) ⟨Nat.zero_le _, Nat.zero_le _⟩ rfl dM_generate_130 (fun z21 f22 a23 h => ?_)
      exact x_iret hx hb hr hlk hK dM_generate_133 h
    · have h := h.2 hc
      refine x_aload_n hx hb dM_generate_78 rfl 0 rfl ?_
      refine x_iload_n hx hb dM_generate_79 rfl 3 rfl ?_
      refine x_if_ne hx hb (tgt := 87) hi16  dM_generate_80 (by decide) (fun hc => ?_) (fun hc => ?_)
      · have h := h.1 hc
        refine x_iload_n hx hb dM_generate_87 rfl 2 rfl ?_
        refine x_iload_n hx hb dM_generate_88 rfl 3 rfl ?_
        refine x_iadd hx hb dM_generate_89 ?_
        refine x_iconst hx hb dM_generate_90 ?_
        refine x_isub hx hb dM_generate_91 ?_
        exact tb_M_generate_92 hO ih x1 x2 x3 ((x2 + x3) - 1) f a h
      · have h := h.2 hc
        refine x_iconst hx hb dM_generate_83 ?_
        refine x_goto hx hb (tgt := 92) dM_generate_84 (by decide) ?_
        exact tb_M_generate_92 hO ih x1 x2 x3 0 f a h
def wb_M_generate_59 (post : Int → fS → aS → Prop) (x1 : Int) (x2 : Int) (y1 : Int) (f : fS) (a : aS) : Prop := wp_M_begin (fun f11 a12 => wp_M_addCopy (fun f14 a15 => ∃ j, wb_M_generate_70 post j x1 x2 0 f14 a15) x1 0 f11 a12) y1 f a
set_option maxHeartbeats 4000000 in
set_option maxRecDepth 100000 in
theorem tb_M_generate_59 {p : Program} {l : Launch} {e : Env} {s : State} {m : MethodId} {args : Array Value} {below : List Frame} {meth : Method} {c : Code} {A : Nat → Prop} {D : va_G} {ad : Nat → Nat → Nat} {cA : Nat → Nat → ClassId} {post : Int → fS → aS → Prop} (hO : xOk cM_generate 4 RM (Cond.code yM_generate cM_generate 4 (some .int) :: xG) (some .int) p s m args meth c A D vwCl (taM cA)) : ∀ (x1 : Int) (x2 : Int) (y1 : Int) (f : fS) (a : aS), wb_M_generate_59 post x1 x2 y1 f a → gM_generate p l e s m args below meth c A D ad cA post f a [(0, .ref (ad 0 0)), (1, .int (iI x1)), (2, .int (iI x2))] 59 [.int (iI y1), .ref (ad 0 0)] := by
  have hO9 := hO
  obtain ⟨hx, hb, hml, hown, hts, hr, hlk, hK, hN, hA⟩ := hO9
  intro x1 x2 y1 f a h
  unfold wb_M_generate_59 at h
  refine x_cVv (n := 1) (st := []) (As := [.int (iI y1)]) ⟨hx, hb, hml, hown, hts⟩ hK hN (m_M_begin h) (x_cwV hts rfl rfl kcM_begin knM klM_104 kiM_begin keM_begin ⟨by decide, by decide, by decide +kernel⟩ ⟨by decide, by decide⟩) _ (woM ad cA f a) rfl hA rfl (Nat.le_of_ble_eq_true rfl) ⟨Nat.zero_le _, Nat.zero_le _⟩ rfl dM_generate_59 (fun f11 a12 h => ?_)
  refine x_aload_n hx hb dM_generate_62 rfl 0 rfl ?_
  refine x_iload_n hx hb dM_generate_63 rfl 1 rfl ?_
  refine x_iconst hx hb dM_generate_64 ?_
  refine x_cVv (n := 2) (st := []) (As := [.int (iI x1), .int (iI 0)]) ⟨hx, hb, hml, hown, hts⟩ hK hN (m_M_addCopy h) (x_cwV hts rfl rfl kcM_addCopy knM klM_108 kiM_addCopy keM_addCopy ⟨by decide, by decide, by decide +kernel⟩ ⟨by decide, by decide⟩) _ (woM ad cA f11 a12) rfl hA rfl (Nat.le_of_ble_eq_true rfl) ⟨Nat.zero_le _, Nat.zero_le _⟩ rfl dM_generate_65 (fun f14 a15 h => ?_)
  refine x_iconst hx hb dM_generate_68 ?_
  refine x_istore_n hx hb dM_generate_69 rfl (by decide) (lv' := [(3, .int (iI 0)), (0, .ref (ad 0 0)), (1, .int (iI x1)), (2, .int (iI x2))]) rfl ?_
  obtain ⟨j, h⟩ := h
  refine x_sub [1, 2, 3, 0] rfl ?_
  exact tb_M_generate_70 hO j x1 x2 0 f14 a15 h
def wb_M_generate_39 (post : Int → fS → aS → Prop) (x1 : Int) (x2 : Int) (f : fS) (a : aS) : Prop := ir (f 0 1) ∧ (((f 0 1 ≤ 0) → (wb_M_generate_59 post x1 x2 x2 f a)) ∧ (¬ (f 0 1 ≤ 0) → (wb_M_generate_59 post x1 x2 ((x2 + (f 0 1)) - 1) f a)))
set_option maxHeartbeats 4000000 in
set_option maxRecDepth 100000 in
theorem tb_M_generate_39 {p : Program} {l : Launch} {e : Env} {s : State} {m : MethodId} {args : Array Value} {below : List Frame} {meth : Method} {c : Code} {A : Nat → Prop} {D : va_G} {ad : Nat → Nat → Nat} {cA : Nat → Nat → ClassId} {post : Int → fS → aS → Prop} (hO : xOk cM_generate 4 RM (Cond.code yM_generate cM_generate 4 (some .int) :: xG) (some .int) p s m args meth c A D vwCl (taM cA)) : ∀ (x1 : Int) (x2 : Int) (f : fS) (a : aS), wb_M_generate_39 post x1 x2 f a → gM_generate p l e s m args below meth c A D ad cA post f a [(0, .ref (ad 0 0)), (1, .int (iI x1)), (2, .int (iI x2))] 39 [] := by
  have hO9 := hO
  obtain ⟨hx, hb, hml, hown, hts, hr, hlk, hK, hN, hA⟩ := hO9
  intro x1 x2 f a h
  unfold wb_M_generate_39 at h
  refine x_aload_n hx hb dM_generate_39 rfl 0 rfl ?_
  refine x_aload_n hx hb dM_generate_40 rfl 0 rfl ?_
  refine x_get hx hb hts (jnM _) hown hK _ (woM ad cA f a) rfl 1 (by decide) (hts _ (List.mem_cons_of_mem _ kfM_66)) (fun _ h9 => h9) (v := .int (iI (f 0 1))) (by rfl) dM_generate_41 ?_
  obtain ⟨hi9, h⟩ := h
  refine x_if_le hx hb (tgt := 58) hi9  dM_generate_44 (by decide) (fun hc => ?_) (fun hc => ?_)
  · have h := h.1 hc
    refine x_iload_n hx hb dM_generate_58 rfl 2 rfl ?_
    exact tb_M_generate_59 hO x1 x2 x2 f a h
  · have h := h.2 hc
    refine x_iload_n hx hb dM_generate_47 rfl 2 rfl ?_
    refine x_aload_n hx hb dM_generate_48 rfl 0 rfl ?_
    refine x_get hx hb hts (jnM _) hown hK _ (woM ad cA f a) rfl 1 (by decide) (hts _ (List.mem_cons_of_mem _ kfM_66)) (fun _ h9 => h9) (v := .int (iI (f 0 1))) (by rfl) dM_generate_49 ?_
    refine x_iadd hx hb dM_generate_52 ?_
    refine x_iconst hx hb dM_generate_53 ?_
    refine x_isub hx hb dM_generate_54 ?_
    refine x_goto hx hb (tgt := 59) dM_generate_55 (by decide) ?_
    exact tb_M_generate_59 hO x1 x2 ((x2 + (f 0 1)) - 1) f a h
def wp_M_generate (post : Int → fS → aS → Prop) (x1 : Int) (f : fS) (a : aS) : Prop := wp_M_isGroup (fun z1 f2 a3 => ir z1 ∧ (((¬ z1 = 0) → ((0 ≤ x1 ∧ x1 < 4) ∧ (∀ t6 : Int, t6 = (a3 0 3) (Int.toNat x1) → (ir (f2 0 1) ∧ (((f2 0 1 ≤ 0) → (wb_M_generate_39 post x1 t6 f2 a3)) ∧ (¬ (f2 0 1 ≤ 0) → (ir ((t6 + (f2 0 1)) - 1) ∧ ((((t6 + (f2 0 1)) - 1 ≤ 64) → (wb_M_generate_39 post x1 t6 f2 a3)) ∧ (¬ ((t6 + (f2 0 1)) - 1 ≤ 64) → (post (-2) f2 a3)))))))))) ∧ (¬ (¬ z1 = 0) → (post (-1) f2 a3)))) x1 f a
set_option maxHeartbeats 4000000 in
set_option maxRecDepth 100000 in
theorem m_M_generate {l : Launch} {D : va_G} {ad : Nat → Nat → Nat} {cA : Nat → Nat → ClassId} {post : Int → fS → aS → Prop} {x1 : Int} {f : fS} {a : aS} (h : wp_M_generate post x1 f a) : xCI l yM_generate (Cond.code yM_generate cM_generate 4 (some .int) :: xG) rmM_generate D vwCl (taM cA) (MW ad cA f a) [.ref (ad 0 0), .int (iI x1)] (MW ad cA) post := by
  refine x_metI (cc := cM_generate) (nL := 4) (by decide) rfl (Nat.le_of_ble_eq_true rfl) ?_
  intro p e s m below meth c A hO
  have hO9 := hO
  obtain ⟨hx, hb, hml, hown, hts, hr, hlk, hK, hN, hA⟩ := hO9
  unfold wp_M_generate at h
  show gM_generate p l e s m _ below meth c A D ad cA post f a [(0, .ref (ad 0 0)), (1, .int (iI x1))] 0 []
  refine x_iload_n hx hb dM_generate_0 rfl 1 rfl ?_
  refine x_cSi (n := 1) (st := []) (As := [.int (iI x1)]) ⟨hx, hb, hml, hown, hts⟩ hK hN (m_M_isGroup h) (x_cwS hts rfl rfl kcM_isGroup knM klM_101 ksM_isGroup ⟨by decide, by decide, by decide +kernel⟩ ⟨by decide, by decide⟩) hA rfl (Nat.le_of_ble_eq_true rfl) ⟨Nat.zero_le _, Nat.zero_le _⟩ rfl dM_generate_1 (fun z1 f2 a3 h => ?_)
  obtain ⟨hi4, h⟩ := h
  refine x_if_ne hx hb (tgt := 9) hi4  dM_generate_4 (by decide) (fun hc => ?_) (fun hc => ?_)
  · have h := h.1 hc
    refine x_aload_n hx hb dM_generate_9 rfl 0 rfl ?_
    refine x_get hx hb hts (jnM _) hown hK _ (woM ad cA f2 a3) rfl 3 (by decide) (hts _ (List.mem_cons_of_mem _ kfM_13)) (fun _ h9 => h9) (v := .ref (ad 0 4)) (by rfl) dM_generate_10 ?_
    refine x_iload_n hx hb dM_generate_13 rfl 1 rfl ?_
    obtain ⟨hj5, h⟩ := h
    refine x_iald hx hb hK _ _ (wa3M ad cA f2 a3) (wt3M cA) hj5.1 hj5.2 (by decide) dM_generate_14 ?_
    refine x_topi (fun t6 et6 => ?_)
    have h := h t6 et6
    refine x_istore_n hx hb dM_generate_15 rfl (by decide) (lv' := [(2, .int (iI t6)), (0, .ref (ad 0 0)), (1, .int (iI x1))]) rfl ?_
    refine x_aload_n hx hb dM_generate_16 rfl 1 rfl ?_
    refine x_get hx hb hts (jnM _) hown hK _ (woM ad cA f2 a3) rfl 1 (by decide) (hts _ (List.mem_cons_of_mem _ kfM_66)) (fun _ h9 => h9) (v := .int (iI (f2 0 1))) (by rfl) dM_generate_17 ?_
    obtain ⟨hi7, h⟩ := h
    refine x_if_le hx hb (tgt := 39) hi7  dM_generate_20 (by decide) (fun hc => ?_) (fun hc => ?_)
    · have h := h.1 hc
      refine x_sub [1, 2, 0] rfl ?_
      exact tb_M_generate_39 hO x1 t6 f2 a3 h
    · have h := h.2 hc
      refine x_iload_n hx hb dM_generate_23 rfl 0 rfl ?_
      refine x_aload_n hx hb dM_generate_24 rfl 1 rfl ?_
      refine x_get hx hb hts (jnM _) hown hK _ (woM ad cA f2 a3) rfl 1 (by decide) (hts _ (List.mem_cons_of_mem _ kfM_66)) (fun _ h9 => h9) (v := .int (iI (f2 0 1))) (by rfl) dM_generate_25 ?_
      refine x_iadd hx hb dM_generate_28 ?_
      refine x_iconst hx hb dM_generate_29 ?_
      refine x_isub hx hb dM_generate_30 ?_
      refine x_bipush hx hb dM_generate_31 (by decide) ?_
      obtain ⟨hi8, h⟩ := h
      refine x_icmp_le hx hb (tgt := 39) hi8 (by decide) dM_generate_33 (by decide) (fun hc => ?_) (fun hc => ?_)
      · have h := h.1 hc
        refine x_sub [1, 2, 0] rfl ?_
        exact tb_M_generate_39 hO x1 t6 f2 a3 h
      · have h := h.2 hc
        refine x_bipush hx hb dM_generate_36 (by decide) ?_
        exact x_iret hx hb hr hlk hK dM_generate_38 h
  · have h := h.2 hc
    refine x_iconst hx hb dM_generate_7 ?_
    exact x_iret hx hb hr hlk hK dM_generate_8 h
-- M_drop
abbrev rmM_drop : Room := { frames := 3, cells := 0, slots := 0, locals := 72 }
abbrev gM_drop (p : Program) (l : Launch) (e : Env) (s : State) (m : MethodId) (args : Array Value) (below : List Frame) (meth : Method) (c : Code) (A : Nat → Prop) (D : va_G) (ad : Nat → Nat → Nat) (cA : Nat → Nat → ClassId) (post : Int → fS → aS → Prop) (f : fS) (a : aS) (lv : List (Nat × Value)) (pc : Nat) (st : List Value) : Prop := xV p l e rmM_drop s m args below meth c s.heap A 0 0 (xQI below D vwCl (taM cA) (MW ad cA) post A args s) D vwCl 4 (MW ad cA f a) lv pc st
def wp_M_drop (post : Int → fS → aS → Prop) (x1 : Int) (f : fS) (a : aS) : Prop := wp_M_isGroup (fun z1 f2 a3 => ir z1 ∧ (((¬ z1 = 0) → ((0 ≤ x1 ∧ x1 < 4) ∧ (∀ t6 : Int, t6 = (a3 0 3) (Int.toNat x1) → (wp_M_begin (fun f8 a9 => wp_M_fold (fun f11 a12 => wp_M_settle (fun z13 f14 a15 => post t6 f14 a15) x1 f11 a12)  f8 a9) 1 f2 a3)))) ∧ (¬ (¬ z1 = 0) → (post (-1) f2 a3)))) x1 f a
set_option maxHeartbeats 4000000 in
set_option maxRecDepth 100000 in
theorem m_M_drop {l : Launch} {D : va_G} {ad : Nat → Nat → Nat} {cA : Nat → Nat → ClassId} {post : Int → fS → aS → Prop} {x1 : Int} {f : fS} {a : aS} (h : wp_M_drop post x1 f a) : xCI l yM_drop (Cond.code yM_drop cM_drop 4 (some .int) :: xG) rmM_drop D vwCl (taM cA) (MW ad cA f a) [.ref (ad 0 0), .int (iI x1)] (MW ad cA) post := by
  refine x_metI (cc := cM_drop) (nL := 4) (by decide) rfl (Nat.le_of_ble_eq_true rfl) ?_
  intro p e s m below meth c A hO
  have hO9 := hO
  obtain ⟨hx, hb, hml, hown, hts, hr, hlk, hK, hN, hA⟩ := hO9
  unfold wp_M_drop at h
  show gM_drop p l e s m _ below meth c A D ad cA post f a [(0, .ref (ad 0 0)), (1, .int (iI x1))] 0 []
  refine x_iload_n hx hb dM_drop_0 rfl 1 rfl ?_
  refine x_cSi (n := 1) (st := []) (As := [.int (iI x1)]) ⟨hx, hb, hml, hown, hts⟩ hK hN (m_M_isGroup h) (x_cwS hts rfl rfl kcM_isGroup knM klM_101 ksM_isGroup ⟨by decide, by decide, by decide +kernel⟩ ⟨by decide, by decide⟩) hA rfl (Nat.le_of_ble_eq_true rfl) ⟨Nat.zero_le _, Nat.zero_le _⟩ rfl dM_drop_1 (fun z1 f2 a3 h => ?_)
  obtain ⟨hi4, h⟩ := h
  refine x_if_ne hx hb (tgt := 9) hi4  dM_drop_4 (by decide) (fun hc => ?_) (fun hc => ?_)
  · have h := h.1 hc
    refine x_aload_n hx hb dM_drop_9 rfl 0 rfl ?_
    refine x_get hx hb hts (jnM _) hown hK _ (woM ad cA f2 a3) rfl 3 (by decide) (hts _ (List.mem_cons_of_mem _ kfM_13)) (fun _ h9 => h9) (v := .ref (ad 0 4)) (by rfl) dM_drop_10 ?_
    refine x_iload_n hx hb dM_drop_13 rfl 1 rfl ?_
    obtain ⟨hj5, h⟩ := h
    refine x_iald hx hb hK _ _ (wa3M ad cA f2 a3) (wt3M cA) hj5.1 hj5.2 (by decide) dM_drop_14 ?_
    refine x_topi (fun t6 et6 => ?_)
    have h := h t6 et6
    refine x_istore_n hx hb dM_drop_15 rfl (by decide) (lv' := [(2, .int (iI t6)), (0, .ref (ad 0 0)), (1, .int (iI x1))]) rfl ?_
    refine x_aload_n hx hb dM_drop_16 rfl 1 rfl ?_
    refine x_iconst hx hb dM_drop_17 ?_
    refine x_cVv (n := 1) (st := []) (As := [.int (iI 1)]) ⟨hx, hb, hml, hown, hts⟩ hK hN (m_M_begin h) (x_cwV hts rfl rfl kcM_begin knM klM_104 kiM_begin keM_begin ⟨by decide, by decide, by decide +kernel⟩ ⟨by decide, by decide⟩) _ (woM ad cA f2 a3) rfl hA rfl (Nat.le_of_ble_eq_true rfl) ⟨Nat.zero_le _, Nat.zero_le _⟩ rfl dM_drop_18 (fun f8 a9 h => ?_)
    refine x_aload_n hx hb dM_drop_21 rfl 1 rfl ?_
    refine x_cVv (n := 0) (st := []) (As := []) ⟨hx, hb, hml, hown, hts⟩ hK hN (m_M_fold h) (x_cwV hts rfl rfl kcM_fold knM klM_111 kiM_fold keM_fold ⟨by decide, by decide, by decide +kernel⟩ ⟨by decide, by decide⟩) _ (woM ad cA f8 a9) rfl hA rfl (Nat.le_of_ble_eq_true rfl) ⟨Nat.zero_le _, Nat.zero_le _⟩ rfl dM_drop_22 (fun f11 a12 h => ?_)
    refine x_aload_n hx hb dM_drop_25 rfl 1 rfl ?_
    refine x_iload_n hx hb dM_drop_26 rfl 2 rfl ?_
    refine x_cVi (n := 1) (st := []) (As := [.int (iI x1)]) ⟨hx, hb, hml, hown, hts⟩ hK hN (m_M_settle h) (x_cwV hts rfl rfl kcM_settle knM klM_114 kiM_settle keM_settle ⟨by decide, by decide, by decide +kernel⟩ ⟨by decide, by decide⟩) _ (woM ad cA f11 a12) rfl hA rfl (Nat.le_of_ble_eq_true rfl) ⟨Nat.zero_le _, Nat.zero_le _⟩ rfl dM_drop_27 (fun z13 f14 a15 h => ?_)
    refine x_istore_n hx hb dM_drop_30 rfl (by decide) (lv' := [(3, .int (iI z13)), (2, .int (iI t6)), (0, .ref (ad 0 0)), (1, .int (iI x1))]) rfl ?_
    refine x_iload_n hx hb dM_drop_31 rfl 1 rfl ?_
    exact x_iret hx hb hr hlk hK dM_drop_32 h
  · have h := h.2 hc
    refine x_iconst hx hb dM_drop_7 ?_
    exact x_iret hx hb hr hlk hK dM_drop_8 h
-- M_conjugate
abbrev rmM_conjugate : Room := { frames := 3, cells := 0, slots := 0, locals := 72 }
abbrev gM_conjugate (p : Program) (l : Launch) (e : Env) (s : State) (m : MethodId) (args : Array Value) (below : List Frame) (meth : Method) (c : Code) (A : Nat → Prop) (D : va_G) (ad : Nat → Nat → Nat) (cA : Nat → Nat → ClassId) (post : Int → fS → aS → Prop) (f : fS) (a : aS) (lv : List (Nat × Value)) (pc : Nat) (st : List Value) : Prop := xV p l e rmM_conjugate s m args below meth c s.heap A 0 0 (xQI below D vwCl (taM cA) (MW ad cA) post A args s) D vwCl 5 (MW ad cA f a) lv pc st
def wb_M_conjugate_14 (post : Int → fS → aS → Prop) (f : fS) (a : aS) : Prop := post (-1) f a
set_option maxHeartbeats 4000000 in
set_option maxRecDepth 100000 in
theorem tb_M_conjugate_14 {p : Program} {l : Launch} {e : Env} {s : State} {m : MethodId} {args : Array Value} {below : List Frame} {meth : Method} {c : Code} {A : Nat → Prop} {D : va_G} {ad : Nat → Nat → Nat} {cA : Nat → Nat → ClassId} {post : Int → fS → aS → Prop} (hO : xOk cM_conjugate 5 RM (Cond.code yM_conjugate cM_conjugate 5 (some .int) :: xG) (some .int) p s m args meth c A D vwCl (taM cA)) : ∀ (f : fS) (a : aS), wb_M_conjugate_14 post f a → gM_conjugate p l e s m args below meth c A D ad cA post f a [] 14 [] := by
  have hO9 := hO
  obtain ⟨hx, hb, hml, hown, hts, hr, hlk, hK, hN, hA⟩ := hO9
  intro f a h
  unfold wb_M_conjugate_14 at h
  refine x_iconst hx hb dM_conjugate_14 ?_
  exact x_iret hx hb hr hlk hK dM_conjugate_15 h
def wb_M_conjugate_121 (post : Int → fS → aS → Prop) (x1 : Int) (y1 : Int) (f : fS) (a : aS) : Prop := wp_M_fold (fun f25 a26 => wp_M_trim (fun f28 a29 => wp_M_settle (fun z30 f31 a32 => post z30 f31 a32) x1 f28 a29)  f25 a26)  (setF f 0 9 y1) a
set_option maxHeartbeats 4000000 in
set_option maxRecDepth 100000 in
theorem tb_M_conjugate_121 {p : Program} {l : Launch} {e : Env} {s : State} {m : MethodId} {args : Array Value} {below : List Frame} {meth : Method} {c : Code} {A : Nat → Prop} {D : va_G} {ad : Nat → Nat → Nat} {cA : Nat → Nat → ClassId} {post : Int → fS → aS → Prop} (hO : xOk cM_conjugate 5 RM (Cond.code yM_conjugate cM_conjugate 5 (some .int) :: xG) (some .int) p s m args meth c A D vwCl (taM cA)) : ∀ (x1 : Int) (y1 : Int) (f : fS) (a : aS), wb_M_conjugate_121 post x1 y1 f a → gM_conjugate p l e s m args below meth c A D ad cA post f a [(0, .ref (ad 0 0)), (1, .int (iI x1))] 121 [.int (iI y1), .ref (ad 0 0)] := by
  have hO9 := hO
  obtain ⟨hx, hb, hml, hown, hts, hr, hlk, hK, hN, hA⟩ := hO9
  intro x1 y1 f a h
  unfold wb_M_conjugate_121 at h
  refine x_put hx hb hts (jnM _) tyM tkM nmM hown hK _ (woM ad cA f a) rfl 9 (by decide) (hts _ (List.mem_cons_of_mem _ kfM_72)) (fun _ h9 => h9) rfl (by decide +kernel) (Nat.le_of_ble_eq_true rfl) dM_conjugate_121 (wf9M ad cA f a y1) ?_
  refine x_aload_n hx hb dM_conjugate_124 rfl 0 rfl ?_
  refine x_cVv (n := 0) (st := []) (As := []) ⟨hx, hb, hml, hown, hts⟩ hK hN (m_M_fold h) (x_cwV hts rfl rfl kcM_fold knM klM_111 kiM_fold keM_fold ⟨by decide, by decide, by decide +kernel⟩ ⟨by decide, by decide⟩) _ (woM ad cA (setF f 0 9 y1) a) rfl hA rfl (Nat.le_of_ble_eq_true rfl) ⟨Nat.zero_le _, Nat.zero_le _⟩ rfl dM_conjugate_125 (fun f25 a26 h => ?_)
  refine x_aload_n hx hb dM_conjugate_128 rfl 0 rfl ?_
  refine x_cVv (n := 0) (st := []) (As := []) ⟨hx, hb, hml, hown, hts⟩ hK hN (m_M_trim h) (x_cwV hts rfl rfl kcM_trim knM klM_117 kiM_trim keM_trim ⟨by decide, by decide, by decide +kernel⟩ ⟨by decide, by decide⟩) _ (woM ad cA f25 a26) rfl hA rfl (Nat.le_of_ble_eq_true rfl) ⟨Nat.zero_le _, Nat.zero_le _⟩ rfl dM_conjugate_129 (fun f28 a29 h => ?_)
  refine x_aload_n hx hb dM_conjugate_132 rfl 0 rfl ?_
  refine x_iload_n hx hb dM_conjugate_133 rfl 1 rfl ?_
  refine x_cVi (n := 1) (st := []) (As := [.int (iI x1)]) ⟨hx, hb, hml, hown, hts⟩ hK hN (m_M_settle h) (x_cwV hts rfl rfl kcM_settle knM klM_114 kiM_settle keM_settle ⟨by decide, by decide, by decide +kernel⟩ ⟨by decide, by decide⟩) _ (woM ad cA f28 a29) rfl hA rfl (Nat.le_of_ble_eq_true rfl) ⟨Nat.zero_le _, Nat.zero_le _⟩ rfl dM_conjugate_134 (fun z30 f31 a32 h => ?_)
  exact x_iret hx hb hr hlk hK dM_conjugate_137 h
def wb_M_conjugate_81 (post : Int → fS → aS → Prop) (k56 : Int → Int → Int → fS → aS → Prop) (x1 : Int) (x3 : Int) (x4 : Int) (y1 : Int) (f : fS) (a : aS) : Prop := (0 ≤ x4 ∧ x4 < 24) ∧ (wp_M_addEdge (fun f22 a23 => k56 x1 x3 (x4 + 1) f22 a23) y1 (a 0 2 (Int.toNat x4)) (x3 + x4) f a)
set_option maxHeartbeats 4000000 in
set_option maxRecDepth 100000 in
theorem tb_M_conjugate_81 {p : Program} {l : Launch} {e : Env} {s : State} {m : MethodId} {args : Array Value} {below : List Frame} {meth : Method} {c : Code} {A : Nat → Prop} {D : va_G} {ad : Nat → Nat → Nat} {cA : Nat → Nat → ClassId} {post : Int → fS → aS → Prop} {k56 : Int → Int → Int → fS → aS → Prop} (hO : xOk cM_conjugate 5 RM (Cond.code yM_conjugate cM_conjugate 5 (some .int) :: xG) (some .int) p s m args meth c A D vwCl (taM cA)) (hk56 : ∀ (x1 : Int) (x3 : Int) (x4 : Int) (f : fS) (a : aS), k56 x1 x3 x4 f a → gM_conjugate p l e s m args below meth c A D ad cA post f a [(0, .ref (ad 0 0)), (1, .int (iI x1)), (3, .int (iI x3)), (4, .int (iI x4))] 56 []) : ∀ (x1 : Int) (x3 : Int) (x4 : Int) (y1 : Int) (f : fS) (a : aS), wb_M_conjugate_81 post k56 x1 x3 x4 y1 f a → gM_conjugate p l e s m args below meth c A D ad cA post f a [(0, .ref (ad 0 0)), (1, .int (iI x1)), (3, .int (iI x3)), (4, .int (iI x4))] 81 [.int (iI y1), .ref (ad 0 0)] := by
  have hO9 := hO
  obtain ⟨hx, hb, hml, hown, hts, hr, hlk, hK, hN, hA⟩ := hO9
  intro x1 x3 x4 y1 f a h
  unfold wb_M_conjugate_81 at h
  refine x_aload_n hx hb dM_conjugate_81 rfl 0 rfl ?_
  refine x_get hx hb hts (jnM _) hown hK _ (woM ad cA f a) rfl 2 (by decide) (hts _ (List.mem_cons_of_mem _ kfM_7)) (fun _ h9 => h9) (v := .ref (ad 0 3)) (by rfl) dM_conjugate_82 ?_
  refine x_iload hx hb dM_conjugate_85 3 rfl ?_
  obtain ⟨hj20, h⟩ := h
  refine x_iald hx hb hK _ _ (wa2M ad cA f a) (wt2M cA) hj20.1 hj20.2 (by decide) dM_conjugate_87 ?_
  refine x_iload_n hx hb dM_conjugate_88 rfl 2 rfl ?_
  refine x_iload hx hb dM_conjugate_89 3 rfl ?_
  refine x_iadd hx hb dM_conjugate_91 ?_
  refine x_cVv (n := 3) (st := []) (As := [.int (iI y1), .int (iI (a 0 2 (Int.toNat x4))), .int (iI (x3 + x4))]) ⟨hx, hb, hml, hown, hts⟩ hK hN (m_M_addEdge h) (x_cwV hts rfl rfl kcM_addEdge knM klM_86 kiM_addEdge keM_addEdge ⟨by decide, by decide, by decide +kernel⟩ ⟨by decide, by decide⟩) _ (woM ad cA f a) rfl hA rfl (Nat.le_of_ble_eq_true rfl) ⟨Nat.zero_le _, Nat.zero_le _⟩ rfl dM_conjugate_92 (fun f22 a23 h => ?_)
  refine x_iinc hx hb dM_conjugate_95 3 rfl (by decide) (lv' := [(4, .int (iI (x4 + 1))), (0, .ref (ad 0 0)), (1, .int (iI x1)), (3, .int (iI x3))]) rfl ?_
  refine x_goto hx hb (tgt := 56) dM_conjugate_98 (by decide) ?_
  refine x_sub [1, 2, 3, 0] rfl ?_
  exact hk56 x1 x3 (x4 + 1) f22 a23 h
def wb_M_conjugate_56 (post : Int → fS → aS → Prop) : Nat → Int → Int → Int → fS → aS → Prop
  | 0, _, _, _, _, _ => False
  | n + 1, x1, x3, x4, f, a => ir x4 ∧ (ir (f 0 1) ∧ (((f 0 1 ≤ x4) → (((¬ f 0 1 = 0) → (wb_M_conjugate_121 post x1 ((x3 + (f 0 1)) - 1) f a)) ∧ (¬ (¬ f 0 1 = 0) → (wb_M_conjugate_121 post x1 0 f a)))) ∧ (¬ (f 0 1 ≤ x4) → (((¬ x4 = 0) → (wb_M_conjugate_81 post (wb_M_conjugate_56 post n) x1 x3 x4 ((x3 + x4) - 1) f a)) ∧ (¬ (¬ x4 = 0) → (wb_M_conjugate_81 post (wb_M_conjugate_56 post n) x1 x3 x4 0 f a))))))
set_option maxHeartbeats 4000000 in
set_option maxRecDepth 100000 in
theorem tb_M_conjugate_56 {p : Program} {l : Launch} {e : Env} {s : State} {m : MethodId} {args : Array Value} {below : List Frame} {meth : Method} {c : Code} {A : Nat → Prop} {D : va_G} {ad : Nat → Nat → Nat} {cA : Nat → Nat → ClassId} {post : Int → fS → aS → Prop} (hO : xOk cM_conjugate 5 RM (Cond.code yM_conjugate cM_conjugate 5 (some .int) :: xG) (some .int) p s m args meth c A D vwCl (taM cA)) : ∀ (n : Nat) (x1 : Int) (x3 : Int) (x4 : Int) (f : fS) (a : aS), wb_M_conjugate_56 post n x1 x3 x4 f a → gM_conjugate p l e s m args below meth c A D ad cA post f a [(0, .ref (ad 0 0)), (1, .int (iI x1)), (3, .int (iI x3)), (4, .int (iI x4))] 56 [] := by
  have hO9 := hO
  obtain ⟨hx, hb, hml, hown, hts, hr, hlk, hK, hN, hA⟩ := hO9
  intro n
  induction n with
  | zero => intro x1 x3 x4 f a h; exact False.elim h
  | succ n ih =>
    intro x1 x3 x4 f a h
    rw [wb_M_conjugate_56] at h
    refine x_iload hx hb dM_conjugate_56 3 rfl ?_
    refine x_aload_n hx hb dM_conjugate_58 rfl 0 rfl ?_
    refine x_get hx hb hts (jnM _) hown hK _ (woM ad cA f a) rfl 1 (by decide) (hts _ (List.mem_cons_of_mem _ kfM_66)) (fun _ h9 => h9) (v := .int (iI (f 0 1))) (by rfl) dM_conjugate_59 ?_
    obtain ⟨hi18, h⟩ := h
    obtain ⟨hi19, h⟩ := h
    refine x_icmp_ge hx hb (tgt := 101) hi18 hi19 dM_conjugate_62 (by decide) (fun hc => ?_) (fun hc => ?_)
    · have h := h.1 hc
      refine x_aload_n hx hb dM_conjugate_101 rfl 0 rfl ?_
      refine x_aload_n hx hb dM_conjugate_102 rfl 0 rfl ?_
      refine x_get hx hb hts (jnM _) hown hK _ (woM ad cA f a) rfl 1 (by decide) (hts _ (List.mem_cons_of_mem _ kfM_66)) (fun _ h9 => h9) (v := .int (iI (f 0 1))) (by rfl) dM_conjugate_103 ?_
      refine x_if_ne hx hb (tgt := 113) hi19  dM_conjugate_106 (by decide) (fun hc => ?_) (fun hc => ?_)
      · have h := h.1 hc
        refine x_iload_n hx hb dM_conjugate_113 rfl 2 rfl ?_
        refine x_aload_n hx hb dM_conjugate_114 rfl 0 rfl ?_
        refine x_get hx hb hts (jnM _) hown hK _ (woM ad cA f a) rfl 1 (by decide) (hts _ (List.mem_cons_of_mem _ kfM_66)) (fun _ h9 => h9) (v := .int (iI (f 0 1))) (by rfl) dM_conjugate_115 ?_
        refine x_iadd hx hb dM_conjugate_118 ?_
        refine x_iconst hx hb dM_conjugate_119 ?_
        refine x_isub hx hb dM_conjugate_120 ?_
        refine x_sub [0, 1] rfl ?_
        exact tb_M_conjugate_121 hO x1 ((x3 + (f 0 1)) - 1) f a h
      · have h := h.2 hc
        refine x_iconst hx hb dM_conjugate_109 ?_
        refine x_goto hx hb (tgt := 121) dM_conjugate_110 (by decide) ?_
        refine x_sub [0, 1] rfl ?_
        exact tb_M_conjugate_121 hO x1 0 f a h
    · have h := h.2 hc
      refine x_aload_n hx hb dM_conjugate_65 rfl 0 rfl ?_
      refine x_iload hx hb dM_conjugate_66 3 rfl ?_
      refine x_if_ne hx hb (tgt := 75) hi18  dM_conjugate_68 (by decide) (fun hc => ?_) (fun hc => ?_)
      · have h := h.1 hc
        refine x_iload_n hx hb dM_conjugate_75 rfl 2 rfl ?_
        refine x_iload hx hb dM_conjugate_76 3 rfl ?_
        refine x_iadd hx hb dM_conjugate_78 ?_
        refine x_iconst hx hb dM_conjugate_79 ?_
        refine x_isub hx hb dM_conjugate_80 ?_
        exact tb_M_conjugate_81 hO ih x1 x3 x4 ((x3 + x4) - 1) f a h
      · have h := h.2 hc
        refine x_iconst hx hb dM_conjugate_71 ?_
        refine x_goto hx hb (tgt := 81) dM_conjugate_72 (by decide) ?_
        exact tb_M_conjugate_81 hO ih x1 x3 x4 0 f a h
def wp_M_conjugate (post : Int → fS → aS → Prop) (x1 : Int) (x2 : Int) (f : fS) (a : aS) : Prop := wp_M_isGroup (fun z1 f2 a3 => ir z1 ∧ (((z1 = 0) → (wb_M_conjugate_14 post f2 a3)) ∧ (¬ (z1 = 0) → (wp_M_isGroup (fun z5 f6 a7 => ir z5 ∧ (((¬ z5 = 0) → ((0 ≤ x2 ∧ x2 < 4) ∧ (∀ t10 : Int, t10 = (a7 0 3) (Int.toNat x2) → (ir (t10 + (f6 0 1)) ∧ (((t10 + (f6 0 1) ≤ 64) → (wp_M_begin (fun f13 a14 => wp_M_addCopy (fun f16 a17 => ∃ j, wb_M_conjugate_56 post j x1 t10 0 f16 a17) x2 0 f13 a14) (t10 + (f6 0 1)) f6 a7)) ∧ (¬ (t10 + (f6 0 1) ≤ 64) → (post (-2) f6 a7))))))) ∧ (¬ (¬ z5 = 0) → (wb_M_conjugate_14 post f6 a7)))) x2 f2 a3)))) x1 f a
set_option maxHeartbeats 4000000 in
set_option maxRecDepth 100000 in
theorem m_M_conjugate {l : Launch} {D : va_G} {ad : Nat → Nat → Nat} {cA : Nat → Nat → ClassId} {post : Int → fS → aS → Prop} {x1 : Int} {x2 : Int} {f : fS} {a : aS} (h : wp_M_conjugate post x1 x2 f a) : xCI l yM_conjugate (Cond.code yM_conjugate cM_conjugate 5 (some .int) :: xG) rmM_conjugate D vwCl (taM cA) (MW ad cA f a) [.ref (ad 0 0), .int (iI x1), .int (iI x2)] (MW ad cA) post := by
  refine x_metI (cc := cM_conjugate) (nL := 5) (by decide) rfl (Nat.le_of_ble_eq_true rfl) ?_
  intro p e s m below meth c A hO
  have hO9 := hO
  obtain ⟨hx, hb, hml, hown, hts, hr, hlk, hK, hN, hA⟩ := hO9
  unfold wp_M_conjugate at h
  show gM_conjugate p l e s m _ below meth c A D ad cA post f a [(0, .ref (ad 0 0)), (1, .int (iI x1)), (2, .int (iI x2))] 0 []
  refine x_iload_n hx hb dM_conjugate_0 rfl 1 rfl ?_
  refine x_cSi (n := 1) (st := []) (As := [.int (iI x1)]) ⟨hx, hb, hml, hown, hts⟩ hK hN (m_M_isGroup h) (x_cwS hts rfl rfl kcM_isGroup knM klM_101 ksM_isGroup ⟨by decide, by decide, by decide +kernel⟩ ⟨by decide, by decide⟩) hA rfl (Nat.le_of_ble_eq_true rfl) ⟨Nat.zero_le _, Nat.zero_le _⟩ rfl dM_conjugate_1 (fun z1 f2 a3 h => ?_)
  obtain ⟨hi4, h⟩ := h
  refine x_if_eq hx hb (tgt := 14) hi4  dM_conjugate_4 (by decide) (fun hc => ?_) (fun hc => ?_)
  · have h := h.1 hc
    refine x_sub [] rfl ?_
    exact tb_M_conjugate_14 hO f2 a3 h
  · have h := h.2 hc
    refine x_iload_n hx hb dM_conjugate_7 rfl 2 rfl ?_
    refine x_cSi (n := 1) (st := []) (As := [.int (iI x2)]) ⟨hx, hb, hml, hown, hts⟩ hK hN (m_M_isGroup h) (x_cwS hts rfl rfl kcM_isGroup knM klM_101 ksM_isGroup ⟨by decide, by decide, by decide +kernel⟩ ⟨by decide, by decide⟩) hA rfl (Nat.le_of_ble_eq_true rfl) ⟨Nat.zero_le _, Nat.zero_le _⟩ rfl dM_conjugate_8 (fun z5 f6 a7 h => ?_)
    obtain ⟨hi8, h⟩ := h
    refine x_if_ne hx hb (tgt := 16) hi8  dM_conjugate_11 (by decide) (fun hc => ?_) (fun hc => ?_)
    · have h := h.1 hc
      refine x_aload_n hx hb dM_conjugate_16 rfl 0 rfl ?_
      refine x_get hx hb hts (jnM _) hown hK _ (woM ad cA f6 a7) rfl 3 (by decide) (hts _ (List.mem_cons_of_mem _ kfM_13)) (fun _ h9 => h9) (v := .ref (ad 0 4)) (by rfl) dM_conjugate_17 ?_
      refine x_iload_n hx hb dM_conjugate_20 rfl 2 rfl ?_
      obtain ⟨hj9, h⟩ := h
      refine x_iald hx hb hK _ _ (wa3M ad cA f6 a7) (wt3M cA) hj9.1 hj9.2 (by decide) dM_conjugate_21 ?_
      refine x_topi (fun t10 et10 => ?_)
      have h := h t10 et10
      refine x_istore_n hx hb dM_conjugate_22 rfl (by decide) (lv' := [(3, .int (iI t10)), (0, .ref (ad 0 0)), (1, .int (iI x1)), (2, .int (iI x2))]) rfl ?_
      refine x_iload_n hx hb dM_conjugate_23 rfl 0 rfl ?_
      refine x_aload_n hx hb dM_conjugate_24 rfl 1 rfl ?_
      refine x_get hx hb hts (jnM _) hown hK _ (woM ad cA f6 a7) rfl 1 (by decide) (hts _ (List.mem_cons_of_mem _ kfM_66)) (fun _ h9 => h9) (v := .int (iI (f6 0 1))) (by rfl) dM_conjugate_25 ?_
      refine x_iadd hx hb dM_conjugate_28 ?_
      refine x_bipush hx hb dM_conjugate_29 (by decide) ?_
      obtain ⟨hi11, h⟩ := h
      refine x_icmp_le hx hb (tgt := 37) hi11 (by decide) dM_conjugate_31 (by decide) (fun hc => ?_) (fun hc => ?_)
      · have h := h.1 hc
        refine x_aload_n hx hb dM_conjugate_37 rfl 1 rfl ?_
        refine x_iload_n hx hb dM_conjugate_38 rfl 0 rfl ?_
        refine x_aload_n hx hb dM_conjugate_39 rfl 1 rfl ?_
        refine x_get hx hb hts (jnM _) hown hK _ (woM ad cA f6 a7) rfl 1 (by decide) (hts _ (List.mem_cons_of_mem _ kfM_66)) (fun _ h9 => h9) (v := .int (iI (f6 0 1))) (by rfl) dM_conjugate_40 ?_
        refine x_iadd hx hb dM_conjugate_43 ?_
        refine x_cVv (n := 1) (st := []) (As := [.int (iI (t10 + (f6 0 1)))]) ⟨hx, hb, hml, hown, hts⟩ hK hN (m_M_begin h) (x_cwV hts rfl rfl kcM_begin knM klM_104 kiM_begin keM_begin ⟨by decide, by decide, by decide +kernel⟩ ⟨by decide, by decide⟩) _ (woM ad cA f6 a7) rfl hA rfl (Nat.le_of_ble_eq_true rfl) ⟨Nat.zero_le _, Nat.zero_le _⟩ rfl dM_conjugate_44 (fun f13 a14 h => ?_)
        refine x_aload_n hx hb dM_conjugate_47 rfl 1 rfl ?_
        refine x_iload_n hx hb dM_conjugate_48 rfl 3 rfl ?_
        refine x_iconst hx hb dM_conjugate_49 ?_
        refine x_cVv (n := 2) (st := []) (As := [.int (iI x2), .int (iI 0)]) ⟨hx, hb, hml, hown, hts⟩ hK hN (m_M_addCopy h) (x_cwV hts rfl rfl kcM_addCopy knM klM_108 kiM_addCopy keM_addCopy ⟨by decide, by decide, by decide +kernel⟩ ⟨by decide, by decide⟩) _ (woM ad cA f13 a14) rfl hA rfl (Nat.le_of_ble_eq_true rfl) ⟨Nat.zero_le _, Nat.zero_le _⟩ rfl dM_conjugate_50 (fun f16 a17 h => ?_)
        refine x_iconst hx hb dM_conjugate_53 ?_
        refine x_istore hx hb dM_conjugate_54 (by decide) (lv' := [(4, .int (iI 0)), (3, .int (iI t10)), (0, .ref (ad 0 0)), (1, .int (iI x1)), (2, .int (iI x2))]) rfl ?_
        obtain ⟨j, h⟩ := h
        refine x_sub [2, 3, 1, 0] rfl ?_
        exact tb_M_conjugate_56 hO j x1 t10 0 f16 a17 h
      · have h := h.2 hc
        refine x_bipush hx hb dM_conjugate_34 (by decide) ?_
        exact x_iret hx hb hr hlk hK dM_conjugate_36 h
    · have h := h.2 hc
      refine x_sub [] rfl ?_
      exact tb_M_conjugate_14 hO f6 a7 h
-- M_join
abbrev rmM_join : Room := { frames := 3, cells := 0, slots := 0, locals := 72 }
abbrev gM_join (p : Program) (l : Launch) (e : Env) (s : State) (m : MethodId) (args : Array Value) (below : List Frame) (meth : Method) (c : Code) (A : Nat → Prop) (D : va_G) (ad : Nat → Nat → Nat) (cA : Nat → Nat → ClassId) (post : Int → fS → aS → Prop) (f : fS) (a : aS) (lv : List (Nat × Value)) (pc : Nat) (st : List Value) : Prop := xV p l e rmM_join s m args below meth c s.heap A 0 0 (xQI below D vwCl (taM cA) (MW ad cA) post A args s) D vwCl 5 (MW ad cA f a) lv pc st
def wb_M_join_21 (post : Int → fS → aS → Prop) (f : fS) (a : aS) : Prop := post (-1) f a
set_option maxHeartbeats 4000000 in
set_option maxRecDepth 100000 in
theorem tb_M_join_21 {p : Program} {l : Launch} {e : Env} {s : State} {m : MethodId} {args : Array Value} {below : List Frame} {meth : Method} {c : Code} {A : Nat → Prop} {D : va_G} {ad : Nat → Nat → Nat} {cA : Nat → Nat → ClassId} {post : Int → fS → aS → Prop} (hO : xOk cM_join 5 RM (Cond.code yM_join cM_join 5 (some .int) :: xG) (some .int) p s m args meth c A D vwCl (taM cA)) : ∀ (f : fS) (a : aS), wb_M_join_21 post f a → gM_join p l e s m args below meth c A D ad cA post f a [] 21 [] := by
  have hO9 := hO
  obtain ⟨hx, hb, hml, hown, hts, hr, hlk, hK, hN, hA⟩ := hO9
  intro f a h
  unfold wb_M_join_21 at h
  refine x_iconst hx hb dM_join_21 ?_
  exact x_iret hx hb hr hlk hK dM_join_22 h
def wp_M_join (post : Int → fS → aS → Prop) (x1 : Int) (x2 : Int) (x3 : Int) (f : fS) (a : aS) : Prop := wp_M_isGroup (fun z1 f2 a3 => ir z1 ∧ (((z1 = 0) → (wb_M_join_21 post f2 a3)) ∧ (¬ (z1 = 0) → (wp_M_isGroup (fun z5 f6 a7 => ir z5 ∧ (((z5 = 0) → (wb_M_join_21 post f6 a7)) ∧ (¬ (z5 = 0) → (wp_M_isGroup (fun z9 f10 a11 => ir z9 ∧ (((¬ z9 = 0) → ((0 ≤ x2 ∧ x2 < 4) ∧ ((0 ≤ x3 ∧ x3 < 4) ∧ (∀ t15 : Int, t15 = (((a11 0 3) (Int.toNat x2)) + ((a11 0 3) (Int.toNat x3))) - 1 → (ir t15 ∧ (((t15 ≤ 64) → (wp_M_begin (fun f18 a19 => wp_M_addCopy (fun f21 a22 => wp_M_addCopy (fun f24 a25 => wp_M_fold (fun f27 a28 => wp_M_settle (fun z29 f30 a31 => post z29 f30 a31) x1 f27 a28)  f24 a25) x3 (((a22 0 3) (Int.toNat x2)) - 1) f21 a22) x2 0 f18 a19) t15 f10 a11)) ∧ (¬ (t15 ≤ 64) → (post (-2) f10 a11)))))))) ∧ (¬ (¬ z9 = 0) → (wb_M_join_21 post f10 a11)))) x3 f6 a7)))) x2 f2 a3)))) x1 f a
set_option maxHeartbeats 4000000 in
set_option maxRecDepth 100000 in
theorem m_M_join {l : Launch} {D : va_G} {ad : Nat → Nat → Nat} {cA : Nat → Nat → ClassId} {post : Int → fS → aS → Prop} {x1 : Int} {x2 : Int} {x3 : Int} {f : fS} {a : aS} (h : wp_M_join post x1 x2 x3 f a) : xCI l yM_join (Cond.code yM_join cM_join 5 (some .int) :: xG) rmM_join D vwCl (taM cA) (MW ad cA f a) [.ref (ad 0 0), .int (iI x1), .int (iI x2), .int (iI x3)] (MW ad cA) post := by
  refine x_metI (cc := cM_join) (nL := 5) (by decide) rfl (Nat.le_of_ble_eq_true rfl) ?_
  intro p e s m below meth c A hO
  have hO9 := hO
  obtain ⟨hx, hb, hml, hown, hts, hr, hlk, hK, hN, hA⟩ := hO9
  unfold wp_M_join at h
  show gM_join p l e s m _ below meth c A D ad cA post f a [(0, .ref (ad 0 0)), (1, .int (iI x1)), (2, .int (iI x2)), (3, .int (iI x3))] 0 []
  refine x_iload_n hx hb dM_join_0 rfl 1 rfl ?_
  refine x_cSi (n := 1) (st := []) (As := [.int (iI x1)]) ⟨hx, hb, hml, hown, hts⟩ hK hN (m_M_isGroup h) (x_cwS hts rfl rfl kcM_isGroup knM klM_101 ksM_isGroup ⟨by decide, by decide, by decide +kernel⟩ ⟨by decide, by decide⟩) hA rfl (Nat.le_of_ble_eq_true rfl) ⟨Nat.zero_le _, Nat.zero_le _⟩ rfl dM_join_1 (fun z1 f2 a3 h => ?_)
  obtain ⟨hi4, h⟩ := h
  refine x_if_eq hx hb (tgt := 21) hi4  dM_join_4 (by decide) (fun hc => ?_) (fun hc => ?_)
  · have h := h.1 hc
    refine x_sub [] rfl ?_
    exact tb_M_join_21 hO f2 a3 h
  · have h := h.2 hc
    refine x_iload_n hx hb dM_join_7 rfl 2 rfl ?_
    refine x_cSi (n := 1) (st := []) (As := [.int (iI x2)]) ⟨hx, hb, hml, hown, hts⟩ hK hN (m_M_isGroup h) (x_cwS hts rfl rfl kcM_isGroup knM klM_101 ksM_isGroup ⟨by decide, by decide, by decide +kernel⟩ ⟨by decide, by decide⟩) hA rfl (Nat.le_of_ble_eq_true rfl) ⟨Nat.zero_le _, Nat.zero_le _⟩ rfl dM_join_8 (fun z5 f6 a7 h => ?_)
    obtain ⟨hi8, h⟩ := h
    refine x_if_eq hx hb (tgt := 21) hi8  dM_join_11 (by decide) (fun hc => ?_) (fun hc => ?_)
    · have h := h.1 hc
      refine x_sub [] rfl ?_
      exact tb_M_join_21 hO f6 a7 h
    · have h := h.2 hc
      refine x_iload_n hx hb dM_join_14 rfl 3 rfl ?_
      refine x_cSi (n := 1) (st := []) (As := [.int (iI x3)]) ⟨hx, hb, hml, hown, hts⟩ hK hN (m_M_isGroup h) (x_cwS hts rfl rfl kcM_isGroup knM klM_101 ksM_isGroup ⟨by decide, by decide, by decide +kernel⟩ ⟨by decide, by decide⟩) hA rfl (Nat.le_of_ble_eq_true rfl) ⟨Nat.zero_le _, Nat.zero_le _⟩ rfl dM_join_15 (fun z9 f10 a11 h => ?_)
      obtain ⟨hi12, h⟩ := h
      refine x_if_ne hx hb (tgt := 23) hi12  dM_join_18 (by decide) (fun hc => ?_) (fun hc => ?_)
      · have h := h.1 hc
        refine x_aload_n hx hb dM_join_23 rfl 0 rfl ?_
        refine x_get hx hb hts (jnM _) hown hK _ (woM ad cA f10 a11) rfl 3 (by decide) (hts _ (List.mem_cons_of_mem _ kfM_13)) (fun _ h9 => h9) (v := .ref (ad 0 4)) (by rfl) dM_join_24 ?_
        refine x_iload_n hx hb dM_join_27 rfl 2 rfl ?_
        obtain ⟨hj13, h⟩ := h
        refine x_iald hx hb hK _ _ (wa3M ad cA f10 a11) (wt3M cA) hj13.1 hj13.2 (by decide) dM_join_28 ?_
        refine x_aload_n hx hb dM_join_29 rfl 0 rfl ?_
        refine x_get hx hb hts (jnM _) hown hK _ (woM ad cA f10 a11) rfl 3 (by decide) (hts _ (List.mem_cons_of_mem _ kfM_13)) (fun _ h9 => h9) (v := .ref (ad 0 4)) (by rfl) dM_join_30 ?_
        refine x_iload_n hx hb dM_join_33 rfl 3 rfl ?_
        obtain ⟨hj14, h⟩ := h
        refine x_iald hx hb hK _ _ (wa3M ad cA f10 a11) (wt3M cA) hj14.1 hj14.2 (by decide) dM_join_34 ?_
        refine x_iadd hx hb dM_join_35 ?_
        refine x_iconst hx hb dM_join_36 ?_
        refine x_isub hx hb dM_join_37 ?_
        refine x_topi (fun t15 et15 => ?_)
        have h := h t15 et15
        refine x_istore hx hb dM_join_38 (by decide) (lv' := [(4, .int (iI t15)), (0, .ref (ad 0 0)), (1, .int (iI x1)), (2, .int (iI x2)), (3, .int (iI x3))]) rfl ?_
        refine x_iload hx hb dM_join_40 0 rfl ?_
        refine x_bipush hx hb dM_join_42 (by decide) ?_
        obtain ⟨hi16, h⟩ := h
        refine x_icmp_le hx hb (tgt := 50) hi16 (by decide) dM_join_44 (by decide) (fun hc => ?_) (fun hc => ?_)
        · have h := h.1 hc
          refine x_aload_n hx hb dM_join_50 rfl 1 rfl ?_
          refine x_iload hx hb dM_join_51 0 rfl ?_
          refine x_cVv (n := 1) (st := []) (As := [.int (iI t15)]) ⟨hx, hb, hml, hown, hts⟩ hK hN (m_M_begin h) (x_cwV hts rfl rfl kcM_begin knM klM_104 kiM_begin keM_begin ⟨by decide, by decide, by decide +kernel⟩ ⟨by decide, by decide⟩) _ (woM ad cA f10 a11) rfl hA rfl (Nat.le_of_ble_eq_true rfl) ⟨Nat.zero_le _, Nat.zero_le _⟩ rfl dM_join_53 (fun f18 a19 h => ?_)
          refine x_aload_n hx hb dM_join_56 rfl 1 rfl ?_
          refine x_iload_n hx hb dM_join_57 rfl 3 rfl ?_
          refine x_iconst hx hb dM_join_58 ?_
          refine x_cVv (n := 2) (st := []) (As := [.int (iI x2), .int (iI 0)]) ⟨hx, hb, hml, hown, hts⟩ hK hN (m_M_addCopy h) (x_cwV hts rfl rfl kcM_addCopy knM klM_108 kiM_addCopy keM_addCopy ⟨by decide, by decide, by decide +kernel⟩ ⟨by decide, by decide⟩) _ (woM ad cA f18 a19) rfl hA rfl (Nat.le_of_ble_eq_true rfl) ⟨Nat.zero_le _, Nat.zero_le _⟩ rfl dM_join_59 (fun f21 a22 h => ?_)
          refine x_aload_n hx hb dM_join_62 rfl 1 rfl ?_
          refine x_iload_n hx hb dM_join_63 rfl 4 rfl ?_
          refine x_aload_n hx hb dM_join_64 rfl 1 rfl ?_
          refine x_get hx hb hts (jnM _) hown hK _ (woM ad cA f21 a22) rfl 3 (by decide) (hts _ (List.mem_cons_of_mem _ kfM_13)) (fun _ h9 => h9) (v := .ref (ad 0 4)) (by rfl) dM_join_65 ?_
          refine x_iload_n hx hb dM_join_68 rfl 3 rfl ?_
          refine x_iald hx hb hK _ _ (wa3M ad cA f21 a22) (wt3M cA) hj13.1 hj13.2 (by decide) dM_join_69 ?_
          refine x_iconst hx hb dM_join_70 ?_
          refine x_isub hx hb dM_join_71 ?_
          refine x_cVv (n := 2) (st := []) (As := [.int (iI x3), .int (iI (((a22 0 3) (Int.toNat x2)) - 1))]) ⟨hx, hb, hml, hown, hts⟩ hK hN (m_M_addCopy h) (x_cwV hts rfl rfl kcM_addCopy knM klM_108 kiM_addCopy keM_addCopy ⟨by decide, by decide, by decide +kernel⟩ ⟨by decide, by decide⟩) _ (woM ad cA f21 a22) rfl hA rfl (Nat.le_of_ble_eq_true rfl) ⟨Nat.zero_le _, Nat.zero_le _⟩ rfl dM_join_72 (fun f24 a25 h => ?_)
          refine x_aload_n hx hb dM_join_75 rfl 1 rfl ?_
          refine x_cVv (n := 0) (st := []) (As := []) ⟨hx, hb, hml, hown, hts⟩ hK hN (m_M_fold h) (x_cwV hts rfl rfl kcM_fold knM klM_111 kiM_fold keM_fold ⟨by decide, by decide, by decide +kernel⟩ ⟨by decide, by decide⟩) _ (woM ad cA f24 a25) rfl hA rfl (Nat.le_of_ble_eq_true rfl) ⟨Nat.zero_le _, Nat.zero_le _⟩ rfl dM_join_76 (fun f27 a28 h => ?_)
          refine x_aload_n hx hb dM_join_79 rfl 1 rfl ?_
          refine x_iload_n hx hb dM_join_80 rfl 2 rfl ?_
          refine x_cVi (n := 1) (st := []) (As := [.int (iI x1)]) ⟨hx, hb, hml, hown, hts⟩ hK hN (m_M_settle h) (x_cwV hts rfl rfl kcM_settle knM klM_114 kiM_settle keM_settle ⟨by decide, by decide, by decide +kernel⟩ ⟨by decide, by decide⟩) _ (woM ad cA f27 a28) rfl hA rfl (Nat.le_of_ble_eq_true rfl) ⟨Nat.zero_le _, Nat.zero_le _⟩ rfl dM_join_81 (fun z29 f30 a31 h => ?_)
          exact x_iret hx hb hr hlk hK dM_join_84 h
        · have h := h.2 hc
          refine x_bipush hx hb dM_join_47 (by decide) ?_
          exact x_iret hx hb hr hlk hK dM_join_49 h
      · have h := h.2 hc
        refine x_sub [] rfl ?_
        exact tb_M_join_21 hO f10 a11 h
-- M_pair
abbrev rmM_pair : Room := { frames := 0, cells := 0, slots := 0, locals := 0 }
abbrev gM_pair (p : Program) (l : Launch) (e : Env) (s : State) (m : MethodId) (args : Array Value) (below : List Frame) (meth : Method) (c : Code) (A : Nat → Prop) (D : va_G) (ad : Nat → Nat → Nat) (cA : Nat → Nat → ClassId) (post : Int → fS → aS → Prop) (f : fS) (a : aS) (lv : List (Nat × Value)) (pc : Nat) (st : List Value) : Prop := xV p l e rmM_pair s m args below meth c s.heap A 0 0 (xQI below D vwCl (taM cA) (MW ad cA) post A args s) D vwCl 4 (MW ad cA f a) lv pc st
def wb_M_pair_36 (post : Int → fS → aS → Prop) (x3 : Int) (f : fS) (a : aS) : Prop := post x3 f a
set_option maxHeartbeats 4000000 in
set_option maxRecDepth 100000 in
theorem tb_M_pair_36 {p : Program} {l : Launch} {e : Env} {s : State} {m : MethodId} {args : Array Value} {below : List Frame} {meth : Method} {c : Code} {A : Nat → Prop} {D : va_G} {ad : Nat → Nat → Nat} {cA : Nat → Nat → ClassId} {post : Int → fS → aS → Prop} (hO : xOk cM_pair 4 RM (Cond.code yM_pair cM_pair 4 (some .int) :: xG) (some .int) p s m args meth c A D vwCl (taM cA)) : ∀ (x3 : Int) (f : fS) (a : aS), wb_M_pair_36 post x3 f a → gM_pair p l e s m args below meth c A D ad cA post f a [(3, .int (iI x3))] 36 [] := by
  have hO9 := hO
  obtain ⟨hx, hb, hml, hown, hts, hr, hlk, hK, hN, hA⟩ := hO9
  intro x3 f a h
  unfold wb_M_pair_36 at h
  refine x_iload_n hx hb dM_pair_36 rfl 0 rfl ?_
  exact x_iret hx hb hr hlk hK dM_pair_37 h
def wb_M_pair_30 (post : Int → fS → aS → Prop) (k2 : Int → Int → Int → fS → aS → Prop) (x1 : Int) (x2 : Int) (x3 : Int) (f : fS) (a : aS) : Prop := k2 x1 x2 (x3 + 1) f a
set_option maxHeartbeats 4000000 in
set_option maxRecDepth 100000 in
theorem tb_M_pair_30 {p : Program} {l : Launch} {e : Env} {s : State} {m : MethodId} {args : Array Value} {below : List Frame} {meth : Method} {c : Code} {A : Nat → Prop} {D : va_G} {ad : Nat → Nat → Nat} {cA : Nat → Nat → ClassId} {post : Int → fS → aS → Prop} {k2 : Int → Int → Int → fS → aS → Prop} (hO : xOk cM_pair 4 RM (Cond.code yM_pair cM_pair 4 (some .int) :: xG) (some .int) p s m args meth c A D vwCl (taM cA)) (hk2 : ∀ (x1 : Int) (x2 : Int) (x3 : Int) (f : fS) (a : aS), k2 x1 x2 x3 f a → gM_pair p l e s m args below meth c A D ad cA post f a [(0, .ref (ad 0 0)), (1, .int (iI x1)), (2, .int (iI x2)), (3, .int (iI x3))] 2 []) : ∀ (x1 : Int) (x2 : Int) (x3 : Int) (f : fS) (a : aS), wb_M_pair_30 post k2 x1 x2 x3 f a → gM_pair p l e s m args below meth c A D ad cA post f a [(0, .ref (ad 0 0)), (1, .int (iI x1)), (2, .int (iI x2)), (3, .int (iI x3))] 30 [] := by
  have hO9 := hO
  obtain ⟨hx, hb, hml, hown, hts, hr, hlk, hK, hN, hA⟩ := hO9
  intro x1 x2 x3 f a h
  unfold wb_M_pair_30 at h
  refine x_iinc hx hb dM_pair_30 3 rfl (by decide) (lv' := [(3, .int (iI (x3 + 1))), (0, .ref (ad 0 0)), (1, .int (iI x1)), (2, .int (iI x2))]) rfl ?_
  refine x_goto hx hb (tgt := 2) dM_pair_33 (by decide) ?_
  refine x_sub [1, 2, 3, 0] rfl ?_
  exact hk2 x1 x2 (x3 + 1) f a h
def wb_M_pair_2 (post : Int → fS → aS → Prop) : Nat → Int → Int → Int → fS → aS → Prop
  | 0, _, _, _, _, _ => False
  | n + 1, x1, x2, x3, f, a => ir x3 ∧ (ir (f 0 8) ∧ (((f 0 8 ≤ x3) → (wb_M_pair_36 post x3 f a)) ∧ (¬ (f 0 8 ≤ x3) → ((0 ≤ x3 ∧ x3 < 64) ∧ (ir (a 0 18 (Int.toNat x3)) ∧ (ir x1 ∧ (((¬ a 0 18 (Int.toNat x3) = x1) → (wb_M_pair_30 post (wb_M_pair_2 post n) x1 x2 x3 f a)) ∧ (¬ (¬ a 0 18 (Int.toNat x3) = x1) → (ir (a 0 19 (Int.toNat x3)) ∧ (ir x2 ∧ (((a 0 19 (Int.toNat x3) = x2) → (wb_M_pair_36 post x3 f a)) ∧ (¬ (a 0 19 (Int.toNat x3) = x2) → (wb_M_pair_30 post (wb_M_pair_2 post n) x1 x2 x3 f a)))))))))))))
set_option maxHeartbeats 4000000 in
set_option maxRecDepth 100000 in
theorem tb_M_pair_2 {p : Program} {l : Launch} {e : Env} {s : State} {m : MethodId} {args : Array Value} {below : List Frame} {meth : Method} {c : Code} {A : Nat → Prop} {D : va_G} {ad : Nat → Nat → Nat} {cA : Nat → Nat → ClassId} {post : Int → fS → aS → Prop} (hO : xOk cM_pair 4 RM (Cond.code yM_pair cM_pair 4 (some .int) :: xG) (some .int) p s m args meth c A D vwCl (taM cA)) : ∀ (n : Nat) (x1 : Int) (x2 : Int) (x3 : Int) (f : fS) (a : aS), wb_M_pair_2 post n x1 x2 x3 f a → gM_pair p l e s m args below meth c A D ad cA post f a [(0, .ref (ad 0 0)), (1, .int (iI x1)), (2, .int (iI x2)), (3, .int (iI x3))] 2 [] := by
  have hO9 := hO
  obtain ⟨hx, hb, hml, hown, hts, hr, hlk, hK, hN, hA⟩ := hO9
  intro n
  induction n with
  | zero => intro x1 x2 x3 f a h; exact False.elim h
  | succ n ih =>
    intro x1 x2 x3 f a h
    rw [wb_M_pair_2] at h
    refine x_iload_n hx hb dM_pair_2 rfl 3 rfl ?_
    refine x_aload_n hx hb dM_pair_3 rfl 0 rfl ?_
    refine x_get hx hb hts (jnM _) hown hK _ (woM ad cA f a) rfl 8 (by decide) (hts _ (List.mem_cons_of_mem _ kfM_69)) (fun _ h9 => h9) (v := .int (iI (f 0 8))) (by rfl) dM_pair_4 ?_
    obtain ⟨hi1, h⟩ := h
    obtain ⟨hi2, h⟩ := h
    refine x_icmp_ge hx hb (tgt := 36) hi1 hi2 dM_pair_7 (by decide) (fun hc => ?_) (fun hc => ?_)
    · have h := h.1 hc
      refine x_sub [3] rfl ?_
      exact tb_M_pair_36 hO x3 f a h
    · have h := h.2 hc
      refine x_aload_n hx hb dM_pair_10 rfl 0 rfl ?_
      refine x_get hx hb hts (jnM _) hown hK _ (woM ad cA f a) rfl 18 (by decide) (hts _ (List.mem_cons_of_mem _ kfM_49)) (fun _ h9 => h9) (v := .ref (ad 0 19)) (by rfl) dM_pair_11 ?_
      refine x_iload_n hx hb dM_pair_14 rfl 3 rfl ?_
      obtain ⟨hj3, h⟩ := h
      refine x_iald hx hb hK _ _ (wa18M ad cA f a) (wt18M cA) hj3.1 hj3.2 (by decide) dM_pair_15 ?_
      refine x_iload_n hx hb dM_pair_16 rfl 1 rfl ?_
      obtain ⟨hi4, h⟩ := h
      obtain ⟨hi5, h⟩ := h
      refine x_icmp_ne hx hb (tgt := 30) hi4 hi5 dM_pair_17 (by decide) (fun hc => ?_) (fun hc => ?_)
      · have h := h.1 hc
        exact tb_M_pair_30 hO ih x1 x2 x3 f a h
      · have h := h.2 hc
        refine x_aload_n hx hb dM_pair_20 rfl 0 rfl ?_
        refine x_get hx hb hts (jnM _) hown hK _ (woM ad cA f a) rfl 19 (by decide) (hts _ (List.mem_cons_of_mem _ kfM_52)) (fun _ h9 => h9) (v := .ref (ad 0 20)) (by rfl) dM_pair_21 ?_
        refine x_iload_n hx hb dM_pair_24 rfl 3 rfl ?_
        refine x_iald hx hb hK _ _ (wa19M ad cA f a) (wt19M cA) hj3.1 hj3.2 (by decide) dM_pair_25 ?_
        refine x_iload_n hx hb dM_pair_26 rfl 2 rfl ?_
        obtain ⟨hi6, h⟩ := h
        obtain ⟨hi7, h⟩ := h
        refine x_icmp_eq hx hb (tgt := 36) hi6 hi7 dM_pair_27 (by decide) (fun hc => ?_) (fun hc => ?_)
        · have h := h.1 hc
          refine x_sub [3] rfl ?_
          exact tb_M_pair_36 hO x3 f a h
        · have h := h.2 hc
          exact tb_M_pair_30 hO ih x1 x2 x3 f a h
def wp_M_pair (post : Int → fS → aS → Prop) (x1 : Int) (x2 : Int) (f : fS) (a : aS) : Prop := ∃ j, wb_M_pair_2 post j x1 x2 0 f a
set_option maxHeartbeats 4000000 in
set_option maxRecDepth 100000 in
theorem m_M_pair {l : Launch} {D : va_G} {ad : Nat → Nat → Nat} {cA : Nat → Nat → ClassId} {post : Int → fS → aS → Prop} {x1 : Int} {x2 : Int} {f : fS} {a : aS} (h : wp_M_pair post x1 x2 f a) : xCI l yM_pair (Cond.code yM_pair cM_pair 4 (some .int) :: xG) rmM_pair D vwCl (taM cA) (MW ad cA f a) [.ref (ad 0 0), .int (iI x1), .int (iI x2)] (MW ad cA) post := by
  refine x_metI (cc := cM_pair) (nL := 4) (by decide) rfl (Nat.le_of_ble_eq_true rfl) ?_
  intro p e s m below meth c A hO
  have hO9 := hO
  obtain ⟨hx, hb, hml, hown, hts, hr, hlk, hK, hN, hA⟩ := hO9
  unfold wp_M_pair at h
  show gM_pair p l e s m _ below meth c A D ad cA post f a [(0, .ref (ad 0 0)), (1, .int (iI x1)), (2, .int (iI x2))] 0 []
  refine x_iconst hx hb dM_pair_0 ?_
  refine x_istore_n hx hb dM_pair_1 rfl (by decide) (lv' := [(3, .int (iI 0)), (0, .ref (ad 0 0)), (1, .int (iI x1)), (2, .int (iI x2))]) rfl ?_
  obtain ⟨j, h⟩ := h
  refine x_sub [1, 2, 3, 0] rfl ?_
  exact tb_M_pair_2 hO j x1 x2 0 f a h
-- M_meet
abbrev rmM_meet : Room := { frames := 3, cells := 0, slots := 0, locals := 72 }
abbrev gM_meet (p : Program) (l : Launch) (e : Env) (s : State) (m : MethodId) (args : Array Value) (below : List Frame) (meth : Method) (c : Code) (A : Nat → Prop) (D : va_G) (ad : Nat → Nat → Nat) (cA : Nat → Nat → ClassId) (post : Int → fS → aS → Prop) (f : fS) (a : aS) (lv : List (Nat × Value)) (pc : Nat) (st : List Value) : Prop := xV p l e rmM_meet s m args below meth c s.heap A 0 0 (xQI below D vwCl (taM cA) (MW ad cA) post A args s) D vwCl 9 (MW ad cA f a) lv pc st
def wb_M_meet_21 (post : Int → fS → aS → Prop) (f : fS) (a : aS) : Prop := post (-1) f a
set_option maxHeartbeats 4000000 in
set_option maxRecDepth 100000 in
theorem tb_M_meet_21 {p : Program} {l : Launch} {e : Env} {s : State} {m : MethodId} {args : Array Value} {below : List Frame} {meth : Method} {c : Code} {A : Nat → Prop} {D : va_G} {ad : Nat → Nat → Nat} {cA : Nat → Nat → ClassId} {post : Int → fS → aS → Prop} (hO : xOk cM_meet 9 RM (Cond.code yM_meet cM_meet 9 (some .int) :: xG) (some .int) p s m args meth c A D vwCl (taM cA)) : ∀ (f : fS) (a : aS), wb_M_meet_21 post f a → gM_meet p l e s m args below meth c A D ad cA post f a [] 21 [] := by
  have hO9 := hO
  obtain ⟨hx, hb, hml, hown, hts, hr, hlk, hK, hN, hA⟩ := hO9
  intro f a h
  unfold wb_M_meet_21 at h
  refine x_iconst hx hb dM_meet_21 ?_
  exact x_iret hx hb hr hlk hK dM_meet_22 h
def wb_M_meet_190 (post : Int → fS → aS → Prop) (k57 : Int → Int → Int → Int → Int → fS → aS → Prop) (x1 : Int) (x2 : Int) (x3 : Int) (x4 : Int) (x5 : Int) (f : fS) (a : aS) : Prop := k57 x1 x2 x3 x4 (x5 + 1) f a
set_option maxHeartbeats 4000000 in
set_option maxRecDepth 100000 in
theorem tb_M_meet_190 {p : Program} {l : Launch} {e : Env} {s : State} {m : MethodId} {args : Array Value} {below : List Frame} {meth : Method} {c : Code} {A : Nat → Prop} {D : va_G} {ad : Nat → Nat → Nat} {cA : Nat → Nat → ClassId} {post : Int → fS → aS → Prop} {k57 : Int → Int → Int → Int → Int → fS → aS → Prop} (hO : xOk cM_meet 9 RM (Cond.code yM_meet cM_meet 9 (some .int) :: xG) (some .int) p s m args meth c A D vwCl (taM cA)) (hk57 : ∀ (x1 : Int) (x2 : Int) (x3 : Int) (x4 : Int) (x5 : Int) (f : fS) (a : aS), k57 x1 x2 x3 x4 x5 f a → gM_meet p l e s m args below meth c A D ad cA post f a [(0, .ref (ad 0 0)), (1, .int (iI x1)), (2, .int (iI x2)), (3, .int (iI x3)), (4, .int (iI x4)), (5, .int (iI x5))] 57 []) : ∀ (x1 : Int) (x2 : Int) (x3 : Int) (x4 : Int) (x5 : Int) (f : fS) (a : aS), wb_M_meet_190 post k57 x1 x2 x3 x4 x5 f a → gM_meet p l e s m args below meth c A D ad cA post f a [(0, .ref (ad 0 0)), (1, .int (iI x1)), (2, .int (iI x2)), (3, .int (iI x3)), (4, .int (iI x4)), (5, .int (iI x5))] 190 [] := by
  have hO9 := hO
  obtain ⟨hx, hb, hml, hown, hts, hr, hlk, hK, hN, hA⟩ := hO9
  intro x1 x2 x3 x4 x5 f a h
  unfold wb_M_meet_190 at h
  refine x_iinc hx hb dM_meet_190 5 rfl (by decide) (lv' := [(5, .int (iI (x5 + 1))), (0, .ref (ad 0 0)), (1, .int (iI x1)), (2, .int (iI x2)), (3, .int (iI x3)), (4, .int (iI x4))]) rfl ?_
  refine x_goto hx hb (tgt := 57) dM_meet_193 (by decide) ?_
  refine x_sub [1, 2, 3, 4, 5, 0] rfl ?_
  exact hk57 x1 x2 x3 x4 (x5 + 1) f a h
def wb_M_meet_167 (post : Int → fS → aS → Prop) (k57 : Int → Int → Int → Int → Int → fS → aS → Prop) (x1 : Int) (x2 : Int) (x3 : Int) (x4 : Int) (x5 : Int) (x8 : Int) (y1 : Int) (f : fS) (a : aS) : Prop := (0 ≤ x5 ∧ x5 ≤ 2147483647) ∧ (ir (x5 % 2) ∧ (((¬ x5 % 2 = 0) → (wb_M_meet_190 post k57 x1 x2 x3 x4 x5 (setF f 0 8 y1) a)) ∧ (¬ (¬ x5 % 2 = 0) → (wp_M_letterOf (fun z45 f46 a47 => wp_M_addEdge (fun f49 a50 => wb_M_meet_190 post k57 x1 x2 x3 x4 x5 f49 a50) x4 z45 x8 f46 a47) x5 (setF f 0 8 y1) a))))
set_option maxHeartbeats 4000000 in
set_option maxRecDepth 100000 in
theorem tb_M_meet_167 {p : Program} {l : Launch} {e : Env} {s : State} {m : MethodId} {args : Array Value} {below : List Frame} {meth : Method} {c : Code} {A : Nat → Prop} {D : va_G} {ad : Nat → Nat → Nat} {cA : Nat → Nat → ClassId} {post : Int → fS → aS → Prop} {k57 : Int → Int → Int → Int → Int → fS → aS → Prop} (hO : xOk cM_meet 9 RM (Cond.code yM_meet cM_meet 9 (some .int) :: xG) (some .int) p s m args meth c A D vwCl (taM cA)) (hk57 : ∀ (x1 : Int) (x2 : Int) (x3 : Int) (x4 : Int) (x5 : Int) (f : fS) (a : aS), k57 x1 x2 x3 x4 x5 f a → gM_meet p l e s m args below meth c A D ad cA post f a [(0, .ref (ad 0 0)), (1, .int (iI x1)), (2, .int (iI x2)), (3, .int (iI x3)), (4, .int (iI x4)), (5, .int (iI x5))] 57 []) : ∀ (x1 : Int) (x2 : Int) (x3 : Int) (x4 : Int) (x5 : Int) (x8 : Int) (y1 : Int) (f : fS) (a : aS), wb_M_meet_167 post k57 x1 x2 x3 x4 x5 x8 y1 f a → gM_meet p l e s m args below meth c A D ad cA post f a [(0, .ref (ad 0 0)), (1, .int (iI x1)), (2, .int (iI x2)), (3, .int (iI x3)), (4, .int (iI x4)), (5, .int (iI x5)), (8, .int (iI x8))] 167 [.int (iI y1), .ref (ad 0 0)] := by
  have hO9 := hO
  obtain ⟨hx, hb, hml, hown, hts, hr, hlk, hK, hN, hA⟩ := hO9
  intro x1 x2 x3 x4 x5 x8 y1 f a h
  unfold wb_M_meet_167 at h
  refine x_put hx hb hts (jnM _) tyM tkM nmM hown hK _ (woM ad cA f a) rfl 8 (by decide) (hts _ (List.mem_cons_of_mem _ kfM_69)) (fun _ h9 => h9) rfl (by decide +kernel) (Nat.le_of_ble_eq_true rfl) dM_meet_167 (wf8M ad cA f a y1) ?_
  refine x_iload hx hb dM_meet_170 5 rfl ?_
  refine x_iconst hx hb dM_meet_172 ?_
  obtain ⟨hn43, h⟩ := h
  refine x_irem hx hb hn43.1 hn43.2 (by decide) (by decide) dM_meet_173 ?_
  obtain ⟨hi44, h⟩ := h
  refine x_if_ne hx hb (tgt := 190) hi44  dM_meet_174 (by decide) (fun hc => ?_) (fun hc => ?_)
  · have h := h.1 hc
    refine x_sub [0, 1, 2, 3, 4, 5] rfl ?_
    exact tb_M_meet_190 hO hk57 x1 x2 x3 x4 x5 (setF f 0 8 y1) a h
  · have h := h.2 hc
    refine x_aload_n hx hb dM_meet_177 rfl 0 rfl ?_
    refine x_iload hx hb dM_meet_178 4 rfl ?_
    refine x_iload hx hb dM_meet_180 5 rfl ?_
    refine x_cSi (n := 1) (st := [.int (iI x4), .ref (ad 0 0)]) (As := [.int (iI x5)]) ⟨hx, hb, hml, hown, hts⟩ hK hN (m_M_letterOf h) (x_cwS hts rfl rfl kcM_letterOf knM klM_124 ksM_letterOf ⟨by decide, by decide, by decide +kernel⟩ ⟨by decide, by decide⟩) hA rfl (Nat.le_of_ble_eq_true rfl) ⟨Nat.zero_le _, Nat.zero_le _⟩ rfl dM_meet_182 (fun z45 f46 a47 h => ?_)
    refine x_iload hx hb dM_meet_185 6 rfl ?_
    refine x_cVv (n := 3) (st := []) (As := [.int (iI x4), .int (iI z45), .int (iI x8)]) ⟨hx, hb, hml, hown, hts⟩ hK hN (m_M_addEdge h) (x_cwV hts rfl rfl kcM_addEdge knM klM_86 kiM_addEdge keM_addEdge ⟨by decide, by decide, by decide +kernel⟩ ⟨by decide, by decide⟩) _ (woM ad cA f46 a47) rfl hA rfl (Nat.le_of_ble_eq_true rfl) ⟨Nat.zero_le _, Nat.zero_le _⟩ rfl dM_meet_187 (fun f49 a50 h => ?_)
    refine x_sub [0, 1, 2, 3, 4, 5] rfl ?_
    exact tb_M_meet_190 hO hk57 x1 x2 x3 x4 x5 f49 a50 h
def wb_M_meet_57 (post : Int → fS → aS → Prop) (k45 : Int → Int → Int → Int → fS → aS → Prop) : Nat → Int → Int → Int → Int → Int → fS → aS → Prop
  | 0, _, _, _, _, _, _, _ => False
  | n + 1, x1, x2, x3, x4, x5, f, a => ir x5 ∧ (((6 ≤ x5) → (k45 x1 x2 x3 (x4 + 1) f a)) ∧ (¬ (6 ≤ x5) → ((0 ≤ x4 ∧ x4 < 64) ∧ (wp_M_way (fun z29 f30 a31 => wp_M_way (fun z32 f33 a34 => ir z29 ∧ (((z29 < 0) → (wb_M_meet_190 post (wb_M_meet_57 post k45 n) x1 x2 x3 x4 x5 f33 a34)) ∧ (¬ (z29 < 0) → (ir z32 ∧ (((z32 < 0) → (wb_M_meet_190 post (wb_M_meet_57 post k45 n) x1 x2 x3 x4 x5 f33 a34)) ∧ (¬ (z32 < 0) → (wp_M_pair (fun z37 f38 a39 => ir z37 ∧ (((¬ z37 = 64) → ((0 ≤ z37 ∧ z37 < 64) ∧ (ir (f38 0 8) ∧ (((¬ z37 = f38 0 8) → (wb_M_meet_167 post (wb_M_meet_57 post k45 n) x1 x2 x3 x4 x5 z37 (f38 0 8) f38 (setA (setA a39 0 18 (va_up (a39 0 18) (Int.toNat z37) z29)) 0 19 (va_up (a39 0 19) (Int.toNat z37) z32)))) ∧ (¬ (¬ z37 = f38 0 8) → (wb_M_meet_167 post (wb_M_meet_57 post k45 n) x1 x2 x3 x4 x5 z37 ((f38 0 8) + 1) f38 (setA (setA a39 0 18 (va_up (a39 0 18) (Int.toNat z37) z29)) 0 19 (va_up (a39 0 19) (Int.toNat z37) z32)))))))) ∧ (¬ (¬ z37 = 64) → (post (-2) f38 a39)))) z29 z32 f33 a34))))))) x3 ((a31 0 19) (Int.toNat x4)) x5 f30 a31) x2 (a 0 18 (Int.toNat x4)) x5 f a))))
set_option maxHeartbeats 4000000 in
set_option maxRecDepth 100000 in
theorem tb_M_meet_57 {p : Program} {l : Launch} {e : Env} {s : State} {m : MethodId} {args : Array Value} {below : List Frame} {meth : Method} {c : Code} {A : Nat → Prop} {D : va_G} {ad : Nat → Nat → Nat} {cA : Nat → Nat → ClassId} {post : Int → fS → aS → Prop} {k45 : Int → Int → Int → Int → fS → aS → Prop} (hO : xOk cM_meet 9 RM (Cond.code yM_meet cM_meet 9 (some .int) :: xG) (some .int) p s m args meth c A D vwCl (taM cA)) (hk45 : ∀ (x1 : Int) (x2 : Int) (x3 : Int) (x4 : Int) (f : fS) (a : aS), k45 x1 x2 x3 x4 f a → gM_meet p l e s m args below meth c A D ad cA post f a [(0, .ref (ad 0 0)), (1, .int (iI x1)), (2, .int (iI x2)), (3, .int (iI x3)), (4, .int (iI x4))] 45 []) : ∀ (n : Nat) (x1 : Int) (x2 : Int) (x3 : Int) (x4 : Int) (x5 : Int) (f : fS) (a : aS), wb_M_meet_57 post k45 n x1 x2 x3 x4 x5 f a → gM_meet p l e s m args below meth c A D ad cA post f a [(0, .ref (ad 0 0)), (1, .int (iI x1)), (2, .int (iI x2)), (3, .int (iI x3)), (4, .int (iI x4)), (5, .int (iI x5))] 57 [] := by
  have hO9 := hO
  obtain ⟨hx, hb, hml, hown, hts, hr, hlk, hK, hN, hA⟩ := hO9
  intro n
  induction n with
  | zero => intro x1 x2 x3 x4 x5 f a h; exact False.elim h
  | succ n ih =>
    intro x1 x2 x3 x4 x5 f a h
    rw [wb_M_meet_57] at h
    refine x_iload hx hb dM_meet_57 5 rfl ?_
    refine x_bipush hx hb dM_meet_59 (by decide) ?_
    obtain ⟨hi27, h⟩ := h
    refine x_icmp_ge hx hb (tgt := 196) hi27 (by decide) dM_meet_61 (by decide) (fun hc => ?_) (fun hc => ?_)
    · have h := h.1 hc
      refine x_iinc hx hb dM_meet_196 4 rfl (by decide) (lv' := [(4, .int (iI (x4 + 1))), (0, .ref (ad 0 0)), (1, .int (iI x1)), (2, .int (iI x2)), (3, .int (iI x3)), (5, .int (iI x5))]) rfl ?_
      refine x_goto hx hb (tgt := 45) dM_meet_199 (by decide) ?_
      refine x_sub [1, 2, 3, 4, 0] rfl ?_
      exact hk45 x1 x2 x3 (x4 + 1) f a h
    · have h := h.2 hc
      refine x_aload_n hx hb dM_meet_64 rfl 0 rfl ?_
      refine x_iload_n hx hb dM_meet_65 rfl 2 rfl ?_
      refine x_aload_n hx hb dM_meet_66 rfl 0 rfl ?_
      refine x_get hx hb hts (jnM _) hown hK _ (woM ad cA f a) rfl 18 (by decide) (hts _ (List.mem_cons_of_mem _ kfM_49)) (fun _ h9 => h9) (v := .ref (ad 0 19)) (by rfl) dM_meet_67 ?_
      refine x_iload hx hb dM_meet_70 4 rfl ?_
      obtain ⟨hj28, h⟩ := h
      refine x_iald hx hb hK _ _ (wa18M ad cA f a) (wt18M cA) hj28.1 hj28.2 (by decide) dM_meet_72 ?_
      refine x_iload hx hb dM_meet_73 5 rfl ?_
      refine x_cVi (n := 3) (st := []) (As := [.int (iI x2), .int (iI (a 0 18 (Int.toNat x4))), .int (iI x5)]) ⟨hx, hb, hml, hown, hts⟩ hK hN (m_M_way h) (x_cwV hts rfl rfl kcM_way knM klM_82 kiM_way keM_way ⟨by decide, by decide, by decide +kernel⟩ ⟨by decide, by decide⟩) _ (woM ad cA f a) rfl hA rfl (Nat.le_of_ble_eq_true rfl) ⟨Nat.zero_le _, Nat.zero_le _⟩ rfl dM_meet_75 (fun z29 f30 a31 h => ?_)
      refine x_istore hx hb dM_meet_78 (by decide) (lv' := [(6, .int (iI z29)), (0, .ref (ad 0 0)), (1, .int (iI x1)), (2, .int (iI x2)), (3, .int (iI x3)), (4, .int (iI x4)), (5, .int (iI x5))]) rfl ?_
      refine x_aload_n hx hb dM_meet_80 rfl 1 rfl ?_
      refine x_iload_n hx hb dM_meet_81 rfl 4 rfl ?_
      refine x_aload_n hx hb dM_meet_82 rfl 1 rfl ?_
      refine x_get hx hb hts (jnM _) hown hK _ (woM ad cA f30 a31) rfl 19 (by decide) (hts _ (List.mem_cons_of_mem _ kfM_52)) (fun _ h9 => h9) (v := .ref (ad 0 20)) (by rfl) dM_meet_83 ?_
      refine x_iload hx hb dM_meet_86 5 rfl ?_
      refine x_iald hx hb hK _ _ (wa19M ad cA f30 a31) (wt19M cA) hj28.1 hj28.2 (by decide) dM_meet_88 ?_
      refine x_iload hx hb dM_meet_89 6 rfl ?_
      refine x_cVi (n := 3) (st := []) (As := [.int (iI x3), .int (iI ((a31 0 19) (Int.toNat x4))), .int (iI x5)]) ⟨hx, hb, hml, hown, hts⟩ hK hN (m_M_way h) (x_cwV hts rfl rfl kcM_way knM klM_82 kiM_way keM_way ⟨by decide, by decide, by decide +kernel⟩ ⟨by decide, by decide⟩) _ (woM ad cA f30 a31) rfl hA rfl (Nat.le_of_ble_eq_true rfl) ⟨Nat.zero_le _, Nat.zero_le _⟩ rfl dM_meet_91 (fun z32 f33 a34 h => ?_)
      refine x_istore hx hb dM_meet_94 (by decide) (lv' := [(7, .int (iI z32)), (6, .int (iI z29)), (0, .ref (ad 0 0)), (1, .int (iI x1)), (2, .int (iI x2)), (3, .int (iI x3)), (4, .int (iI x4)), (5, .int (iI x5))]) rfl ?_
      refine x_iload hx hb dM_meet_96 1 rfl ?_
      obtain ⟨hi35, h⟩ := h
      refine x_if_lt hx hb (tgt := 190) hi35  dM_meet_98 (by decide) (fun hc => ?_) (fun hc => ?_)
      · have h := h.1 hc
        refine x_sub [2, 3, 4, 5, 6, 7] rfl ?_
        exact tb_M_meet_190 hO ih x1 x2 x3 x4 x5 f33 a34 h
      · have h := h.2 hc
        refine x_iload hx hb dM_meet_101 0 rfl ?_
        obtain ⟨hi36, h⟩ := h
        refine x_if_lt hx hb (tgt := 190) hi36  dM_meet_103 (by decide) (fun hc => ?_) (fun hc => ?_)
        · have h := h.1 hc
          refine x_sub [2, 3, 4, 5, 6, 7] rfl ?_
          exact tb_M_meet_190 hO ih x1 x2 x3 x4 x5 f33 a34 h
        · have h := h.2 hc
          refine x_aload_n hx hb dM_meet_106 rfl 2 rfl ?_
          refine x_iload hx hb dM_meet_107 1 rfl ?_
          refine x_iload hx hb dM_meet_109 0 rfl ?_
          refine x_cVi (n := 2) (st := []) (As := [.int (iI z29), .int (iI z32)]) ⟨hx, hb, hml, hown, hts⟩ hK hN (m_M_pair h) (x_cwV hts rfl rfl kcM_pair knM klM_120 kiM_pair keM_pair ⟨by decide, by decide, by decide +kernel⟩ ⟨by decide, by decide⟩) _ (woM ad cA f33 a34) rfl hA rfl (Nat.le_of_ble_eq_true rfl) ⟨Nat.zero_le _, Nat.zero_le _⟩ rfl dM_meet_111 (fun z37 f38 a39 h => ?_)
          refine x_istore hx hb dM_meet_114 (by decide) (lv' := [(8, .int (iI z37)), (7, .int (iI z32)), (6, .int (iI z29)), (0, .ref (ad 0 0)), (1, .int (iI x1)), (2, .int (iI x2)), (3, .int (iI x3)), (4, .int (iI x4)), (5, .int (iI x5))]) rfl ?_
          refine x_iload hx hb dM_meet_116 0 rfl ?_
          refine x_bipush hx hb dM_meet_118 (by decide) ?_
          obtain ⟨hi40, h⟩ := h
          refine x_icmp_ne hx hb (tgt := 126) hi40 (by decide) dM_meet_120 (by decide) (fun hc => ?_) (fun hc => ?_)
          · have h := h.1 hc
            refine x_aload_n hx hb dM_meet_126 rfl 3 rfl ?_
            refine x_get hx hb hts (jnM _) hown hK _ (woM ad cA f38 a39) rfl 18 (by decide) (hts _ (List.mem_cons_of_mem _ kfM_49)) (fun _ h9 => h9) (v := .ref (ad 0 19)) (by rfl) dM_meet_127 ?_
            refine x_iload hx hb dM_meet_130 0 rfl ?_
            refine x_iload hx hb dM_meet_132 2 rfl ?_
            obtain ⟨hj41, h⟩ := h
            refine x_iast hx hb hK _ _ (wa18M ad cA f38 a39) (wt18M cA) hj41.1 hj41.2 (by decide) dM_meet_134 (ws18M ad cA f38 a39 (va_up (a39 0 18) (Int.toNat z37) z29)) ?_
            refine x_aload_n hx hb dM_meet_135 rfl 3 rfl ?_
            refine x_get hx hb hts (jnM _) hown hK _ (woM ad cA f38 (setA a39 0 18 (va_up (a39 0 18) (Int.toNat z37) z29))) rfl 19 (by decide) (hts _ (List.mem_cons_of_mem _ kfM_52)) (fun _ h9 => h9) (v := .ref (ad 0 20)) (by rfl) dM_meet_136 ?_
            refine x_iload hx hb dM_meet_139 0 rfl ?_
            refine x_iload hx hb dM_meet_141 1 rfl ?_
            refine x_iast hx hb hK _ _ (wa19M ad cA f38 (setA a39 0 18 (va_up (a39 0 18) (Int.toNat z37) z29))) (wt19M cA) hj41.1 hj41.2 (by decide) dM_meet_143 (Eq.trans (by rw [(setA_k a39 (o := 0) (k := 18) (o' := 0) (k' := 19) (va_up (a39 0 18) (Int.toNat z37) z29) (by decide))]) (ws19M ad cA f38 (setA a39 0 18 (va_up (a39 0 18) (Int.toNat z37) z29)) (va_up (a39 0 19) (Int.toNat z37) z32))) ?_
            refine x_aload_n hx hb dM_meet_144 rfl 3 rfl ?_
            refine x_iload hx hb dM_meet_145 0 rfl ?_
            refine x_aload_n hx hb dM_meet_147 rfl 3 rfl ?_
            refine x_get hx hb hts (jnM _) hown hK _ (woM ad cA f38 (setA (setA a39 0 18 (va_up (a39 0 18) (Int.toNat z37) z29)) 0 19 (va_up (a39 0 19) (Int.toNat z37) z32))) rfl 8 (by decide) (hts _ (List.mem_cons_of_mem _ kfM_69)) (fun _ h9 => h9) (v := .int (iI (f38 0 8))) (by rfl) dM_meet_148 ?_
            obtain ⟨hi42, h⟩ := h
            refine x_icmp_ne hx hb (tgt := 163) hi40 hi42 dM_meet_151 (by decide) (fun hc => ?_) (fun hc => ?_)
            · have h := h.1 hc
              refine x_aload_n hx hb dM_meet_163 rfl 3 rfl ?_
              refine x_get hx hb hts (jnM _) hown hK _ (woM ad cA f38 (setA (setA a39 0 18 (va_up (a39 0 18) (Int.toNat z37) z29)) 0 19 (va_up (a39 0 19) (Int.toNat z37) z32))) rfl 8 (by decide) (hts _ (List.mem_cons_of_mem _ kfM_69)) (fun _ h9 => h9) (v := .int (iI (f38 0 8))) (by rfl) dM_meet_164 ?_
              refine x_sub [3, 4, 5, 6, 7, 8, 0] rfl ?_
              exact tb_M_meet_167 hO ih x1 x2 x3 x4 x5 z37 (f38 0 8) f38 (setA (setA a39 0 18 (va_up (a39 0 18) (Int.toNat z37) z29)) 0 19 (va_up (a39 0 19) (Int.toNat z37) z32)) h
            · have h := h.2 hc
              refine x_aload_n hx hb dM_meet_154 rfl 3 rfl ?_
              refine x_get hx hb hts (jnM _) hown hK _ (woM ad cA f38 (setA (setA a39 0 18 (va_up (a39 0 18) (Int.toNat z37) z29)) 0 19 (va_up (a39 0 19) (Int.toNat z37) z32))) rfl 8 (by decide) (hts _ (List.mem_cons_of_mem _ kfM_69)) (fun _ h9 => h9) (v := .int (iI (f38 0 8))) (by rfl) dM_meet_155 ?_
              refine x_iconst hx hb dM_meet_158 ?_
              refine x_iadd hx hb dM_meet_159 ?_
              refine x_goto hx hb (tgt := 167) dM_meet_160 (by decide) ?_
              refine x_sub [3, 4, 5, 6, 7, 8, 0] rfl ?_
              exact tb_M_meet_167 hO ih x1 x2 x3 x4 x5 z37 ((f38 0 8) + 1) f38 (setA (setA a39 0 18 (va_up (a39 0 18) (Int.toNat z37) z29)) 0 19 (va_up (a39 0 19) (Int.toNat z37) z32)) h
          · have h := h.2 hc
            refine x_bipush hx hb dM_meet_123 (by decide) ?_
            exact x_iret hx hb hr hlk hK dM_meet_125 h
def wb_M_meet_45 (post : Int → fS → aS → Prop) : Nat → Int → Int → Int → Int → fS → aS → Prop
  | 0, _, _, _, _, _, _ => False
  | n + 1, x1, x2, x3, x4, f, a => ir x4 ∧ (ir (f 0 8) ∧ (((f 0 8 ≤ x4) → (wp_M_fold (fun f19 a20 => wp_M_trim (fun f22 a23 => wp_M_settle (fun z24 f25 a26 => post z24 f25 a26) x1 f22 a23)  f19 a20)  f a)) ∧ (¬ (f 0 8 ≤ x4) → (∃ j, wb_M_meet_57 post (wb_M_meet_45 post n) j x1 x2 x3 x4 0 f a))))
set_option maxHeartbeats 4000000 in
set_option maxRecDepth 100000 in
theorem tb_M_meet_45 {p : Program} {l : Launch} {e : Env} {s : State} {m : MethodId} {args : Array Value} {below : List Frame} {meth : Method} {c : Code} {A : Nat → Prop} {D : va_G} {ad : Nat → Nat → Nat} {cA : Nat → Nat → ClassId} {post : Int → fS → aS → Prop} (hO : xOk cM_meet 9 RM (Cond.code yM_meet cM_meet 9 (some .int) :: xG) (some .int) p s m args meth c A D vwCl (taM cA)) : ∀ (n : Nat) (x1 : Int) (x2 : Int) (x3 : Int) (x4 : Int) (f : fS) (a : aS), wb_M_meet_45 post n x1 x2 x3 x4 f a → gM_meet p l e s m args below meth c A D ad cA post f a [(0, .ref (ad 0 0)), (1, .int (iI x1)), (2, .int (iI x2)), (3, .int (iI x3)), (4, .int (iI x4))] 45 [] := by
  have hO9 := hO
  obtain ⟨hx, hb, hml, hown, hts, hr, hlk, hK, hN, hA⟩ := hO9
  intro n
  induction n with
  | zero => intro x1 x2 x3 x4 f a h; exact False.elim h
  | succ n ih =>
    intro x1 x2 x3 x4 f a h
    rw [wb_M_meet_45] at h
    refine x_iload hx hb dM_meet_45 4 rfl ?_
    refine x_aload_n hx hb dM_meet_47 rfl 0 rfl ?_
    refine x_get hx hb hts (jnM _) hown hK _ (woM ad cA f a) rfl 8 (by decide) (hts _ (List.mem_cons_of_mem _ kfM_69)) (fun _ h9 => h9) (v := .int (iI (f 0 8))) (by rfl) dM_meet_48 ?_
    obtain ⟨hi16, h⟩ := h
    obtain ⟨hi17, h⟩ := h
    refine x_icmp_ge hx hb (tgt := 202) hi16 hi17 dM_meet_51 (by decide) (fun hc => ?_) (fun hc => ?_)
    · have h := h.1 hc
      refine x_aload_n hx hb dM_meet_202 rfl 0 rfl ?_
      refine x_cVv (n := 0) (st := []) (As := []) ⟨hx, hb, hml, hown, hts⟩ hK hN (m_M_fold h) (x_cwV hts rfl rfl kcM_fold knM klM_111 kiM_fold keM_fold ⟨by decide, by decide, by decide +kernel⟩ ⟨by decide, by decide⟩) _ (woM ad cA f a) rfl hA rfl (Nat.le_of_ble_eq_true rfl) ⟨Nat.zero_le _, Nat.zero_le _⟩ rfl dM_meet_203 (fun f19 a20 h => ?_)
      refine x_aload_n hx hb dM_meet_206 rfl 0 rfl ?_
      refine x_cVv (n := 0) (st := []) (As := []) ⟨hx, hb, hml, hown, hts⟩ hK hN (m_M_trim h) (x_cwV hts rfl rfl kcM_trim knM klM_117 kiM_trim keM_trim ⟨by decide, by decide, by decide +kernel⟩ ⟨by decide, by decide⟩) _ (woM ad cA f19 a20) rfl hA rfl (Nat.le_of_ble_eq_true rfl) ⟨Nat.zero_le _, Nat.zero_le _⟩ rfl dM_meet_207 (fun f22 a23 h => ?_)
      refine x_aload_n hx hb dM_meet_210 rfl 0 rfl ?_
      refine x_iload_n hx hb dM_meet_211 rfl 1 rfl ?_
      refine x_cVi (n := 1) (st := []) (As := [.int (iI x1)]) ⟨hx, hb, hml, hown, hts⟩ hK hN (m_M_settle h) (x_cwV hts rfl rfl kcM_settle knM klM_114 kiM_settle keM_settle ⟨by decide, by decide, by decide +kernel⟩ ⟨by decide, by decide⟩) _ (woM ad cA f22 a23) rfl hA rfl (Nat.le_of_ble_eq_true rfl) ⟨Nat.zero_le _, Nat.zero_le _⟩ rfl dM_meet_212 (fun z24 f25 a26 h => ?_)
      exact x_iret hx hb hr hlk hK dM_meet_215 h
    · have h := h.2 hc
      refine x_iconst hx hb dM_meet_54 ?_
      refine x_istore hx hb dM_meet_55 (by decide) (lv' := [(5, .int (iI 0)), (0, .ref (ad 0 0)), (1, .int (iI x1)), (2, .int (iI x2)), (3, .int (iI x3)), (4, .int (iI x4))]) rfl ?_
      obtain ⟨j, h⟩ := h
      refine x_sub [1, 2, 3, 4, 5, 0] rfl ?_
      exact tb_M_meet_57 hO ih j x1 x2 x3 x4 0 f a h
def wp_M_meet (post : Int → fS → aS → Prop) (x1 : Int) (x2 : Int) (x3 : Int) (f : fS) (a : aS) : Prop := wp_M_isGroup (fun z1 f2 a3 => ir z1 ∧ (((z1 = 0) → (wb_M_meet_21 post f2 a3)) ∧ (¬ (z1 = 0) → (wp_M_isGroup (fun z5 f6 a7 => ir z5 ∧ (((z5 = 0) → (wb_M_meet_21 post f6 a7)) ∧ (¬ (z5 = 0) → (wp_M_isGroup (fun z9 f10 a11 => ir z9 ∧ (((¬ z9 = 0) → (wp_M_begin (fun f14 a15 => ∃ j, wb_M_meet_45 post j x1 x2 x3 0 f14 (setA (setA a15 0 18 (va_up (a15 0 18) (Int.toNat 0) 0)) 0 19 (va_up (a15 0 19) (Int.toNat 0) 0))) 1 f10 a11)) ∧ (¬ (¬ z9 = 0) → (wb_M_meet_21 post f10 a11)))) x3 f6 a7)))) x2 f2 a3)))) x1 f a
set_option maxHeartbeats 4000000 in
set_option maxRecDepth 100000 in
theorem m_M_meet {l : Launch} {D : va_G} {ad : Nat → Nat → Nat} {cA : Nat → Nat → ClassId} {post : Int → fS → aS → Prop} {x1 : Int} {x2 : Int} {x3 : Int} {f : fS} {a : aS} (h : wp_M_meet post x1 x2 x3 f a) : xCI l yM_meet (Cond.code yM_meet cM_meet 9 (some .int) :: xG) rmM_meet D vwCl (taM cA) (MW ad cA f a) [.ref (ad 0 0), .int (iI x1), .int (iI x2), .int (iI x3)] (MW ad cA) post := by
  refine x_metI (cc := cM_meet) (nL := 9) (by decide) rfl (Nat.le_of_ble_eq_true rfl) ?_
  intro p e s m below meth c A hO
  have hO9 := hO
  obtain ⟨hx, hb, hml, hown, hts, hr, hlk, hK, hN, hA⟩ := hO9
  unfold wp_M_meet at h
  show gM_meet p l e s m _ below meth c A D ad cA post f a [(0, .ref (ad 0 0)), (1, .int (iI x1)), (2, .int (iI x2)), (3, .int (iI x3))] 0 []
  refine x_iload_n hx hb dM_meet_0 rfl 1 rfl ?_
  refine x_cSi (n := 1) (st := []) (As := [.int (iI x1)]) ⟨hx, hb, hml, hown, hts⟩ hK hN (m_M_isGroup h) (x_cwS hts rfl rfl kcM_isGroup knM klM_101 ksM_isGroup ⟨by decide, by decide, by decide +kernel⟩ ⟨by decide, by decide⟩) hA rfl (Nat.le_of_ble_eq_true rfl) ⟨Nat.zero_le _, Nat.zero_le _⟩ rfl dM_meet_1 (fun z1 f2 a3 h => ?_)
  obtain ⟨hi4, h⟩ := h
  refine x_if_eq hx hb (tgt := 21) hi4  dM_meet_4 (by decide) (fun hc => ?_) (fun hc => ?_)
  · have h := h.1 hc
    refine x_sub [] rfl ?_
    exact tb_M_meet_21 hO f2 a3 h
  · have h := h.2 hc
    refine x_iload_n hx hb dM_meet_7 rfl 2 rfl ?_
    refine x_cSi (n := 1) (st := []) (As := [.int (iI x2)]) ⟨hx, hb, hml, hown, hts⟩ hK hN (m_M_isGroup h) (x_cwS hts rfl rfl kcM_isGroup knM klM_101 ksM_isGroup ⟨by decide, by decide, by decide +kernel⟩ ⟨by decide, by decide⟩) hA rfl (Nat.le_of_ble_eq_true rfl) ⟨Nat.zero_le _, Nat.zero_le _⟩ rfl dM_meet_8 (fun z5 f6 a7 h => ?_)
    obtain ⟨hi8, h⟩ := h
    refine x_if_eq hx hb (tgt := 21) hi8  dM_meet_11 (by decide) (fun hc => ?_) (fun hc => ?_)
    · have h := h.1 hc
      refine x_sub [] rfl ?_
      exact tb_M_meet_21 hO f6 a7 h
    · have h := h.2 hc
      refine x_iload_n hx hb dM_meet_14 rfl 3 rfl ?_
      refine x_cSi (n := 1) (st := []) (As := [.int (iI x3)]) ⟨hx, hb, hml, hown, hts⟩ hK hN (m_M_isGroup h) (x_cwS hts rfl rfl kcM_isGroup knM klM_101 ksM_isGroup ⟨by decide, by decide, by decide +kernel⟩ ⟨by decide, by decide⟩) hA rfl (Nat.le_of_ble_eq_true rfl) ⟨Nat.zero_le _, Nat.zero_le _⟩ rfl dM_meet_15 (fun z9 f10 a11 h => ?_)
      obtain ⟨hi12, h⟩ := h
      refine x_if_ne hx hb (tgt := 23) hi12  dM_meet_18 (by decide) (fun hc => ?_) (fun hc => ?_)
      · have h := h.1 hc
        refine x_aload_n hx hb dM_meet_23 rfl 0 rfl ?_
        refine x_iconst hx hb dM_meet_24 ?_
        refine x_cVv (n := 1) (st := []) (As := [.int (iI 1)]) ⟨hx, hb, hml, hown, hts⟩ hK hN (m_M_begin h) (x_cwV hts rfl rfl kcM_begin knM klM_104 kiM_begin keM_begin ⟨by decide, by decide, by decide +kernel⟩ ⟨by decide, by decide⟩) _ (woM ad cA f10 a11) rfl hA rfl (Nat.le_of_ble_eq_true rfl) ⟨Nat.zero_le _, Nat.zero_le _⟩ rfl dM_meet_25 (fun f14 a15 h => ?_)
        refine x_aload_n hx hb dM_meet_28 rfl 0 rfl ?_
        refine x_get hx hb hts (jnM _) hown hK _ (woM ad cA f14 a15) rfl 18 (by decide) (hts _ (List.mem_cons_of_mem _ kfM_49)) (fun _ h9 => h9) (v := .ref (ad 0 19)) (by rfl) dM_meet_29 ?_
        refine x_iconst hx hb dM_meet_32 ?_
        refine x_iconst hx hb dM_meet_33 ?_
        refine x_iast hx hb hK _ _ (wa18M ad cA f14 a15) (wt18M cA) (by decide) (by decide) (by decide) dM_meet_34 (ws18M ad cA f14 a15 (va_up (a15 0 18) (Int.toNat 0) 0)) ?_
        refine x_aload_n hx hb dM_meet_35 rfl 0 rfl ?_
        refine x_get hx hb hts (jnM _) hown hK _ (woM ad cA f14 (setA a15 0 18 (va_up (a15 0 18) (Int.toNat 0) 0))) rfl 19 (by decide) (hts _ (List.mem_cons_of_mem _ kfM_52)) (fun _ h9 => h9) (v := .ref (ad 0 20)) (by rfl) dM_meet_36 ?_
        refine x_iconst hx hb dM_meet_39 ?_
        refine x_iconst hx hb dM_meet_40 ?_
        refine x_iast hx hb hK _ _ (wa19M ad cA f14 (setA a15 0 18 (va_up (a15 0 18) (Int.toNat 0) 0))) (wt19M cA) (by decide) (by decide) (by decide) dM_meet_41 (Eq.trans (by rw [(setA_k a15 (o := 0) (k := 18) (o' := 0) (k' := 19) (va_up (a15 0 18) (Int.toNat 0) 0) (by decide))]) (ws19M ad cA f14 (setA a15 0 18 (va_up (a15 0 18) (Int.toNat 0) 0)) (va_up (a15 0 19) (Int.toNat 0) 0))) ?_
        refine x_iconst hx hb dM_meet_42 ?_
        refine x_istore hx hb dM_meet_43 (by decide) (lv' := [(4, .int (iI 0)), (0, .ref (ad 0 0)), (1, .int (iI x1)), (2, .int (iI x2)), (3, .int (iI x3))]) rfl ?_
        obtain ⟨j, h⟩ := h
        refine x_sub [1, 2, 3, 4, 0] rfl ?_
        exact tb_M_meet_45 hO j x1 x2 x3 0 f14 (setA (setA a15 0 18 (va_up (a15 0 18) (Int.toNat 0) 0)) 0 19 (va_up (a15 0 19) (Int.toNat 0) 0)) h
      · have h := h.2 hc
        refine x_sub [] rfl ?_
        exact tb_M_meet_21 hO f10 a11 h
