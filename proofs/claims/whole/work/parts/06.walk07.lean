-- M_unite
abbrev rmM_unite : Room := { frames := 0, cells := 0, slots := 0, locals := 0 }
abbrev gM_unite (p : Program) (l : Launch) (e : Env) (s : State) (m : MethodId) (args : Array Value) (below : List Frame) (meth : Method) (c : Code) (A : Nat → Prop) (D : va_G) (ad : Nat → Nat → Nat) (cA : Nat → Nat → ClassId) (post : fS → aS → Prop) (f : fS) (a : aS) (lv : List (Nat × Value)) (pc : Nat) (st : List Value) : Prop := xV p l e rmM_unite s m args below meth c s.heap A 0 0 (xQV below D vwCl (taM cA) (MW ad cA) post A args s) D vwCl 6 (MW ad cA f a) lv pc st
def wb_M_unite_64 (post : fS → aS → Prop) (k26 : Int → Int → Int → fS → aS → Prop) (x3 : Int) (x4 : Int) (x5 : Int) (y1 : Int) (y2 : Int) (f : fS) (a : aS) : Prop := (0 ≤ y1 ∧ y1 < 64) ∧ (k26 x3 x4 (x5 + 1) f (setA a 0 14 (va_up (a 0 14) (Int.toNat y1) y2)))
set_option maxHeartbeats 4000000 in
set_option maxRecDepth 100000 in
theorem tb_M_unite_64 {p : Program} {l : Launch} {e : Env} {s : State} {m : MethodId} {args : Array Value} {below : List Frame} {meth : Method} {c : Code} {A : Nat → Prop} {D : va_G} {ad : Nat → Nat → Nat} {cA : Nat → Nat → ClassId} {post : fS → aS → Prop} {k26 : Int → Int → Int → fS → aS → Prop} (hO : xOk cM_unite 6 RM (Cond.code yM_unite cM_unite 6 none :: xG) none p s m args meth c A D vwCl (taM cA)) (hk26 : ∀ (x3 : Int) (x4 : Int) (x5 : Int) (f : fS) (a : aS), k26 x3 x4 x5 f a → gM_unite p l e s m args below meth c A D ad cA post f a [(0, .ref (ad 0 0)), (3, .int (iI x3)), (4, .int (iI x4)), (5, .int (iI x5))] 26 []) : ∀ (x3 : Int) (x4 : Int) (x5 : Int) (y1 : Int) (y2 : Int) (f : fS) (a : aS), wb_M_unite_64 post k26 x3 x4 x5 y1 y2 f a → gM_unite p l e s m args below meth c A D ad cA post f a [(0, .ref (ad 0 0)), (3, .int (iI x3)), (4, .int (iI x4)), (5, .int (iI x5))] 64 [.int (iI y2), .int (iI y1), .ref (ad 0 15)] := by
  have hO9 := hO
  obtain ⟨hx, hb, hml, hown, hts, hr, hlk, hK, hN, hA⟩ := hO9
  intro x3 x4 x5 y1 y2 f a h
  unfold wb_M_unite_64 at h
  obtain ⟨hj10, h⟩ := h
  refine x_iast hx hb hK _ _ (wa14M ad cA f a) (wt14M cA) hj10.1 hj10.2 (by decide) dM_unite_64 (ws14M ad cA f a (va_up (a 0 14) (Int.toNat y1) y2)) ?_
  refine x_iinc hx hb dM_unite_65 3 rfl (by decide) (lv' := [(5, .int (iI (x5 + 1))), (0, .ref (ad 0 0)), (3, .int (iI x3)), (4, .int (iI x4))]) rfl ?_
  refine x_goto hx hb (tgt := 26) dM_unite_68 (by decide) ?_
  refine x_sub [1, 2, 3, 0] rfl ?_
  exact hk26 x3 x4 (x5 + 1) f (setA a 0 14 (va_up (a 0 14) (Int.toNat y1) y2)) h
def wb_M_unite_26 (post : fS → aS → Prop) : Nat → Int → Int → Int → fS → aS → Prop
  | 0, _, _, _, _, _ => False
  | n + 1, x3, x4, x5, f, a => ir x5 ∧ (ir (f 0 8) ∧ (((f 0 8 ≤ x5) → (post f a)) ∧ (¬ (f 0 8 ≤ x5) → ((0 ≤ x5 ∧ x5 < 64) ∧ (ir (a 0 14 (Int.toNat x5)) ∧ (ir x4 ∧ (((¬ a 0 14 (Int.toNat x5) = x4) → (wb_M_unite_64 post (wb_M_unite_26 post n) x3 x4 x5 x5 (a 0 14 (Int.toNat x5)) f a)) ∧ (¬ (¬ a 0 14 (Int.toNat x5) = x4) → (wb_M_unite_64 post (wb_M_unite_26 post n) x3 x4 x5 x5 x3 f a)))))))))
set_option maxHeartbeats 4000000 in
set_option maxRecDepth 100000 in
theorem tb_M_unite_26 {p : Program} {l : Launch} {e : Env} {s : State} {m : MethodId} {args : Array Value} {below : List Frame} {meth : Method} {c : Code} {A : Nat → Prop} {D : va_G} {ad : Nat → Nat → Nat} {cA : Nat → Nat → ClassId} {post : fS → aS → Prop} (hO : xOk cM_unite 6 RM (Cond.code yM_unite cM_unite 6 none :: xG) none p s m args meth c A D vwCl (taM cA)) : ∀ (n : Nat) (x3 : Int) (x4 : Int) (x5 : Int) (f : fS) (a : aS), wb_M_unite_26 post n x3 x4 x5 f a → gM_unite p l e s m args below meth c A D ad cA post f a [(0, .ref (ad 0 0)), (3, .int (iI x3)), (4, .int (iI x4)), (5, .int (iI x5))] 26 [] := by
  have hO9 := hO
  obtain ⟨hx, hb, hml, hown, hts, hr, hlk, hK, hN, hA⟩ := hO9
  intro n
  induction n with
  | zero => intro x3 x4 x5 f a h; exact False.elim h
  | succ n ih =>
    intro x3 x4 x5 f a h
    rw [wb_M_unite_26] at h
    refine x_iload hx hb dM_unite_26 3 rfl ?_
    refine x_aload_n hx hb dM_unite_28 rfl 0 rfl ?_
    refine x_get hx hb hts (jnM _) hown hK _ (woM ad cA f a) rfl 8 (by decide) (hts _ (List.mem_cons_of_mem _ kfM_69)) (fun _ h9 => h9) (v := .int (iI (f 0 8))) (by rfl) dM_unite_29 ?_
    obtain ⟨hi5, h⟩ := h
    obtain ⟨hi6, h⟩ := h
    refine x_icmp_ge hx hb (tgt := 71) hi5 hi6 dM_unite_32 (by decide) (fun hc => ?_) (fun hc => ?_)
    · have h := h.1 hc
      exact x_vret hx hb hr hlk hK dM_unite_71 h
    · have h := h.2 hc
      refine x_aload_n hx hb dM_unite_35 rfl 0 rfl ?_
      refine x_get hx hb hts (jnM _) hown hK _ (woM ad cA f a) rfl 14 (by decide) (hts _ (List.mem_cons_of_mem _ kfM_37)) (fun _ h9 => h9) (v := .ref (ad 0 15)) (by rfl) dM_unite_36 ?_
      refine x_iload hx hb dM_unite_39 3 rfl ?_
      refine x_aload_n hx hb dM_unite_41 rfl 0 rfl ?_
      refine x_get hx hb hts (jnM _) hown hK _ (woM ad cA f a) rfl 14 (by decide) (hts _ (List.mem_cons_of_mem _ kfM_37)) (fun _ h9 => h9) (v := .ref (ad 0 15)) (by rfl) dM_unite_42 ?_
      refine x_iload hx hb dM_unite_45 3 rfl ?_
      obtain ⟨hj7, h⟩ := h
      refine x_iald hx hb hK _ _ (wa14M ad cA f a) (wt14M cA) hj7.1 hj7.2 (by decide) dM_unite_47 ?_
      refine x_iload hx hb dM_unite_48 2 rfl ?_
      obtain ⟨hi8, h⟩ := h
      obtain ⟨hi9, h⟩ := h
      refine x_icmp_ne hx hb (tgt := 57) hi8 hi9 dM_unite_50 (by decide) (fun hc => ?_) (fun hc => ?_)
      · have h := h.1 hc
        refine x_aload_n hx hb dM_unite_57 rfl 0 rfl ?_
        refine x_get hx hb hts (jnM _) hown hK _ (woM ad cA f a) rfl 14 (by decide) (hts _ (List.mem_cons_of_mem _ kfM_37)) (fun _ h9 => h9) (v := .ref (ad 0 15)) (by rfl) dM_unite_58 ?_
        refine x_iload hx hb dM_unite_61 3 rfl ?_
        refine x_iald hx hb hK _ _ (wa14M ad cA f a) (wt14M cA) hj7.1 hj7.2 (by decide) dM_unite_63 ?_
        exact tb_M_unite_64 hO ih x3 x4 x5 x5 (a 0 14 (Int.toNat x5)) f a h
      · have h := h.2 hc
        refine x_iload_n hx hb dM_unite_53 rfl 1 rfl ?_
        refine x_goto hx hb (tgt := 64) dM_unite_54 (by decide) ?_
        exact tb_M_unite_64 hO ih x3 x4 x5 x5 x3 f a h
def wb_M_unite_21 (post : fS → aS → Prop) (x3 : Int) (y0 : Int) (f : fS) (a : aS) : Prop := ∃ j, wb_M_unite_26 post j x3 y0 0 f a
set_option maxHeartbeats 4000000 in
set_option maxRecDepth 100000 in
theorem tb_M_unite_21 {p : Program} {l : Launch} {e : Env} {s : State} {m : MethodId} {args : Array Value} {below : List Frame} {meth : Method} {c : Code} {A : Nat → Prop} {D : va_G} {ad : Nat → Nat → Nat} {cA : Nat → Nat → ClassId} {post : fS → aS → Prop} (hO : xOk cM_unite 6 RM (Cond.code yM_unite cM_unite 6 none :: xG) none p s m args meth c A D vwCl (taM cA)) : ∀ (x3 : Int) (y0 : Int) (f : fS) (a : aS), wb_M_unite_21 post x3 y0 f a → gM_unite p l e s m args below meth c A D ad cA post f a [(0, .ref (ad 0 0)), (3, .int (iI x3))] 21 [.int (iI y0)] := by
  have hO9 := hO
  obtain ⟨hx, hb, hml, hown, hts, hr, hlk, hK, hN, hA⟩ := hO9
  intro x3 y0 f a h
  unfold wb_M_unite_21 at h
  refine x_istore hx hb dM_unite_21 (by decide) (lv' := [(4, .int (iI y0)), (0, .ref (ad 0 0)), (3, .int (iI x3))]) rfl ?_
  refine x_iconst hx hb dM_unite_23 ?_
  refine x_istore hx hb dM_unite_24 (by decide) (lv' := [(5, .int (iI 0)), (4, .int (iI y0)), (0, .ref (ad 0 0)), (3, .int (iI x3))]) rfl ?_
  obtain ⟨j, h⟩ := h
  refine x_sub [2, 3, 1, 0] rfl ?_
  exact tb_M_unite_26 hO j x3 y0 0 f a h
def wb_M_unite_10 (post : fS → aS → Prop) (x1 : Int) (x2 : Int) (y0 : Int) (f : fS) (a : aS) : Prop := ir x1 ∧ (ir x2 ∧ (((x2 ≤ x1) → (wb_M_unite_21 post y0 x1 f a)) ∧ (¬ (x2 ≤ x1) → (wb_M_unite_21 post y0 x2 f a))))
set_option maxHeartbeats 4000000 in
set_option maxRecDepth 100000 in
theorem tb_M_unite_10 {p : Program} {l : Launch} {e : Env} {s : State} {m : MethodId} {args : Array Value} {below : List Frame} {meth : Method} {c : Code} {A : Nat → Prop} {D : va_G} {ad : Nat → Nat → Nat} {cA : Nat → Nat → ClassId} {post : fS → aS → Prop} (hO : xOk cM_unite 6 RM (Cond.code yM_unite cM_unite 6 none :: xG) none p s m args meth c A D vwCl (taM cA)) : ∀ (x1 : Int) (x2 : Int) (y0 : Int) (f : fS) (a : aS), wb_M_unite_10 post x1 x2 y0 f a → gM_unite p l e s m args below meth c A D ad cA post f a [(0, .ref (ad 0 0)), (1, .int (iI x1)), (2, .int (iI x2))] 10 [.int (iI y0)] := by
  have hO9 := hO
  obtain ⟨hx, hb, hml, hown, hts, hr, hlk, hK, hN, hA⟩ := hO9
  intro x1 x2 y0 f a h
  unfold wb_M_unite_10 at h
  refine x_istore_n hx hb dM_unite_10 rfl (by decide) (lv' := [(3, .int (iI y0)), (0, .ref (ad 0 0)), (1, .int (iI x1)), (2, .int (iI x2))]) rfl ?_
  refine x_iload_n hx hb dM_unite_11 rfl 2 rfl ?_
  refine x_iload_n hx hb dM_unite_12 rfl 3 rfl ?_
  obtain ⟨hi3, h⟩ := h
  obtain ⟨hi4, h⟩ := h
  refine x_icmp_ge hx hb (tgt := 20) hi3 hi4 dM_unite_13 (by decide) (fun hc => ?_) (fun hc => ?_)
  · have h := h.1 hc
    refine x_iload_n hx hb dM_unite_20 rfl 2 rfl ?_
    refine x_sub [1, 0] rfl ?_
    exact tb_M_unite_21 hO y0 x1 f a h
  · have h := h.2 hc
    refine x_iload_n hx hb dM_unite_16 rfl 3 rfl ?_
    refine x_goto hx hb (tgt := 21) dM_unite_17 (by decide) ?_
    refine x_sub [1, 0] rfl ?_
    exact tb_M_unite_21 hO y0 x2 f a h
def wp_M_unite (post : fS → aS → Prop) (x1 : Int) (x2 : Int) (f : fS) (a : aS) : Prop := ir x1 ∧ (ir x2 ∧ (((x2 ≤ x1) → (wb_M_unite_10 post x1 x2 x2 f a)) ∧ (¬ (x2 ≤ x1) → (wb_M_unite_10 post x1 x2 x1 f a))))
set_option maxHeartbeats 4000000 in
set_option maxRecDepth 100000 in
theorem m_M_unite {l : Launch} {D : va_G} {ad : Nat → Nat → Nat} {cA : Nat → Nat → ClassId} {post : fS → aS → Prop} {x1 : Int} {x2 : Int} {f : fS} {a : aS} (h : wp_M_unite post x1 x2 f a) : xCV l yM_unite (Cond.code yM_unite cM_unite 6 none :: xG) rmM_unite D vwCl (taM cA) (MW ad cA f a) [.ref (ad 0 0), .int (iI x1), .int (iI x2)] (MW ad cA) post := by
  refine x_metV (cc := cM_unite) (nL := 6) (by decide) rfl (Nat.le_of_ble_eq_true rfl) ?_
  intro p e s m below meth c A hO
  have hO9 := hO
  obtain ⟨hx, hb, hml, hown, hts, hr, hlk, hK, hN, hA⟩ := hO9
  unfold wp_M_unite at h
  show gM_unite p l e s m _ below meth c A D ad cA post f a [(0, .ref (ad 0 0)), (1, .int (iI x1)), (2, .int (iI x2))] 0 []
  refine x_iload_n hx hb dM_unite_0 rfl 1 rfl ?_
  refine x_iload_n hx hb dM_unite_1 rfl 2 rfl ?_
  obtain ⟨hi1, h⟩ := h
  obtain ⟨hi2, h⟩ := h
  refine x_icmp_ge hx hb (tgt := 9) hi1 hi2 dM_unite_2 (by decide) (fun hc => ?_) (fun hc => ?_)
  · have h := h.1 hc
    refine x_iload_n hx hb dM_unite_9 rfl 2 rfl ?_
    exact tb_M_unite_10 hO x1 x2 x2 f a h
  · have h := h.2 hc
    refine x_iload_n hx hb dM_unite_5 rfl 1 rfl ?_
    refine x_goto hx hb (tgt := 10) dM_unite_6 (by decide) ?_
    exact tb_M_unite_10 hO x1 x2 x1 f a h
-- M_foldOnce
abbrev rmM_foldOnce : Room := { frames := 1, cells := 0, slots := 0, locals := 25 }
abbrev gM_foldOnce (p : Program) (l : Launch) (e : Env) (s : State) (m : MethodId) (args : Array Value) (below : List Frame) (meth : Method) (c : Code) (A : Nat → Prop) (D : va_G) (ad : Nat → Nat → Nat) (cA : Nat → Nat → ClassId) (post : Int → fS → aS → Prop) (f : fS) (a : aS) (lv : List (Nat × Value)) (pc : Nat) (st : List Value) : Prop := xV p l e rmM_foldOnce s m args below meth c s.heap A 0 0 (xQI below D vwCl (taM cA) (MW ad cA) post A args s) D vwCl 7 (MW ad cA f a) lv pc st
def wb_M_foldOnce_137 (post : Int → fS → aS → Prop) (k24 : Int → fS → aS → Prop) (x1 : Int) (x2 : Int) (x3 : Int) (x4 : Int) (f : fS) (a : aS) : Prop := (0 ≤ (6 * x2) + x4 ∧ (6 * x2) + x4 < 384) ∧ ((0 ≤ ((6 * x3) + x4) + 1 ∧ ((6 * x3) + x4) + 1 < 384) ∧ (k24 (x1 + 1) f (setA (setA a 0 15 (va_up (a 0 15) (Int.toNat ((6 * x2) + x4)) x3)) 0 15 (va_up (va_up (a 0 15) (Int.toNat ((6 * x2) + x4)) x3) (Int.toNat (((6 * x3) + x4) + 1)) x2))))
set_option maxHeartbeats 4000000 in
set_option maxRecDepth 100000 in
theorem tb_M_foldOnce_137 {p : Program} {l : Launch} {e : Env} {s : State} {m : MethodId} {args : Array Value} {below : List Frame} {meth : Method} {c : Code} {A : Nat → Prop} {D : va_G} {ad : Nat → Nat → Nat} {cA : Nat → Nat → ClassId} {post : Int → fS → aS → Prop} {k24 : Int → fS → aS → Prop} (hO : xOk cM_foldOnce 7 RM (Cond.code yM_foldOnce cM_foldOnce 7 (some .boolean) :: xG) (some .boolean) p s m args meth c A D vwCl (taM cA)) (hk24 : ∀ (x1 : Int) (f : fS) (a : aS), k24 x1 f a → gM_foldOnce p l e s m args below meth c A D ad cA post f a [(0, .ref (ad 0 0)), (1, .int (iI x1))] 24 []) : ∀ (x1 : Int) (x2 : Int) (x3 : Int) (x4 : Int) (f : fS) (a : aS), wb_M_foldOnce_137 post k24 x1 x2 x3 x4 f a → gM_foldOnce p l e s m args below meth c A D ad cA post f a [(0, .ref (ad 0 0)), (1, .int (iI x1)), (2, .int (iI x2)), (3, .int (iI x3)), (4, .int (iI x4))] 137 [] := by
  have hO9 := hO
  obtain ⟨hx, hb, hml, hown, hts, hr, hlk, hK, hN, hA⟩ := hO9
  intro x1 x2 x3 x4 f a h
  unfold wb_M_foldOnce_137 at h
  refine x_aload_n hx hb dM_foldOnce_137 rfl 0 rfl ?_
  refine x_get hx hb hts (jnM _) hown hK _ (woM ad cA f a) rfl 15 (by decide) (hts _ (List.mem_cons_of_mem _ kfM_40)) (fun _ h9 => h9) (v := .ref (ad 0 16)) (by rfl) dM_foldOnce_138 ?_
  refine x_bipush hx hb dM_foldOnce_141 (by decide) ?_
  refine x_iload_n hx hb dM_foldOnce_143 rfl 2 rfl ?_
  refine x_imul hx hb dM_foldOnce_144 ?_
  refine x_iload hx hb dM_foldOnce_145 4 rfl ?_
  refine x_iadd hx hb dM_foldOnce_147 ?_
  refine x_iload_n hx hb dM_foldOnce_148 rfl 3 rfl ?_
  obtain ⟨hj27, h⟩ := h
  refine x_iast hx hb hK _ _ (wa15M ad cA f a) (wt15M cA) hj27.1 hj27.2 (by decide) dM_foldOnce_149 (ws15M ad cA f a (va_up (a 0 15) (Int.toNat ((6 * x2) + x4)) x3)) ?_
  refine x_aload_n hx hb dM_foldOnce_150 rfl 0 rfl ?_
  refine x_get hx hb hts (jnM _) hown hK _ (woM ad cA f (setA a 0 15 (va_up (a 0 15) (Int.toNat ((6 * x2) + x4)) x3))) rfl 15 (by decide) (hts _ (List.mem_cons_of_mem _ kfM_40)) (fun _ h9 => h9) (v := .ref (ad 0 16)) (by rfl) dM_foldOnce_151 ?_
  refine x_bipush hx hb dM_foldOnce_154 (by decide) ?_
  refine x_iload_n hx hb dM_foldOnce_156 rfl 3 rfl ?_
  refine x_imul hx hb dM_foldOnce_157 ?_
  refine x_iload hx hb dM_foldOnce_158 4 rfl ?_
  refine x_iadd hx hb dM_foldOnce_160 ?_
  refine x_iconst hx hb dM_foldOnce_161 ?_
  refine x_iadd hx hb dM_foldOnce_162 ?_
  refine x_iload_n hx hb dM_foldOnce_163 rfl 2 rfl ?_
  obtain ⟨hj28, h⟩ := h
  refine x_iast hx hb hK _ _ (wa15M ad cA f (setA a 0 15 (va_up (a 0 15) (Int.toNat ((6 * x2) + x4)) x3))) (wt15M cA) hj28.1 hj28.2 (by decide) dM_foldOnce_164 (Eq.trans (by rw [(setA_s a 0 15 (va_up (a 0 15) (Int.toNat ((6 * x2) + x4)) x3))]) (ws15M ad cA f (setA a 0 15 (va_up (a 0 15) (Int.toNat ((6 * x2) + x4)) x3)) (va_up (va_up (a 0 15) (Int.toNat ((6 * x2) + x4)) x3) (Int.toNat (((6 * x3) + x4) + 1)) x2))) ?_
  refine x_iinc hx hb dM_foldOnce_165 1 rfl (by decide) (lv' := [(1, .int (iI (x1 + 1))), (0, .ref (ad 0 0)), (2, .int (iI x2)), (3, .int (iI x3)), (4, .int (iI x4))]) rfl ?_
  refine x_goto hx hb (tgt := 24) dM_foldOnce_168 (by decide) ?_
  refine x_sub [1, 0] rfl ?_
  exact hk24 (x1 + 1) f (setA (setA a 0 15 (va_up (a 0 15) (Int.toNat ((6 * x2) + x4)) x3)) 0 15 (va_up (va_up (a 0 15) (Int.toNat ((6 * x2) + x4)) x3) (Int.toNat (((6 * x3) + x4) + 1)) x2)) h
def wb_M_foldOnce_117 (post : Int → fS → aS → Prop) (k24 : Int → fS → aS → Prop) (x1 : Int) (x2 : Int) (x3 : Int) (x4 : Int) (x6 : Int) (f : fS) (a : aS) : Prop := ir x6 ∧ (((x6 < 0) → (wb_M_foldOnce_137 post k24 x1 x2 x3 x4 f a)) ∧ (¬ (x6 < 0) → (ir x2 ∧ (((x6 = x2) → (wb_M_foldOnce_137 post k24 x1 x2 x3 x4 f a)) ∧ (¬ (x6 = x2) → (wp_M_unite (fun f25 a26 => post 1 f25 a26) x6 x2 f a))))))
set_option maxHeartbeats 4000000 in
set_option maxRecDepth 100000 in
theorem tb_M_foldOnce_117 {p : Program} {l : Launch} {e : Env} {s : State} {m : MethodId} {args : Array Value} {below : List Frame} {meth : Method} {c : Code} {A : Nat → Prop} {D : va_G} {ad : Nat → Nat → Nat} {cA : Nat → Nat → ClassId} {post : Int → fS → aS → Prop} {k24 : Int → fS → aS → Prop} (hO : xOk cM_foldOnce 7 RM (Cond.code yM_foldOnce cM_foldOnce 7 (some .boolean) :: xG) (some .boolean) p s m args meth c A D vwCl (taM cA)) (hk24 : ∀ (x1 : Int) (f : fS) (a : aS), k24 x1 f a → gM_foldOnce p l e s m args below meth c A D ad cA post f a [(0, .ref (ad 0 0)), (1, .int (iI x1))] 24 []) : ∀ (x1 : Int) (x2 : Int) (x3 : Int) (x4 : Int) (x6 : Int) (f : fS) (a : aS), wb_M_foldOnce_117 post k24 x1 x2 x3 x4 x6 f a → gM_foldOnce p l e s m args below meth c A D ad cA post f a [(0, .ref (ad 0 0)), (1, .int (iI x1)), (2, .int (iI x2)), (3, .int (iI x3)), (4, .int (iI x4)), (6, .int (iI x6))] 117 [] := by
  have hO9 := hO
  obtain ⟨hx, hb, hml, hown, hts, hr, hlk, hK, hN, hA⟩ := hO9
  intro x1 x2 x3 x4 x6 f a h
  unfold wb_M_foldOnce_117 at h
  refine x_iload hx hb dM_foldOnce_117 5 rfl ?_
  obtain ⟨hi22, h⟩ := h
  refine x_if_lt hx hb (tgt := 137) hi22  dM_foldOnce_119 (by decide) (fun hc => ?_) (fun hc => ?_)
  · have h := h.1 hc
    refine x_sub [0, 1, 2, 3, 4] rfl ?_
    exact tb_M_foldOnce_137 hO hk24 x1 x2 x3 x4 f a h
  · have h := h.2 hc
    refine x_iload hx hb dM_foldOnce_122 5 rfl ?_
    refine x_iload_n hx hb dM_foldOnce_124 rfl 2 rfl ?_
    obtain ⟨hi23, h⟩ := h
    refine x_icmp_eq hx hb (tgt := 137) hi22 hi23 dM_foldOnce_125 (by decide) (fun hc => ?_) (fun hc => ?_)
    · have h := h.1 hc
      refine x_sub [0, 1, 2, 3, 4] rfl ?_
      exact tb_M_foldOnce_137 hO hk24 x1 x2 x3 x4 f a h
    · have h := h.2 hc
      refine x_aload_n hx hb dM_foldOnce_128 rfl 0 rfl ?_
      refine x_iload hx hb dM_foldOnce_129 5 rfl ?_
      refine x_iload_n hx hb dM_foldOnce_131 rfl 2 rfl ?_
      refine x_cVv (n := 2) (st := []) (As := [.int (iI x6), .int (iI x2)]) ⟨hx, hb, hml, hown, hts⟩ hK hN (m_M_unite h) (x_cwV hts rfl rfl kcM_unite knM klM_90 kiM_unite keM_unite ⟨by decide, by decide, by decide +kernel⟩ ⟨by decide, by decide⟩) _ (woM ad cA f a) rfl hA rfl (Nat.le_of_ble_eq_true rfl) ⟨Nat.zero_le _, Nat.zero_le _⟩ rfl dM_foldOnce_132 (fun f25 a26 h => ?_)
      refine x_iconst hx hb dM_foldOnce_135 ?_
      exact x_zret hx hb hr hlk hK dM_foldOnce_136 (by decide) h
def wb_M_foldOnce_24 (post : Int → fS → aS → Prop) : Nat → Int → fS → aS → Prop
  | 0, _, _, _ => False
  | n + 1, x1, f, a => ir x1 ∧ (ir (f 0 10) ∧ (((f 0 10 ≤ x1) → (post 0 f a)) ∧ (¬ (f 0 10 ≤ x1) → ((0 ≤ x1 ∧ x1 < 256) ∧ ((0 ≤ a 0 11 (Int.toNat x1) ∧ a 0 11 (Int.toNat x1) < 64) ∧ (∀ t7 : Int, t7 = a 0 14 (Int.toNat (a 0 11 (Int.toNat x1))) → ((0 ≤ a 0 13 (Int.toNat x1) ∧ a 0 13 (Int.toNat x1) < 64) ∧ (∀ t9 : Int, t9 = a 0 14 (Int.toNat (a 0 13 (Int.toNat x1))) → (wp_M_numberOf (fun z10 f11 a12 => (0 ≤ (6 * t7) + z10 ∧ (6 * t7) + z10 < 384) ∧ (∀ t14 : Int, t14 = (a12 0 15) (Int.toNat ((6 * t7) + z10)) → ((0 ≤ ((6 * t9) + z10) + 1 ∧ ((6 * t9) + z10) + 1 < 384) ∧ (∀ t16 : Int, t16 = (a12 0 15) (Int.toNat (((6 * t9) + z10) + 1)) → (ir t14 ∧ (((t14 < 0) → (wb_M_foldOnce_117 post (wb_M_foldOnce_24 post n) x1 t7 t9 z10 t16 f11 a12)) ∧ (¬ (t14 < 0) → (ir t9 ∧ (((t14 = t9) → (wb_M_foldOnce_117 post (wb_M_foldOnce_24 post n) x1 t7 t9 z10 t16 f11 a12)) ∧ (¬ (t14 = t9) → (wp_M_unite (fun f20 a21 => post 1 f20 a21) t14 t9 f11 a12))))))))))) (a 0 12 (Int.toNat x1)) f a)))))))))
set_option maxHeartbeats 4000000 in
set_option maxRecDepth 100000 in
theorem tb_M_foldOnce_24 {p : Program} {l : Launch} {e : Env} {s : State} {m : MethodId} {args : Array Value} {below : List Frame} {meth : Method} {c : Code} {A : Nat → Prop} {D : va_G} {ad : Nat → Nat → Nat} {cA : Nat → Nat → ClassId} {post : Int → fS → aS → Prop} (hO : xOk cM_foldOnce 7 RM (Cond.code yM_foldOnce cM_foldOnce 7 (some .boolean) :: xG) (some .boolean) p s m args meth c A D vwCl (taM cA)) : ∀ (n : Nat) (x1 : Int) (f : fS) (a : aS), wb_M_foldOnce_24 post n x1 f a → gM_foldOnce p l e s m args below meth c A D ad cA post f a [(0, .ref (ad 0 0)), (1, .int (iI x1))] 24 [] := by
  have hO9 := hO
  obtain ⟨hx, hb, hml, hown, hts, hr, hlk, hK, hN, hA⟩ := hO9
  intro n
  induction n with
  | zero => intro x1 f a h; exact False.elim h
  | succ n ih =>
    intro x1 f a h
    rw [wb_M_foldOnce_24] at h
    refine x_iload_n hx hb dM_foldOnce_24 rfl 1 rfl ?_
    refine x_aload_n hx hb dM_foldOnce_25 rfl 0 rfl ?_
    refine x_get hx hb hts (jnM _) hown hK _ (woM ad cA f a) rfl 10 (by decide) (hts _ (List.mem_cons_of_mem _ kfM_75)) (fun _ h9 => h9) (v := .int (iI (f 0 10))) (by rfl) dM_foldOnce_26 ?_
    obtain ⟨hi3, h⟩ := h
    obtain ⟨hi4, h⟩ := h
    refine x_icmp_ge hx hb (tgt := 171) hi3 hi4 dM_foldOnce_29 (by decide) (fun hc => ?_) (fun hc => ?_)
    · have h := h.1 hc
      refine x_iconst hx hb dM_foldOnce_171 ?_
      exact x_zret hx hb hr hlk hK dM_foldOnce_172 (by decide) h
    · have h := h.2 hc
      refine x_aload_n hx hb dM_foldOnce_32 rfl 0 rfl ?_
      refine x_get hx hb hts (jnM _) hown hK _ (woM ad cA f a) rfl 14 (by decide) (hts _ (List.mem_cons_of_mem _ kfM_37)) (fun _ h9 => h9) (v := .ref (ad 0 15)) (by rfl) dM_foldOnce_33 ?_
      refine x_aload_n hx hb dM_foldOnce_36 rfl 0 rfl ?_
      refine x_get hx hb hts (jnM _) hown hK _ (woM ad cA f a) rfl 11 (by decide) (hts _ (List.mem_cons_of_mem _ kfM_28)) (fun _ h9 => h9) (v := .ref (ad 0 12)) (by rfl) dM_foldOnce_37 ?_
      refine x_iload_n hx hb dM_foldOnce_40 rfl 1 rfl ?_
      obtain ⟨hj5, h⟩ := h
      refine x_iald hx hb hK _ _ (wa11M ad cA f a) (wt11M cA) hj5.1 hj5.2 (by decide) dM_foldOnce_41 ?_
      obtain ⟨hj6, h⟩ := h
      refine x_iald hx hb hK _ _ (wa14M ad cA f a) (wt14M cA) hj6.1 hj6.2 (by decide) dM_foldOnce_42 ?_
      refine x_topi (fun t7 et7 => ?_)
      have h := h t7 et7
      refine x_istore_n hx hb dM_foldOnce_43 rfl (by decide) (lv' := [(2, .int (iI t7)), (0, .ref (ad 0 0)), (1, .int (iI x1))]) rfl ?_
      refine x_aload_n hx hb dM_foldOnce_44 rfl 1 rfl ?_
      refine x_get hx hb hts (jnM _) hown hK _ (woM ad cA f a) rfl 14 (by decide) (hts _ (List.mem_cons_of_mem _ kfM_37)) (fun _ h9 => h9) (v := .ref (ad 0 15)) (by rfl) dM_foldOnce_45 ?_
      refine x_aload_n hx hb dM_foldOnce_48 rfl 1 rfl ?_
      refine x_get hx hb hts (jnM _) hown hK _ (woM ad cA f a) rfl 13 (by decide) (hts _ (List.mem_cons_of_mem _ kfM_34)) (fun _ h9 => h9) (v := .ref (ad 0 14)) (by rfl) dM_foldOnce_49 ?_
      refine x_iload_n hx hb dM_foldOnce_52 rfl 2 rfl ?_
      refine x_iald hx hb hK _ _ (wa13M ad cA f a) (wt13M cA) hj5.1 hj5.2 (by decide) dM_foldOnce_53 ?_
      obtain ⟨hj8, h⟩ := h
      refine x_iald hx hb hK _ _ (wa14M ad cA f a) (wt14M cA) hj8.1 hj8.2 (by decide) dM_foldOnce_54 ?_
      refine x_topi (fun t9 et9 => ?_)
      have h := h t9 et9
      refine x_istore_n hx hb dM_foldOnce_55 rfl (by decide) (lv' := [(3, .int (iI t9)), (2, .int (iI t7)), (0, .ref (ad 0 0)), (1, .int (iI x1))]) rfl ?_
      refine x_aload_n hx hb dM_foldOnce_56 rfl 2 rfl ?_
      refine x_get hx hb hts (jnM _) hown hK _ (woM ad cA f a) rfl 12 (by decide) (hts _ (List.mem_cons_of_mem _ kfM_31)) (fun _ h9 => h9) (v := .ref (ad 0 13)) (by rfl) dM_foldOnce_57 ?_
      refine x_iload_n hx hb dM_foldOnce_60 rfl 3 rfl ?_
      refine x_iald hx hb hK _ _ (wa12M ad cA f a) (wt12M cA) hj5.1 hj5.2 (by decide) dM_foldOnce_61 ?_
      refine x_cSi (n := 1) (st := []) (As := [.int (iI (a 0 12 (Int.toNat x1)))]) ⟨hx, hb, hml, hown, hts⟩ hK hN (m_M_numberOf h) (x_cwS hts rfl rfl kcM_numberOf knM klM_78 ksM_numberOf ⟨by decide, by decide, by decide +kernel⟩ ⟨by decide, by decide⟩) hA rfl (Nat.le_of_ble_eq_true rfl) ⟨Nat.zero_le _, Nat.zero_le _⟩ rfl dM_foldOnce_62 (fun z10 f11 a12 h => ?_)
      refine x_istore hx hb dM_foldOnce_65 (by decide) (lv' := [(4, .int (iI z10)), (3, .int (iI t9)), (2, .int (iI t7)), (0, .ref (ad 0 0)), (1, .int (iI x1))]) rfl ?_
      refine x_aload_n hx hb dM_foldOnce_67 rfl 3 rfl ?_
      refine x_get hx hb hts (jnM _) hown hK _ (woM ad cA f11 a12) rfl 15 (by decide) (hts _ (List.mem_cons_of_mem _ kfM_40)) (fun _ h9 => h9) (v := .ref (ad 0 16)) (by rfl) dM_foldOnce_68 ?_
      refine x_bipush hx hb dM_foldOnce_71 (by decide) ?_
      refine x_iload_n hx hb dM_foldOnce_73 rfl 2 rfl ?_
      refine x_imul hx hb dM_foldOnce_74 ?_
      refine x_iload hx hb dM_foldOnce_75 0 rfl ?_
      refine x_iadd hx hb dM_foldOnce_77 ?_
      obtain ⟨hj13, h⟩ := h
      refine x_iald hx hb hK _ _ (wa15M ad cA f11 a12) (wt15M cA) hj13.1 hj13.2 (by decide) dM_foldOnce_78 ?_
      refine x_topi (fun t14 et14 => ?_)
      have h := h t14 et14
      refine x_istore hx hb dM_foldOnce_79 (by decide) (lv' := [(5, .int (iI t14)), (4, .int (iI z10)), (3, .int (iI t9)), (2, .int (iI t7)), (0, .ref (ad 0 0)), (1, .int (iI x1))]) rfl ?_
      refine x_aload_n hx hb dM_foldOnce_81 rfl 4 rfl ?_
      refine x_get hx hb hts (jnM _) hown hK _ (woM ad cA f11 a12) rfl 15 (by decide) (hts _ (List.mem_cons_of_mem _ kfM_40)) (fun _ h9 => h9) (v := .ref (ad 0 16)) (by rfl) dM_foldOnce_82 ?_
      refine x_bipush hx hb dM_foldOnce_85 (by decide) ?_
      refine x_iload_n hx hb dM_foldOnce_87 rfl 2 rfl ?_
      refine x_imul hx hb dM_foldOnce_88 ?_
      refine x_iload hx hb dM_foldOnce_89 1 rfl ?_
      refine x_iadd hx hb dM_foldOnce_91 ?_
      refine x_iconst hx hb dM_foldOnce_92 ?_
      refine x_iadd hx hb dM_foldOnce_93 ?_
      obtain ⟨hj15, h⟩ := h
      refine x_iald hx hb hK _ _ (wa15M ad cA f11 a12) (wt15M cA) hj15.1 hj15.2 (by decide) dM_foldOnce_94 ?_
      refine x_topi (fun t16 et16 => ?_)
      have h := h t16 et16
      refine x_istore hx hb dM_foldOnce_95 (by decide) (lv' := [(6, .int (iI t16)), (5, .int (iI t14)), (4, .int (iI z10)), (3, .int (iI t9)), (2, .int (iI t7)), (0, .ref (ad 0 0)), (1, .int (iI x1))]) rfl ?_
      refine x_iload hx hb dM_foldOnce_97 1 rfl ?_
      obtain ⟨hi17, h⟩ := h
      refine x_if_lt hx hb (tgt := 117) hi17  dM_foldOnce_99 (by decide) (fun hc => ?_) (fun hc => ?_)
      · have h := h.1 hc
        refine x_sub [5, 6, 4, 3, 2, 0] rfl ?_
        exact tb_M_foldOnce_117 hO ih x1 t7 t9 z10 t16 f11 a12 h
      · have h := h.2 hc
        refine x_iload hx hb dM_foldOnce_102 1 rfl ?_
        refine x_iload_n hx hb dM_foldOnce_104 rfl 3 rfl ?_
        obtain ⟨hi18, h⟩ := h
        refine x_icmp_eq hx hb (tgt := 117) hi17 hi18 dM_foldOnce_105 (by decide) (fun hc => ?_) (fun hc => ?_)
        · have h := h.1 hc
          refine x_sub [5, 6, 4, 3, 2, 0] rfl ?_
          exact tb_M_foldOnce_117 hO ih x1 t7 t9 z10 t16 f11 a12 h
        · have h := h.2 hc
          refine x_aload_n hx hb dM_foldOnce_108 rfl 5 rfl ?_
          refine x_iload hx hb dM_foldOnce_109 1 rfl ?_
          refine x_iload_n hx hb dM_foldOnce_111 rfl 3 rfl ?_
          refine x_cVv (n := 2) (st := []) (As := [.int (iI t14), .int (iI t9)]) ⟨hx, hb, hml, hown, hts⟩ hK hN (m_M_unite h) (x_cwV hts rfl rfl kcM_unite knM klM_90 kiM_unite keM_unite ⟨by decide, by decide, by decide +kernel⟩ ⟨by decide, by decide⟩) _ (woM ad cA f11 a12) rfl hA rfl (Nat.le_of_ble_eq_true rfl) ⟨Nat.zero_le _, Nat.zero_le _⟩ rfl dM_foldOnce_112 (fun f20 a21 h => ?_)
          refine x_iconst hx hb dM_foldOnce_115 ?_
          exact x_zret hx hb hr hlk hK dM_foldOnce_116 (by decide) h
def wb_M_foldOnce_2 (post : Int → fS → aS → Prop) : Nat → Int → fS → aS → Prop
  | 0, _, _, _ => False
  | n + 1, x1, f, a => ir x1 ∧ (((384 ≤ x1) → (∃ j, wb_M_foldOnce_24 post j 0 f a)) ∧ (¬ (384 ≤ x1) → ((0 ≤ x1 ∧ x1 < 384) ∧ (wb_M_foldOnce_2 post n (x1 + 1) f (setA a 0 15 (va_up (a 0 15) (Int.toNat x1) (-1)))))))
set_option maxHeartbeats 4000000 in
set_option maxRecDepth 100000 in
theorem tb_M_foldOnce_2 {p : Program} {l : Launch} {e : Env} {s : State} {m : MethodId} {args : Array Value} {below : List Frame} {meth : Method} {c : Code} {A : Nat → Prop} {D : va_G} {ad : Nat → Nat → Nat} {cA : Nat → Nat → ClassId} {post : Int → fS → aS → Prop} (hO : xOk cM_foldOnce 7 RM (Cond.code yM_foldOnce cM_foldOnce 7 (some .boolean) :: xG) (some .boolean) p s m args meth c A D vwCl (taM cA)) : ∀ (n : Nat) (x1 : Int) (f : fS) (a : aS), wb_M_foldOnce_2 post n x1 f a → gM_foldOnce p l e s m args below meth c A D ad cA post f a [(0, .ref (ad 0 0)), (1, .int (iI x1))] 2 [] := by
  have hO9 := hO
  obtain ⟨hx, hb, hml, hown, hts, hr, hlk, hK, hN, hA⟩ := hO9
  intro n
  induction n with
  | zero => intro x1 f a h; exact False.elim h
  | succ n ih =>
    intro x1 f a h
    rw [wb_M_foldOnce_2] at h
    refine x_iload_n hx hb dM_foldOnce_2 rfl 1 rfl ?_
    refine x_sipush hx hb dM_foldOnce_3 (by decide) ?_
    obtain ⟨hi1, h⟩ := h
    refine x_icmp_ge hx hb (tgt := 22) hi1 (by decide) dM_foldOnce_6 (by decide) (fun hc => ?_) (fun hc => ?_)
    · have h := h.1 hc
      refine x_iconst hx hb dM_foldOnce_22 ?_
      refine x_istore_n hx hb dM_foldOnce_23 rfl (by decide) (lv' := [(1, .int (iI 0)), (0, .ref (ad 0 0))]) rfl ?_
      obtain ⟨j, h⟩ := h
      refine x_sub [1, 0] rfl ?_
      exact tb_M_foldOnce_24 hO j 0 f a h
    · have h := h.2 hc
      refine x_aload_n hx hb dM_foldOnce_9 rfl 0 rfl ?_
      refine x_get hx hb hts (jnM _) hown hK _ (woM ad cA f a) rfl 15 (by decide) (hts _ (List.mem_cons_of_mem _ kfM_40)) (fun _ h9 => h9) (v := .ref (ad 0 16)) (by rfl) dM_foldOnce_10 ?_
      refine x_iload_n hx hb dM_foldOnce_13 rfl 1 rfl ?_
      refine x_iconst hx hb dM_foldOnce_14 ?_
      obtain ⟨hj2, h⟩ := h
      refine x_iast hx hb hK _ _ (wa15M ad cA f a) (wt15M cA) hj2.1 hj2.2 (by decide) dM_foldOnce_15 (ws15M ad cA f a (va_up (a 0 15) (Int.toNat x1) (-1))) ?_
      refine x_iinc hx hb dM_foldOnce_16 1 rfl (by decide) (lv' := [(1, .int (iI (x1 + 1))), (0, .ref (ad 0 0))]) rfl ?_
      refine x_goto hx hb (tgt := 2) dM_foldOnce_19 (by decide) ?_
      refine x_sub [1, 0] rfl ?_
      exact ih (x1 + 1) f (setA a 0 15 (va_up (a 0 15) (Int.toNat x1) (-1))) h
def wp_M_foldOnce (post : Int → fS → aS → Prop) (f : fS) (a : aS) : Prop := ∃ j, wb_M_foldOnce_2 post j 0 f a
set_option maxHeartbeats 4000000 in
set_option maxRecDepth 100000 in
theorem m_M_foldOnce {l : Launch} {D : va_G} {ad : Nat → Nat → Nat} {cA : Nat → Nat → ClassId} {post : Int → fS → aS → Prop} {f : fS} {a : aS} (h : wp_M_foldOnce post  f a) : xCI l yM_foldOnce (Cond.code yM_foldOnce cM_foldOnce 7 (some .boolean) :: xG) rmM_foldOnce D vwCl (taM cA) (MW ad cA f a) [.ref (ad 0 0)] (MW ad cA) post := by
  refine x_metI (cc := cM_foldOnce) (nL := 7) (by decide) rfl (Nat.le_of_ble_eq_true rfl) ?_
  intro p e s m below meth c A hO
  have hO9 := hO
  obtain ⟨hx, hb, hml, hown, hts, hr, hlk, hK, hN, hA⟩ := hO9
  unfold wp_M_foldOnce at h
  show gM_foldOnce p l e s m _ below meth c A D ad cA post f a [(0, .ref (ad 0 0))] 0 []
  refine x_iconst hx hb dM_foldOnce_0 ?_
  refine x_istore_n hx hb dM_foldOnce_1 rfl (by decide) (lv' := [(1, .int (iI 0)), (0, .ref (ad 0 0))]) rfl ?_
  obtain ⟨j, h⟩ := h
  refine x_sub [1, 0] rfl ?_
  exact tb_M_foldOnce_2 hO j 0 f a h
-- M_fold
abbrev rmM_fold : Room := { frames := 2, cells := 0, slots := 0, locals := 51 }
abbrev gM_fold (p : Program) (l : Launch) (e : Env) (s : State) (m : MethodId) (args : Array Value) (below : List Frame) (meth : Method) (c : Code) (A : Nat → Prop) (D : va_G) (ad : Nat → Nat → Nat) (cA : Nat → Nat → ClassId) (post : fS → aS → Prop) (f : fS) (a : aS) (lv : List (Nat × Value)) (pc : Nat) (st : List Value) : Prop := xV p l e rmM_fold s m args below meth c s.heap A 0 0 (xQV below D vwCl (taM cA) (MW ad cA) post A args s) D vwCl 2 (MW ad cA f a) lv pc st
def wb_M_fold_25 (post : fS → aS → Prop) : Nat → Int → fS → aS → Prop
  | 0, _, _, _ => False
  | n + 1, x1, f, a => ir x1 ∧ (((x1 = 0) → ((0 ≤ f 0 9 ∧ f 0 9 < 64) ∧ (post (setF f 0 9 (a 0 14 (Int.toNat (f 0 9)))) a))) ∧ (¬ (x1 = 0) → (wp_M_foldOnce (fun z6 f7 a8 => wb_M_fold_25 post n z6 f7 a8)  f a)))
set_option maxHeartbeats 4000000 in
set_option maxRecDepth 100000 in
theorem tb_M_fold_25 {p : Program} {l : Launch} {e : Env} {s : State} {m : MethodId} {args : Array Value} {below : List Frame} {meth : Method} {c : Code} {A : Nat → Prop} {D : va_G} {ad : Nat → Nat → Nat} {cA : Nat → Nat → ClassId} {post : fS → aS → Prop} (hO : xOk cM_fold 2 RM (Cond.code yM_fold cM_fold 2 none :: xG) none p s m args meth c A D vwCl (taM cA)) : ∀ (n : Nat) (x1 : Int) (f : fS) (a : aS), wb_M_fold_25 post n x1 f a → gM_fold p l e s m args below meth c A D ad cA post f a [(0, .ref (ad 0 0)), (1, .int (iI x1))] 25 [] := by
  have hO9 := hO
  obtain ⟨hx, hb, hml, hown, hts, hr, hlk, hK, hN, hA⟩ := hO9
  intro n
  induction n with
  | zero => intro x1 f a h; exact False.elim h
  | succ n ih =>
    intro x1 f a h
    rw [wb_M_fold_25] at h
    refine x_iload_n hx hb dM_fold_25 rfl 1 rfl ?_
    obtain ⟨hi4, h⟩ := h
    refine x_if_eq hx hb (tgt := 37) hi4  dM_fold_26 (by decide) (fun hc => ?_) (fun hc => ?_)
    · have h := h.1 hc
      refine x_aload_n hx hb dM_fold_37 rfl 0 rfl ?_
      refine x_aload_n hx hb dM_fold_38 rfl 0 rfl ?_
      refine x_get hx hb hts (jnM _) hown hK _ (woM ad cA f a) rfl 14 (by decide) (hts _ (List.mem_cons_of_mem _ kfM_37)) (fun _ h9 => h9) (v := .ref (ad 0 15)) (by rfl) dM_fold_39 ?_
      refine x_aload_n hx hb dM_fold_42 rfl 0 rfl ?_
      refine x_get hx hb hts (jnM _) hown hK _ (woM ad cA f a) rfl 9 (by decide) (hts _ (List.mem_cons_of_mem _ kfM_72)) (fun _ h9 => h9) (v := .int (iI (f 0 9))) (by rfl) dM_fold_43 ?_
      obtain ⟨hj5, h⟩ := h
      refine x_iald hx hb hK _ _ (wa14M ad cA f a) (wt14M cA) hj5.1 hj5.2 (by decide) dM_fold_46 ?_
      refine x_put hx hb hts (jnM _) tyM tkM nmM hown hK _ (woM ad cA f a) rfl 9 (by decide) (hts _ (List.mem_cons_of_mem _ kfM_72)) (fun _ h9 => h9) rfl (by decide +kernel) (Nat.le_of_ble_eq_true rfl) dM_fold_47 (wf9M ad cA f a (a 0 14 (Int.toNat (f 0 9)))) ?_
      exact x_vret hx hb hr hlk hK dM_fold_50 h
    · have h := h.2 hc
      refine x_aload_n hx hb dM_fold_29 rfl 0 rfl ?_
      refine x_cVi (n := 0) (st := []) (As := []) ⟨hx, hb, hml, hown, hts⟩ hK hN (m_M_foldOnce h) (x_cwV hts rfl rfl kcM_foldOnce knM klM_94 kiM_foldOnce keM_foldOnce ⟨by decide, by decide, by decide +kernel⟩ ⟨by decide, by decide⟩) _ (woM ad cA f a) rfl hA rfl (Nat.le_of_ble_eq_true rfl) ⟨Nat.zero_le _, Nat.zero_le _⟩ rfl dM_fold_30 (fun z6 f7 a8 h => ?_)
      refine x_istore_n hx hb dM_fold_33 rfl (by decide) (lv' := [(1, .int (iI z6)), (0, .ref (ad 0 0))]) rfl ?_
      refine x_goto hx hb (tgt := 25) dM_fold_34 (by decide) ?_
      refine x_sub [1, 0] rfl ?_
      exact ih z6 f7 a8 h
def wb_M_fold_2 (post : fS → aS → Prop) : Nat → Int → fS → aS → Prop
  | 0, _, _, _ => False
  | n + 1, x1, f, a => ir x1 ∧ (ir (f 0 8) ∧ (((f 0 8 ≤ x1) → (∃ j, wb_M_fold_25 post j 1 f a)) ∧ (¬ (f 0 8 ≤ x1) → ((0 ≤ x1 ∧ x1 < 64) ∧ (wb_M_fold_2 post n (x1 + 1) f (setA a 0 14 (va_up (a 0 14) (Int.toNat x1) x1)))))))
set_option maxHeartbeats 4000000 in
set_option maxRecDepth 100000 in
theorem tb_M_fold_2 {p : Program} {l : Launch} {e : Env} {s : State} {m : MethodId} {args : Array Value} {below : List Frame} {meth : Method} {c : Code} {A : Nat → Prop} {D : va_G} {ad : Nat → Nat → Nat} {cA : Nat → Nat → ClassId} {post : fS → aS → Prop} (hO : xOk cM_fold 2 RM (Cond.code yM_fold cM_fold 2 none :: xG) none p s m args meth c A D vwCl (taM cA)) : ∀ (n : Nat) (x1 : Int) (f : fS) (a : aS), wb_M_fold_2 post n x1 f a → gM_fold p l e s m args below meth c A D ad cA post f a [(0, .ref (ad 0 0)), (1, .int (iI x1))] 2 [] := by
  have hO9 := hO
  obtain ⟨hx, hb, hml, hown, hts, hr, hlk, hK, hN, hA⟩ := hO9
  intro n
  induction n with
  | zero => intro x1 f a h; exact False.elim h
  | succ n ih =>
    intro x1 f a h
    rw [wb_M_fold_2] at h
    refine x_iload_n hx hb dM_fold_2 rfl 1 rfl ?_
    refine x_aload_n hx hb dM_fold_3 rfl 0 rfl ?_
    refine x_get hx hb hts (jnM _) hown hK _ (woM ad cA f a) rfl 8 (by decide) (hts _ (List.mem_cons_of_mem _ kfM_69)) (fun _ h9 => h9) (v := .int (iI (f 0 8))) (by rfl) dM_fold_4 ?_
    obtain ⟨hi1, h⟩ := h
    obtain ⟨hi2, h⟩ := h
    refine x_icmp_ge hx hb (tgt := 23) hi1 hi2 dM_fold_7 (by decide) (fun hc => ?_) (fun hc => ?_)
    · have h := h.1 hc
      refine x_iconst hx hb dM_fold_23 ?_
      refine x_istore_n hx hb dM_fold_24 rfl (by decide) (lv' := [(1, .int (iI 1)), (0, .ref (ad 0 0))]) rfl ?_
      obtain ⟨j, h⟩ := h
      refine x_sub [1, 0] rfl ?_
      exact tb_M_fold_25 hO j 1 f a h
    · have h := h.2 hc
      refine x_aload_n hx hb dM_fold_10 rfl 0 rfl ?_
      refine x_get hx hb hts (jnM _) hown hK _ (woM ad cA f a) rfl 14 (by decide) (hts _ (List.mem_cons_of_mem _ kfM_37)) (fun _ h9 => h9) (v := .ref (ad 0 15)) (by rfl) dM_fold_11 ?_
      refine x_iload_n hx hb dM_fold_14 rfl 1 rfl ?_
      refine x_iload_n hx hb dM_fold_15 rfl 1 rfl ?_
      obtain ⟨hj3, h⟩ := h
      refine x_iast hx hb hK _ _ (wa14M ad cA f a) (wt14M cA) hj3.1 hj3.2 (by decide) dM_fold_16 (ws14M ad cA f a (va_up (a 0 14) (Int.toNat x1) x1)) ?_
      refine x_iinc hx hb dM_fold_17 1 rfl (by decide) (lv' := [(1, .int (iI (x1 + 1))), (0, .ref (ad 0 0))]) rfl ?_
      refine x_goto hx hb (tgt := 2) dM_fold_20 (by decide) ?_
      refine x_sub [1, 0] rfl ?_
      exact ih (x1 + 1) f (setA a 0 14 (va_up (a 0 14) (Int.toNat x1) x1)) h
def wp_M_fold (post : fS → aS → Prop) (f : fS) (a : aS) : Prop := ∃ j, wb_M_fold_2 post j 0 f a
set_option maxHeartbeats 4000000 in
set_option maxRecDepth 100000 in
theorem m_M_fold {l : Launch} {D : va_G} {ad : Nat → Nat → Nat} {cA : Nat → Nat → ClassId} {post : fS → aS → Prop} {f : fS} {a : aS} (h : wp_M_fold post  f a) : xCV l yM_fold (Cond.code yM_fold cM_fold 2 none :: xG) rmM_fold D vwCl (taM cA) (MW ad cA f a) [.ref (ad 0 0)] (MW ad cA) post := by
  refine x_metV (cc := cM_fold) (nL := 2) (by decide) rfl (Nat.le_of_ble_eq_true rfl) ?_
  intro p e s m below meth c A hO
  have hO9 := hO
  obtain ⟨hx, hb, hml, hown, hts, hr, hlk, hK, hN, hA⟩ := hO9
  unfold wp_M_fold at h
  show gM_fold p l e s m _ below meth c A D ad cA post f a [(0, .ref (ad 0 0))] 0 []
  refine x_iconst hx hb dM_fold_0 ?_
  refine x_istore_n hx hb dM_fold_1 rfl (by decide) (lv' := [(1, .int (iI 0)), (0, .ref (ad 0 0))]) rfl ?_
  obtain ⟨j, h⟩ := h
  refine x_sub [1, 0] rfl ?_
  exact tb_M_fold_2 hO j 0 f a h
-- M_onlyWay
abbrev rmM_onlyWay : Room := { frames := 0, cells := 0, slots := 0, locals := 0 }
abbrev gM_onlyWay (p : Program) (l : Launch) (e : Env) (s : State) (m : MethodId) (args : Array Value) (below : List Frame) (meth : Method) (c : Code) (A : Nat → Prop) (D : va_G) (ad : Nat → Nat → Nat) (cA : Nat → Nat → ClassId) (post : Int → fS → aS → Prop) (f : fS) (a : aS) (lv : List (Nat × Value)) (pc : Nat) (st : List Value) : Prop := xV p l e rmM_onlyWay s m args below meth c s.heap A 0 0 (xQI below D vwCl (taM cA) (MW ad cA) post A args s) D vwCl 5 (MW ad cA f a) lv pc st
def wb_M_onlyWay_51 (post : Int → fS → aS → Prop) (y0 : Int) (f : fS) (a : aS) : Prop := post y0 f a
set_option maxHeartbeats 4000000 in
set_option maxRecDepth 100000 in
theorem tb_M_onlyWay_51 {p : Program} {l : Launch} {e : Env} {s : State} {m : MethodId} {args : Array Value} {below : List Frame} {meth : Method} {c : Code} {A : Nat → Prop} {D : va_G} {ad : Nat → Nat → Nat} {cA : Nat → Nat → ClassId} {post : Int → fS → aS → Prop} (hO : xOk cM_onlyWay 5 RM (Cond.code yM_onlyWay cM_onlyWay 5 (some .int) :: xG) (some .int) p s m args meth c A D vwCl (taM cA)) : ∀ (y0 : Int) (f : fS) (a : aS), wb_M_onlyWay_51 post y0 f a → gM_onlyWay p l e s m args below meth c A D ad cA post f a [] 51 [.int (iI y0)] := by
  have hO9 := hO
  obtain ⟨hx, hb, hml, hown, hts, hr, hlk, hK, hN, hA⟩ := hO9
  intro y0 f a h
  unfold wb_M_onlyWay_51 at h
  exact x_iret hx hb hr hlk hK dM_onlyWay_51 h
def wb_M_onlyWay_35 (post : Int → fS → aS → Prop) (k7 : Int → Int → Int → Int → fS → aS → Prop) (x1 : Int) (x2 : Int) (x3 : Int) (x4 : Int) (f : fS) (a : aS) : Prop := k7 x1 x2 x3 (x4 + 1) f a
set_option maxHeartbeats 4000000 in
set_option maxRecDepth 100000 in
theorem tb_M_onlyWay_35 {p : Program} {l : Launch} {e : Env} {s : State} {m : MethodId} {args : Array Value} {below : List Frame} {meth : Method} {c : Code} {A : Nat → Prop} {D : va_G} {ad : Nat → Nat → Nat} {cA : Nat → Nat → ClassId} {post : Int → fS → aS → Prop} {k7 : Int → Int → Int → Int → fS → aS → Prop} (hO : xOk cM_onlyWay 5 RM (Cond.code yM_onlyWay cM_onlyWay 5 (some .int) :: xG) (some .int) p s m args meth c A D vwCl (taM cA)) (hk7 : ∀ (x1 : Int) (x2 : Int) (x3 : Int) (x4 : Int) (f : fS) (a : aS), k7 x1 x2 x3 x4 f a → gM_onlyWay p l e s m args below meth c A D ad cA post f a [(0, .ref (ad 0 0)), (1, .int (iI x1)), (2, .int (iI x2)), (3, .int (iI x3)), (4, .int (iI x4))] 7 []) : ∀ (x1 : Int) (x2 : Int) (x3 : Int) (x4 : Int) (f : fS) (a : aS), wb_M_onlyWay_35 post k7 x1 x2 x3 x4 f a → gM_onlyWay p l e s m args below meth c A D ad cA post f a [(0, .ref (ad 0 0)), (1, .int (iI x1)), (2, .int (iI x2)), (3, .int (iI x3)), (4, .int (iI x4))] 35 [] := by
  have hO9 := hO
  obtain ⟨hx, hb, hml, hown, hts, hr, hlk, hK, hN, hA⟩ := hO9
  intro x1 x2 x3 x4 f a h
  unfold wb_M_onlyWay_35 at h
  refine x_iinc hx hb dM_onlyWay_35 4 rfl (by decide) (lv' := [(4, .int (iI (x4 + 1))), (0, .ref (ad 0 0)), (1, .int (iI x1)), (2, .int (iI x2)), (3, .int (iI x3))]) rfl ?_
  refine x_goto hx hb (tgt := 7) dM_onlyWay_38 (by decide) ?_
  refine x_sub [1, 2, 3, 4, 0] rfl ?_
  exact hk7 x1 x2 x3 (x4 + 1) f a h
def wb_M_onlyWay_7 (post : Int → fS → aS → Prop) : Nat → Int → Int → Int → Int → fS → aS → Prop
  | 0, _, _, _, _, _, _ => False
  | n + 1, x1, x2, x3, x4, f, a => ir x4 ∧ (((6 ≤ x4) → (ir x3 ∧ (((¬ x3 = 1) → (wb_M_onlyWay_51 post (-1) f a)) ∧ (¬ (¬ x3 = 1) → (wb_M_onlyWay_51 post x2 f a))))) ∧ (¬ (6 ≤ x4) → ((0 ≤ (6 * x1) + x4 ∧ (6 * x1) + x4 < 384) ∧ (ir (a 0 15 (Int.toNat ((6 * x1) + x4))) ∧ (((a 0 15 (Int.toNat ((6 * x1) + x4)) < 0) → (wb_M_onlyWay_35 post (wb_M_onlyWay_7 post n) x1 x2 x3 x4 f a)) ∧ (¬ (a 0 15 (Int.toNat ((6 * x1) + x4)) < 0) → (wb_M_onlyWay_35 post (wb_M_onlyWay_7 post n) x1 x4 (x3 + 1) x4 f a)))))))
set_option maxHeartbeats 4000000 in
set_option maxRecDepth 100000 in
theorem tb_M_onlyWay_7 {p : Program} {l : Launch} {e : Env} {s : State} {m : MethodId} {args : Array Value} {below : List Frame} {meth : Method} {c : Code} {A : Nat → Prop} {D : va_G} {ad : Nat → Nat → Nat} {cA : Nat → Nat → ClassId} {post : Int → fS → aS → Prop} (hO : xOk cM_onlyWay 5 RM (Cond.code yM_onlyWay cM_onlyWay 5 (some .int) :: xG) (some .int) p s m args meth c A D vwCl (taM cA)) : ∀ (n : Nat) (x1 : Int) (x2 : Int) (x3 : Int) (x4 : Int) (f : fS) (a : aS), wb_M_onlyWay_7 post n x1 x2 x3 x4 f a → gM_onlyWay p l e s m args below meth c A D ad cA post f a [(0, .ref (ad 0 0)), (1, .int (iI x1)), (2, .int (iI x2)), (3, .int (iI x3)), (4, .int (iI x4))] 7 [] := by
  have hO9 := hO
  obtain ⟨hx, hb, hml, hown, hts, hr, hlk, hK, hN, hA⟩ := hO9
  intro n
  induction n with
  | zero => intro x1 x2 x3 x4 f a h; exact False.elim h
  | succ n ih =>
    intro x1 x2 x3 x4 f a h
    rw [wb_M_onlyWay_7] at h
    refine x_iload hx hb dM_onlyWay_7 4 rfl ?_
    refine x_bipush hx hb dM_onlyWay_9 (by decide) ?_
    obtain ⟨hi1, h⟩ := h
    refine x_icmp_ge hx hb (tgt := 41) hi1 (by decide) dM_onlyWay_11 (by decide) (fun hc => ?_) (fun hc => ?_)
    · have h := h.1 hc
      refine x_iload_n hx hb dM_onlyWay_41 rfl 3 rfl ?_
      refine x_iconst hx hb dM_onlyWay_42 ?_
      obtain ⟨hi2, h⟩ := h
      refine x_icmp_ne hx hb (tgt := 50) hi2 (by decide) dM_onlyWay_43 (by decide) (fun hc => ?_) (fun hc => ?_)
      · have h := h.1 hc
        refine x_iconst hx hb dM_onlyWay_50 ?_
        refine x_sub [] rfl ?_
        exact tb_M_onlyWay_51 hO (-1) f a h
      · have h := h.2 hc
        refine x_iload_n hx hb dM_onlyWay_46 rfl 2 rfl ?_
        refine x_goto hx hb (tgt := 51) dM_onlyWay_47 (by decide) ?_
        refine x_sub [] rfl ?_
        exact tb_M_onlyWay_51 hO x2 f a h
    · have h := h.2 hc
      refine x_aload_n hx hb dM_onlyWay_14 rfl 0 rfl ?_
      refine x_get hx hb hts (jnM _) hown hK _ (woM ad cA f a) rfl 15 (by decide) (hts _ (List.mem_cons_of_mem _ kfM_40)) (fun _ h9 => h9) (v := .ref (ad 0 16)) (by rfl) dM_onlyWay_15 ?_
      refine x_bipush hx hb dM_onlyWay_18 (by decide) ?_
      refine x_iload_n hx hb dM_onlyWay_20 rfl 1 rfl ?_
      refine x_imul hx hb dM_onlyWay_21 ?_
      refine x_iload hx hb dM_onlyWay_22 4 rfl ?_
      refine x_iadd hx hb dM_onlyWay_24 ?_
      obtain ⟨hj3, h⟩ := h
      refine x_iald hx hb hK _ _ (wa15M ad cA f a) (wt15M cA) hj3.1 hj3.2 (by decide) dM_onlyWay_25 ?_
      obtain ⟨hi4, h⟩ := h
      refine x_if_lt hx hb (tgt := 35) hi4  dM_onlyWay_26 (by decide) (fun hc => ?_) (fun hc => ?_)
      · have h := h.1 hc
        exact tb_M_onlyWay_35 hO ih x1 x2 x3 x4 f a h
      · have h := h.2 hc
        refine x_iload hx hb dM_onlyWay_29 4 rfl ?_
        refine x_istore_n hx hb dM_onlyWay_31 rfl (by decide) (lv' := [(2, .int (iI x4)), (0, .ref (ad 0 0)), (1, .int (iI x1)), (3, .int (iI x3)), (4, .int (iI x4))]) rfl ?_
        refine x_iinc hx hb dM_onlyWay_32 3 rfl (by decide) (lv' := [(3, .int (iI (x3 + 1))), (2, .int (iI x4)), (0, .ref (ad 0 0)), (1, .int (iI x1)), (4, .int (iI x4))]) rfl ?_
        refine x_sub [2, 3, 1, 0, 4] rfl ?_
        exact tb_M_onlyWay_35 hO ih x1 x4 (x3 + 1) x4 f a h
def wp_M_onlyWay (post : Int → fS → aS → Prop) (x1 : Int) (f : fS) (a : aS) : Prop := ∃ j, wb_M_onlyWay_7 post j x1 (-1) 0 0 f a
set_option maxHeartbeats 4000000 in
set_option maxRecDepth 100000 in
theorem m_M_onlyWay {l : Launch} {D : va_G} {ad : Nat → Nat → Nat} {cA : Nat → Nat → ClassId} {post : Int → fS → aS → Prop} {x1 : Int} {f : fS} {a : aS} (h : wp_M_onlyWay post x1 f a) : xCI l yM_onlyWay (Cond.code yM_onlyWay cM_onlyWay 5 (some .int) :: xG) rmM_onlyWay D vwCl (taM cA) (MW ad cA f a) [.ref (ad 0 0), .int (iI x1)] (MW ad cA) post := by
  refine x_metI (cc := cM_onlyWay) (nL := 5) (by decide) rfl (Nat.le_of_ble_eq_true rfl) ?_
  intro p e s m below meth c A hO
  have hO9 := hO
  obtain ⟨hx, hb, hml, hown, hts, hr, hlk, hK, hN, hA⟩ := hO9
  unfold wp_M_onlyWay at h
  show gM_onlyWay p l e s m _ below meth c A D ad cA post f a [(0, .ref (ad 0 0)), (1, .int (iI x1))] 0 []
  refine x_iconst hx hb dM_onlyWay_0 ?_
  refine x_istore_n hx hb dM_onlyWay_1 rfl (by decide) (lv' := [(2, .int (iI (-1))), (0, .ref (ad 0 0)), (1, .int (iI x1))]) rfl ?_
  refine x_iconst hx hb dM_onlyWay_2 ?_
  refine x_istore_n hx hb dM_onlyWay_3 rfl (by decide) (lv' := [(3, .int (iI 0)), (2, .int (iI (-1))), (0, .ref (ad 0 0)), (1, .int (iI x1))]) rfl ?_
  refine x_iconst hx hb dM_onlyWay_4 ?_
  refine x_istore hx hb dM_onlyWay_5 (by decide) (lv' := [(4, .int (iI 0)), (3, .int (iI 0)), (2, .int (iI (-1))), (0, .ref (ad 0 0)), (1, .int (iI x1))]) rfl ?_
  obtain ⟨j, h⟩ := h
  refine x_sub [3, 4, 2, 1, 0] rfl ?_
  exact tb_M_onlyWay_7 hO j x1 (-1) 0 0 f a h
-- M_trim
abbrev rmM_trim : Room := { frames := 1, cells := 0, slots := 0, locals := 24 }
abbrev gM_trim (p : Program) (l : Launch) (e : Env) (s : State) (m : MethodId) (args : Array Value) (below : List Frame) (meth : Method) (c : Code) (A : Nat → Prop) (D : va_G) (ad : Nat → Nat → Nat) (cA : Nat → Nat → ClassId) (post : fS → aS → Prop) (f : fS) (a : aS) (lv : List (Nat × Value)) (pc : Nat) (st : List Value) : Prop := xV p l e rmM_trim s m args below meth c s.heap A 0 0 (xQV below D vwCl (taM cA) (MW ad cA) post A args s) D vwCl 5 (MW ad cA f a) lv pc st
def wb_M_trim_82 (post : fS → aS → Prop) (k10 : Int → Int → fS → aS → Prop) (x1 : Int) (x2 : Int) (f : fS) (a : aS) : Prop := k10 x1 (x2 + 1) f a
set_option maxHeartbeats 4000000 in
set_option maxRecDepth 100000 in
theorem tb_M_trim_82 {p : Program} {l : Launch} {e : Env} {s : State} {m : MethodId} {args : Array Value} {below : List Frame} {meth : Method} {c : Code} {A : Nat → Prop} {D : va_G} {ad : Nat → Nat → Nat} {cA : Nat → Nat → ClassId} {post : fS → aS → Prop} {k10 : Int → Int → fS → aS → Prop} (hO : xOk cM_trim 5 RM (Cond.code yM_trim cM_trim 5 none :: xG) none p s m args meth c A D vwCl (taM cA)) (hk10 : ∀ (x1 : Int) (x2 : Int) (f : fS) (a : aS), k10 x1 x2 f a → gM_trim p l e s m args below meth c A D ad cA post f a [(0, .ref (ad 0 0)), (1, .int (iI x1)), (2, .int (iI x2))] 10 []) : ∀ (x1 : Int) (x2 : Int) (f : fS) (a : aS), wb_M_trim_82 post k10 x1 x2 f a → gM_trim p l e s m args below meth c A D ad cA post f a [(0, .ref (ad 0 0)), (1, .int (iI x1)), (2, .int (iI x2))] 82 [] := by
  have hO9 := hO
  obtain ⟨hx, hb, hml, hown, hts, hr, hlk, hK, hN, hA⟩ := hO9
  intro x1 x2 f a h
  unfold wb_M_trim_82 at h
  refine x_iinc hx hb dM_trim_82 2 rfl (by decide) (lv' := [(2, .int (iI (x2 + 1))), (0, .ref (ad 0 0)), (1, .int (iI x1))]) rfl ?_
  refine x_goto hx hb (tgt := 10) dM_trim_85 (by decide) ?_
  refine x_sub [1, 2, 0] rfl ?_
  exact hk10 x1 (x2 + 1) f a h
def wb_M_trim_35 (post : fS → aS → Prop) (k10 : Int → Int → fS → aS → Prop) (x1 : Int) (x2 : Int) (y0 : Int) (f : fS) (a : aS) : Prop := ir y0 ∧ (((y0 < 0) → (wb_M_trim_82 post k10 x1 x2 f a)) ∧ (¬ (y0 < 0) → ((0 ≤ (6 * x2) + y0 ∧ (6 * x2) + y0 < 384) ∧ (∀ t10 : Int, t10 = a 0 15 (Int.toNat ((6 * x2) + y0)) → ((0 ≤ y0 ∧ y0 < 6) ∧ ((0 ≤ (6 * t10) + (cx y0) ∧ (6 * t10) + (cx y0) < 384) ∧ (wb_M_trim_82 post k10 1 x2 f (setA (setA a 0 15 (va_up (a 0 15) (Int.toNat ((6 * x2) + y0)) (-1))) 0 15 (va_up (va_up (a 0 15) (Int.toNat ((6 * x2) + y0)) (-1)) (Int.toNat ((6 * t10) + (cx y0))) (-1))))))))))
set_option maxHeartbeats 4000000 in
set_option maxRecDepth 100000 in
theorem tb_M_trim_35 {p : Program} {l : Launch} {e : Env} {s : State} {m : MethodId} {args : Array Value} {below : List Frame} {meth : Method} {c : Code} {A : Nat → Prop} {D : va_G} {ad : Nat → Nat → Nat} {cA : Nat → Nat → ClassId} {post : fS → aS → Prop} {k10 : Int → Int → fS → aS → Prop} (hO : xOk cM_trim 5 RM (Cond.code yM_trim cM_trim 5 none :: xG) none p s m args meth c A D vwCl (taM cA)) (hk10 : ∀ (x1 : Int) (x2 : Int) (f : fS) (a : aS), k10 x1 x2 f a → gM_trim p l e s m args below meth c A D ad cA post f a [(0, .ref (ad 0 0)), (1, .int (iI x1)), (2, .int (iI x2))] 10 []) : ∀ (x1 : Int) (x2 : Int) (y0 : Int) (f : fS) (a : aS), wb_M_trim_35 post k10 x1 x2 y0 f a → gM_trim p l e s m args below meth c A D ad cA post f a [(0, .ref (ad 0 0)), (1, .int (iI x1)), (2, .int (iI x2))] 35 [.int (iI y0)] := by
  have hO9 := hO
  obtain ⟨hx, hb, hml, hown, hts, hr, hlk, hK, hN, hA⟩ := hO9
  intro x1 x2 y0 f a h
  unfold wb_M_trim_35 at h
  refine x_istore_n hx hb dM_trim_35 rfl (by decide) (lv' := [(3, .int (iI y0)), (0, .ref (ad 0 0)), (1, .int (iI x1)), (2, .int (iI x2))]) rfl ?_
  refine x_iload_n hx hb dM_trim_36 rfl 0 rfl ?_
  obtain ⟨hi8, h⟩ := h
  refine x_if_lt hx hb (tgt := 82) hi8  dM_trim_37 (by decide) (fun hc => ?_) (fun hc => ?_)
  · have h := h.1 hc
    refine x_sub [1, 2, 3] rfl ?_
    exact tb_M_trim_82 hO hk10 x1 x2 f a h
  · have h := h.2 hc
    refine x_aload_n hx hb dM_trim_40 rfl 1 rfl ?_
    refine x_get hx hb hts (jnM _) hown hK _ (woM ad cA f a) rfl 15 (by decide) (hts _ (List.mem_cons_of_mem _ kfM_40)) (fun _ h9 => h9) (v := .ref (ad 0 16)) (by rfl) dM_trim_41 ?_
    refine x_bipush hx hb dM_trim_44 (by decide) ?_
    refine x_iload_n hx hb dM_trim_46 rfl 3 rfl ?_
    refine x_imul hx hb dM_trim_47 ?_
    refine x_iload_n hx hb dM_trim_48 rfl 0 rfl ?_
    refine x_iadd hx hb dM_trim_49 ?_
    obtain ⟨hj9, h⟩ := h
    refine x_iald hx hb hK _ _ (wa15M ad cA f a) (wt15M cA) hj9.1 hj9.2 (by decide) dM_trim_50 ?_
    refine x_topi (fun t10 et10 => ?_)
    have h := h t10 et10
    refine x_istore hx hb dM_trim_51 (by decide) (lv' := [(4, .int (iI t10)), (3, .int (iI y0)), (0, .ref (ad 0 0)), (1, .int (iI x1)), (2, .int (iI x2))]) rfl ?_
    refine x_aload_n hx hb dM_trim_53 rfl 2 rfl ?_
    refine x_get hx hb hts (jnM _) hown hK _ (woM ad cA f a) rfl 15 (by decide) (hts _ (List.mem_cons_of_mem _ kfM_40)) (fun _ h9 => h9) (v := .ref (ad 0 16)) (by rfl) dM_trim_54 ?_
    refine x_bipush hx hb dM_trim_57 (by decide) ?_
    refine x_iload_n hx hb dM_trim_59 rfl 4 rfl ?_
    refine x_imul hx hb dM_trim_60 ?_
    refine x_iload_n hx hb dM_trim_61 rfl 1 rfl ?_
    refine x_iadd hx hb dM_trim_62 ?_
    refine x_iconst hx hb dM_trim_63 ?_
    refine x_iast hx hb hK _ _ (wa15M ad cA f a) (wt15M cA) hj9.1 hj9.2 (by decide) dM_trim_64 (ws15M ad cA f a (va_up (a 0 15) (Int.toNat ((6 * x2) + y0)) (-1))) ?_
    refine x_aload_n hx hb dM_trim_65 rfl 2 rfl ?_
    refine x_get hx hb hts (jnM _) hown hK _ (woM ad cA f (setA a 0 15 (va_up (a 0 15) (Int.toNat ((6 * x2) + y0)) (-1)))) rfl 15 (by decide) (hts _ (List.mem_cons_of_mem _ kfM_40)) (fun _ h9 => h9) (v := .ref (ad 0 16)) (by rfl) dM_trim_66 ?_
    refine x_bipush hx hb dM_trim_69 (by decide) ?_
    refine x_iload hx hb dM_trim_71 0 rfl ?_
    refine x_imul hx hb dM_trim_73 ?_
    refine x_iload_n hx hb dM_trim_74 rfl 1 rfl ?_
    refine x_iconst hx hb dM_trim_75 ?_
    obtain ⟨hj11, h⟩ := h
    refine x_ixor1 hx hb hj11.1 hj11.2 dM_trim_76 ?_
    refine x_iadd hx hb dM_trim_77 ?_
    refine x_iconst hx hb dM_trim_78 ?_
    obtain ⟨hj12, h⟩ := h
    refine x_iast hx hb hK _ _ (wa15M ad cA f (setA a 0 15 (va_up (a 0 15) (Int.toNat ((6 * x2) + y0)) (-1)))) (wt15M cA) hj12.1 hj12.2 (by decide) dM_trim_79 (Eq.trans (by rw [(setA_s a 0 15 (va_up (a 0 15) (Int.toNat ((6 * x2) + y0)) (-1)))]) (ws15M ad cA f (setA a 0 15 (va_up (a 0 15) (Int.toNat ((6 * x2) + y0)) (-1))) (va_up (va_up (a 0 15) (Int.toNat ((6 * x2) + y0)) (-1)) (Int.toNat ((6 * t10) + (cx y0))) (-1)))) ?_
    refine x_iconst hx hb dM_trim_80 ?_
    refine x_istore_n hx hb dM_trim_81 rfl (by decide) (lv' := [(1, .int (iI 1)), (4, .int (iI t10)), (3, .int (iI y0)), (0, .ref (ad 0 0)), (2, .int (iI x2))]) rfl ?_
    refine x_sub [3, 0, 4] rfl ?_
    exact tb_M_trim_82 hO hk10 1 x2 f (setA (setA a 0 15 (va_up (a 0 15) (Int.toNat ((6 * x2) + y0)) (-1))) 0 15 (va_up (va_up (a 0 15) (Int.toNat ((6 * x2) + y0)) (-1)) (Int.toNat ((6 * t10) + (cx y0))) (-1))) h
def wb_M_trim_10 (post : fS → aS → Prop) (k2 : Int → fS → aS → Prop) : Nat → Int → Int → fS → aS → Prop
  | 0, _, _, _, _ => False
  | n + 1, x1, x2, f, a => ir x2 ∧ (ir (f 0 8) ∧ (((f 0 8 ≤ x2) → (k2 x1 f a)) ∧ (¬ (f 0 8 ≤ x2) → (ir (f 0 9) ∧ (((¬ x2 = f 0 9) → (wp_M_onlyWay (fun z5 f6 a7 => wb_M_trim_35 post (wb_M_trim_10 post k2 n) x1 x2 z5 f6 a7) x2 f a)) ∧ (¬ (¬ x2 = f 0 9) → (wb_M_trim_35 post (wb_M_trim_10 post k2 n) x1 x2 (-1) f a)))))))
set_option maxHeartbeats 4000000 in
set_option maxRecDepth 100000 in
theorem tb_M_trim_10 {p : Program} {l : Launch} {e : Env} {s : State} {m : MethodId} {args : Array Value} {below : List Frame} {meth : Method} {c : Code} {A : Nat → Prop} {D : va_G} {ad : Nat → Nat → Nat} {cA : Nat → Nat → ClassId} {post : fS → aS → Prop} {k2 : Int → fS → aS → Prop} (hO : xOk cM_trim 5 RM (Cond.code yM_trim cM_trim 5 none :: xG) none p s m args meth c A D vwCl (taM cA)) (hk2 : ∀ (x1 : Int) (f : fS) (a : aS), k2 x1 f a → gM_trim p l e s m args below meth c A D ad cA post f a [(0, .ref (ad 0 0)), (1, .int (iI x1))] 2 []) : ∀ (n : Nat) (x1 : Int) (x2 : Int) (f : fS) (a : aS), wb_M_trim_10 post k2 n x1 x2 f a → gM_trim p l e s m args below meth c A D ad cA post f a [(0, .ref (ad 0 0)), (1, .int (iI x1)), (2, .int (iI x2))] 10 [] := by
  have hO9 := hO
  obtain ⟨hx, hb, hml, hown, hts, hr, hlk, hK, hN, hA⟩ := hO9
  intro n
  induction n with
  | zero => intro x1 x2 f a h; exact False.elim h
  | succ n ih =>
    intro x1 x2 f a h
    rw [wb_M_trim_10] at h
    refine x_iload_n hx hb dM_trim_10 rfl 2 rfl ?_
    refine x_aload_n hx hb dM_trim_11 rfl 0 rfl ?_
    refine x_get hx hb hts (jnM _) hown hK _ (woM ad cA f a) rfl 8 (by decide) (hts _ (List.mem_cons_of_mem _ kfM_69)) (fun _ h9 => h9) (v := .int (iI (f 0 8))) (by rfl) dM_trim_12 ?_
    obtain ⟨hi2, h⟩ := h
    obtain ⟨hi3, h⟩ := h
    refine x_icmp_ge hx hb (tgt := 88) hi2 hi3 dM_trim_15 (by decide) (fun hc => ?_) (fun hc => ?_)
    · have h := h.1 hc
      refine x_goto hx hb (tgt := 2) dM_trim_88 (by decide) ?_
      refine x_sub [0, 1] rfl ?_
      exact hk2 x1 f a h
    · have h := h.2 hc
      refine x_iload_n hx hb dM_trim_18 rfl 2 rfl ?_
      refine x_aload_n hx hb dM_trim_19 rfl 0 rfl ?_
      refine x_get hx hb hts (jnM _) hown hK _ (woM ad cA f a) rfl 9 (by decide) (hts _ (List.mem_cons_of_mem _ kfM_72)) (fun _ h9 => h9) (v := .int (iI (f 0 9))) (by rfl) dM_trim_20 ?_
      obtain ⟨hi4, h⟩ := h
      refine x_icmp_ne hx hb (tgt := 30) hi2 hi4 dM_trim_23 (by decide) (fun hc => ?_) (fun hc => ?_)
      · have h := h.1 hc
        refine x_aload_n hx hb dM_trim_30 rfl 0 rfl ?_
        refine x_iload_n hx hb dM_trim_31 rfl 2 rfl ?_
        refine x_cVi (n := 1) (st := []) (As := [.int (iI x2)]) ⟨hx, hb, hml, hown, hts⟩ hK hN (m_M_onlyWay h) (x_cwV hts rfl rfl kcM_onlyWay knM klM_98 kiM_onlyWay keM_onlyWay ⟨by decide, by decide, by decide +kernel⟩ ⟨by decide, by decide⟩) _ (woM ad cA f a) rfl hA rfl (Nat.le_of_ble_eq_true rfl) ⟨Nat.zero_le _, Nat.zero_le _⟩ rfl dM_trim_32 (fun z5 f6 a7 h => ?_)
        exact tb_M_trim_35 hO ih x1 x2 z5 f6 a7 h
      · have h := h.2 hc
        refine x_iconst hx hb dM_trim_26 ?_
        refine x_goto hx hb (tgt := 35) dM_trim_27 (by decide) ?_
        exact tb_M_trim_35 hO ih x1 x2 (-1) f a h
def wb_M_trim_2 (post : fS → aS → Prop) : Nat → Int → fS → aS → Prop
  | 0, _, _, _ => False
  | n + 1, x1, f, a => ir x1 ∧ (((x1 = 0) → (post f a)) ∧ (¬ (x1 = 0) → (∃ j, wb_M_trim_10 post (wb_M_trim_2 post n) j 0 0 f a)))
set_option maxHeartbeats 4000000 in
set_option maxRecDepth 100000 in
theorem tb_M_trim_2 {p : Program} {l : Launch} {e : Env} {s : State} {m : MethodId} {args : Array Value} {below : List Frame} {meth : Method} {c : Code} {A : Nat → Prop} {D : va_G} {ad : Nat → Nat → Nat} {cA : Nat → Nat → ClassId} {post : fS → aS → Prop} (hO : xOk cM_trim 5 RM (Cond.code yM_trim cM_trim 5 none :: xG) none p s m args meth c A D vwCl (taM cA)) : ∀ (n : Nat) (x1 : Int) (f : fS) (a : aS), wb_M_trim_2 post n x1 f a → gM_trim p l e s m args below meth c A D ad cA post f a [(0, .ref (ad 0 0)), (1, .int (iI x1))] 2 [] := by
  have hO9 := hO
  obtain ⟨hx, hb, hml, hown, hts, hr, hlk, hK, hN, hA⟩ := hO9
  intro n
  induction n with
  | zero => intro x1 f a h; exact False.elim h
  | succ n ih =>
    intro x1 f a h
    rw [wb_M_trim_2] at h
    refine x_iload_n hx hb dM_trim_2 rfl 1 rfl ?_
    obtain ⟨hi1, h⟩ := h
    refine x_if_eq hx hb (tgt := 91) hi1  dM_trim_3 (by decide) (fun hc => ?_) (fun hc => ?_)
    · have h := h.1 hc
      exact x_vret hx hb hr hlk hK dM_trim_91 h
    · have h := h.2 hc
      refine x_iconst hx hb dM_trim_6 ?_
      refine x_istore_n hx hb dM_trim_7 rfl (by decide) (lv' := [(1, .int (iI 0)), (0, .ref (ad 0 0))]) rfl ?_
      refine x_iconst hx hb dM_trim_8 ?_
      refine x_istore_n hx hb dM_trim_9 rfl (by decide) (lv' := [(2, .int (iI 0)), (1, .int (iI 0)), (0, .ref (ad 0 0))]) rfl ?_
      obtain ⟨j, h⟩ := h
      refine x_sub [2, 1, 0] rfl ?_
      exact tb_M_trim_10 hO ih j 0 0 f a h
def wp_M_trim (post : fS → aS → Prop) (f : fS) (a : aS) : Prop := ∃ j, wb_M_trim_2 post j 1 f a
set_option maxHeartbeats 4000000 in
set_option maxRecDepth 100000 in
theorem m_M_trim {l : Launch} {D : va_G} {ad : Nat → Nat → Nat} {cA : Nat → Nat → ClassId} {post : fS → aS → Prop} {f : fS} {a : aS} (h : wp_M_trim post  f a) : xCV l yM_trim (Cond.code yM_trim cM_trim 5 none :: xG) rmM_trim D vwCl (taM cA) (MW ad cA f a) [.ref (ad 0 0)] (MW ad cA) post := by
  refine x_metV (cc := cM_trim) (nL := 5) (by decide) rfl (Nat.le_of_ble_eq_true rfl) ?_
  intro p e s m below meth c A hO
  have hO9 := hO
  obtain ⟨hx, hb, hml, hown, hts, hr, hlk, hK, hN, hA⟩ := hO9
  unfold wp_M_trim at h
  show gM_trim p l e s m _ below meth c A D ad cA post f a [(0, .ref (ad 0 0))] 0 []
  refine x_iconst hx hb dM_trim_0 ?_
  refine x_istore_n hx hb dM_trim_1 rfl (by decide) (lv' := [(1, .int (iI 1)), (0, .ref (ad 0 0))]) rfl ?_
  obtain ⟨j, h⟩ := h
  refine x_sub [1, 0] rfl ?_
  exact tb_M_trim_2 hO j 1 f a h
-- M_settle
abbrev rmM_settle : Room := { frames := 0, cells := 0, slots := 0, locals := 0 }
abbrev gM_settle (p : Program) (l : Launch) (e : Env) (s : State) (m : MethodId) (args : Array Value) (below : List Frame) (meth : Method) (c : Code) (A : Nat → Prop) (D : va_G) (ad : Nat → Nat → Nat) (cA : Nat → Nat → ClassId) (post : Int → fS → aS → Prop) (f : fS) (a : aS) (lv : List (Nat × Value)) (pc : Nat) (st : List Value) : Prop := xV p l e rmM_settle s m args below meth c s.heap A 0 0 (xQI below D vwCl (taM cA) (MW ad cA) post A args s) D vwCl 6 (MW ad cA f a) lv pc st
def wb_M_settle_253 (post : Int → fS → aS → Prop) (k194 : Int → Int → Int → Int → fS → aS → Prop) (x1 : Int) (x2 : Int) (x3 : Int) (x4 : Int) (y1 : Int) (y2 : Int) (f : fS) (a : aS) : Prop := (0 ≤ y1 ∧ y1 < 1536) ∧ (k194 x1 x2 x3 (x4 + 1) f (setA a 0 4 (va_up (a 0 4) (Int.toNat y1) y2)))
set_option maxHeartbeats 4000000 in
set_option maxRecDepth 100000 in
theorem tb_M_settle_253 {p : Program} {l : Launch} {e : Env} {s : State} {m : MethodId} {args : Array Value} {below : List Frame} {meth : Method} {c : Code} {A : Nat → Prop} {D : va_G} {ad : Nat → Nat → Nat} {cA : Nat → Nat → ClassId} {post : Int → fS → aS → Prop} {k194 : Int → Int → Int → Int → fS → aS → Prop} (hO : xOk cM_settle 6 RM (Cond.code yM_settle cM_settle 6 (some .int) :: xG) (some .int) p s m args meth c A D vwCl (taM cA)) (hk194 : ∀ (x1 : Int) (x2 : Int) (x3 : Int) (x4 : Int) (f : fS) (a : aS), k194 x1 x2 x3 x4 f a → gM_settle p l e s m args below meth c A D ad cA post f a [(0, .ref (ad 0 0)), (1, .int (iI x1)), (2, .int (iI x2)), (3, .int (iI x3)), (4, .int (iI x4))] 194 []) : ∀ (x1 : Int) (x2 : Int) (x3 : Int) (x4 : Int) (y1 : Int) (y2 : Int) (f : fS) (a : aS), wb_M_settle_253 post k194 x1 x2 x3 x4 y1 y2 f a → gM_settle p l e s m args below meth c A D ad cA post f a [(0, .ref (ad 0 0)), (1, .int (iI x1)), (2, .int (iI x2)), (3, .int (iI x3)), (4, .int (iI x4))] 253 [.int (iI y2), .int (iI y1), .ref (ad 0 5)] := by
  have hO9 := hO
  obtain ⟨hx, hb, hml, hown, hts, hr, hlk, hK, hN, hA⟩ := hO9
  intro x1 x2 x3 x4 y1 y2 f a h
  unfold wb_M_settle_253 at h
  obtain ⟨hj26, h⟩ := h
  refine x_iast hx hb hK _ _ (wa4M ad cA f a) (wt4M cA) hj26.1 hj26.2 (by decide) dM_settle_253 (ws4M ad cA f a (va_up (a 0 4) (Int.toNat y1) y2)) ?_
  refine x_iinc hx hb dM_settle_254 4 rfl (by decide) (lv' := [(4, .int (iI (x4 + 1))), (0, .ref (ad 0 0)), (1, .int (iI x1)), (2, .int (iI x2)), (3, .int (iI x3))]) rfl ?_
  refine x_goto hx hb (tgt := 194) dM_settle_257 (by decide) ?_
  refine x_sub [1, 2, 3, 4, 0] rfl ?_
  exact hk194 x1 x2 x3 (x4 + 1) f (setA a 0 4 (va_up (a 0 4) (Int.toNat y1) y2)) h
def wb_M_settle_194 (post : Int → fS → aS → Prop) (k186 : Int → Int → Int → fS → aS → Prop) : Nat → Int → Int → Int → Int → fS → aS → Prop
  | 0, _, _, _, _, _, _ => False
  | n + 1, x1, x2, x3, x4, f, a => ir x4 ∧ (((6 ≤ x4) → (k186 x1 x2 (x3 + 1) f a)) ∧ (¬ (6 ≤ x4) → ((0 ≤ x3 ∧ x3 < 64) ∧ ((0 ≤ (6 * (a 0 17 (Int.toNat x3))) + x4 ∧ (6 * (a 0 17 (Int.toNat x3))) + x4 < 384) ∧ (∀ t23 : Int, t23 = a 0 15 (Int.toNat ((6 * (a 0 17 (Int.toNat x3))) + x4)) → (ir t23 ∧ (((0 ≤ t23) → ((0 ≤ t23 ∧ t23 < 64) ∧ (wb_M_settle_253 post (wb_M_settle_194 post k186 n) x1 x2 x3 x4 (((384 * x1) + (6 * x3)) + x4) (a 0 16 (Int.toNat t23)) f a))) ∧ (¬ (0 ≤ t23) → (wb_M_settle_253 post (wb_M_settle_194 post k186 n) x1 x2 x3 x4 (((384 * x1) + (6 * x3)) + x4) (-1) f a)))))))))
set_option maxHeartbeats 4000000 in
set_option maxRecDepth 100000 in
theorem tb_M_settle_194 {p : Program} {l : Launch} {e : Env} {s : State} {m : MethodId} {args : Array Value} {below : List Frame} {meth : Method} {c : Code} {A : Nat → Prop} {D : va_G} {ad : Nat → Nat → Nat} {cA : Nat → Nat → ClassId} {post : Int → fS → aS → Prop} {k186 : Int → Int → Int → fS → aS → Prop} (hO : xOk cM_settle 6 RM (Cond.code yM_settle cM_settle 6 (some .int) :: xG) (some .int) p s m args meth c A D vwCl (taM cA)) (hk186 : ∀ (x1 : Int) (x2 : Int) (x3 : Int) (f : fS) (a : aS), k186 x1 x2 x3 f a → gM_settle p l e s m args below meth c A D ad cA post f a [(0, .ref (ad 0 0)), (1, .int (iI x1)), (2, .int (iI x2)), (3, .int (iI x3))] 186 []) : ∀ (n : Nat) (x1 : Int) (x2 : Int) (x3 : Int) (x4 : Int) (f : fS) (a : aS), wb_M_settle_194 post k186 n x1 x2 x3 x4 f a → gM_settle p l e s m args below meth c A D ad cA post f a [(0, .ref (ad 0 0)), (1, .int (iI x1)), (2, .int (iI x2)), (3, .int (iI x3)), (4, .int (iI x4))] 194 [] := by
  have hO9 := hO
  obtain ⟨hx, hb, hml, hown, hts, hr, hlk, hK, hN, hA⟩ := hO9
  intro n
  induction n with
  | zero => intro x1 x2 x3 x4 f a h; exact False.elim h
  | succ n ih =>
    intro x1 x2 x3 x4 f a h
    rw [wb_M_settle_194] at h
    refine x_iload hx hb dM_settle_194 4 rfl ?_
    refine x_bipush hx hb dM_settle_196 (by decide) ?_
    obtain ⟨hi20, h⟩ := h
    refine x_icmp_ge hx hb (tgt := 260) hi20 (by decide) dM_settle_198 (by decide) (fun hc => ?_) (fun hc => ?_)
    · have h := h.1 hc
      refine x_iinc hx hb dM_settle_260 3 rfl (by decide) (lv' := [(3, .int (iI (x3 + 1))), (0, .ref (ad 0 0)), (1, .int (iI x1)), (2, .int (iI x2)), (4, .int (iI x4))]) rfl ?_
      refine x_goto hx hb (tgt := 186) dM_settle_263 (by decide) ?_
      refine x_sub [1, 2, 3, 0] rfl ?_
      exact hk186 x1 x2 (x3 + 1) f a h
    · have h := h.2 hc
      refine x_aload_n hx hb dM_settle_201 rfl 0 rfl ?_
      refine x_get hx hb hts (jnM _) hown hK _ (woM ad cA f a) rfl 15 (by decide) (hts _ (List.mem_cons_of_mem _ kfM_40)) (fun _ h9 => h9) (v := .ref (ad 0 16)) (by rfl) dM_settle_202 ?_
      refine x_bipush hx hb dM_settle_205 (by decide) ?_
      refine x_aload_n hx hb dM_settle_207 rfl 0 rfl ?_
      refine x_get hx hb hts (jnM _) hown hK _ (woM ad cA f a) rfl 17 (by decide) (hts _ (List.mem_cons_of_mem _ kfM_46)) (fun _ h9 => h9) (v := .ref (ad 0 18)) (by rfl) dM_settle_208 ?_
      refine x_iload_n hx hb dM_settle_211 rfl 3 rfl ?_
      obtain ⟨hj21, h⟩ := h
      refine x_iald hx hb hK _ _ (wa17M ad cA f a) (wt17M cA) hj21.1 hj21.2 (by decide) dM_settle_212 ?_
      refine x_imul hx hb dM_settle_213 ?_
      refine x_iload hx hb dM_settle_214 4 rfl ?_
      refine x_iadd hx hb dM_settle_216 ?_
      obtain ⟨hj22, h⟩ := h
      refine x_iald hx hb hK _ _ (wa15M ad cA f a) (wt15M cA) hj22.1 hj22.2 (by decide) dM_settle_217 ?_
      refine x_topi (fun t23 et23 => ?_)
      have h := h t23 et23
      refine x_istore hx hb dM_settle_218 (by decide) (lv' := [(5, .int (iI t23)), (0, .ref (ad 0 0)), (1, .int (iI x1)), (2, .int (iI x2)), (3, .int (iI x3)), (4, .int (iI x4))]) rfl ?_
      refine x_aload_n hx hb dM_settle_220 rfl 1 rfl ?_
      refine x_get hx hb hts (jnM _) hown hK _ (woM ad cA f a) rfl 4 (by decide) (hts _ (List.mem_cons_of_mem _ kfM_16)) (fun _ h9 => h9) (v := .ref (ad 0 5)) (by rfl) dM_settle_221 ?_
      refine x_sipush hx hb dM_settle_224 (by decide) ?_
      refine x_iload_n hx hb dM_settle_227 rfl 2 rfl ?_
      refine x_imul hx hb dM_settle_228 ?_
      refine x_bipush hx hb dM_settle_229 (by decide) ?_
      refine x_iload_n hx hb dM_settle_231 rfl 4 rfl ?_
      refine x_imul hx hb dM_settle_232 ?_
      refine x_iadd hx hb dM_settle_233 ?_
      refine x_iload hx hb dM_settle_234 5 rfl ?_
      refine x_iadd hx hb dM_settle_236 ?_
      refine x_iload hx hb dM_settle_237 0 rfl ?_
      obtain ⟨hi24, h⟩ := h
      refine x_if_ge hx hb (tgt := 246) hi24  dM_settle_239 (by decide) (fun hc => ?_) (fun hc => ?_)
      · have h := h.1 hc
        refine x_aload_n hx hb dM_settle_246 rfl 1 rfl ?_
        refine x_get hx hb hts (jnM _) hown hK _ (woM ad cA f a) rfl 16 (by decide) (hts _ (List.mem_cons_of_mem _ kfM_43)) (fun _ h9 => h9) (v := .ref (ad 0 17)) (by rfl) dM_settle_247 ?_
        refine x_iload hx hb dM_settle_250 0 rfl ?_
        obtain ⟨hj25, h⟩ := h
        refine x_iald hx hb hK _ _ (wa16M ad cA f a) (wt16M cA) hj25.1 hj25.2 (by decide) dM_settle_252 ?_
        refine x_sub [1, 2, 3, 4, 5] rfl ?_
        exact tb_M_settle_253 hO ih x1 x2 x3 x4 (((384 * x1) + (6 * x3)) + x4) (a 0 16 (Int.toNat t23)) f a h
      · have h := h.2 hc
        refine x_iconst hx hb dM_settle_242 ?_
        refine x_goto hx hb (tgt := 253) dM_settle_243 (by decide) ?_
        refine x_sub [1, 2, 3, 4, 5] rfl ?_
        exact tb_M_settle_253 hO ih x1 x2 x3 x4 (((384 * x1) + (6 * x3)) + x4) (-1) f a h
def wb_M_settle_186 (post : Int → fS → aS → Prop) : Nat → Int → Int → Int → fS → aS → Prop
  | 0, _, _, _, _, _ => False
  | n + 1, x1, x2, x3, f, a => ir x3 ∧ (ir x2 ∧ (((x2 ≤ x3) → ((0 ≤ x1 ∧ x1 < 4) ∧ (post x2 f (setA a 0 3 (va_up (a 0 3) (Int.toNat x1) x2))))) ∧ (¬ (x2 ≤ x3) → (∃ j, wb_M_settle_194 post (wb_M_settle_186 post n) j x1 x2 x3 0 f a))))
set_option maxHeartbeats 4000000 in
set_option maxRecDepth 100000 in
theorem tb_M_settle_186 {p : Program} {l : Launch} {e : Env} {s : State} {m : MethodId} {args : Array Value} {below : List Frame} {meth : Method} {c : Code} {A : Nat → Prop} {D : va_G} {ad : Nat → Nat → Nat} {cA : Nat → Nat → ClassId} {post : Int → fS → aS → Prop} (hO : xOk cM_settle 6 RM (Cond.code yM_settle cM_settle 6 (some .int) :: xG) (some .int) p s m args meth c A D vwCl (taM cA)) : ∀ (n : Nat) (x1 : Int) (x2 : Int) (x3 : Int) (f : fS) (a : aS), wb_M_settle_186 post n x1 x2 x3 f a → gM_settle p l e s m args below meth c A D ad cA post f a [(0, .ref (ad 0 0)), (1, .int (iI x1)), (2, .int (iI x2)), (3, .int (iI x3))] 186 [] := by
  have hO9 := hO
  obtain ⟨hx, hb, hml, hown, hts, hr, hlk, hK, hN, hA⟩ := hO9
  intro n
  induction n with
  | zero => intro x1 x2 x3 f a h; exact False.elim h
  | succ n ih =>
    intro x1 x2 x3 f a h
    rw [wb_M_settle_186] at h
    refine x_iload_n hx hb dM_settle_186 rfl 3 rfl ?_
    refine x_iload_n hx hb dM_settle_187 rfl 2 rfl ?_
    obtain ⟨hi17, h⟩ := h
    obtain ⟨hi18, h⟩ := h
    refine x_icmp_ge hx hb (tgt := 266) hi17 hi18 dM_settle_188 (by decide) (fun hc => ?_) (fun hc => ?_)
    · have h := h.1 hc
      refine x_aload_n hx hb dM_settle_266 rfl 0 rfl ?_
      refine x_get hx hb hts (jnM _) hown hK _ (woM ad cA f a) rfl 3 (by decide) (hts _ (List.mem_cons_of_mem _ kfM_13)) (fun _ h9 => h9) (v := .ref (ad 0 4)) (by rfl) dM_settle_267 ?_
      refine x_iload_n hx hb dM_settle_270 rfl 1 rfl ?_
      refine x_iload_n hx hb dM_settle_271 rfl 2 rfl ?_
      obtain ⟨hj19, h⟩ := h
      refine x_iast hx hb hK _ _ (wa3M ad cA f a) (wt3M cA) hj19.1 hj19.2 (by decide) dM_settle_272 (ws3M ad cA f a (va_up (a 0 3) (Int.toNat x1) x2)) ?_
      refine x_iload_n hx hb dM_settle_273 rfl 2 rfl ?_
      exact x_iret hx hb hr hlk hK dM_settle_274 h
    · have h := h.2 hc
      refine x_iconst hx hb dM_settle_191 ?_
      refine x_istore hx hb dM_settle_192 (by decide) (lv' := [(4, .int (iI 0)), (0, .ref (ad 0 0)), (1, .int (iI x1)), (2, .int (iI x2)), (3, .int (iI x3))]) rfl ?_
      obtain ⟨j, h⟩ := h
      refine x_sub [1, 2, 3, 4, 0] rfl ?_
      exact tb_M_settle_194 hO ih j x1 x2 x3 0 f a h
def wb_M_settle_172 (post : Int → fS → aS → Prop) (k63 : Int → Int → Int → Int → fS → aS → Prop) (x1 : Int) (x2 : Int) (x3 : Int) (x4 : Int) (f : fS) (a : aS) : Prop := k63 x1 x2 x3 (x4 + 1) f a
set_option maxHeartbeats 4000000 in
set_option maxRecDepth 100000 in
theorem tb_M_settle_172 {p : Program} {l : Launch} {e : Env} {s : State} {m : MethodId} {args : Array Value} {below : List Frame} {meth : Method} {c : Code} {A : Nat → Prop} {D : va_G} {ad : Nat → Nat → Nat} {cA : Nat → Nat → ClassId} {post : Int → fS → aS → Prop} {k63 : Int → Int → Int → Int → fS → aS → Prop} (hO : xOk cM_settle 6 RM (Cond.code yM_settle cM_settle 6 (some .int) :: xG) (some .int) p s m args meth c A D vwCl (taM cA)) (hk63 : ∀ (x1 : Int) (x2 : Int) (x3 : Int) (x4 : Int) (f : fS) (a : aS), k63 x1 x2 x3 x4 f a → gM_settle p l e s m args below meth c A D ad cA post f a [(0, .ref (ad 0 0)), (1, .int (iI x1)), (2, .int (iI x2)), (3, .int (iI x3)), (4, .int (iI x4))] 63 []) : ∀ (x1 : Int) (x2 : Int) (x3 : Int) (x4 : Int) (f : fS) (a : aS), wb_M_settle_172 post k63 x1 x2 x3 x4 f a → gM_settle p l e s m args below meth c A D ad cA post f a [(0, .ref (ad 0 0)), (1, .int (iI x1)), (2, .int (iI x2)), (3, .int (iI x3)), (4, .int (iI x4))] 172 [] := by
  have hO9 := hO
  obtain ⟨hx, hb, hml, hown, hts, hr, hlk, hK, hN, hA⟩ := hO9
  intro x1 x2 x3 x4 f a h
  unfold wb_M_settle_172 at h
  refine x_iinc hx hb dM_settle_172 4 rfl (by decide) (lv' := [(4, .int (iI (x4 + 1))), (0, .ref (ad 0 0)), (1, .int (iI x1)), (2, .int (iI x2)), (3, .int (iI x3))]) rfl ?_
  refine x_goto hx hb (tgt := 63) dM_settle_175 (by decide) ?_
  refine x_sub [1, 2, 3, 4, 0] rfl ?_
  exact hk63 x1 x2 x3 (x4 + 1) f a h
def wb_M_settle_63 (post : Int → fS → aS → Prop) (k55 : Int → Int → Int → fS → aS → Prop) : Nat → Int → Int → Int → Int → fS → aS → Prop
  | 0, _, _, _, _, _, _ => False
  | n + 1, x1, x2, x3, x4, f, a => ir x4 ∧ (((6 ≤ x4) → (k55 x1 x2 (x3 + 1) f a)) ∧ (¬ (6 ≤ x4) → ((0 ≤ x3 ∧ x3 < 64) ∧ ((0 ≤ (6 * (a 0 17 (Int.toNat x3))) + x4 ∧ (6 * (a 0 17 (Int.toNat x3))) + x4 < 384) ∧ (∀ t10 : Int, t10 = a 0 15 (Int.toNat ((6 * (a 0 17 (Int.toNat x3))) + x4)) → (ir t10 ∧ (((t10 < 0) → (wb_M_settle_172 post (wb_M_settle_63 post k55 n) x1 x2 x3 x4 f a)) ∧ (¬ (t10 < 0) → ((0 ≤ t10 ∧ t10 < 64) ∧ (ir (a 0 16 (Int.toNat t10)) ∧ (((0 ≤ a 0 16 (Int.toNat t10)) → (wb_M_settle_172 post (wb_M_settle_63 post k55 n) x1 x2 x3 x4 f a)) ∧ (¬ (0 ≤ a 0 16 (Int.toNat t10)) → ((0 ≤ x2 ∧ x2 < 64) ∧ ((0 ≤ (64 * x1) + x2 ∧ (64 * x1) + x2 < 256) ∧ ((0 ≤ (64 * x1) + x3 ∧ (64 * x1) + x3 < 256) ∧ (wb_M_settle_172 post (wb_M_settle_63 post k55 n) x1 (x2 + 1) x3 x4 f (setA (setA (setA (setA (setA a 0 16 (va_up (a 0 16) (Int.toNat t10) x2)) 0 17 (va_up (a 0 17) (Int.toNat x2) t10)) 0 5 (va_up (a 0 5) (Int.toNat ((64 * x1) + x2)) x3)) 0 6 (va_up (a 0 6) (Int.toNat ((64 * x1) + x2)) x4)) 0 7 (va_up (a 0 7) (Int.toNat ((64 * x1) + x2)) ((a 0 7 (Int.toNat ((64 * x1) + x3))) + 1)))))))))))))))))))
set_option maxHeartbeats 4000000 in
set_option maxRecDepth 100000 in
theorem tb_M_settle_63 {p : Program} {l : Launch} {e : Env} {s : State} {m : MethodId} {args : Array Value} {below : List Frame} {meth : Method} {c : Code} {A : Nat → Prop} {D : va_G} {ad : Nat → Nat → Nat} {cA : Nat → Nat → ClassId} {post : Int → fS → aS → Prop} {k55 : Int → Int → Int → fS → aS → Prop} (hO : xOk cM_settle 6 RM (Cond.code yM_settle cM_settle 6 (some .int) :: xG) (some .int) p s m args meth c A D vwCl (taM cA)) (hk55 : ∀ (x1 : Int) (x2 : Int) (x3 : Int) (f : fS) (a : aS), k55 x1 x2 x3 f a → gM_settle p l e s m args below meth c A D ad cA post f a [(0, .ref (ad 0 0)), (1, .int (iI x1)), (2, .int (iI x2)), (3, .int (iI x3))] 55 []) : ∀ (n : Nat) (x1 : Int) (x2 : Int) (x3 : Int) (x4 : Int) (f : fS) (a : aS), wb_M_settle_63 post k55 n x1 x2 x3 x4 f a → gM_settle p l e s m args below meth c A D ad cA post f a [(0, .ref (ad 0 0)), (1, .int (iI x1)), (2, .int (iI x2)), (3, .int (iI x3)), (4, .int (iI x4))] 63 [] := by
  have hO9 := hO
  obtain ⟨hx, hb, hml, hown, hts, hr, hlk, hK, hN, hA⟩ := hO9
  intro n
  induction n with
  | zero => intro x1 x2 x3 x4 f a h; exact False.elim h
  | succ n ih =>
    intro x1 x2 x3 x4 f a h
    rw [wb_M_settle_63] at h
    refine x_iload hx hb dM_settle_63 4 rfl ?_
    refine x_bipush hx hb dM_settle_65 (by decide) ?_
    obtain ⟨hi7, h⟩ := h
    refine x_icmp_ge hx hb (tgt := 178) hi7 (by decide) dM_settle_67 (by decide) (fun hc => ?_) (fun hc => ?_)
    · have h := h.1 hc
      refine x_iinc hx hb dM_settle_178 3 rfl (by decide) (lv' := [(3, .int (iI (x3 + 1))), (0, .ref (ad 0 0)), (1, .int (iI x1)), (2, .int (iI x2)), (4, .int (iI x4))]) rfl ?_
      refine x_goto hx hb (tgt := 55) dM_settle_181 (by decide) ?_
      refine x_sub [1, 2, 3, 0] rfl ?_
      exact hk55 x1 x2 (x3 + 1) f a h
    · have h := h.2 hc
      refine x_aload_n hx hb dM_settle_70 rfl 0 rfl ?_
      refine x_get hx hb hts (jnM _) hown hK _ (woM ad cA f a) rfl 15 (by decide) (hts _ (List.mem_cons_of_mem _ kfM_40)) (fun _ h9 => h9) (v := .ref (ad 0 16)) (by rfl) dM_settle_71 ?_
      refine x_bipush hx hb dM_settle_74 (by decide) ?_
      refine x_aload_n hx hb dM_settle_76 rfl 0 rfl ?_
      refine x_get hx hb hts (jnM _) hown hK _ (woM ad cA f a) rfl 17 (by decide) (hts _ (List.mem_cons_of_mem _ kfM_46)) (fun _ h9 => h9) (v := .ref (ad 0 18)) (by rfl) dM_settle_77 ?_
      refine x_iload_n hx hb dM_settle_80 rfl 3 rfl ?_
      obtain ⟨hj8, h⟩ := h
      refine x_iald hx hb hK _ _ (wa17M ad cA f a) (wt17M cA) hj8.1 hj8.2 (by decide) dM_settle_81 ?_
      refine x_imul hx hb dM_settle_82 ?_
      refine x_iload hx hb dM_settle_83 4 rfl ?_
      refine x_iadd hx hb dM_settle_85 ?_
      obtain ⟨hj9, h⟩ := h
      refine x_iald hx hb hK _ _ (wa15M ad cA f a) (wt15M cA) hj9.1 hj9.2 (by decide) dM_settle_86 ?_
      refine x_topi (fun t10 et10 => ?_)
      have h := h t10 et10
      refine x_istore hx hb dM_settle_87 (by decide) (lv' := [(5, .int (iI t10)), (0, .ref (ad 0 0)), (1, .int (iI x1)), (2, .int (iI x2)), (3, .int (iI x3)), (4, .int (iI x4))]) rfl ?_
      refine x_iload hx hb dM_settle_89 0 rfl ?_
      obtain ⟨hi11, h⟩ := h
      refine x_if_lt hx hb (tgt := 172) hi11  dM_settle_91 (by decide) (fun hc => ?_) (fun hc => ?_)
      · have h := h.1 hc
        refine x_sub [1, 2, 3, 4, 5] rfl ?_
        exact tb_M_settle_172 hO ih x1 x2 x3 x4 f a h
      · have h := h.2 hc
        refine x_aload_n hx hb dM_settle_94 rfl 1 rfl ?_
        refine x_get hx hb hts (jnM _) hown hK _ (woM ad cA f a) rfl 16 (by decide) (hts _ (List.mem_cons_of_mem _ kfM_43)) (fun _ h9 => h9) (v := .ref (ad 0 17)) (by rfl) dM_settle_95 ?_
        refine x_iload hx hb dM_settle_98 0 rfl ?_
        obtain ⟨hj12, h⟩ := h
        refine x_iald hx hb hK _ _ (wa16M ad cA f a) (wt16M cA) hj12.1 hj12.2 (by decide) dM_settle_100 ?_
        obtain ⟨hi13, h⟩ := h
        refine x_if_ge hx hb (tgt := 172) hi13  dM_settle_101 (by decide) (fun hc => ?_) (fun hc => ?_)
        · have h := h.1 hc
          refine x_sub [1, 2, 3, 4, 5] rfl ?_
          exact tb_M_settle_172 hO ih x1 x2 x3 x4 f a h
        · have h := h.2 hc
          refine x_aload_n hx hb dM_settle_104 rfl 1 rfl ?_
          refine x_get hx hb hts (jnM _) hown hK _ (woM ad cA f a) rfl 16 (by decide) (hts _ (List.mem_cons_of_mem _ kfM_43)) (fun _ h9 => h9) (v := .ref (ad 0 17)) (by rfl) dM_settle_105 ?_
          refine x_iload hx hb dM_settle_108 0 rfl ?_
          refine x_iload_n hx hb dM_settle_110 rfl 3 rfl ?_
          refine x_iast hx hb hK _ _ (wa16M ad cA f a) (wt16M cA) hj12.1 hj12.2 (by decide) dM_settle_111 (ws16M ad cA f a (va_up (a 0 16) (Int.toNat t10) x2)) ?_
          refine x_aload_n hx hb dM_settle_112 rfl 1 rfl ?_
          refine x_get hx hb hts (jnM _) hown hK _ (woM ad cA f (setA a 0 16 (va_up (a 0 16) (Int.toNat t10) x2))) rfl 17 (by decide) (hts _ (List.mem_cons_of_mem _ kfM_46)) (fun _ h9 => h9) (v := .ref (ad 0 18)) (by rfl) dM_settle_113 ?_
          refine x_iload_n hx hb dM_settle_116 rfl 3 rfl ?_
          refine x_iload hx hb dM_settle_117 0 rfl ?_
          obtain ⟨hj14, h⟩ := h
          refine x_iast hx hb hK _ _ (wa17M ad cA f (setA a 0 16 (va_up (a 0 16) (Int.toNat t10) x2))) (wt17M cA) hj14.1 hj14.2 (by decide) dM_settle_119 (Eq.trans (by rw [(setA_k a (o := 0) (k := 16) (o' := 0) (k' := 17) (va_up (a 0 16) (Int.toNat t10) x2) (by decide))]) (ws17M ad cA f (setA a 0 16 (va_up (a 0 16) (Int.toNat t10) x2)) (va_up (a 0 17) (Int.toNat x2) t10))) ?_
          refine x_aload_n hx hb dM_settle_120 rfl 1 rfl ?_
          refine x_get hx hb hts (jnM _) hown hK _ (woM ad cA f (setA (setA a 0 16 (va_up (a 0 16) (Int.toNat t10) x2)) 0 17 (va_up (a 0 17) (Int.toNat x2) t10))) rfl 5 (by decide) (hts _ (List.mem_cons_of_mem _ kfM_19)) (fun _ h9 => h9) (v := .ref (ad 0 6)) (by rfl) dM_settle_121 ?_
          refine x_bipush hx hb dM_settle_124 (by decide) ?_
          refine x_iload_n hx hb dM_settle_126 rfl 2 rfl ?_
          refine x_imul hx hb dM_settle_127 ?_
          refine x_iload_n hx hb dM_settle_128 rfl 3 rfl ?_
          refine x_iadd hx hb dM_settle_129 ?_
          refine x_iload_n hx hb dM_settle_130 rfl 4 rfl ?_
          obtain ⟨hj15, h⟩ := h
          refine x_iast hx hb hK _ _ (wa5M ad cA f (setA (setA a 0 16 (va_up (a 0 16) (Int.toNat t10) x2)) 0 17 (va_up (a 0 17) (Int.toNat x2) t10))) (wt5M cA) hj15.1 hj15.2 (by decide) dM_settle_131 (Eq.trans (by rw [((setA_k (setA a 0 16 (va_up (a 0 16) (Int.toNat t10) x2)) (o := 0) (k := 17) (o' := 0) (k' := 5) (va_up (a 0 17) (Int.toNat x2) t10) (by decide)).trans (setA_k a (o := 0) (k := 16) (o' := 0) (k' := 5) (va_up (a 0 16) (Int.toNat t10) x2) (by decide)))]) (ws5M ad cA f (setA (setA a 0 16 (va_up (a 0 16) (Int.toNat t10) x2)) 0 17 (va_up (a 0 17) (Int.toNat x2) t10)) (va_up (a 0 5) (Int.toNat ((64 * x1) + x2)) x3))) ?_
          refine x_aload_n hx hb dM_settle_132 rfl 1 rfl ?_
          refine x_get hx hb hts (jnM _) hown hK _ (woM ad cA f (setA (setA (setA a 0 16 (va_up (a 0 16) (Int.toNat t10) x2)) 0 17 (va_up (a 0 17) (Int.toNat x2) t10)) 0 5 (va_up (a 0 5) (Int.toNat ((64 * x1) + x2)) x3))) rfl 6 (by decide) (hts _ (List.mem_cons_of_mem _ kfM_22)) (fun _ h9 => h9) (v := .ref (ad 0 7)) (by rfl) dM_settle_133 ?_
          refine x_bipush hx hb dM_settle_136 (by decide) ?_
          refine x_iload_n hx hb dM_settle_138 rfl 2 rfl ?_
          refine x_imul hx hb dM_settle_139 ?_
          refine x_iload_n hx hb dM_settle_140 rfl 3 rfl ?_
          refine x_iadd hx hb dM_settle_141 ?_
          refine x_iload hx hb dM_settle_142 5 rfl ?_
          refine x_iast hx hb hK _ _ (wa6M ad cA f (setA (setA (setA a 0 16 (va_up (a 0 16) (Int.toNat t10) x2)) 0 17 (va_up (a 0 17) (Int.toNat x2) t10)) 0 5 (va_up (a 0 5) (Int.toNat ((64 * x1) + x2)) x3))) (wt6M cA) hj15.1 hj15.2 (by decide) dM_settle_144 (Eq.trans (by rw [(((setA_k (setA (setA a 0 16 (va_up (a 0 16) (Int.toNat t10) x2)) 0 17 (va_up (a 0 17) (Int.toNat x2) t10)) (o := 0) (k := 5) (o' := 0) (k' := 6) (va_up (a 0 5) (Int.toNat ((64 * x1) + x2)) x3) (by decide)).trans (setA_k (setA a 0 16 (va_up (a 0 16) (Int.toNat t10) x2)) (o := 0) (k := 17) (o' := 0) (k' := 6) (va_up (a 0 17) (Int.toNat x2) t10) (by decide))).trans (setA_k a (o := 0) (k := 16) (o' := 0) (k' := 6) (va_up (a 0 16) (Int.toNat t10) x2) (by decide)))]) (ws6M ad cA f (setA (setA (setA a 0 16 (va_up (a 0 16) (Int.toNat t10) x2)) 0 17 (va_up (a 0 17) (Int.toNat x2) t10)) 0 5 (va_up (a 0 5) (Int.toNat ((64 * x1) + x2)) x3)) (va_up (a 0 6) (Int.toNat ((64 * x1) + x2)) x4))) ?_
          refine x_aload_n hx hb dM_settle_145 rfl 1 rfl ?_
          refine x_get hx hb hts (jnM _) hown hK _ (woM ad cA f (setA (setA (setA (setA a 0 16 (va_up (a 0 16) (Int.toNat t10) x2)) 0 17 (va_up (a 0 17) (Int.toNat x2) t10)) 0 5 (va_up (a 0 5) (Int.toNat ((64 * x1) + x2)) x3)) 0 6 (va_up (a 0 6) (Int.toNat ((64 * x1) + x2)) x4))) rfl 7 (by decide) (hts _ (List.mem_cons_of_mem _ kfM_25)) (fun _ h9 => h9) (v := .ref (ad 0 8)) (by rfl) dM_settle_146 ?_
          refine x_bipush hx hb dM_settle_149 (by decide) ?_
          refine x_iload_n hx hb dM_settle_151 rfl 2 rfl ?_
          refine x_imul hx hb dM_settle_152 ?_
          refine x_iload_n hx hb dM_settle_153 rfl 3 rfl ?_
          refine x_iadd hx hb dM_settle_154 ?_
          refine x_aload_n hx hb dM_settle_155 rfl 1 rfl ?_
          refine x_get hx hb hts (jnM _) hown hK _ (woM ad cA f (setA (setA (setA (setA a 0 16 (va_up (a 0 16) (Int.toNat t10) x2)) 0 17 (va_up (a 0 17) (Int.toNat x2) t10)) 0 5 (va_up (a 0 5) (Int.toNat ((64 * x1) + x2)) x3)) 0 6 (va_up (a 0 6) (Int.toNat ((64 * x1) + x2)) x4))) rfl 7 (by decide) (hts _ (List.mem_cons_of_mem _ kfM_25)) (fun _ h9 => h9) (v := .ref (ad 0 8)) (by rfl) dM_settle_156 ?_
          refine x_bipush hx hb dM_settle_159 (by decide) ?_
          refine x_iload_n hx hb dM_settle_161 rfl 2 rfl ?_
          refine x_imul hx hb dM_settle_162 ?_
          refine x_iload_n hx hb dM_settle_163 rfl 4 rfl ?_
          refine x_iadd hx hb dM_settle_164 ?_
          obtain ⟨hj16, h⟩ := h
          refine x_iald hx hb hK _ _ (wa7M ad cA f (setA (setA (setA (setA a 0 16 (va_up (a 0 16) (Int.toNat t10) x2)) 0 17 (va_up (a 0 17) (Int.toNat x2) t10)) 0 5 (va_up (a 0 5) (Int.toNat ((64 * x1) + x2)) x3)) 0 6 (va_up (a 0 6) (Int.toNat ((64 * x1) + x2)) x4))) (wt7M cA) hj16.1 hj16.2 (by decide) dM_settle_165 ?_
          refine x_eqi (congrFun ((((setA_k (setA (setA (setA a 0 16 (va_up (a 0 16) (Int.toNat t10) x2)) 0 17 (va_up (a 0 17) (Int.toNat x2) t10)) 0 5 (va_up (a 0 5) (Int.toNat ((64 * x1) + x2)) x3)) (o := 0) (k := 6) (o' := 0) (k' := 7) (va_up (a 0 6) (Int.toNat ((64 * x1) + x2)) x4) (by decide)).trans (setA_k (setA (setA a 0 16 (va_up (a 0 16) (Int.toNat t10) x2)) 0 17 (va_up (a 0 17) (Int.toNat x2) t10)) (o := 0) (k := 5) (o' := 0) (k' := 7) (va_up (a 0 5) (Int.toNat ((64 * x1) + x2)) x3) (by decide))).trans (setA_k (setA a 0 16 (va_up (a 0 16) (Int.toNat t10) x2)) (o := 0) (k := 17) (o' := 0) (k' := 7) (va_up (a 0 17) (Int.toNat x2) t10) (by decide))).trans (setA_k a (o := 0) (k := 16) (o' := 0) (k' := 7) (va_up (a 0 16) (Int.toNat t10) x2) (by decide))) _) ?_
          refine x_iconst hx hb dM_settle_166 ?_
          refine x_iadd hx hb dM_settle_167 ?_
          refine x_iast hx hb hK _ _ (wa7M ad cA f (setA (setA (setA (setA a 0 16 (va_up (a 0 16) (Int.toNat t10) x2)) 0 17 (va_up (a 0 17) (Int.toNat x2) t10)) 0 5 (va_up (a 0 5) (Int.toNat ((64 * x1) + x2)) x3)) 0 6 (va_up (a 0 6) (Int.toNat ((64 * x1) + x2)) x4))) (wt7M cA) hj15.1 hj15.2 (by decide) dM_settle_168 (Eq.trans (by rw [((((setA_k (setA (setA (setA a 0 16 (va_up (a 0 16) (Int.toNat t10) x2)) 0 17 (va_up (a 0 17) (Int.toNat x2) t10)) 0 5 (va_up (a 0 5) (Int.toNat ((64 * x1) + x2)) x3)) (o := 0) (k := 6) (o' := 0) (k' := 7) (va_up (a 0 6) (Int.toNat ((64 * x1) + x2)) x4) (by decide)).trans (setA_k (setA (setA a 0 16 (va_up (a 0 16) (Int.toNat t10) x2)) 0 17 (va_up (a 0 17) (Int.toNat x2) t10)) (o := 0) (k := 5) (o' := 0) (k' := 7) (va_up (a 0 5) (Int.toNat ((64 * x1) + x2)) x3) (by decide))).trans (setA_k (setA a 0 16 (va_up (a 0 16) (Int.toNat t10) x2)) (o := 0) (k := 17) (o' := 0) (k' := 7) (va_up (a 0 17) (Int.toNat x2) t10) (by decide))).trans (setA_k a (o := 0) (k := 16) (o' := 0) (k' := 7) (va_up (a 0 16) (Int.toNat t10) x2) (by decide)))]) (ws7M ad cA f (setA (setA (setA (setA a 0 16 (va_up (a 0 16) (Int.toNat t10) x2)) 0 17 (va_up (a 0 17) (Int.toNat x2) t10)) 0 5 (va_up (a 0 5) (Int.toNat ((64 * x1) + x2)) x3)) 0 6 (va_up (a 0 6) (Int.toNat ((64 * x1) + x2)) x4)) (va_up (a 0 7) (Int.toNat ((64 * x1) + x2)) ((a 0 7 (Int.toNat ((64 * x1) + x3))) + 1)))) ?_
          refine x_iinc hx hb dM_settle_169 3 rfl (by decide) (lv' := [(2, .int (iI (x2 + 1))), (5, .int (iI t10)), (0, .ref (ad 0 0)), (1, .int (iI x1)), (3, .int (iI x3)), (4, .int (iI x4))]) rfl ?_
          refine x_sub [2, 3, 0, 4, 5] rfl ?_
          exact tb_M_settle_172 hO ih x1 (x2 + 1) x3 x4 f (setA (setA (setA (setA (setA a 0 16 (va_up (a 0 16) (Int.toNat t10) x2)) 0 17 (va_up (a 0 17) (Int.toNat x2) t10)) 0 5 (va_up (a 0 5) (Int.toNat ((64 * x1) + x2)) x3)) 0 6 (va_up (a 0 6) (Int.toNat ((64 * x1) + x2)) x4)) 0 7 (va_up (a 0 7) (Int.toNat ((64 * x1) + x2)) ((a 0 7 (Int.toNat ((64 * x1) + x3))) + 1))) h
def wb_M_settle_55 (post : Int → fS → aS → Prop) : Nat → Int → Int → Int → fS → aS → Prop
  | 0, _, _, _, _, _ => False
  | n + 1, x1, x2, x3, f, a => ir x3 ∧ (ir x2 ∧ (((x2 ≤ x3) → (∃ j, wb_M_settle_186 post j x1 x2 0 f a)) ∧ (¬ (x2 ≤ x3) → (∃ j, wb_M_settle_63 post (wb_M_settle_55 post n) j x1 x2 x3 0 f a))))
set_option maxHeartbeats 4000000 in
set_option maxRecDepth 100000 in
theorem tb_M_settle_55 {p : Program} {l : Launch} {e : Env} {s : State} {m : MethodId} {args : Array Value} {below : List Frame} {meth : Method} {c : Code} {A : Nat → Prop} {D : va_G} {ad : Nat → Nat → Nat} {cA : Nat → Nat → ClassId} {post : Int → fS → aS → Prop} (hO : xOk cM_settle 6 RM (Cond.code yM_settle cM_settle 6 (some .int) :: xG) (some .int) p s m args meth c A D vwCl (taM cA)) : ∀ (n : Nat) (x1 : Int) (x2 : Int) (x3 : Int) (f : fS) (a : aS), wb_M_settle_55 post n x1 x2 x3 f a → gM_settle p l e s m args below meth c A D ad cA post f a [(0, .ref (ad 0 0)), (1, .int (iI x1)), (2, .int (iI x2)), (3, .int (iI x3))] 55 [] := by
  have hO9 := hO
  obtain ⟨hx, hb, hml, hown, hts, hr, hlk, hK, hN, hA⟩ := hO9
  intro n
  induction n with
  | zero => intro x1 x2 x3 f a h; exact False.elim h
  | succ n ih =>
    intro x1 x2 x3 f a h
    rw [wb_M_settle_55] at h
    refine x_iload_n hx hb dM_settle_55 rfl 3 rfl ?_
    refine x_iload_n hx hb dM_settle_56 rfl 2 rfl ?_
    obtain ⟨hi5, h⟩ := h
    obtain ⟨hi6, h⟩ := h
    refine x_icmp_ge hx hb (tgt := 184) hi5 hi6 dM_settle_57 (by decide) (fun hc => ?_) (fun hc => ?_)
    · have h := h.1 hc
      refine x_iconst hx hb dM_settle_184 ?_
      refine x_istore_n hx hb dM_settle_185 rfl (by decide) (lv' := [(3, .int (iI 0)), (0, .ref (ad 0 0)), (1, .int (iI x1)), (2, .int (iI x2))]) rfl ?_
      obtain ⟨j, h⟩ := h
      refine x_sub [1, 2, 3, 0] rfl ?_
      exact tb_M_settle_186 hO j x1 x2 0 f a h
    · have h := h.2 hc
      refine x_iconst hx hb dM_settle_60 ?_
      refine x_istore hx hb dM_settle_61 (by decide) (lv' := [(4, .int (iI 0)), (0, .ref (ad 0 0)), (1, .int (iI x1)), (2, .int (iI x2)), (3, .int (iI x3))]) rfl ?_
      obtain ⟨j, h⟩ := h
      refine x_sub [1, 2, 3, 4, 0] rfl ?_
      exact tb_M_settle_63 hO ih j x1 x2 x3 0 f a h
def wb_M_settle_2 (post : Int → fS → aS → Prop) : Nat → Int → Int → fS → aS → Prop
  | 0, _, _, _, _ => False
  | n + 1, x1, x2, f, a => ir x2 ∧ (((64 ≤ x2) → ((0 ≤ f 0 9 ∧ f 0 9 < 64) ∧ ((0 ≤ 64 * x1 ∧ 64 * x1 < 256) ∧ (∃ j, wb_M_settle_55 post j x1 1 0 f (setA (setA (setA a 0 16 (va_up (a 0 16) (Int.toNat (f 0 9)) 0)) 0 17 (va_up (a 0 17) (Int.toNat 0) (f 0 9))) 0 7 (va_up (a 0 7) (Int.toNat (64 * x1)) 0)))))) ∧ (¬ (64 ≤ x2) → ((0 ≤ x2 ∧ x2 < 64) ∧ (wb_M_settle_2 post n x1 (x2 + 1) f (setA a 0 16 (va_up (a 0 16) (Int.toNat x2) (-1)))))))
set_option maxHeartbeats 4000000 in
set_option maxRecDepth 100000 in
theorem tb_M_settle_2 {p : Program} {l : Launch} {e : Env} {s : State} {m : MethodId} {args : Array Value} {below : List Frame} {meth : Method} {c : Code} {A : Nat → Prop} {D : va_G} {ad : Nat → Nat → Nat} {cA : Nat → Nat → ClassId} {post : Int → fS → aS → Prop} (hO : xOk cM_settle 6 RM (Cond.code yM_settle cM_settle 6 (some .int) :: xG) (some .int) p s m args meth c A D vwCl (taM cA)) : ∀ (n : Nat) (x1 : Int) (x2 : Int) (f : fS) (a : aS), wb_M_settle_2 post n x1 x2 f a → gM_settle p l e s m args below meth c A D ad cA post f a [(0, .ref (ad 0 0)), (1, .int (iI x1)), (2, .int (iI x2))] 2 [] := by
  have hO9 := hO
  obtain ⟨hx, hb, hml, hown, hts, hr, hlk, hK, hN, hA⟩ := hO9
  intro n
  induction n with
  | zero => intro x1 x2 f a h; exact False.elim h
  | succ n ih =>
    intro x1 x2 f a h
    rw [wb_M_settle_2] at h
    refine x_iload_n hx hb dM_settle_2 rfl 2 rfl ?_
    refine x_bipush hx hb dM_settle_3 (by decide) ?_
    obtain ⟨hi1, h⟩ := h
    refine x_icmp_ge hx hb (tgt := 21) hi1 (by decide) dM_settle_5 (by decide) (fun hc => ?_) (fun hc => ?_)
    · have h := h.1 hc
      refine x_aload_n hx hb dM_settle_21 rfl 0 rfl ?_
      refine x_get hx hb hts (jnM _) hown hK _ (woM ad cA f a) rfl 16 (by decide) (hts _ (List.mem_cons_of_mem _ kfM_43)) (fun _ h9 => h9) (v := .ref (ad 0 17)) (by rfl) dM_settle_22 ?_
      refine x_aload_n hx hb dM_settle_25 rfl 0 rfl ?_
      refine x_get hx hb hts (jnM _) hown hK _ (woM ad cA f a) rfl 9 (by decide) (hts _ (List.mem_cons_of_mem _ kfM_72)) (fun _ h9 => h9) (v := .int (iI (f 0 9))) (by rfl) dM_settle_26 ?_
      refine x_iconst hx hb dM_settle_29 ?_
      obtain ⟨hj2, h⟩ := h
      refine x_iast hx hb hK _ _ (wa16M ad cA f a) (wt16M cA) hj2.1 hj2.2 (by decide) dM_settle_30 (ws16M ad cA f a (va_up (a 0 16) (Int.toNat (f 0 9)) 0)) ?_
      refine x_aload_n hx hb dM_settle_31 rfl 0 rfl ?_
      refine x_get hx hb hts (jnM _) hown hK _ (woM ad cA f (setA a 0 16 (va_up (a 0 16) (Int.toNat (f 0 9)) 0))) rfl 17 (by decide) (hts _ (List.mem_cons_of_mem _ kfM_46)) (fun _ h9 => h9) (v := .ref (ad 0 18)) (by rfl) dM_settle_32 ?_
      refine x_iconst hx hb dM_settle_35 ?_
      refine x_aload_n hx hb dM_settle_36 rfl 0 rfl ?_
      refine x_get hx hb hts (jnM _) hown hK _ (woM ad cA f (setA a 0 16 (va_up (a 0 16) (Int.toNat (f 0 9)) 0))) rfl 9 (by decide) (hts _ (List.mem_cons_of_mem _ kfM_72)) (fun _ h9 => h9) (v := .int (iI (f 0 9))) (by rfl) dM_settle_37 ?_
      refine x_iast hx hb hK _ _ (wa17M ad cA f (setA a 0 16 (va_up (a 0 16) (Int.toNat (f 0 9)) 0))) (wt17M cA) (by decide) (by decide) (by decide) dM_settle_40 (Eq.trans (by rw [(setA_k a (o := 0) (k := 16) (o' := 0) (k' := 17) (va_up (a 0 16) (Int.toNat (f 0 9)) 0) (by decide))]) (ws17M ad cA f (setA a 0 16 (va_up (a 0 16) (Int.toNat (f 0 9)) 0)) (va_up (a 0 17) (Int.toNat 0) (f 0 9)))) ?_
      refine x_aload_n hx hb dM_settle_41 rfl 0 rfl ?_
      refine x_get hx hb hts (jnM _) hown hK _ (woM ad cA f (setA (setA a 0 16 (va_up (a 0 16) (Int.toNat (f 0 9)) 0)) 0 17 (va_up (a 0 17) (Int.toNat 0) (f 0 9)))) rfl 7 (by decide) (hts _ (List.mem_cons_of_mem _ kfM_25)) (fun _ h9 => h9) (v := .ref (ad 0 8)) (by rfl) dM_settle_42 ?_
      refine x_bipush hx hb dM_settle_45 (by decide) ?_
      refine x_iload_n hx hb dM_settle_47 rfl 1 rfl ?_
      refine x_imul hx hb dM_settle_48 ?_
      refine x_iconst hx hb dM_settle_49 ?_
      obtain ⟨hj3, h⟩ := h
      refine x_iast hx hb hK _ _ (wa7M ad cA f (setA (setA a 0 16 (va_up (a 0 16) (Int.toNat (f 0 9)) 0)) 0 17 (va_up (a 0 17) (Int.toNat 0) (f 0 9)))) (wt7M cA) hj3.1 hj3.2 (by decide) dM_settle_50 (Eq.trans (by rw [((setA_k (setA a 0 16 (va_up (a 0 16) (Int.toNat (f 0 9)) 0)) (o := 0) (k := 17) (o' := 0) (k' := 7) (va_up (a 0 17) (Int.toNat 0) (f 0 9)) (by decide)).trans (setA_k a (o := 0) (k := 16) (o' := 0) (k' := 7) (va_up (a 0 16) (Int.toNat (f 0 9)) 0) (by decide)))]) (ws7M ad cA f (setA (setA a 0 16 (va_up (a 0 16) (Int.toNat (f 0 9)) 0)) 0 17 (va_up (a 0 17) (Int.toNat 0) (f 0 9))) (va_up (a 0 7) (Int.toNat (64 * x1)) 0))) ?_
      refine x_iconst hx hb dM_settle_51 ?_
      refine x_istore_n hx hb dM_settle_52 rfl (by decide) (lv' := [(2, .int (iI 1)), (0, .ref (ad 0 0)), (1, .int (iI x1))]) rfl ?_
      refine x_iconst hx hb dM_settle_53 ?_
      refine x_istore_n hx hb dM_settle_54 rfl (by decide) (lv' := [(3, .int (iI 0)), (2, .int (iI 1)), (0, .ref (ad 0 0)), (1, .int (iI x1))]) rfl ?_
      obtain ⟨j, h⟩ := h
      refine x_sub [2, 3, 1, 0] rfl ?_
      exact tb_M_settle_55 hO j x1 1 0 f (setA (setA (setA a 0 16 (va_up (a 0 16) (Int.toNat (f 0 9)) 0)) 0 17 (va_up (a 0 17) (Int.toNat 0) (f 0 9))) 0 7 (va_up (a 0 7) (Int.toNat (64 * x1)) 0)) h
    · have h := h.2 hc
      refine x_aload_n hx hb dM_settle_8 rfl 0 rfl ?_
      refine x_get hx hb hts (jnM _) hown hK _ (woM ad cA f a) rfl 16 (by decide) (hts _ (List.mem_cons_of_mem _ kfM_43)) (fun _ h9 => h9) (v := .ref (ad 0 17)) (by rfl) dM_settle_9 ?_
      refine x_iload_n hx hb dM_settle_12 rfl 2 rfl ?_
      refine x_iconst hx hb dM_settle_13 ?_
      obtain ⟨hj4, h⟩ := h
      refine x_iast hx hb hK _ _ (wa16M ad cA f a) (wt16M cA) hj4.1 hj4.2 (by decide) dM_settle_14 (ws16M ad cA f a (va_up (a 0 16) (Int.toNat x2) (-1))) ?_
      refine x_iinc hx hb dM_settle_15 2 rfl (by decide) (lv' := [(2, .int (iI (x2 + 1))), (0, .ref (ad 0 0)), (1, .int (iI x1))]) rfl ?_
      refine x_goto hx hb (tgt := 2) dM_settle_18 (by decide) ?_
      refine x_sub [1, 2, 0] rfl ?_
      exact ih x1 (x2 + 1) f (setA a 0 16 (va_up (a 0 16) (Int.toNat x2) (-1))) h
def wp_M_settle (post : Int → fS → aS → Prop) (x1 : Int) (f : fS) (a : aS) : Prop := ∃ j, wb_M_settle_2 post j x1 0 f a
set_option maxHeartbeats 4000000 in
set_option maxRecDepth 100000 in
theorem m_M_settle {l : Launch} {D : va_G} {ad : Nat → Nat → Nat} {cA : Nat → Nat → ClassId} {post : Int → fS → aS → Prop} {x1 : Int} {f : fS} {a : aS} (h : wp_M_settle post x1 f a) : xCI l yM_settle (Cond.code yM_settle cM_settle 6 (some .int) :: xG) rmM_settle D vwCl (taM cA) (MW ad cA f a) [.ref (ad 0 0), .int (iI x1)] (MW ad cA) post := by
  refine x_metI (cc := cM_settle) (nL := 6) (by decide) rfl (Nat.le_of_ble_eq_true rfl) ?_
  intro p e s m below meth c A hO
  have hO9 := hO
  obtain ⟨hx, hb, hml, hown, hts, hr, hlk, hK, hN, hA⟩ := hO9
  unfold wp_M_settle at h
  show gM_settle p l e s m _ below meth c A D ad cA post f a [(0, .ref (ad 0 0)), (1, .int (iI x1))] 0 []
  refine x_iconst hx hb dM_settle_0 ?_
  refine x_istore_n hx hb dM_settle_1 rfl (by decide) (lv' := [(2, .int (iI 0)), (0, .ref (ad 0 0)), (1, .int (iI x1))]) rfl ?_
  obtain ⟨j, h⟩ := h
  refine x_sub [1, 2, 0] rfl ?_
  exact tb_M_settle_2 hO j x1 0 f a h
