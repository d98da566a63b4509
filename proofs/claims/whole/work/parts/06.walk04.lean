-- D_moveBaseAlong
abbrev rmD_moveBaseAlong : Room := { frames := 2, cells := 0, slots := 0, locals := 47 }
abbrev gD_moveBaseAlong (p : Program) (l : Launch) (e : Env) (s : State) (m : MethodId) (args : Array Value) (below : List Frame) (meth : Method) (c : Code) (A : Nat → Prop) (D : va_G) (ad : Nat → Nat → Nat) (cA : Nat → Nat → ClassId) (post : fS → aS → Prop) (f : fS) (a : aS) (lv : List (Nat × Value)) (pc : Nat) (st : List Value) : Prop := xV p l e rmD_moveBaseAlong s m args below meth c s.heap A 0 0 (xQV below D vwCl (taC cA) (CW ad cA) post A args s) D vwCl 2 (CW ad cA f a) lv pc st
def wp_D_moveBaseAlong (post : fS → aS → Prop) (f : fS) (a : aS) : Prop := wp_D_addRow (fun z1 f2 a3 => post (setF f2 2 1 z1) a3) (f 1 1) f a
set_option maxHeartbeats 4000000 in
set_option maxRecDepth 100000 in
theorem m_D_moveBaseAlong {l : Launch} {D : va_G} {ad : Nat → Nat → Nat} {cA : Nat → Nat → ClassId} {post : fS → aS → Prop} {f : fS} {a : aS} (h : wp_D_moveBaseAlong post  f a) : xCV l yD_moveBaseAlong (Cond.code yD_moveBaseAlong cD_moveBaseAlong 2 none :: xG) rmD_moveBaseAlong D vwCl (taC cA) (CW ad cA f a) [.ref (ad 2 0), .ref (ad 1 0)] (CW ad cA) post := by
  refine x_metV (cc := cD_moveBaseAlong) (nL := 2) (by decide) rfl (Nat.le_of_ble_eq_true rfl) ?_
  intro p e s m below meth c A hO
  have hO9 := hO
  obtain ⟨hx, hb, hml, hown, hts, hr, hlk, hK, hN, hA⟩ := hO9
  unfold wp_D_moveBaseAlong at h
  show gD_moveBaseAlong p l e s m _ below meth c A D ad cA post f a [(0, .ref (ad 2 0)), (1, .ref (ad 1 0))] 0 []
  refine x_aload_n hx hb dD_moveBaseAlong_0 rfl 0 rfl ?_
  refine x_aload_n hx hb dD_moveBaseAlong_1 rfl 0 rfl ?_
  refine x_aload_n hx hb dD_moveBaseAlong_2 rfl 1 rfl ?_
  refine x_aload_n hx hb dD_moveBaseAlong_3 rfl 1 rfl ?_
  refine x_getN hx hb hts (jnW _) hown hK _ (woW ad cA f a) rfl 1 (by decide) (va_Nw.use rfl (hN.1 _ nfD_66)) (fun _ h9 => h9) (v := .int (iI (f 1 1))) (by rfl) dD_moveBaseAlong_4 ?_
  refine x_cVi (n := 2) (st := [.ref (ad 2 0)]) (As := [.ref (ad 1 0), .int (iI (f 1 1))]) ⟨hx, hb, hml, hown, hts⟩ hK hN (m_D_addRow h) (x_cwV hts rfl rfl kcD_addRow knD klD_69 kiD_addRow keD_addRow ⟨by decide, by decide, by decide +kernel⟩ ⟨by decide, by decide⟩) _ (woD ad cA f a) rfl hA rfl (Nat.le_of_ble_eq_true rfl) ⟨Nat.zero_le _, Nat.zero_le _⟩ rfl dD_moveBaseAlong_7 (fun z1 f2 a3 h => ?_)
  refine x_put hx hb hts (jnD _) tyD tkD nmD hown hK _ (woD ad cA f2 a3) rfl 1 (by decide) (hts _ (List.mem_cons_of_mem _ kfD_43)) (fun _ h9 => h9) rfl (by decide +kernel) (Nat.le_of_ble_eq_true rfl) dD_moveBaseAlong_10 (wf1D ad cA f2 a3 z1) ?_
  exact x_vret hx hb hr hlk hK dD_moveBaseAlong_13 h
-- D_onlyWay
abbrev rmD_onlyWay : Room := { frames := 0, cells := 0, slots := 0, locals := 0 }
abbrev gD_onlyWay (p : Program) (l : Launch) (e : Env) (s : State) (m : MethodId) (args : Array Value) (below : List Frame) (meth : Method) (c : Code) (A : Nat → Prop) (D : va_G) (ad : Nat → Nat → Nat) (cA : Nat → Nat → ClassId) (post : Int → fS → aS → Prop) (f : fS) (a : aS) (lv : List (Nat × Value)) (pc : Nat) (st : List Value) : Prop := xV p l e rmD_onlyWay s m args below meth c s.heap A 0 0 (xQI below D vwCl (taC cA) (CW ad cA) post A args s) D vwCl 4 (CW ad cA f a) lv pc st
def wb_D_onlyWay_34 (post : Int → fS → aS → Prop) (k4 : Int → Int → Int → fS → aS → Prop) (x1 : Int) (x2 : Int) (x3 : Int) (f : fS) (a : aS) : Prop := k4 x1 x2 (x3 + 1) f a
set_option maxHeartbeats 4000000 in
set_option maxRecDepth 100000 in
theorem tb_D_onlyWay_34 {p : Program} {l : Launch} {e : Env} {s : State} {m : MethodId} {args : Array Value} {below : List Frame} {meth : Method} {c : Code} {A : Nat → Prop} {D : va_G} {ad : Nat → Nat → Nat} {cA : Nat → Nat → ClassId} {post : Int → fS → aS → Prop} {k4 : Int → Int → Int → fS → aS → Prop} (hO : xOk cD_onlyWay 4 RD (Cond.code yD_onlyWay cD_onlyWay 4 (some .int) :: xG) (some .int) p s m args meth c A D vwCl (taC cA)) (hk4 : ∀ (x1 : Int) (x2 : Int) (x3 : Int) (f : fS) (a : aS), k4 x1 x2 x3 f a → gD_onlyWay p l e s m args below meth c A D ad cA post f a [(0, .ref (ad 2 0)), (1, .int (iI x1)), (2, .int (iI x2)), (3, .int (iI x3))] 4 []) : ∀ (x1 : Int) (x2 : Int) (x3 : Int) (f : fS) (a : aS), wb_D_onlyWay_34 post k4 x1 x2 x3 f a → gD_onlyWay p l e s m args below meth c A D ad cA post f a [(0, .ref (ad 2 0)), (1, .int (iI x1)), (2, .int (iI x2)), (3, .int (iI x3))] 34 [] := by
  have hO9 := hO
  obtain ⟨hx, hb, hml, hown, hts, hr, hlk, hK, hN, hA⟩ := hO9
  intro x1 x2 x3 f a h
  unfold wb_D_onlyWay_34 at h
  refine x_iinc hx hb dD_onlyWay_34 3 rfl (by decide) (lv' := [(3, .int (iI (x3 + 1))), (0, .ref (ad 2 0)), (1, .int (iI x1)), (2, .int (iI x2))]) rfl ?_
  refine x_goto hx hb (tgt := 4) dD_onlyWay_37 (by decide) ?_
  refine x_sub [1, 2, 3, 0] rfl ?_
  exact hk4 x1 x2 (x3 + 1) f a h
def wb_D_onlyWay_4 (post : Int → fS → aS → Prop) : Nat → Int → Int → Int → fS → aS → Prop
  | 0, _, _, _, _, _ => False
  | n + 1, x1, x2, x3, f, a => ir x3 ∧ (((6 ≤ x3) → (post x2 f a)) ∧ (¬ (6 ≤ x3) → ((0 ≤ (x1 * 6) + x3 ∧ (x1 * 6) + x3 < 384) ∧ (ir (a 2 7 (Int.toNat ((x1 * 6) + x3))) ∧ (((a 2 7 (Int.toNat ((x1 * 6) + x3)) = -1) → (wb_D_onlyWay_34 post (wb_D_onlyWay_4 post n) x1 x2 x3 f a)) ∧ (¬ (a 2 7 (Int.toNat ((x1 * 6) + x3)) = -1) → (ir x2 ∧ (((x2 = -1) → (wb_D_onlyWay_34 post (wb_D_onlyWay_4 post n) x1 x3 x3 f a)) ∧ (¬ (x2 = -1) → (post (-1) f a))))))))))
set_option maxHeartbeats 4000000 in
set_option maxRecDepth 100000 in
theorem tb_D_onlyWay_4 {p : Program} {l : Launch} {e : Env} {s : State} {m : MethodId} {args : Array Value} {below : List Frame} {meth : Method} {c : Code} {A : Nat → Prop} {D : va_G} {ad : Nat → Nat → Nat} {cA : Nat → Nat → ClassId} {post : Int → fS → aS → Prop} (hO : xOk cD_onlyWay 4 RD (Cond.code yD_onlyWay cD_onlyWay 4 (some .int) :: xG) (some .int) p s m args meth c A D vwCl (taC cA)) : ∀ (n : Nat) (x1 : Int) (x2 : Int) (x3 : Int) (f : fS) (a : aS), wb_D_onlyWay_4 post n x1 x2 x3 f a → gD_onlyWay p l e s m args below meth c A D ad cA post f a [(0, .ref (ad 2 0)), (1, .int (iI x1)), (2, .int (iI x2)), (3, .int (iI x3))] 4 [] := by
  have hO9 := hO
  obtain ⟨hx, hb, hml, hown, hts, hr, hlk, hK, hN, hA⟩ := hO9
  intro n
  induction n with
  | zero => intro x1 x2 x3 f a h; exact False.elim h
  | succ n ih =>
    intro x1 x2 x3 f a h
    rw [wb_D_onlyWay_4] at h
    refine x_iload_n hx hb dD_onlyWay_4 rfl 3 rfl ?_
    refine x_bipush hx hb dD_onlyWay_5 (by decide) ?_
    obtain ⟨hi1, h⟩ := h
    refine x_icmp_ge hx hb (tgt := 40) hi1 (by decide) dD_onlyWay_7 (by decide) (fun hc => ?_) (fun hc => ?_)
    · have h := h.1 hc
      refine x_iload_n hx hb dD_onlyWay_40 rfl 2 rfl ?_
      exact x_iret hx hb hr hlk hK dD_onlyWay_41 h
    · have h := h.2 hc
      refine x_aload_n hx hb dD_onlyWay_10 rfl 0 rfl ?_
      refine x_get hx hb hts (jnD _) hown hK _ (woD ad cA f a) rfl 7 (by decide) (hts _ (List.mem_cons_of_mem _ kfD_24)) (fun _ h9 => h9) (v := .ref (ad 2 8)) (by rfl) dD_onlyWay_11 ?_
      refine x_iload_n hx hb dD_onlyWay_14 rfl 1 rfl ?_
      refine x_bipush hx hb dD_onlyWay_15 (by decide) ?_
      refine x_imul hx hb dD_onlyWay_17 ?_
      refine x_iload_n hx hb dD_onlyWay_18 rfl 3 rfl ?_
      refine x_iadd hx hb dD_onlyWay_19 ?_
      obtain ⟨hj2, h⟩ := h
      refine x_iald hx hb hK _ _ (wa7D ad cA f a) (wt7D cA) hj2.1 hj2.2 (by decide) dD_onlyWay_20 ?_
      refine x_iconst hx hb dD_onlyWay_21 ?_
      obtain ⟨hi3, h⟩ := h
      refine x_icmp_eq hx hb (tgt := 34) hi3 (by decide) dD_onlyWay_22 (by decide) (fun hc => ?_) (fun hc => ?_)
      · have h := h.1 hc
        exact tb_D_onlyWay_34 hO ih x1 x2 x3 f a h
      · have h := h.2 hc
        refine x_iload_n hx hb dD_onlyWay_25 rfl 2 rfl ?_
        refine x_iconst hx hb dD_onlyWay_26 ?_
        obtain ⟨hi4, h⟩ := h
        refine x_icmp_eq hx hb (tgt := 32) hi4 (by decide) dD_onlyWay_27 (by decide) (fun hc => ?_) (fun hc => ?_)
        · have h := h.1 hc
          refine x_iload_n hx hb dD_onlyWay_32 rfl 3 rfl ?_
          refine x_istore_n hx hb dD_onlyWay_33 rfl (by decide) (lv' := [(2, .int (iI x3)), (0, .ref (ad 2 0)), (1, .int (iI x1)), (3, .int (iI x3))]) rfl ?_
          refine x_sub [1, 2, 0, 3] rfl ?_
          exact tb_D_onlyWay_34 hO ih x1 x3 x3 f a h
        · have h := h.2 hc
          refine x_iconst hx hb dD_onlyWay_30 ?_
          exact x_iret hx hb hr hlk hK dD_onlyWay_31 h
def wp_D_onlyWay (post : Int → fS → aS → Prop) (x1 : Int) (f : fS) (a : aS) : Prop := ∃ j, wb_D_onlyWay_4 post j x1 (-1) 0 f a
set_option maxHeartbeats 4000000 in
set_option maxRecDepth 100000 in
theorem m_D_onlyWay {l : Launch} {D : va_G} {ad : Nat → Nat → Nat} {cA : Nat → Nat → ClassId} {post : Int → fS → aS → Prop} {x1 : Int} {f : fS} {a : aS} (h : wp_D_onlyWay post x1 f a) : xCI l yD_onlyWay (Cond.code yD_onlyWay cD_onlyWay 4 (some .int) :: xG) rmD_onlyWay D vwCl (taC cA) (CW ad cA f a) [.ref (ad 2 0), .int (iI x1)] (CW ad cA) post := by
  refine x_metI (cc := cD_onlyWay) (nL := 4) (by decide) rfl (Nat.le_of_ble_eq_true rfl) ?_
  intro p e s m below meth c A hO
  have hO9 := hO
  obtain ⟨hx, hb, hml, hown, hts, hr, hlk, hK, hN, hA⟩ := hO9
  unfold wp_D_onlyWay at h
  show gD_onlyWay p l e s m _ below meth c A D ad cA post f a [(0, .ref (ad 2 0)), (1, .int (iI x1))] 0 []
  refine x_iconst hx hb dD_onlyWay_0 ?_
  refine x_istore_n hx hb dD_onlyWay_1 rfl (by decide) (lv' := [(2, .int (iI (-1))), (0, .ref (ad 2 0)), (1, .int (iI x1))]) rfl ?_
  refine x_iconst hx hb dD_onlyWay_2 ?_
  refine x_istore_n hx hb dD_onlyWay_3 rfl (by decide) (lv' := [(3, .int (iI 0)), (2, .int (iI (-1))), (0, .ref (ad 2 0)), (1, .int (iI x1))]) rfl ?_
  obtain ⟨j, h⟩ := h
  refine x_sub [2, 3, 1, 0] rfl ?_
  exact tb_D_onlyWay_4 hO j x1 (-1) 0 f a h
-- D_trimFrom
abbrev rmD_trimFrom : Room := { frames := 1, cells := 0, slots := 0, locals := 23 }
abbrev gD_trimFrom (p : Program) (l : Launch) (e : Env) (s : State) (m : MethodId) (args : Array Value) (below : List Frame) (meth : Method) (c : Code) (A : Nat → Prop) (D : va_G) (ad : Nat → Nat → Nat) (cA : Nat → Nat → ClassId) (post : fS → aS → Prop) (f : fS) (a : aS) (lv : List (Nat × Value)) (pc : Nat) (st : List Value) : Prop := xV p l e rmD_trimFrom s m args below meth c s.heap A 0 0 (xQV below D vwCl (taC cA) (CW ad cA) post A args s) D vwCl 6 (CW ad cA f a) lv pc st
def wb_D_trimFrom_86 (post : fS → aS → Prop) (f : fS) (a : aS) : Prop := post f a
set_option maxHeartbeats 4000000 in
set_option maxRecDepth 100000 in
theorem tb_D_trimFrom_86 {p : Program} {l : Launch} {e : Env} {s : State} {m : MethodId} {args : Array Value} {below : List Frame} {meth : Method} {c : Code} {A : Nat → Prop} {D : va_G} {ad : Nat → Nat → Nat} {cA : Nat → Nat → ClassId} {post : fS → aS → Prop} (hO : xOk cD_trimFrom 6 RD (Cond.code yD_trimFrom cD_trimFrom 6 none :: xG) none p s m args meth c A D vwCl (taC cA)) : ∀ (f : fS) (a : aS), wb_D_trimFrom_86 post f a → gD_trimFrom p l e s m args below meth c A D ad cA post f a [] 86 [] := by
  have hO9 := hO
  obtain ⟨hx, hb, hml, hown, hts, hr, hlk, hK, hN, hA⟩ := hO9
  intro f a h
  unfold wb_D_trimFrom_86 at h
  exact x_vret hx hb hr hlk hK dD_trimFrom_86 h
def wb_D_trimFrom_4 (post : fS → aS → Prop) : Nat → Int → Int → fS → aS → Prop
  | 0, _, _, _, _ => False
  | n + 1, x2, x3, f, a => ir x3 ∧ (ir (f 2 0) ∧ (((f 2 0 ≤ x3) → (wb_D_trimFrom_86 post f a)) ∧ (¬ (f 2 0 ≤ x3) → (ir x2 ∧ (ir (f 2 1) ∧ (((x2 = f 2 1) → (wb_D_trimFrom_86 post f a)) ∧ (¬ (x2 = f 2 1) → (wp_D_onlyWay (fun z5 f6 a7 => ir z5 ∧ (((¬ z5 = -1) → ((0 ≤ (x2 * 6) + z5 ∧ (x2 * 6) + z5 < 384) ∧ (∀ t10 : Int, t10 = (a7 2 7) (Int.toNat ((x2 * 6) + z5)) → ((0 ≤ z5 ∧ z5 < 6) ∧ ((0 ≤ (t10 * 6) + (cx z5) ∧ (t10 * 6) + (cx z5) < 384) ∧ (wb_D_trimFrom_4 post n t10 (x3 + 1) f6 (setA (setA a7 2 7 (va_up (a7 2 7) (Int.toNat ((x2 * 6) + z5)) (-1))) 2 7 (va_up (va_up (a7 2 7) (Int.toNat ((x2 * 6) + z5)) (-1)) (Int.toNat ((t10 * 6) + (cx z5))) (-1))))))))) ∧ (¬ (¬ z5 = -1) → (post f6 a7)))) x2 f a))))))))
set_option maxHeartbeats 4000000 in
set_option maxRecDepth 100000 in
theorem tb_D_trimFrom_4 {p : Program} {l : Launch} {e : Env} {s : State} {m : MethodId} {args : Array Value} {below : List Frame} {meth : Method} {c : Code} {A : Nat → Prop} {D : va_G} {ad : Nat → Nat → Nat} {cA : Nat → Nat → ClassId} {post : fS → aS → Prop} (hO : xOk cD_trimFrom 6 RD (Cond.code yD_trimFrom cD_trimFrom 6 none :: xG) none p s m args meth c A D vwCl (taC cA)) : ∀ (n : Nat) (x2 : Int) (x3 : Int) (f : fS) (a : aS), wb_D_trimFrom_4 post n x2 x3 f a → gD_trimFrom p l e s m args below meth c A D ad cA post f a [(0, .ref (ad 2 0)), (2, .int (iI x2)), (3, .int (iI x3))] 4 [] := by
  have hO9 := hO
  obtain ⟨hx, hb, hml, hown, hts, hr, hlk, hK, hN, hA⟩ := hO9
  intro n
  induction n with
  | zero => intro x2 x3 f a h; exact False.elim h
  | succ n ih =>
    intro x2 x3 f a h
    rw [wb_D_trimFrom_4] at h
    refine x_iload_n hx hb dD_trimFrom_4 rfl 2 rfl ?_
    refine x_aload_n hx hb dD_trimFrom_5 rfl 0 rfl ?_
    refine x_get hx hb hts (jnD _) hown hK _ (woD ad cA f a) rfl 0 (by decide) (hts _ (List.mem_cons_of_mem _ kfD_39)) (fun _ h9 => h9) (v := .int (iI (f 2 0))) (by rfl) dD_trimFrom_6 ?_
    obtain ⟨hi1, h⟩ := h
    obtain ⟨hi2, h⟩ := h
    refine x_icmp_ge hx hb (tgt := 86) hi1 hi2 dD_trimFrom_9 (by decide) (fun hc => ?_) (fun hc => ?_)
    · have h := h.1 hc
      refine x_sub [] rfl ?_
      exact tb_D_trimFrom_86 hO f a h
    · have h := h.2 hc
      refine x_iload_n hx hb dD_trimFrom_12 rfl 1 rfl ?_
      refine x_aload_n hx hb dD_trimFrom_13 rfl 0 rfl ?_
      refine x_get hx hb hts (jnD _) hown hK _ (woD ad cA f a) rfl 1 (by decide) (hts _ (List.mem_cons_of_mem _ kfD_43)) (fun _ h9 => h9) (v := .int (iI (f 2 1))) (by rfl) dD_trimFrom_14 ?_
      obtain ⟨hi3, h⟩ := h
      obtain ⟨hi4, h⟩ := h
      refine x_icmp_eq hx hb (tgt := 86) hi3 hi4 dD_trimFrom_17 (by decide) (fun hc => ?_) (fun hc => ?_)
      · have h := h.1 hc
        refine x_sub [] rfl ?_
        exact tb_D_trimFrom_86 hO f a h
      · have h := h.2 hc
        refine x_aload_n hx hb dD_trimFrom_20 rfl 0 rfl ?_
        refine x_iload_n hx hb dD_trimFrom_21 rfl 1 rfl ?_
        refine x_cVi (n := 1) (st := []) (As := [.int (iI x2)]) ⟨hx, hb, hml, hown, hts⟩ hK hN (m_D_onlyWay h) (x_cwV hts rfl rfl kcD_onlyWay knD klD_95 kiD_onlyWay keD_onlyWay ⟨by decide, by decide, by decide +kernel⟩ ⟨by decide, by decide⟩) _ (woD ad cA f a) rfl hA rfl (Nat.le_of_ble_eq_true rfl) ⟨Nat.zero_le _, Nat.zero_le _⟩ rfl dD_trimFrom_22 (fun z5 f6 a7 h => ?_)
        refine x_istore hx hb dD_trimFrom_25 (by decide) (lv' := [(4, .int (iI z5)), (0, .ref (ad 2 0)), (2, .int (iI x2)), (3, .int (iI x3))]) rfl ?_
        refine x_iload hx hb dD_trimFrom_27 0 rfl ?_
        refine x_iconst hx hb dD_trimFrom_29 ?_
        obtain ⟨hi8, h⟩ := h
        refine x_icmp_ne hx hb (tgt := 34) hi8 (by decide) dD_trimFrom_30 (by decide) (fun hc => ?_) (fun hc => ?_)
        · have h := h.1 hc
          refine x_aload_n hx hb dD_trimFrom_34 rfl 1 rfl ?_
          refine x_get hx hb hts (jnD _) hown hK _ (woD ad cA f6 a7) rfl 7 (by decide) (hts _ (List.mem_cons_of_mem _ kfD_24)) (fun _ h9 => h9) (v := .ref (ad 2 8)) (by rfl) dD_trimFrom_35 ?_
          refine x_iload_n hx hb dD_trimFrom_38 rfl 2 rfl ?_
          refine x_bipush hx hb dD_trimFrom_39 (by decide) ?_
          refine x_imul hx hb dD_trimFrom_41 ?_
          refine x_iload hx hb dD_trimFrom_42 0 rfl ?_
          refine x_iadd hx hb dD_trimFrom_44 ?_
          obtain ⟨hj9, h⟩ := h
          refine x_iald hx hb hK _ _ (wa7D ad cA f6 a7) (wt7D cA) hj9.1 hj9.2 (by decide) dD_trimFrom_45 ?_
          refine x_topi (fun t10 et10 => ?_)
          have h := h t10 et10
          refine x_istore hx hb dD_trimFrom_46 (by decide) (lv' := [(5, .int (iI t10)), (4, .int (iI z5)), (0, .ref (ad 2 0)), (2, .int (iI x2)), (3, .int (iI x3))]) rfl ?_
          refine x_aload_n hx hb dD_trimFrom_48 rfl 2 rfl ?_
          refine x_get hx hb hts (jnD _) hown hK _ (woD ad cA f6 a7) rfl 7 (by decide) (hts _ (List.mem_cons_of_mem _ kfD_24)) (fun _ h9 => h9) (v := .ref (ad 2 8)) (by rfl) dD_trimFrom_49 ?_
          refine x_iload_n hx hb dD_trimFrom_52 rfl 3 rfl ?_
          refine x_bipush hx hb dD_trimFrom_53 (by decide) ?_
          refine x_imul hx hb dD_trimFrom_55 ?_
          refine x_iload hx hb dD_trimFrom_56 1 rfl ?_
          refine x_iadd hx hb dD_trimFrom_58 ?_
          refine x_iconst hx hb dD_trimFrom_59 ?_
          refine x_iast hx hb hK _ _ (wa7D ad cA f6 a7) (wt7D cA) hj9.1 hj9.2 (by decide) dD_trimFrom_60 (ws7D ad cA f6 a7 (va_up (a7 2 7) (Int.toNat ((x2 * 6) + z5)) (-1))) ?_
          refine x_aload_n hx hb dD_trimFrom_61 rfl 2 rfl ?_
          refine x_get hx hb hts (jnD _) hown hK _ (woD ad cA f6 (setA a7 2 7 (va_up (a7 2 7) (Int.toNat ((x2 * 6) + z5)) (-1)))) rfl 7 (by decide) (hts _ (List.mem_cons_of_mem _ kfD_24)) (fun _ h9 => h9) (v := .ref (ad 2 8)) (by rfl) dD_trimFrom_62 ?_
          refine x_iload hx hb dD_trimFrom_65 0 rfl ?_
          refine x_bipush hx hb dD_trimFrom_67 (by decide) ?_
          refine x_imul hx hb dD_trimFrom_69 ?_
          refine x_iload hx hb dD_trimFrom_70 1 rfl ?_
          refine x_iconst hx hb dD_trimFrom_72 ?_
          obtain ⟨hj11, h⟩ := h
          refine x_ixor1 hx hb hj11.1 hj11.2 dD_trimFrom_73 ?_
          refine x_iadd hx hb dD_trimFrom_74 ?_
          refine x_iconst hx hb dD_trimFrom_75 ?_
          obtain ⟨hj12, h⟩ := h
          refine x_iast hx hb hK _ _ (wa7D ad cA f6 (setA a7 2 7 (va_up (a7 2 7) (Int.toNat ((x2 * 6) + z5)) (-1)))) (wt7D cA) hj12.1 hj12.2 (by decide) dD_trimFrom_76 (Eq.trans (by rw [(setA_s a7 2 7 (va_up (a7 2 7) (Int.toNat ((x2 * 6) + z5)) (-1)))]) (ws7D ad cA f6 (setA a7 2 7 (va_up (a7 2 7) (Int.toNat ((x2 * 6) + z5)) (-1))) (va_up (va_up (a7 2 7) (Int.toNat ((x2 * 6) + z5)) (-1)) (Int.toNat ((t10 * 6) + (cx z5))) (-1)))) ?_
          refine x_iload hx hb dD_trimFrom_77 0 rfl ?_
          refine x_istore_n hx hb dD_trimFrom_79 rfl (by decide) (lv' := [(2, .int (iI t10)), (5, .int (iI t10)), (4, .int (iI z5)), (0, .ref (ad 2 0)), (3, .int (iI x3))]) rfl ?_
          refine x_iinc hx hb dD_trimFrom_80 4 rfl (by decide) (lv' := [(3, .int (iI (x3 + 1))), (2, .int (iI t10)), (5, .int (iI t10)), (4, .int (iI z5)), (0, .ref (ad 2 0))]) rfl ?_
          refine x_goto hx hb (tgt := 4) dD_trimFrom_83 (by decide) ?_
          refine x_sub [4, 1, 0] rfl ?_
          exact ih t10 (x3 + 1) f6 (setA (setA a7 2 7 (va_up (a7 2 7) (Int.toNat ((x2 * 6) + z5)) (-1))) 2 7 (va_up (va_up (a7 2 7) (Int.toNat ((x2 * 6) + z5)) (-1)) (Int.toNat ((t10 * 6) + (cx z5))) (-1))) h
        · have h := h.2 hc
          exact x_vret hx hb hr hlk hK dD_trimFrom_33 h
def wp_D_trimFrom (post : fS → aS → Prop) (x1 : Int) (f : fS) (a : aS) : Prop := ∃ j, wb_D_trimFrom_4 post j x1 0 f a
set_option maxHeartbeats 4000000 in
set_option maxRecDepth 100000 in
theorem m_D_trimFrom {l : Launch} {D : va_G} {ad : Nat → Nat → Nat} {cA : Nat → Nat → ClassId} {post : fS → aS → Prop} {x1 : Int} {f : fS} {a : aS} (h : wp_D_trimFrom post x1 f a) : xCV l yD_trimFrom (Cond.code yD_trimFrom cD_trimFrom 6 none :: xG) rmD_trimFrom D vwCl (taC cA) (CW ad cA f a) [.ref (ad 2 0), .int (iI x1)] (CW ad cA) post := by
  refine x_metV (cc := cD_trimFrom) (nL := 6) (by decide) rfl (Nat.le_of_ble_eq_true rfl) ?_
  intro p e s m below meth c A hO
  have hO9 := hO
  obtain ⟨hx, hb, hml, hown, hts, hr, hlk, hK, hN, hA⟩ := hO9
  unfold wp_D_trimFrom at h
  show gD_trimFrom p l e s m _ below meth c A D ad cA post f a [(0, .ref (ad 2 0)), (1, .int (iI x1))] 0 []
  refine x_iload_n hx hb dD_trimFrom_0 rfl 1 rfl ?_
  refine x_istore_n hx hb dD_trimFrom_1 rfl (by decide) (lv' := [(2, .int (iI x1)), (0, .ref (ad 2 0)), (1, .int (iI x1))]) rfl ?_
  refine x_iconst hx hb dD_trimFrom_2 ?_
  refine x_istore_n hx hb dD_trimFrom_3 rfl (by decide) (lv' := [(3, .int (iI 0)), (2, .int (iI x1)), (0, .ref (ad 2 0)), (1, .int (iI x1))]) rfl ?_
  obtain ⟨j, h⟩ := h
  refine x_sub [2, 1, 0] rfl ?_
  exact tb_D_trimFrom_4 hO j x1 0 f a h
-- D_trim
abbrev rmD_trim : Room := { frames := 2, cells := 0, slots := 0, locals := 48 }
abbrev gD_trim (p : Program) (l : Launch) (e : Env) (s : State) (m : MethodId) (args : Array Value) (below : List Frame) (meth : Method) (c : Code) (A : Nat → Prop) (D : va_G) (ad : Nat → Nat → Nat) (cA : Nat → Nat → ClassId) (post : fS → aS → Prop) (f : fS) (a : aS) (lv : List (Nat × Value)) (pc : Nat) (st : List Value) : Prop := xV p l e rmD_trim s m args below meth c s.heap A 0 0 (xQV below D vwCl (taC cA) (CW ad cA) post A args s) D vwCl 2 (CW ad cA f a) lv pc st
def wb_D_trim_2 (post : fS → aS → Prop) : Nat → Int → fS → aS → Prop
  | 0, _, _, _ => False
  | n + 1, x1, f, a => ir x1 ∧ (ir (f 2 0) ∧ (((f 2 0 ≤ x1) → (post f a)) ∧ (¬ (f 2 0 ≤ x1) → (wp_D_trimFrom (fun f4 a5 => wb_D_trim_2 post n (x1 + 1) f4 a5) x1 f a))))
set_option maxHeartbeats 4000000 in
set_option maxRecDepth 100000 in
theorem tb_D_trim_2 {p : Program} {l : Launch} {e : Env} {s : State} {m : MethodId} {args : Array Value} {below : List Frame} {meth : Method} {c : Code} {A : Nat → Prop} {D : va_G} {ad : Nat → Nat → Nat} {cA : Nat → Nat → ClassId} {post : fS → aS → Prop} (hO : xOk cD_trim 2 RD (Cond.code yD_trim cD_trim 2 none :: xG) none p s m args meth c A D vwCl (taC cA)) : ∀ (n : Nat) (x1 : Int) (f : fS) (a : aS), wb_D_trim_2 post n x1 f a → gD_trim p l e s m args below meth c A D ad cA post f a [(0, .ref (ad 2 0)), (1, .int (iI x1))] 2 [] := by
  have hO9 := hO
  obtain ⟨hx, hb, hml, hown, hts, hr, hlk, hK, hN, hA⟩ := hO9
  intro n
  induction n with
  | zero => intro x1 f a h; exact False.elim h
  | succ n ih =>
    intro x1 f a h
    rw [wb_D_trim_2] at h
    refine x_iload_n hx hb dD_trim_2 rfl 1 rfl ?_
    refine x_aload_n hx hb dD_trim_3 rfl 0 rfl ?_
    refine x_get hx hb hts (jnD _) hown hK _ (woD ad cA f a) rfl 0 (by decide) (hts _ (List.mem_cons_of_mem _ kfD_39)) (fun _ h9 => h9) (v := .int (iI (f 2 0))) (by rfl) dD_trim_4 ?_
    obtain ⟨hi1, h⟩ := h
    obtain ⟨hi2, h⟩ := h
    refine x_icmp_ge hx hb (tgt := 21) hi1 hi2 dD_trim_7 (by decide) (fun hc => ?_) (fun hc => ?_)
    · have h := h.1 hc
      exact x_vret hx hb hr hlk hK dD_trim_21 h
    · have h := h.2 hc
      refine x_aload_n hx hb dD_trim_10 rfl 0 rfl ?_
      refine x_iload_n hx hb dD_trim_11 rfl 1 rfl ?_
      refine x_cVv (n := 1) (st := []) (As := [.int (iI x1)]) ⟨hx, hb, hml, hown, hts⟩ hK hN (m_D_trimFrom h) (x_cwV hts rfl rfl kcD_trimFrom knD klD_91 kiD_trimFrom keD_trimFrom ⟨by decide, by decide, by decide +kernel⟩ ⟨by decide, by decide⟩) _ (woD ad cA f a) rfl hA rfl (Nat.le_of_ble_eq_true rfl) ⟨Nat.zero_le _, Nat.zero_le _⟩ rfl dD_trim_12 (fun f4 a5 h => ?_)
      refine x_iinc hx hb dD_trim_15 1 rfl (by decide) (lv' := [(1, .int (iI (x1 + 1))), (0, .ref (ad 2 0))]) rfl ?_
      refine x_goto hx hb (tgt := 2) dD_trim_18 (by decide) ?_
      refine x_sub [1, 0] rfl ?_
      exact ih (x1 + 1) f4 a5 h
def wp_D_trim (post : fS → aS → Prop) (f : fS) (a : aS) : Prop := ∃ j, wb_D_trim_2 post j 0 f a
set_option maxHeartbeats 4000000 in
set_option maxRecDepth 100000 in
theorem m_D_trim {l : Launch} {D : va_G} {ad : Nat → Nat → Nat} {cA : Nat → Nat → ClassId} {post : fS → aS → Prop} {f : fS} {a : aS} (h : wp_D_trim post  f a) : xCV l yD_trim (Cond.code yD_trim cD_trim 2 none :: xG) rmD_trim D vwCl (taC cA) (CW ad cA f a) [.ref (ad 2 0)] (CW ad cA) post := by
  refine x_metV (cc := cD_trim) (nL := 2) (by decide) rfl (Nat.le_of_ble_eq_true rfl) ?_
  intro p e s m below meth c A hO
  have hO9 := hO
  obtain ⟨hx, hb, hml, hown, hts, hr, hlk, hK, hN, hA⟩ := hO9
  unfold wp_D_trim at h
  show gD_trim p l e s m _ below meth c A D ad cA post f a [(0, .ref (ad 2 0))] 0 []
  refine x_iconst hx hb dD_trim_0 ?_
  refine x_istore_n hx hb dD_trim_1 rfl (by decide) (lv' := [(1, .int (iI 0)), (0, .ref (ad 2 0))]) rfl ?_
  obtain ⟨j, h⟩ := h
  refine x_sub [1, 0] rfl ?_
  exact tb_D_trim_2 hO j 0 f a h
-- X_conjugate
abbrev rmX_conjugate : Room := { frames := 3, cells := 0, slots := 0, locals := 73 }
abbrev gX_conjugate (p : Program) (l : Launch) (e : Env) (s : State) (m : MethodId) (args : Array Value) (below : List Frame) (meth : Method) (c : Code) (A : Nat → Prop) (D : va_G) (ad : Nat → Nat → Nat) (cA : Nat → Nat → ClassId) (post : Int → fS → aS → Prop) (f : fS) (a : aS) (lv : List (Nat × Value)) (pc : Nat) (st : List Value) : Prop := xV p l e rmX_conjugate s m args below meth c s.heap A 0 0 (xQI below D vwCl (taC cA) (CW ad cA) post A args s) D vwCl 3 (CW ad cA f a) lv pc st
def wb_X_conjugate_16 (post : Int → fS → aS → Prop) (f : fS) (a : aS) : Prop := post (-1) f a
set_option maxHeartbeats 4000000 in
set_option maxRecDepth 100000 in
theorem tb_X_conjugate_16 {p : Program} {l : Launch} {e : Env} {s : State} {m : MethodId} {args : Array Value} {below : List Frame} {meth : Method} {c : Code} {A : Nat → Prop} {D : va_G} {ad : Nat → Nat → Nat} {cA : Nat → Nat → ClassId} {post : Int → fS → aS → Prop} (hO : xOk cX_conjugate 3 RX (Cond.code yX_conjugate cX_conjugate 3 (some .int) :: xG) (some .int) p s m args meth c A D vwCl (taC cA)) : ∀ (f : fS) (a : aS), wb_X_conjugate_16 post f a → gX_conjugate p l e s m args below meth c A D ad cA post f a [] 16 [] := by
  have hO9 := hO
  obtain ⟨hx, hb, hml, hown, hts, hr, hlk, hK, hN, hA⟩ := hO9
  intro f a h
  unfold wb_X_conjugate_16 at h
  refine x_iconst hx hb dX_conjugate_16 ?_
  exact x_iret hx hb hr hlk hK dX_conjugate_17 h
def wp_X_conjugate (post : Int → fS → aS → Prop) (x1 : Int) (x2 : Int) (f : fS) (a : aS) : Prop := wp_X_isSubgroup (fun z1 f2 a3 => ir z1 ∧ (((z1 = 0) → (wb_X_conjugate_16 post f2 a3)) ∧ (¬ (z1 = 0) → (wp_X_isSubgroup (fun z5 f6 a7 => ir z5 ∧ (((¬ z5 = 0) → ((0 ≤ x2 ∧ x2 < 4) ∧ (ir ((f6 (3 + Int.toNat x2) 0) + (f6 1 1)) ∧ ((((f6 (3 + Int.toNat x2) 0) + (f6 1 1) ≤ 64) → (wp_D_begin (fun f13 a14 => wp_D_addCopy (fun f16 a17 => wp_D_moveBaseAlong (fun f19 a20 => wp_D_fold (fun f22 a23 => wp_D_trim (fun f25 a26 => (0 ≤ x1 ∧ x1 < 4) ∧ (wp_D_numberInto (fun z29 f30 a31 => post z29 f30 a31) (3 + Int.toNat x1) f25 a26))  f22 a23)  f19 a20)  f16 a17) (3 + Int.toNat x2) f13 a14)  f6 a7)) ∧ (¬ ((f6 (3 + Int.toNat x2) 0) + (f6 1 1) ≤ 64) → (post (-2) f6 a7)))))) ∧ (¬ (¬ z5 = 0) → (wb_X_conjugate_16 post f6 a7)))) x2 f2 a3)))) x1 f a
set_option maxHeartbeats 4000000 in
set_option maxRecDepth 100000 in
theorem m_X_conjugate {l : Launch} {D : va_G} {ad : Nat → Nat → Nat} {cA : Nat → Nat → ClassId} {post : Int → fS → aS → Prop} {x1 : Int} {x2 : Int} {f : fS} {a : aS} (h : wp_X_conjugate post x1 x2 f a) : xCI l yX_conjugate (Cond.code yX_conjugate cX_conjugate 3 (some .int) :: xG) rmX_conjugate D vwCl (taC cA) (CW ad cA f a) [.ref (ad 0 0), .int (iI x1), .int (iI x2)] (CW ad cA) post := by
  refine x_metI (cc := cX_conjugate) (nL := 3) (by decide) rfl (Nat.le_of_ble_eq_true rfl) ?_
  intro p e s m below meth c A hO
  have hO9 := hO
  obtain ⟨hx, hb, hml, hown, hts, hr, hlk, hK, hN, hA⟩ := hO9
  unfold wp_X_conjugate at h
  show gX_conjugate p l e s m _ below meth c A D ad cA post f a [(0, .ref (ad 0 0)), (1, .int (iI x1)), (2, .int (iI x2))] 0 []
  refine x_aload_n hx hb dX_conjugate_0 rfl 0 rfl ?_
  refine x_iload_n hx hb dX_conjugate_1 rfl 1 rfl ?_
  refine x_cVi (n := 1) (st := []) (As := [.int (iI x1)]) ⟨hx, hb, hml, hown, hts⟩ hK hN (m_X_isSubgroup h) (x_cwV hts rfl rfl kcX_isSubgroup knX klX_70 kiX_isSubgroup keX_isSubgroup ⟨by decide, by decide, by decide +kernel⟩ ⟨by decide, by decide⟩) _ (woX ad cA f a) rfl hA rfl (Nat.le_of_ble_eq_true rfl) ⟨Nat.zero_le _, Nat.zero_le _⟩ rfl dX_conjugate_2 (fun z1 f2 a3 h => ?_)
  obtain ⟨hi4, h⟩ := h
  refine x_if_eq hx hb (tgt := 16) hi4  dX_conjugate_5 (by decide) (fun hc => ?_) (fun hc => ?_)
  · have h := h.1 hc
    refine x_sub [] rfl ?_
    exact tb_X_conjugate_16 hO f2 a3 h
  · have h := h.2 hc
    refine x_aload_n hx hb dX_conjugate_8 rfl 0 rfl ?_
    refine x_iload_n hx hb dX_conjugate_9 rfl 2 rfl ?_
    refine x_cVi (n := 1) (st := []) (As := [.int (iI x2)]) ⟨hx, hb, hml, hown, hts⟩ hK hN (m_X_isSubgroup h) (x_cwV hts rfl rfl kcX_isSubgroup knX klX_70 kiX_isSubgroup keX_isSubgroup ⟨by decide, by decide, by decide +kernel⟩ ⟨by decide, by decide⟩) _ (woX ad cA f2 a3) rfl hA rfl (Nat.le_of_ble_eq_true rfl) ⟨Nat.zero_le _, Nat.zero_le _⟩ rfl dX_conjugate_10 (fun z5 f6 a7 h => ?_)
    obtain ⟨hi8, h⟩ := h
    refine x_if_ne hx hb (tgt := 18) hi8  dX_conjugate_13 (by decide) (fun hc => ?_) (fun hc => ?_)
    · have h := h.1 hc
      refine x_aload_n hx hb dX_conjugate_18 rfl 0 rfl ?_
      refine x_get hx hb hts (jnX _) hown hK _ (woX ad cA f6 a7) rfl 2 (by decide) (hts _ (List.mem_cons_of_mem _ kfX_31)) (fun _ h9 => h9) (v := .ref (ad 0 3)) (by rfl) dX_conjugate_19 ?_
      refine x_iload_n hx hb dX_conjugate_22 rfl 2 rfl ?_
      obtain ⟨hj9, h⟩ := h
      refine x_aald hx hb hK _ _ (wa2X ad cA f6 a7) (wt2X cA) hj9.1 hj9.2 (by decide) (if_pos (by omega)) dX_conjugate_23 ?_
      have hg10 : 3 ≤ 3 + Int.toNat x2 ∧ 3 + Int.toNat x2 < 7 := by omega
      refine x_getN hx hb hts (jnG _) hown hK _ (woG ad cA f6 a7 (3 + Int.toNat x2) hg10) rfl 0 (by decide) (va_Nw.use rfl (hN.1 _ nfX_73)) (fun _ h9 => h9) (v := .int (iI (f6 (3 + Int.toNat x2) 0))) (by rfl) dX_conjugate_24 ?_
      refine x_aload_n hx hb dX_conjugate_27 rfl 0 rfl ?_
      refine x_get hx hb hts (jnX _) hown hK _ (woX ad cA f6 a7) rfl 1 (by decide) (hts _ (List.mem_cons_of_mem _ kfX_25)) (fun _ h9 => h9) (v := .ref (ad 1 0)) (by rfl) dX_conjugate_28 ?_
      refine x_getN hx hb hts (jnW _) hown hK _ (woW ad cA f6 a7) rfl 1 (by decide) (va_Nw.use rfl (hN.1 _ nfX_51)) (fun _ h9 => h9) (v := .int (iI (f6 1 1))) (by rfl) dX_conjugate_31 ?_
      refine x_iadd hx hb dX_conjugate_34 ?_
      refine x_bipush hx hb dX_conjugate_35 (by decide) ?_
      obtain ⟨hi11, h⟩ := h
      refine x_icmp_le hx hb (tgt := 43) hi11 (by decide) dX_conjugate_37 (by decide) (fun hc => ?_) (fun hc => ?_)
      · have h := h.1 hc
        refine x_aload_n hx hb dX_conjugate_43 rfl 0 rfl ?_
        refine x_get hx hb hts (jnX _) hown hK _ (woX ad cA f6 a7) rfl 3 (by decide) (hts _ (List.mem_cons_of_mem _ kfX_39)) (fun _ h9 => h9) (v := .ref (ad 2 0)) (by rfl) dX_conjugate_44 ?_
        refine x_cVNv (n := 0) (st := []) (As := []) ⟨hx, hb, hml, hown, hts⟩ hK hN (m_D_begin h) (x_cwVN hts rfl rfl kcD_begin knD hN nlX_74 kiD_begin keD_begin ⟨by decide, by decide, by decide +kernel⟩ ⟨by decide, by decide⟩) _ (woD ad cA f6 a7) rfl hA rfl (Nat.le_of_ble_eq_true rfl) ⟨Nat.zero_le _, Nat.zero_le _⟩ rfl dX_conjugate_47 (fun f13 a14 h => ?_)
        refine x_aload_n hx hb dX_conjugate_50 rfl 0 rfl ?_
        refine x_get hx hb hts (jnX _) hown hK _ (woX ad cA f13 a14) rfl 3 (by decide) (hts _ (List.mem_cons_of_mem _ kfX_39)) (fun _ h9 => h9) (v := .ref (ad 2 0)) (by rfl) dX_conjugate_51 ?_
        refine x_aload_n hx hb dX_conjugate_54 rfl 0 rfl ?_
        refine x_get hx hb hts (jnX _) hown hK _ (woX ad cA f13 a14) rfl 2 (by decide) (hts _ (List.mem_cons_of_mem _ kfX_31)) (fun _ h9 => h9) (v := .ref (ad 0 3)) (by rfl) dX_conjugate_55 ?_
        refine x_iload_n hx hb dX_conjugate_58 rfl 2 rfl ?_
        refine x_aald hx hb hK _ _ (wa2X ad cA f13 a14) (wt2X cA) hj9.1 hj9.2 (by decide) (if_pos (by omega)) dX_conjugate_59 ?_
        refine x_cVNv (n := 1) (st := []) (As := [.ref (ad (3 + Int.toNat x2) 0)]) ⟨hx, hb, hml, hown, hts⟩ hK hN (m_D_addCopy h) (x_cwVN hts rfl rfl kcD_addCopy knD hN nlX_77 kiD_addCopy keD_addCopy ⟨by decide, by decide, by decide +kernel⟩ ⟨by decide, by decide⟩) _ (woD ad cA f13 a14) rfl hA rfl (Nat.le_of_ble_eq_true rfl) ⟨Nat.zero_le _, Nat.zero_le _⟩ rfl dX_conjugate_60 (fun f16 a17 h => ?_)
        refine x_aload_n hx hb dX_conjugate_63 rfl 0 rfl ?_
        refine x_get hx hb hts (jnX _) hown hK _ (woX ad cA f16 a17) rfl 3 (by decide) (hts _ (List.mem_cons_of_mem _ kfX_39)) (fun _ h9 => h9) (v := .ref (ad 2 0)) (by rfl) dX_conjugate_64 ?_
        refine x_aload_n hx hb dX_conjugate_67 rfl 0 rfl ?_
        refine x_get hx hb hts (jnX _) hown hK _ (woX ad cA f16 a17) rfl 1 (by decide) (hts _ (List.mem_cons_of_mem _ kfX_25)) (fun _ h9 => h9) (v := .ref (ad 1 0)) (by rfl) dX_conjugate_68 ?_
        refine x_cVNv (n := 1) (st := []) (As := [.ref (ad 1 0)]) ⟨hx, hb, hml, hown, hts⟩ hK hN (m_D_moveBaseAlong h) (x_cwVN hts rfl rfl kcD_moveBaseAlong knD hN nlX_95 kiD_moveBaseAlong keD_moveBaseAlong ⟨by decide, by decide, by decide +kernel⟩ ⟨by decide, by decide⟩) _ (woD ad cA f16 a17) rfl hA rfl (Nat.le_of_ble_eq_true rfl) ⟨Nat.zero_le _, Nat.zero_le _⟩ rfl dX_conjugate_71 (fun f19 a20 h => ?_)
        refine x_aload_n hx hb dX_conjugate_74 rfl 0 rfl ?_
        refine x_get hx hb hts (jnX _) hown hK _ (woX ad cA f19 a20) rfl 3 (by decide) (hts _ (List.mem_cons_of_mem _ kfX_39)) (fun _ h9 => h9) (v := .ref (ad 2 0)) (by rfl) dX_conjugate_75 ?_
        refine x_cVNv (n := 0) (st := []) (As := []) ⟨hx, hb, hml, hown, hts⟩ hK hN (m_D_fold h) (x_cwVN hts rfl rfl kcD_fold knD hN nlX_85 kiD_fold keD_fold ⟨by decide, by decide, by decide +kernel⟩ ⟨by decide, by decide⟩) _ (woD ad cA f19 a20) rfl hA rfl (Nat.le_of_ble_eq_true rfl) ⟨Nat.zero_le _, Nat.zero_le _⟩ rfl dX_conjugate_78 (fun f22 a23 h => ?_)
        refine x_aload_n hx hb dX_conjugate_81 rfl 0 rfl ?_
        refine x_get hx hb hts (jnX _) hown hK _ (woX ad cA f22 a23) rfl 3 (by decide) (hts _ (List.mem_cons_of_mem _ kfX_39)) (fun _ h9 => h9) (v := .ref (ad 2 0)) (by rfl) dX_conjugate_82 ?_
        refine x_cVNv (n := 0) (st := []) (As := []) ⟨hx, hb, hml, hown, hts⟩ hK hN (m_D_trim h) (x_cwVN hts rfl rfl kcD_trim knD hN nlX_98 kiD_trim keD_trim ⟨by decide, by decide, by decide +kernel⟩ ⟨by decide, by decide⟩) _ (woD ad cA f22 a23) rfl hA rfl (Nat.le_of_ble_eq_true rfl) ⟨Nat.zero_le _, Nat.zero_le _⟩ rfl dX_conjugate_85 (fun f25 a26 h => ?_)
        refine x_aload_n hx hb dX_conjugate_88 rfl 0 rfl ?_
        refine x_get hx hb hts (jnX _) hown hK _ (woX ad cA f25 a26) rfl 3 (by decide) (hts _ (List.mem_cons_of_mem _ kfX_39)) (fun _ h9 => h9) (v := .ref (ad 2 0)) (by rfl) dX_conjugate_89 ?_
        refine x_aload_n hx hb dX_conjugate_92 rfl 0 rfl ?_
        refine x_get hx hb hts (jnX _) hown hK _ (woX ad cA f25 a26) rfl 2 (by decide) (hts _ (List.mem_cons_of_mem _ kfX_31)) (fun _ h9 => h9) (v := .ref (ad 0 3)) (by rfl) dX_conjugate_93 ?_
        refine x_iload_n hx hb dX_conjugate_96 rfl 1 rfl ?_
        obtain ⟨hj27, h⟩ := h
        refine x_aald hx hb hK _ _ (wa2X ad cA f25 a26) (wt2X cA) hj27.1 hj27.2 (by decide) (if_pos (by omega)) dX_conjugate_97 ?_
        have hg28 : 3 ≤ 3 + Int.toNat x1 ∧ 3 + Int.toNat x1 < 7 := by omega
        refine x_cVNi (n := 1) (st := []) (As := [.ref (ad (3 + Int.toNat x1) 0)]) ⟨hx, hb, hml, hown, hts⟩ hK hN (m_D_numberInto h) (x_cwVN hts rfl rfl kcD_numberInto knD hN nlX_88 kiD_numberInto keD_numberInto ⟨by decide, by decide, by decide +kernel⟩ ⟨by decide, by decide⟩) _ (woD ad cA f25 a26) rfl hA rfl (Nat.le_of_ble_eq_true rfl) ⟨Nat.zero_le _, Nat.zero_le _⟩ rfl dX_conjugate_98 (fun z29 f30 a31 h => ?_)
        exact x_iret hx hb hr hlk hK dX_conjugate_101 h
      · have h := h.2 hc
        refine x_bipush hx hb dX_conjugate_40 (by decide) ?_
        exact x_iret hx hb hr hlk hK dX_conjugate_42 h
    · have h := h.2 hc
      refine x_sub [] rfl ?_
      exact tb_X_conjugate_16 hO f6 a7 h
-- D_findOrAddPair
abbrev rmD_findOrAddPair : Room := { frames := 0, cells := 0, slots := 0, locals := 0 }
abbrev gD_findOrAddPair (p : Program) (l : Launch) (e : Env) (s : State) (m : MethodId) (args : Array Value) (below : List Frame) (meth : Method) (c : Code) (A : Nat → Prop) (D : va_G) (ad : Nat → Nat → Nat) (cA : Nat → Nat → ClassId) (post : Int → fS → aS → Prop) (f : fS) (a : aS) (lv : List (Nat × Value)) (pc : Nat) (st : List Value) : Prop := xV p l e rmD_findOrAddPair s m args below meth c s.heap A 0 0 (xQI below D vwCl (taC cA) (CW ad cA) post A args s) D vwCl 4 (CW ad cA f a) lv pc st
def wb_D_findOrAddPair_32 (post : Int → fS → aS → Prop) (k2 : Int → Int → Int → fS → aS → Prop) (x1 : Int) (x2 : Int) (x3 : Int) (f : fS) (a : aS) : Prop := k2 x1 x2 (x3 + 1) f a
set_option maxHeartbeats 4000000 in
set_option maxRecDepth 100000 in
theorem tb_D_findOrAddPair_32 {p : Program} {l : Launch} {e : Env} {s : State} {m : MethodId} {args : Array Value} {below : List Frame} {meth : Method} {c : Code} {A : Nat → Prop} {D : va_G} {ad : Nat → Nat → Nat} {cA : Nat → Nat → ClassId} {post : Int → fS → aS → Prop} {k2 : Int → Int → Int → fS → aS → Prop} (hO : xOk cD_findOrAddPair 4 RD (Cond.code yD_findOrAddPair cD_findOrAddPair 4 (some .int) :: xG) (some .int) p s m args meth c A D vwCl (taC cA)) (hk2 : ∀ (x1 : Int) (x2 : Int) (x3 : Int) (f : fS) (a : aS), k2 x1 x2 x3 f a → gD_findOrAddPair p l e s m args below meth c A D ad cA post f a [(0, .ref (ad 2 0)), (1, .int (iI x1)), (2, .int (iI x2)), (3, .int (iI x3))] 2 []) : ∀ (x1 : Int) (x2 : Int) (x3 : Int) (f : fS) (a : aS), wb_D_findOrAddPair_32 post k2 x1 x2 x3 f a → gD_findOrAddPair p l e s m args below meth c A D ad cA post f a [(0, .ref (ad 2 0)), (1, .int (iI x1)), (2, .int (iI x2)), (3, .int (iI x3))] 32 [] := by
  have hO9 := hO
  obtain ⟨hx, hb, hml, hown, hts, hr, hlk, hK, hN, hA⟩ := hO9
  intro x1 x2 x3 f a h
  unfold wb_D_findOrAddPair_32 at h
  refine x_iinc hx hb dD_findOrAddPair_32 3 rfl (by decide) (lv' := [(3, .int (iI (x3 + 1))), (0, .ref (ad 2 0)), (1, .int (iI x1)), (2, .int (iI x2))]) rfl ?_
  refine x_goto hx hb (tgt := 2) dD_findOrAddPair_35 (by decide) ?_
  refine x_sub [1, 2, 3, 0] rfl ?_
  exact hk2 x1 x2 (x3 + 1) f a h
def wb_D_findOrAddPair_2 (post : Int → fS → aS → Prop) : Nat → Int → Int → Int → fS → aS → Prop
  | 0, _, _, _, _, _ => False
  | n + 1, x1, x2, x3, f, a => ir x3 ∧ (ir (f 2 0) ∧ (((f 2 0 ≤ x3) → (((f 2 0 < 64) → ((0 ≤ f 2 0 ∧ f 2 0 < 64) ∧ (post (((f 2 0) + 1) - 1) (setF f 2 0 ((f 2 0) + 1)) (setA (setA a 2 8 (va_up (a 2 8) (Int.toNat (f 2 0)) x1)) 2 9 (va_up (a 2 9) (Int.toNat (f 2 0)) x2))))) ∧ (¬ (f 2 0 < 64) → (post (-1) f a)))) ∧ (¬ (f 2 0 ≤ x3) → ((0 ≤ x3 ∧ x3 < 64) ∧ (ir (a 2 8 (Int.toNat x3)) ∧ (ir x1 ∧ (((¬ a 2 8 (Int.toNat x3) = x1) → (wb_D_findOrAddPair_32 post (wb_D_findOrAddPair_2 post n) x1 x2 x3 f a)) ∧ (¬ (¬ a 2 8 (Int.toNat x3) = x1) → (ir (a 2 9 (Int.toNat x3)) ∧ (ir x2 ∧ (((¬ a 2 9 (Int.toNat x3) = x2) → (wb_D_findOrAddPair_32 post (wb_D_findOrAddPair_2 post n) x1 x2 x3 f a)) ∧ (¬ (¬ a 2 9 (Int.toNat x3) = x2) → (post x3 f a)))))))))))))
set_option maxHeartbeats 4000000 in
set_option maxRecDepth 100000 in
theorem tb_D_findOrAddPair_2 {p : Program} {l : Launch} {e : Env} {s : State} {m : MethodId} {args : Array Value} {below : List Frame} {meth : Method} {c : Code} {A : Nat → Prop} {D : va_G} {ad : Nat → Nat → Nat} {cA : Nat → Nat → ClassId} {post : Int → fS → aS → Prop} (hO : xOk cD_findOrAddPair 4 RD (Cond.code yD_findOrAddPair cD_findOrAddPair 4 (some .int) :: xG) (some .int) p s m args meth c A D vwCl (taC cA)) : ∀ (n : Nat) (x1 : Int) (x2 : Int) (x3 : Int) (f : fS) (a : aS), wb_D_findOrAddPair_2 post n x1 x2 x3 f a → gD_findOrAddPair p l e s m args below meth c A D ad cA post f a [(0, .ref (ad 2 0)), (1, .int (iI x1)), (2, .int (iI x2)), (3, .int (iI x3))] 2 [] := by
  have hO9 := hO
  obtain ⟨hx, hb, hml, hown, hts, hr, hlk, hK, hN, hA⟩ := hO9
  intro n
  induction n with
  | zero => intro x1 x2 x3 f a h; exact False.elim h
  | succ n ih =>
    intro x1 x2 x3 f a h
    rw [wb_D_findOrAddPair_2] at h
    refine x_iload_n hx hb dD_findOrAddPair_2 rfl 3 rfl ?_
    refine x_aload_n hx hb dD_findOrAddPair_3 rfl 0 rfl ?_
    refine x_get hx hb hts (jnD _) hown hK _ (woD ad cA f a) rfl 0 (by decide) (hts _ (List.mem_cons_of_mem _ kfD_39)) (fun _ h9 => h9) (v := .int (iI (f 2 0))) (by rfl) dD_findOrAddPair_4 ?_
    obtain ⟨hi1, h⟩ := h
    obtain ⟨hi2, h⟩ := h
    refine x_icmp_ge hx hb (tgt := 38) hi1 hi2 dD_findOrAddPair_7 (by decide) (fun hc => ?_) (fun hc => ?_)
    · have h := h.1 hc
      refine x_aload_n hx hb dD_findOrAddPair_38 rfl 0 rfl ?_
      refine x_get hx hb hts (jnD _) hown hK _ (woD ad cA f a) rfl 0 (by decide) (hts _ (List.mem_cons_of_mem _ kfD_39)) (fun _ h9 => h9) (v := .int (iI (f 2 0))) (by rfl) dD_findOrAddPair_39 ?_
      refine x_bipush hx hb dD_findOrAddPair_42 (by decide) ?_
      refine x_icmp_lt hx hb (tgt := 49) hi2 (by decide) dD_findOrAddPair_44 (by decide) (fun hc => ?_) (fun hc => ?_)
      · have h := h.1 hc
        refine x_aload_n hx hb dD_findOrAddPair_49 rfl 0 rfl ?_
        refine x_get hx hb hts (jnD _) hown hK _ (woD ad cA f a) rfl 8 (by decide) (hts _ (List.mem_cons_of_mem _ kfD_27)) (fun _ h9 => h9) (v := .ref (ad 2 9)) (by rfl) dD_findOrAddPair_50 ?_
        refine x_aload_n hx hb dD_findOrAddPair_53 rfl 0 rfl ?_
        refine x_get hx hb hts (jnD _) hown hK _ (woD ad cA f a) rfl 0 (by decide) (hts _ (List.mem_cons_of_mem _ kfD_39)) (fun _ h9 => h9) (v := .int (iI (f 2 0))) (by rfl) dD_findOrAddPair_54 ?_
        refine x_iload_n hx hb dD_findOrAddPair_57 rfl 1 rfl ?_
        obtain ⟨hj3, h⟩ := h
        refine x_iast hx hb hK _ _ (wa8D ad cA f a) (wt8D cA) hj3.1 hj3.2 (by decide) dD_findOrAddPair_58 (ws8D ad cA f a (va_up (a 2 8) (Int.toNat (f 2 0)) x1)) ?_
        refine x_aload_n hx hb dD_findOrAddPair_59 rfl 0 rfl ?_
        refine x_get hx hb hts (jnD _) hown hK _ (woD ad cA f (setA a 2 8 (va_up (a 2 8) (Int.toNat (f 2 0)) x1))) rfl 9 (by decide) (hts _ (List.mem_cons_of_mem _ kfD_30)) (fun _ h9 => h9) (v := .ref (ad 2 10)) (by rfl) dD_findOrAddPair_60 ?_
        refine x_aload_n hx hb dD_findOrAddPair_63 rfl 0 rfl ?_
        refine x_get hx hb hts (jnD _) hown hK _ (woD ad cA f (setA a 2 8 (va_up (a 2 8) (Int.toNat (f 2 0)) x1))) rfl 0 (by decide) (hts _ (List.mem_cons_of_mem _ kfD_39)) (fun _ h9 => h9) (v := .int (iI (f 2 0))) (by rfl) dD_findOrAddPair_64 ?_
        refine x_iload_n hx hb dD_findOrAddPair_67 rfl 2 rfl ?_
        refine x_iast hx hb hK _ _ (wa9D ad cA f (setA a 2 8 (va_up (a 2 8) (Int.toNat (f 2 0)) x1))) (wt9D cA) hj3.1 hj3.2 (by decide) dD_findOrAddPair_68 (Eq.trans (by rw [(setA_k a (o := 2) (k := 8) (o' := 2) (k' := 9) (va_up (a 2 8) (Int.toNat (f 2 0)) x1) (by decide))]) (ws9D ad cA f (setA a 2 8 (va_up (a 2 8) (Int.toNat (f 2 0)) x1)) (va_up (a 2 9) (Int.toNat (f 2 0)) x2))) ?_
        refine x_aload_n hx hb dD_findOrAddPair_69 rfl 0 rfl ?_
        refine x_dup hx hb rfl dD_findOrAddPair_70 ?_
        refine x_get hx hb hts (jnD _) hown hK _ (woD ad cA f (setA (setA a 2 8 (va_up (a 2 8) (Int.toNat (f 2 0)) x1)) 2 9 (va_up (a 2 9) (Int.toNat (f 2 0)) x2))) rfl 0 (by decide) (hts _ (List.mem_cons_of_mem _ kfD_39)) (fun _ h9 => h9) (v := .int (iI (f 2 0))) (by rfl) dD_findOrAddPair_71 ?_
        refine x_iconst hx hb dD_findOrAddPair_74 ?_
        refine x_iadd hx hb dD_findOrAddPair_75 ?_
        refine x_put hx hb hts (jnD _) tyD tkD nmD hown hK _ (woD ad cA f (setA (setA a 2 8 (va_up (a 2 8) (Int.toNat (f 2 0)) x1)) 2 9 (va_up (a 2 9) (Int.toNat (f 2 0)) x2))) rfl 0 (by decide) (hts _ (List.mem_cons_of_mem _ kfD_39)) (fun _ h9 => h9) rfl (by decide +kernel) (Nat.le_of_ble_eq_true rfl) dD_findOrAddPair_76 (wf0D ad cA f (setA (setA a 2 8 (va_up (a 2 8) (Int.toNat (f 2 0)) x1)) 2 9 (va_up (a 2 9) (Int.toNat (f 2 0)) x2)) ((f 2 0) + 1)) ?_
        refine x_aload_n hx hb dD_findOrAddPair_79 rfl 0 rfl ?_
        refine x_get hx hb hts (jnD _) hown hK _ (woD ad cA (setF f 2 0 ((f 2 0) + 1)) (setA (setA a 2 8 (va_up (a 2 8) (Int.toNat (f 2 0)) x1)) 2 9 (va_up (a 2 9) (Int.toNat (f 2 0)) x2))) rfl 0 (by decide) (hts _ (List.mem_cons_of_mem _ kfD_39)) (fun _ h9 => h9) (v := .int (iI ((setF f 2 0 ((f 2 0) + 1)) 2 0))) (by rfl) dD_findOrAddPair_80 ?_
        refine x_eqi (setF_s f 2 0 ((f 2 0) + 1)) ?_
        refine x_iconst hx hb dD_findOrAddPair_83 ?_
        refine x_isub hx hb dD_findOrAddPair_84 ?_
        exact x_iret hx hb hr hlk hK dD_findOrAddPair_85 h
      · have h := h.2 hc
        refine x_iconst hx hb dD_findOrAddPair_47 ?_
        exact x_iret hx hb hr hlk hK dD_findOrAddPair_48 h
    · have h := h.2 hc
      refine x_aload_n hx hb dD_findOrAddPair_10 rfl 0 rfl ?_
      refine x_get hx hb hts (jnD _) hown hK _ (woD ad cA f a) rfl 8 (by decide) (hts _ (List.mem_cons_of_mem _ kfD_27)) (fun _ h9 => h9) (v := .ref (ad 2 9)) (by rfl) dD_findOrAddPair_11 ?_
      refine x_iload_n hx hb dD_findOrAddPair_14 rfl 3 rfl ?_
      obtain ⟨hj4, h⟩ := h
      refine x_iald hx hb hK _ _ (wa8D ad cA f a) (wt8D cA) hj4.1 hj4.2 (by decide) dD_findOrAddPair_15 ?_
      refine x_iload_n hx hb dD_findOrAddPair_16 rfl 1 rfl ?_
      obtain ⟨hi5, h⟩ := h
      obtain ⟨hi6, h⟩ := h
      refine x_icmp_ne hx hb (tgt := 32) hi5 hi6 dD_findOrAddPair_17 (by decide) (fun hc => ?_) (fun hc => ?_)
      · have h := h.1 hc
        exact tb_D_findOrAddPair_32 hO ih x1 x2 x3 f a h
      · have h := h.2 hc
        refine x_aload_n hx hb dD_findOrAddPair_20 rfl 0 rfl ?_
        refine x_get hx hb hts (jnD _) hown hK _ (woD ad cA f a) rfl 9 (by decide) (hts _ (List.mem_cons_of_mem _ kfD_30)) (fun _ h9 => h9) (v := .ref (ad 2 10)) (by rfl) dD_findOrAddPair_21 ?_
        refine x_iload_n hx hb dD_findOrAddPair_24 rfl 3 rfl ?_
        refine x_iald hx hb hK _ _ (wa9D ad cA f a) (wt9D cA) hj4.1 hj4.2 (by decide) dD_findOrAddPair_25 ?_
        refine x_iload_n hx hb dD_findOrAddPair_26 rfl 2 rfl ?_
        obtain ⟨hi7, h⟩ := h
        obtain ⟨hi8, h⟩ := h
        refine x_icmp_ne hx hb (tgt := 32) hi7 hi8 dD_findOrAddPair_27 (by decide) (fun hc => ?_) (fun hc => ?_)
        · have h := h.1 hc
          exact tb_D_findOrAddPair_32 hO ih x1 x2 x3 f a h
        · have h := h.2 hc
          refine x_iload_n hx hb dD_findOrAddPair_30 rfl 3 rfl ?_
          exact x_iret hx hb hr hlk hK dD_findOrAddPair_31 h
def wp_D_findOrAddPair (post : Int → fS → aS → Prop) (x1 : Int) (x2 : Int) (f : fS) (a : aS) : Prop := ∃ j, wb_D_findOrAddPair_2 post j x1 x2 0 f a
set_option maxHeartbeats 4000000 in
set_option maxRecDepth 100000 in
theorem m_D_findOrAddPair {l : Launch} {D : va_G} {ad : Nat → Nat → Nat} {cA : Nat → Nat → ClassId} {post : Int → fS → aS → Prop} {x1 : Int} {x2 : Int} {f : fS} {a : aS} (h : wp_D_findOrAddPair post x1 x2 f a) : xCI l yD_findOrAddPair (Cond.code yD_findOrAddPair cD_findOrAddPair 4 (some .int) :: xG) rmD_findOrAddPair D vwCl (taC cA) (CW ad cA f a) [.ref (ad 2 0), .int (iI x1), .int (iI x2)] (CW ad cA) post := by
  refine x_metI (cc := cD_findOrAddPair) (nL := 4) (by decide) rfl (Nat.le_of_ble_eq_true rfl) ?_
  intro p e s m below meth c A hO
  have hO9 := hO
  obtain ⟨hx, hb, hml, hown, hts, hr, hlk, hK, hN, hA⟩ := hO9
  unfold wp_D_findOrAddPair at h
  show gD_findOrAddPair p l e s m _ below meth c A D ad cA post f a [(0, .ref (ad 2 0)), (1, .int (iI x1)), (2, .int (iI x2))] 0 []
  refine x_iconst hx hb dD_findOrAddPair_0 ?_
  refine x_istore_n hx hb dD_findOrAddPair_1 rfl (by decide) (lv' := [(3, .int (iI 0)), (0, .ref (ad 2 0)), (1, .int (iI x1)), (2, .int (iI x2))]) rfl ?_
  obtain ⟨j, h⟩ := h
  refine x_sub [1, 2, 3, 0] rfl ?_
  exact tb_D_findOrAddPair_2 hO j x1 x2 0 f a h
-- D_addPairs
abbrev rmD_addPairs : Room := { frames := 1, cells := 0, slots := 0, locals := 23 }
abbrev gD_addPairs (p : Program) (l : Launch) (e : Env) (s : State) (m : MethodId) (args : Array Value) (below : List Frame) (meth : Method) (c : Code) (A : Nat → Prop) (D : va_G) (ad : Nat → Nat → Nat) (cA : Nat → Nat → ClassId) (post : Int → fS → aS → Prop) (f : fS) (a : aS) (lv : List (Nat × Value)) (pc : Nat) (st : List Value) : Prop := xV p l e rmD_addPairs s m args below meth c s.heap A 0 0 (xQI below D vwCl (taC cA) (CW ad cA) post A args s) D vwCl 8 (CW ad cA f a) lv pc st
def wb_D_addPairs_127 (post : Int → fS → aS → Prop) (f : fS) (a : aS) : Prop := post 1 f a
set_option maxHeartbeats 4000000 in
set_option maxRecDepth 100000 in
theorem tb_D_addPairs_127 {p : Program} {l : Launch} {e : Env} {s : State} {m : MethodId} {args : Array Value} {below : List Frame} {meth : Method} {c : Code} {A : Nat → Prop} {D : va_G} {ad : Nat → Nat → Nat} {cA : Nat → Nat → ClassId} {post : Int → fS → aS → Prop} (hO : xOk cD_addPairs 8 RD (Cond.code yD_addPairs cD_addPairs 8 (some .boolean) :: xG) (some .boolean) p s m args meth c A D vwCl (taC cA)) : ∀ (f : fS) (a : aS), wb_D_addPairs_127 post f a → gD_addPairs p l e s m args below meth c A D ad cA post f a [] 127 [] := by
  have hO9 := hO
  obtain ⟨hx, hb, hml, hown, hts, hr, hlk, hK, hN, hA⟩ := hO9
  intro f a h
  unfold wb_D_addPairs_127 at h
  refine x_iconst hx hb dD_addPairs_127 ?_
  exact x_zret hx hb hr hlk hK dD_addPairs_128 (by decide) h
def wb_D_addPairs_115 (post : Int → fS → aS → Prop) (k33 : Nat → Nat → Int → Int → fS → aS → Prop) (o1 : Nat) (o2 : Nat) (x3 : Int) (x4 : Int) (f : fS) (a : aS) : Prop := k33 o1 o2 x3 (x4 + 1) f a
set_option maxHeartbeats 4000000 in
set_option maxRecDepth 100000 in
theorem tb_D_addPairs_115 {p : Program} {l : Launch} {e : Env} {s : State} {m : MethodId} {args : Array Value} {below : List Frame} {meth : Method} {c : Code} {A : Nat → Prop} {D : va_G} {ad : Nat → Nat → Nat} {cA : Nat → Nat → ClassId} {post : Int → fS → aS → Prop} {k33 : Nat → Nat → Int → Int → fS → aS → Prop} (hO : xOk cD_addPairs 8 RD (Cond.code yD_addPairs cD_addPairs 8 (some .boolean) :: xG) (some .boolean) p s m args meth c A D vwCl (taC cA)) (hk33 : ∀ (o1 : Nat) (o2 : Nat) (x3 : Int) (x4 : Int) (f : fS) (a : aS), k33 o1 o2 x3 x4 f a → gD_addPairs p l e s m args below meth c A D ad cA post f a [(0, .ref (ad 2 0)), (1, .ref (ad o1 0)), (2, .ref (ad o2 0)), (3, .int (iI x3)), (4, .int (iI x4))] 33 []) : ∀ (o1 : Nat) (o2 : Nat) (x3 : Int) (x4 : Int) (f : fS) (a : aS), wb_D_addPairs_115 post k33 o1 o2 x3 x4 f a → gD_addPairs p l e s m args below meth c A D ad cA post f a [(0, .ref (ad 2 0)), (1, .ref (ad o1 0)), (2, .ref (ad o2 0)), (3, .int (iI x3)), (4, .int (iI x4))] 115 [] := by
  have hO9 := hO
  obtain ⟨hx, hb, hml, hown, hts, hr, hlk, hK, hN, hA⟩ := hO9
  intro o1 o2 x3 x4 f a h
  unfold wb_D_addPairs_115 at h
  refine x_iinc hx hb dD_addPairs_115 4 rfl (by decide) (lv' := [(4, .int (iI (x4 + 1))), (0, .ref (ad 2 0)), (1, .ref (ad o1 0)), (2, .ref (ad o2 0)), (3, .int (iI x3))]) rfl ?_
  refine x_goto hx hb (tgt := 33) dD_addPairs_118 (by decide) ?_
  refine x_sub [1, 2, 3, 4, 0] rfl ?_
  exact hk33 o1 o2 x3 (x4 + 1) f a h
def wb_D_addPairs_33 (post : Int → fS → aS → Prop) (k16 : Nat → Nat → Int → fS → aS → Prop) : Nat → Nat → Nat → Int → Int → fS → aS → Prop
  | 0, _, _, _, _, _, _ => False
  | n + 1, o1, o2, x3, x4, f, a => ir x4 ∧ (((6 ≤ x4) → (k16 o1 o2 (x3 + 1) f a)) ∧ (¬ (6 ≤ x4) → ((0 ≤ x3 ∧ x3 < 64) ∧ ((3 ≤ o1 ∧ o1 < 7) ∧ (wp_G_way (fun z6 f7 a8 => (3 ≤ o2 ∧ o2 < 7) ∧ (wp_G_way (fun z10 f11 a12 => ir z6 ∧ (((z6 = -1) → (wb_D_addPairs_115 post (wb_D_addPairs_33 post k16 n) o1 o2 x3 x4 f11 a12)) ∧ (¬ (z6 = -1) → (ir z10 ∧ (((¬ z10 = -1) → (wp_D_findOrAddPair (fun z15 f16 a17 => ir z15 ∧ (((¬ z15 = -1) → ((0 ≤ (x3 * 6) + x4 ∧ (x3 * 6) + x4 < 384) ∧ (wb_D_addPairs_115 post (wb_D_addPairs_33 post k16 n) o1 o2 x3 x4 f16 (setA a17 2 7 (va_up (a17 2 7) (Int.toNat ((x3 * 6) + x4)) z15))))) ∧ (¬ (¬ z15 = -1) → (post 0 f16 a17)))) z6 z10 f11 a12)) ∧ (¬ (¬ z10 = -1) → (wb_D_addPairs_115 post (wb_D_addPairs_33 post k16 n) o1 o2 x3 x4 f11 a12))))))) o2 ((a8 2 9) (Int.toNat x3)) x4 f7 a8)) o1 (a 2 8 (Int.toNat x3)) x4 f a)))))
set_option maxHeartbeats 4000000 in
set_option maxRecDepth 100000 in
theorem tb_D_addPairs_33 {p : Program} {l : Launch} {e : Env} {s : State} {m : MethodId} {args : Array Value} {below : List Frame} {meth : Method} {c : Code} {A : Nat → Prop} {D : va_G} {ad : Nat → Nat → Nat} {cA : Nat → Nat → ClassId} {post : Int → fS → aS → Prop} {k16 : Nat → Nat → Int → fS → aS → Prop} (hO : xOk cD_addPairs 8 RD (Cond.code yD_addPairs cD_addPairs 8 (some .boolean) :: xG) (some .boolean) p s m args meth c A D vwCl (taC cA)) (hk16 : ∀ (o1 : Nat) (o2 : Nat) (x3 : Int) (f : fS) (a : aS), k16 o1 o2 x3 f a → gD_addPairs p l e s m args below meth c A D ad cA post f a [(0, .ref (ad 2 0)), (1, .ref (ad o1 0)), (2, .ref (ad o2 0)), (3, .int (iI x3))] 16 []) : ∀ (n : Nat) (o1 : Nat) (o2 : Nat) (x3 : Int) (x4 : Int) (f : fS) (a : aS), wb_D_addPairs_33 post k16 n o1 o2 x3 x4 f a → gD_addPairs p l e s m args below meth c A D ad cA post f a [(0, .ref (ad 2 0)), (1, .ref (ad o1 0)), (2, .ref (ad o2 0)), (3, .int (iI x3)), (4, .int (iI x4))] 33 [] := by
  have hO9 := hO
  obtain ⟨hx, hb, hml, hown, hts, hr, hlk, hK, hN, hA⟩ := hO9
  intro n
  induction n with
  | zero => intro o1 o2 x3 x4 f a h; exact False.elim h
  | succ n ih =>
    intro o1 o2 x3 x4 f a h
    rw [wb_D_addPairs_33] at h
    refine x_iload hx hb dD_addPairs_33 4 rfl ?_
    refine x_bipush hx hb dD_addPairs_35 (by decide) ?_
    obtain ⟨hi3, h⟩ := h
    refine x_icmp_ge hx hb (tgt := 121) hi3 (by decide) dD_addPairs_37 (by decide) (fun hc => ?_) (fun hc => ?_)
    · have h := h.1 hc
      refine x_iinc hx hb dD_addPairs_121 3 rfl (by decide) (lv' := [(3, .int (iI (x3 + 1))), (0, .ref (ad 2 0)), (1, .ref (ad o1 0)), (2, .ref (ad o2 0)), (4, .int (iI x4))]) rfl ?_
      refine x_goto hx hb (tgt := 16) dD_addPairs_124 (by decide) ?_
      refine x_sub [1, 2, 3, 0] rfl ?_
      exact hk16 o1 o2 (x3 + 1) f a h
    · have h := h.2 hc
      refine x_aload_n hx hb dD_addPairs_40 rfl 1 rfl ?_
      refine x_aload_n hx hb dD_addPairs_41 rfl 0 rfl ?_
      refine x_get hx hb hts (jnD _) hown hK _ (woD ad cA f a) rfl 8 (by decide) (hts _ (List.mem_cons_of_mem _ kfD_27)) (fun _ h9 => h9) (v := .ref (ad 2 9)) (by rfl) dD_addPairs_42 ?_
      refine x_iload_n hx hb dD_addPairs_45 rfl 3 rfl ?_
      obtain ⟨hj4, h⟩ := h
      refine x_iald hx hb hK _ _ (wa8D ad cA f a) (wt8D cA) hj4.1 hj4.2 (by decide) dD_addPairs_46 ?_
      refine x_iload hx hb dD_addPairs_47 4 rfl ?_
      obtain ⟨hg5, h⟩ := h
      refine x_cVNi (n := 2) (st := []) (As := [.int (iI (a 2 8 (Int.toNat x3))), .int (iI x4)]) ⟨hx, hb, hml, hown, hts⟩ hK hN (m_G_way h) (x_cwVN hts rfl rfl kcG_way knG hN nlD_58 kiG_way keG_way ⟨by decide, by decide, by decide +kernel⟩ ⟨by decide, by decide⟩) _ (woG ad cA f a o1 hg5) rfl hA rfl (Nat.le_of_ble_eq_true rfl) ⟨Nat.zero_le _, Nat.zero_le _⟩ rfl dD_addPairs_49 (fun z6 f7 a8 h => ?_)
      refine x_istore hx hb dD_addPairs_52 (by decide) (lv' := [(5, .int (iI z6)), (0, .ref (ad 2 0)), (1, .ref (ad o1 0)), (2, .ref (ad o2 0)), (3, .int (iI x3)), (4, .int (iI x4))]) rfl ?_
      refine x_aload_n hx hb dD_addPairs_54 rfl 3 rfl ?_
      refine x_aload_n hx hb dD_addPairs_55 rfl 1 rfl ?_
      refine x_get hx hb hts (jnD _) hown hK _ (woD ad cA f7 a8) rfl 9 (by decide) (hts _ (List.mem_cons_of_mem _ kfD_30)) (fun _ h9 => h9) (v := .ref (ad 2 10)) (by rfl) dD_addPairs_56 ?_
      refine x_iload_n hx hb dD_addPairs_59 rfl 4 rfl ?_
      refine x_iald hx hb hK _ _ (wa9D ad cA f7 a8) (wt9D cA) hj4.1 hj4.2 (by decide) dD_addPairs_60 ?_
      refine x_iload hx hb dD_addPairs_61 5 rfl ?_
      obtain ⟨hg9, h⟩ := h
      refine x_cVNi (n := 2) (st := []) (As := [.int (iI ((a8 2 9) (Int.toNat x3))), .int (iI x4)]) ⟨hx, hb, hml, hown, hts⟩ hK hN (m_G_way h) (x_cwVN hts rfl rfl kcG_way knG hN nlD_58 kiG_way keG_way ⟨by decide, by decide, by decide +kernel⟩ ⟨by decide, by decide⟩) _ (woG ad cA f7 a8 o2 hg9) rfl hA rfl (Nat.le_of_ble_eq_true rfl) ⟨Nat.zero_le _, Nat.zero_le _⟩ rfl dD_addPairs_63 (fun z10 f11 a12 h => ?_)
      refine x_istore hx hb dD_addPairs_66 (by decide) (lv' := [(6, .int (iI z10)), (5, .int (iI z6)), (0, .ref (ad 2 0)), (1, .ref (ad o1 0)), (2, .ref (ad o2 0)), (3, .int (iI x3)), (4, .int (iI x4))]) rfl ?_
      refine x_iload hx hb dD_addPairs_68 1 rfl ?_
      refine x_iconst hx hb dD_addPairs_70 ?_
      obtain ⟨hi13, h⟩ := h
      refine x_icmp_eq hx hb (tgt := 115) hi13 (by decide) dD_addPairs_71 (by decide) (fun hc => ?_) (fun hc => ?_)
      · have h := h.1 hc
        refine x_sub [2, 3, 4, 5, 6] rfl ?_
        exact tb_D_addPairs_115 hO ih o1 o2 x3 x4 f11 a12 h
      · have h := h.2 hc
        refine x_iload hx hb dD_addPairs_74 0 rfl ?_
        refine x_iconst hx hb dD_addPairs_76 ?_
        obtain ⟨hi14, h⟩ := h
        refine x_icmp_ne hx hb (tgt := 83) hi14 (by decide) dD_addPairs_77 (by decide) (fun hc => ?_) (fun hc => ?_)
        · have h := h.1 hc
          refine x_aload_n hx hb dD_addPairs_83 rfl 2 rfl ?_
          refine x_iload hx hb dD_addPairs_84 1 rfl ?_
          refine x_iload hx hb dD_addPairs_86 0 rfl ?_
          refine x_cVi (n := 2) (st := []) (As := [.int (iI z6), .int (iI z10)]) ⟨hx, hb, hml, hown, hts⟩ hK hN (m_D_findOrAddPair h) (x_cwV hts rfl rfl kcD_findOrAddPair knD klD_88 kiD_findOrAddPair keD_findOrAddPair ⟨by decide, by decide, by decide +kernel⟩ ⟨by decide, by decide⟩) _ (woD ad cA f11 a12) rfl hA rfl (Nat.le_of_ble_eq_true rfl) ⟨Nat.zero_le _, Nat.zero_le _⟩ rfl dD_addPairs_88 (fun z15 f16 a17 h => ?_)
          refine x_istore hx hb dD_addPairs_91 (by decide) (lv' := [(7, .int (iI z15)), (6, .int (iI z10)), (5, .int (iI z6)), (0, .ref (ad 2 0)), (1, .ref (ad o1 0)), (2, .ref (ad o2 0)), (3, .int (iI x3)), (4, .int (iI x4))]) rfl ?_
          refine x_iload hx hb dD_addPairs_93 0 rfl ?_
          refine x_iconst hx hb dD_addPairs_95 ?_
          obtain ⟨hi18, h⟩ := h
          refine x_icmp_ne hx hb (tgt := 101) hi18 (by decide) dD_addPairs_96 (by decide) (fun hc => ?_) (fun hc => ?_)
          · have h := h.1 hc
            refine x_aload_n hx hb dD_addPairs_101 rfl 3 rfl ?_
            refine x_get hx hb hts (jnD _) hown hK _ (woD ad cA f16 a17) rfl 7 (by decide) (hts _ (List.mem_cons_of_mem _ kfD_24)) (fun _ h9 => h9) (v := .ref (ad 2 8)) (by rfl) dD_addPairs_102 ?_
            refine x_iload_n hx hb dD_addPairs_105 rfl 6 rfl ?_
            refine x_bipush hx hb dD_addPairs_106 (by decide) ?_
            refine x_imul hx hb dD_addPairs_108 ?_
            refine x_iload hx hb dD_addPairs_109 7 rfl ?_
            refine x_iadd hx hb dD_addPairs_111 ?_
            refine x_iload hx hb dD_addPairs_112 0 rfl ?_
            obtain ⟨hj19, h⟩ := h
            refine x_iast hx hb hK _ _ (wa7D ad cA f16 a17) (wt7D cA) hj19.1 hj19.2 (by decide) dD_addPairs_114 (ws7D ad cA f16 a17 (va_up (a17 2 7) (Int.toNat ((x3 * 6) + x4)) z15)) ?_
            refine x_sub [3, 4, 5, 6, 7] rfl ?_
            exact tb_D_addPairs_115 hO ih o1 o2 x3 x4 f16 (setA a17 2 7 (va_up (a17 2 7) (Int.toNat ((x3 * 6) + x4)) z15)) h
          · have h := h.2 hc
            refine x_iconst hx hb dD_addPairs_99 ?_
            exact x_zret hx hb hr hlk hK dD_addPairs_100 (by decide) h
        · have h := h.2 hc
          refine x_goto hx hb (tgt := 115) dD_addPairs_80 (by decide) ?_
          refine x_sub [2, 3, 4, 5, 6] rfl ?_
          exact tb_D_addPairs_115 hO ih o1 o2 x3 x4 f11 a12 h
def wb_D_addPairs_16 (post : Int → fS → aS → Prop) : Nat → Nat → Nat → Int → fS → aS → Prop
  | 0, _, _, _, _, _ => False
  | n + 1, o1, o2, x3, f, a => ir x3 ∧ (((64 ≤ x3) → (wb_D_addPairs_127 post f a)) ∧ (¬ (64 ≤ x3) → (ir (f 2 0) ∧ (((f 2 0 ≤ x3) → (wb_D_addPairs_127 post f a)) ∧ (¬ (f 2 0 ≤ x3) → (∃ j, wb_D_addPairs_33 post (wb_D_addPairs_16 post n) j o1 o2 x3 0 f a))))))
set_option maxHeartbeats 4000000 in
set_option maxRecDepth 100000 in
theorem tb_D_addPairs_16 {p : Program} {l : Launch} {e : Env} {s : State} {m : MethodId} {args : Array Value} {below : List Frame} {meth : Method} {c : Code} {A : Nat → Prop} {D : va_G} {ad : Nat → Nat → Nat} {cA : Nat → Nat → ClassId} {post : Int → fS → aS → Prop} (hO : xOk cD_addPairs 8 RD (Cond.code yD_addPairs cD_addPairs 8 (some .boolean) :: xG) (some .boolean) p s m args meth c A D vwCl (taC cA)) : ∀ (n : Nat) (o1 : Nat) (o2 : Nat) (x3 : Int) (f : fS) (a : aS), wb_D_addPairs_16 post n o1 o2 x3 f a → gD_addPairs p l e s m args below meth c A D ad cA post f a [(0, .ref (ad 2 0)), (1, .ref (ad o1 0)), (2, .ref (ad o2 0)), (3, .int (iI x3))] 16 [] := by
  have hO9 := hO
  obtain ⟨hx, hb, hml, hown, hts, hr, hlk, hK, hN, hA⟩ := hO9
  intro n
  induction n with
  | zero => intro o1 o2 x3 f a h; exact False.elim h
  | succ n ih =>
    intro o1 o2 x3 f a h
    rw [wb_D_addPairs_16] at h
    refine x_iload_n hx hb dD_addPairs_16 rfl 3 rfl ?_
    refine x_bipush hx hb dD_addPairs_17 (by decide) ?_
    obtain ⟨hi1, h⟩ := h
    refine x_icmp_ge hx hb (tgt := 127) hi1 (by decide) dD_addPairs_19 (by decide) (fun hc => ?_) (fun hc => ?_)
    · have h := h.1 hc
      refine x_sub [] rfl ?_
      exact tb_D_addPairs_127 hO f a h
    · have h := h.2 hc
      refine x_iload_n hx hb dD_addPairs_22 rfl 3 rfl ?_
      refine x_aload_n hx hb dD_addPairs_23 rfl 0 rfl ?_
      refine x_get hx hb hts (jnD _) hown hK _ (woD ad cA f a) rfl 0 (by decide) (hts _ (List.mem_cons_of_mem _ kfD_39)) (fun _ h9 => h9) (v := .int (iI (f 2 0))) (by rfl) dD_addPairs_24 ?_
      obtain ⟨hi2, h⟩ := h
      refine x_icmp_ge hx hb (tgt := 127) hi1 hi2 dD_addPairs_27 (by decide) (fun hc => ?_) (fun hc => ?_)
      · have h := h.1 hc
        refine x_sub [] rfl ?_
        exact tb_D_addPairs_127 hO f a h
      · have h := h.2 hc
        refine x_iconst hx hb dD_addPairs_30 ?_
        refine x_istore hx hb dD_addPairs_31 (by decide) (lv' := [(4, .int (iI 0)), (0, .ref (ad 2 0)), (1, .ref (ad o1 0)), (2, .ref (ad o2 0)), (3, .int (iI x3))]) rfl ?_
        obtain ⟨j, h⟩ := h
        refine x_sub [1, 2, 3, 4, 0] rfl ?_
        exact tb_D_addPairs_33 hO ih j o1 o2 x3 0 f a h
def wp_D_addPairs (post : Int → fS → aS → Prop) (o1 : Nat) (o2 : Nat) (f : fS) (a : aS) : Prop := ∃ j, wb_D_addPairs_16 post j o1 o2 0 f (setA (setA a 2 8 (va_up (a 2 8) (Int.toNat 0) 0)) 2 9 (va_up (a 2 9) (Int.toNat 0) 0))
set_option maxHeartbeats 4000000 in
set_option maxRecDepth 100000 in
theorem m_D_addPairs {l : Launch} {D : va_G} {ad : Nat → Nat → Nat} {cA : Nat → Nat → ClassId} {post : Int → fS → aS → Prop} {o1 : Nat} {o2 : Nat} {f : fS} {a : aS} (h : wp_D_addPairs post o1 o2 f a) : xCI l yD_addPairs (Cond.code yD_addPairs cD_addPairs 8 (some .boolean) :: xG) rmD_addPairs D vwCl (taC cA) (CW ad cA f a) [.ref (ad 2 0), .ref (ad o1 0), .ref (ad o2 0)] (CW ad cA) post := by
  refine x_metI (cc := cD_addPairs) (nL := 8) (by decide) rfl (Nat.le_of_ble_eq_true rfl) ?_
  intro p e s m below meth c A hO
  have hO9 := hO
  obtain ⟨hx, hb, hml, hown, hts, hr, hlk, hK, hN, hA⟩ := hO9
  unfold wp_D_addPairs at h
  show gD_addPairs p l e s m _ below meth c A D ad cA post f a [(0, .ref (ad 2 0)), (1, .ref (ad o1 0)), (2, .ref (ad o2 0))] 0 []
  refine x_aload_n hx hb dD_addPairs_0 rfl 0 rfl ?_
  refine x_get hx hb hts (jnD _) hown hK _ (woD ad cA f a) rfl 8 (by decide) (hts _ (List.mem_cons_of_mem _ kfD_27)) (fun _ h9 => h9) (v := .ref (ad 2 9)) (by rfl) dD_addPairs_1 ?_
  refine x_iconst hx hb dD_addPairs_4 ?_
  refine x_iconst hx hb dD_addPairs_5 ?_
  refine x_iast hx hb hK _ _ (wa8D ad cA f a) (wt8D cA) (by decide) (by decide) (by decide) dD_addPairs_6 (ws8D ad cA f a (va_up (a 2 8) (Int.toNat 0) 0)) ?_
  refine x_aload_n hx hb dD_addPairs_7 rfl 0 rfl ?_
  refine x_get hx hb hts (jnD _) hown hK _ (woD ad cA f (setA a 2 8 (va_up (a 2 8) (Int.toNat 0) 0))) rfl 9 (by decide) (hts _ (List.mem_cons_of_mem _ kfD_30)) (fun _ h9 => h9) (v := .ref (ad 2 10)) (by rfl) dD_addPairs_8 ?_
  refine x_iconst hx hb dD_addPairs_11 ?_
  refine x_iconst hx hb dD_addPairs_12 ?_
  refine x_iast hx hb hK _ _ (wa9D ad cA f (setA a 2 8 (va_up (a 2 8) (Int.toNat 0) 0))) (wt9D cA) (by decide) (by decide) (by decide) dD_addPairs_13 (Eq.trans (by rw [(setA_k a (o := 2) (k := 8) (o' := 2) (k' := 9) (va_up (a 2 8) (Int.toNat 0) 0) (by decide))]) (ws9D ad cA f (setA a 2 8 (va_up (a 2 8) (Int.toNat 0) 0)) (va_up (a 2 9) (Int.toNat 0) 0))) ?_
  refine x_iconst hx hb dD_addPairs_14 ?_
  refine x_istore_n hx hb dD_addPairs_15 rfl (by decide) (lv' := [(3, .int (iI 0)), (0, .ref (ad 2 0)), (1, .ref (ad o1 0)), (2, .ref (ad o2 0))]) rfl ?_
  obtain ⟨j, h⟩ := h
  refine x_sub [1, 2, 3, 0] rfl ?_
  exact tb_D_addPairs_16 hO j o1 o2 0 f (setA (setA a 2 8 (va_up (a 2 8) (Int.toNat 0) 0)) 2 9 (va_up (a 2 9) (Int.toNat 0) 0)) h
-- X_meet
abbrev rmX_meet : Room := { frames := 3, cells := 0, slots := 0, locals := 69 }
abbrev gX_meet (p : Program) (l : Launch) (e : Env) (s : State) (m : MethodId) (args : Array Value) (below : List Frame) (meth : Method) (c : Code) (A : Nat → Prop) (D : va_G) (ad : Nat → Nat → Nat) (cA : Nat → Nat → ClassId) (post : Int → fS → aS → Prop) (f : fS) (a : aS) (lv : List (Nat × Value)) (pc : Nat) (st : List Value) : Prop := xV p l e rmX_meet s m args below meth c s.heap A 0 0 (xQI below D vwCl (taC cA) (CW ad cA) post A args s) D vwCl 4 (CW ad cA f a) lv pc st
def wb_X_meet_24 (post : Int → fS → aS → Prop) (f : fS) (a : aS) : Prop := post (-1) f a
set_option maxHeartbeats 4000000 in
set_option maxRecDepth 100000 in
theorem tb_X_meet_24 {p : Program} {l : Launch} {e : Env} {s : State} {m : MethodId} {args : Array Value} {below : List Frame} {meth : Method} {c : Code} {A : Nat → Prop} {D : va_G} {ad : Nat → Nat → Nat} {cA : Nat → Nat → ClassId} {post : Int → fS → aS → Prop} (hO : xOk cX_meet 4 RX (Cond.code yX_meet cX_meet 4 (some .int) :: xG) (some .int) p s m args meth c A D vwCl (taC cA)) : ∀ (f : fS) (a : aS), wb_X_meet_24 post f a → gX_meet p l e s m args below meth c A D ad cA post f a [] 24 [] := by
  have hO9 := hO
  obtain ⟨hx, hb, hml, hown, hts, hr, hlk, hK, hN, hA⟩ := hO9
  intro f a h
  unfold wb_X_meet_24 at h
  refine x_iconst hx hb dX_meet_24 ?_
  exact x_iret hx hb hr hlk hK dX_meet_25 h
def wp_X_meet (post : Int → fS → aS → Prop) (x1 : Int) (x2 : Int) (x3 : Int) (f : fS) (a : aS) : Prop := wp_X_isSubgroup (fun z1 f2 a3 => ir z1 ∧ (((z1 = 0) → (wb_X_meet_24 post f2 a3)) ∧ (¬ (z1 = 0) → (wp_X_isSubgroup (fun z5 f6 a7 => ir z5 ∧ (((z5 = 0) → (wb_X_meet_24 post f6 a7)) ∧ (¬ (z5 = 0) → (wp_X_isSubgroup (fun z9 f10 a11 => ir z9 ∧ (((¬ z9 = 0) → (wp_D_begin (fun f14 a15 => (0 ≤ x2 ∧ x2 < 4) ∧ ((0 ≤ x3 ∧ x3 < 4) ∧ (wp_D_addPairs (fun z20 f21 a22 => ir z20 ∧ (((¬ z20 = 0) → (wp_D_trim (fun f25 a26 => (0 ≤ x1 ∧ x1 < 4) ∧ (wp_D_numberInto (fun z29 f30 a31 => post z29 f30 a31) (3 + Int.toNat x1) f25 a26))  f21 a22)) ∧ (¬ (¬ z20 = 0) → (post (-2) f21 a22)))) (3 + Int.toNat x2) (3 + Int.toNat x3) f14 a15)))  f10 a11)) ∧ (¬ (¬ z9 = 0) → (wb_X_meet_24 post f10 a11)))) x3 f6 a7)))) x2 f2 a3)))) x1 f a
set_option maxHeartbeats 4000000 in
set_option maxRecDepth 100000 in
theorem m_X_meet {l : Launch} {D : va_G} {ad : Nat → Nat → Nat} {cA : Nat → Nat → ClassId} {post : Int → fS → aS → Prop} {x1 : Int} {x2 : Int} {x3 : Int} {f : fS} {a : aS} (h : wp_X_meet post x1 x2 x3 f a) : xCI l yX_meet (Cond.code yX_meet cX_meet 4 (some .int) :: xG) rmX_meet D vwCl (taC cA) (CW ad cA f a) [.ref (ad 0 0), .int (iI x1), .int (iI x2), .int (iI x3)] (CW ad cA) post := by
  refine x_metI (cc := cX_meet) (nL := 4) (by decide) rfl (Nat.le_of_ble_eq_true rfl) ?_
  intro p e s m below meth c A hO
  have hO9 := hO
  obtain ⟨hx, hb, hml, hown, hts, hr, hlk, hK, hN, hA⟩ := hO9
  unfold wp_X_meet at h
  show gX_meet p l e s m _ below meth c A D ad cA post f a [(0, .ref (ad 0 0)), (1, .int (iI x1)), (2, .int (iI x2)), (3, .int (iI x3))] 0 []
  refine x_aload_n hx hb dX_meet_0 rfl 0 rfl ?_
  refine x_iload_n hx hb dX_meet_1 rfl 1 rfl ?_
  refine x_cVi (n := 1) (st := []) (As := [.int (iI x1)]) ⟨hx, hb, hml, hown, hts⟩ hK hN (m_X_isSubgroup h) (x_cwV hts rfl rfl kcX_isSubgroup knX klX_70 kiX_isSubgroup keX_isSubgroup ⟨by decide, by decide, by decide +kernel⟩ ⟨by decide, by decide⟩) _ (woX ad cA f a) rfl hA rfl (Nat.le_of_ble_eq_true rfl) ⟨Nat.zero_le _, Nat.zero_le _⟩ rfl dX_meet_2 (fun z1 f2 a3 h => ?_)
  obtain ⟨hi4, h⟩ := h
  refine x_if_eq hx hb (tgt := 24) hi4  dX_meet_5 (by decide) (fun hc => ?_) (fun hc => ?_)
  · have h := h.1 hc
    refine x_sub [] rfl ?_
    exact tb_X_meet_24 hO f2 a3 h
  · have h := h.2 hc
    refine x_aload_n hx hb dX_meet_8 rfl 0 rfl ?_
    refine x_iload_n hx hb dX_meet_9 rfl 2 rfl ?_
    refine x_cVi (n := 1) (st := []) (As := [.int (iI x2)]) ⟨hx, hb, hml, hown, hts⟩ hK hN (m_X_isSubgroup h) (x_cwV hts rfl rfl kcX_isSubgroup knX klX_70 kiX_isSubgroup keX_isSubgroup ⟨by decide, by decide, by decide +kernel⟩ ⟨by decide, by decide⟩) _ (woX ad cA f2 a3) rfl hA rfl (Nat.le_of_ble_eq_true rfl) ⟨Nat.zero_le _, Nat.zero_le _⟩ rfl dX_meet_10 (fun z5 f6 a7 h => ?_)
    obtain ⟨hi8, h⟩ := h
    refine x_if_eq hx hb (tgt := 24) hi8  dX_meet_13 (by decide) (fun hc => ?_) (fun hc => ?_)
    · have h := h.1 hc
      refine x_sub [] rfl ?_
      exact tb_X_meet_24 hO f6 a7 h
    · have h := h.2 hc
      refine x_aload_n hx hb dX_meet_16 rfl 0 rfl ?_
      refine x_iload_n hx hb dX_meet_17 rfl 3 rfl ?_
      refine x_cVi (n := 1) (st := []) (As := [.int (iI x3)]) ⟨hx, hb, hml, hown, hts⟩ hK hN (m_X_isSubgroup h) (x_cwV hts rfl rfl kcX_isSubgroup knX klX_70 kiX_isSubgroup keX_isSubgroup ⟨by decide, by decide, by decide +kernel⟩ ⟨by decide, by decide⟩) _ (woX ad cA f6 a7) rfl hA rfl (Nat.le_of_ble_eq_true rfl) ⟨Nat.zero_le _, Nat.zero_le _⟩ rfl dX_meet_18 (fun z9 f10 a11 h => ?_)
      obtain ⟨hi12, h⟩ := h
      refine x_if_ne hx hb (tgt := 26) hi12  dX_meet_21 (by decide) (fun hc => ?_) (fun hc => ?_)
      · have h := h.1 hc
        refine x_aload_n hx hb dX_meet_26 rfl 0 rfl ?_
        refine x_get hx hb hts (jnX _) hown hK _ (woX ad cA f10 a11) rfl 3 (by decide) (hts _ (List.mem_cons_of_mem _ kfX_39)) (fun _ h9 => h9) (v := .ref (ad 2 0)) (by rfl) dX_meet_27 ?_
        refine x_cVNv (n := 0) (st := []) (As := []) ⟨hx, hb, hml, hown, hts⟩ hK hN (m_D_begin h) (x_cwVN hts rfl rfl kcD_begin knD hN nlX_74 kiD_begin keD_begin ⟨by decide, by decide, by decide +kernel⟩ ⟨by decide, by decide⟩) _ (woD ad cA f10 a11) rfl hA rfl (Nat.le_of_ble_eq_true rfl) ⟨Nat.zero_le _, Nat.zero_le _⟩ rfl dX_meet_30 (fun f14 a15 h => ?_)
        refine x_aload_n hx hb dX_meet_33 rfl 0 rfl ?_
        refine x_get hx hb hts (jnX _) hown hK _ (woX ad cA f14 a15) rfl 3 (by decide) (hts _ (List.mem_cons_of_mem _ kfX_39)) (fun _ h9 => h9) (v := .ref (ad 2 0)) (by rfl) dX_meet_34 ?_
        refine x_aload_n hx hb dX_meet_37 rfl 0 rfl ?_
        refine x_get hx hb hts (jnX _) hown hK _ (woX ad cA f14 a15) rfl 2 (by decide) (hts _ (List.mem_cons_of_mem _ kfX_31)) (fun _ h9 => h9) (v := .ref (ad 0 3)) (by rfl) dX_meet_38 ?_
        refine x_iload_n hx hb dX_meet_41 rfl 2 rfl ?_
        obtain ⟨hj16, h⟩ := h
        refine x_aald hx hb hK _ _ (wa2X ad cA f14 a15) (wt2X cA) hj16.1 hj16.2 (by decide) (if_pos (by omega)) dX_meet_42 ?_
        have hg17 : 3 ≤ 3 + Int.toNat x2 ∧ 3 + Int.toNat x2 < 7 := by omega
        refine x_aload_n hx hb dX_meet_43 rfl 0 rfl ?_
        refine x_get hx hb hts (jnX _) hown hK _ (woX ad cA f14 a15) rfl 2 (by decide) (hts _ (List.mem_cons_of_mem _ kfX_31)) (fun _ h9 => h9) (v := .ref (ad 0 3)) (by rfl) dX_meet_44 ?_
        refine x_iload_n hx hb dX_meet_47 rfl 3 rfl ?_
        obtain ⟨hj18, h⟩ := h
        refine x_aald hx hb hK _ _ (wa2X ad cA f14 a15) (wt2X cA) hj18.1 hj18.2 (by decide) (if_pos (by omega)) dX_meet_48 ?_
        have hg19 : 3 ≤ 3 + Int.toNat x3 ∧ 3 + Int.toNat x3 < 7 := by omega
        refine x_cVNi (n := 2) (st := []) (As := [.ref (ad (3 + Int.toNat x2) 0), .ref (ad (3 + Int.toNat x3) 0)]) ⟨hx, hb, hml, hown, hts⟩ hK hN (m_D_addPairs h) (x_cwVN hts rfl rfl kcD_addPairs knD hN nlX_101 kiD_addPairs keD_addPairs ⟨by decide, by decide, by decide +kernel⟩ ⟨by decide, by decide⟩) _ (woD ad cA f14 a15) rfl hA rfl (Nat.le_of_ble_eq_true rfl) ⟨Nat.zero_le _, Nat.zero_le _⟩ rfl dX_meet_49 (fun z20 f21 a22 h => ?_)
        obtain ⟨hi23, h⟩ := h
        refine x_if_ne hx hb (tgt := 58) hi23  dX_meet_52 (by decide) (fun hc => ?_) (fun hc => ?_)
        · have h := h.1 hc
          refine x_aload_n hx hb dX_meet_58 rfl 0 rfl ?_
          refine x_get hx hb hts (jnX _) hown hK _ (woX ad cA f21 a22) rfl 3 (by decide) (hts _ (List.mem_cons_of_mem _ kfX_39)) (fun _ h9 => h9) (v := .ref (ad 2 0)) (by rfl) dX_meet_59 ?_
          refine x_cVNv (n := 0) (st := []) (As := []) ⟨hx, hb, hml, hown, hts⟩ hK hN (m_D_trim h) (x_cwVN hts rfl rfl kcD_trim knD hN nlX_98 kiD_trim keD_trim ⟨by decide, by decide, by decide +kernel⟩ ⟨by decide, by decide⟩) _ (woD ad cA f21 a22) rfl hA rfl (Nat.le_of_ble_eq_true rfl) ⟨Nat.zero_le _, Nat.zero_le _⟩ rfl dX_meet_62 (fun f25 a26 h => ?_)
          refine x_aload_n hx hb dX_meet_65 rfl 0 rfl ?_
          refine x_get hx hb hts (jnX _) hown hK _ (woX ad cA f25 a26) rfl 3 (by decide) (hts _ (List.mem_cons_of_mem _ kfX_39)) (fun _ h9 => h9) (v := .ref (ad 2 0)) (by rfl) dX_meet_66 ?_
          refine x_aload_n hx hb dX_meet_69 rfl 0 rfl ?_
          refine x_get hx hb hts (jnX _) hown hK _ (woX ad cA f25 a26) rfl 2 (by decide) (hts _ (List.mem_cons_of_mem _ kfX_31)) (fun _ h9 => h9) (v := .ref (ad 0 3)) (by rfl) dX_meet_70 ?_
          refine x_iload_n hx hb dX_meet_73 rfl 1 rfl ?_
          obtain ⟨hj27, h⟩ := h
          refine x_aald hx hb hK _ _ (wa2X ad cA f25 a26) (wt2X cA) hj27.1 hj27.2 (by decide) (if_pos (by omega)) dX_meet_74 ?_
          have hg28 : 3 ≤ 3 + Int.toNat x1 ∧ 3 + Int.toNat x1 < 7 := by omega
          refine x_cVNi (n := 1) (st := []) (As := [.ref (ad (3 + Int.toNat x1) 0)]) ⟨hx, hb, hml, hown, hts⟩ hK hN (m_D_numberInto h) (x_cwVN hts rfl rfl kcD_numberInto knD hN nlX_88 kiD_numberInto keD_numberInto ⟨by decide, by decide, by decide +kernel⟩ ⟨by decide, by decide⟩) _ (woD ad cA f25 a26) rfl hA rfl (Nat.le_of_ble_eq_true rfl) ⟨Nat.zero_le _, Nat.zero_le _⟩ rfl dX_meet_75 (fun z29 f30 a31 h => ?_)
          exact x_iret hx hb hr hlk hK dX_meet_78 h
        · have h := h.2 hc
          refine x_bipush hx hb dX_meet_55 (by decide) ?_
          exact x_iret hx hb hr hlk hK dX_meet_57 h
      · have h := h.2 hc
        refine x_sub [] rfl ?_
        exact tb_X_meet_24 hO f10 a11 h
