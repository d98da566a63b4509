-- X_contains
abbrev rmX_contains : Room := { frames := 2, cells := 0, slots := 0, locals := 47 }
abbrev gX_contains (p : Program) (l : Launch) (e : Env) (s : State) (m : MethodId) (args : Array Value) (below : List Frame) (meth : Method) (c : Code) (A : Nat → Prop) (D : va_G) (ad : Nat → Nat → Nat) (cA : Nat → Nat → ClassId) (post : Int → fS → aS → Prop) (f : fS) (a : aS) (lv : List (Nat × Value)) (pc : Nat) (st : List Value) : Prop := xV p l e rmX_contains s m args below meth c s.heap A 0 0 (xQI below D vwCl (taC cA) (CW ad cA) post A args s) D vwCl 3 (CW ad cA f a) lv pc st
def wb_X_contains_40 (post : Int → fS → aS → Prop) (y0 : Int) (f : fS) (a : aS) : Prop := (y0 = 0 ∨ y0 = 1) ∧ post y0 f a
set_option maxHeartbeats 4000000 in
set_option maxRecDepth 100000 in
theorem tb_X_contains_40 {p : Program} {l : Launch} {e : Env} {s : State} {m : MethodId} {args : Array Value} {below : List Frame} {meth : Method} {c : Code} {A : Nat → Prop} {D : va_G} {ad : Nat → Nat → Nat} {cA : Nat → Nat → ClassId} {post : Int → fS → aS → Prop} (hO : xOk cX_contains 3 RX (Cond.code yX_contains cX_contains 3 (some .boolean) :: xG) (some .boolean) p s m args meth c A D vwCl (taC cA)) : ∀ (y0 : Int) (f : fS) (a : aS), wb_X_contains_40 post y0 f a → gX_contains p l e s m args below meth c A D ad cA post f a [] 40 [.int (iI y0)] := by
  have hO9 := hO
  obtain ⟨hx, hb, hml, hown, hts, hr, hlk, hK, hN, hA⟩ := hO9
  intro y0 f a h
  unfold wb_X_contains_40 at h
  exact x_zret hx hb hr hlk hK dX_contains_40 h.1 h.2
def wb_X_contains_39 (post : Int → fS → aS → Prop) (f : fS) (a : aS) : Prop := wb_X_contains_40 post 0 f a
set_option maxHeartbeats 4000000 in
set_option maxRecDepth 100000 in
theorem tb_X_contains_39 {p : Program} {l : Launch} {e : Env} {s : State} {m : MethodId} {args : Array Value} {below : List Frame} {meth : Method} {c : Code} {A : Nat → Prop} {D : va_G} {ad : Nat → Nat → Nat} {cA : Nat → Nat → ClassId} {post : Int → fS → aS → Prop} (hO : xOk cX_contains 3 RX (Cond.code yX_contains cX_contains 3 (some .boolean) :: xG) (some .boolean) p s m args meth c A D vwCl (taC cA)) : ∀ (f : fS) (a : aS), wb_X_contains_39 post f a → gX_contains p l e s m args below meth c A D ad cA post f a [] 39 [] := by
  have hO9 := hO
  obtain ⟨hx, hb, hml, hown, hts, hr, hlk, hK, hN, hA⟩ := hO9
  intro f a h
  unfold wb_X_contains_39 at h
  refine x_iconst hx hb dX_contains_39 ?_
  exact tb_X_contains_40 hO 0 f a h
def wp_X_contains (post : Int → fS → aS → Prop) (x1 : Int) (x2 : Int) (f : fS) (a : aS) : Prop := wp_X_isSubgroup (fun z1 f2 a3 => ir z1 ∧ (((z1 = 0) → (wb_X_contains_39 post f2 a3)) ∧ (¬ (z1 = 0) → (wp_X_isSubgroup (fun z5 f6 a7 => ir z5 ∧ (((z5 = 0) → (wb_X_contains_39 post f6 a7)) ∧ (¬ (z5 = 0) → ((0 ≤ x2 ∧ x2 < 4) ∧ ((0 ≤ x1 ∧ x1 < 4) ∧ (wp_G_liesUpon (fun z13 f14 a15 => ir z13 ∧ (((z13 = 0) → (wb_X_contains_39 post f14 a15)) ∧ (¬ (z13 = 0) → (wb_X_contains_40 post 1 f14 a15)))) (3 + Int.toNat x2) (3 + Int.toNat x1) 0 f6 a7)))))) x2 f2 a3)))) x1 f a
set_option maxHeartbeats 4000000 in
set_option maxRecDepth 100000 in
theorem m_X_contains {l : Launch} {D : va_G} {ad : Nat → Nat → Nat} {cA : Nat → Nat → ClassId} {post : Int → fS → aS → Prop} {x1 : Int} {x2 : Int} {f : fS} {a : aS} (h : wp_X_contains post x1 x2 f a) : xCI l yX_contains (Cond.code yX_contains cX_contains 3 (some .boolean) :: xG) rmX_contains D vwCl (taC cA) (CW ad cA f a) [.ref (ad 0 0), .int (iI x1), .int (iI x2)] (CW ad cA) post := by
  refine x_metI (cc := cX_contains) (nL := 3) (by decide) rfl (Nat.le_of_ble_eq_true rfl) ?_
  intro p e s m below meth c A hO
  have hO9 := hO
  obtain ⟨hx, hb, hml, hown, hts, hr, hlk, hK, hN, hA⟩ := hO9
  unfold wp_X_contains at h
  show gX_contains p l e s m _ below meth c A D ad cA post f a [(0, .ref (ad 0 0)), (1, .int (iI x1)), (2, .int (iI x2))] 0 []
  refine x_aload_n hx hb dX_contains_0 rfl 0 rfl ?_
  refine x_iload_n hx hb dX_contains_1 rfl 1 rfl ?_
  refine x_cVi (n := 1) (st := []) (As := [.int (iI x1)]) ⟨hx, hb, hml, hown, hts⟩ hK hN (m_X_isSubgroup h) (x_cwV hts rfl rfl kcX_isSubgroup knX klX_70 kiX_isSubgroup keX_isSubgroup ⟨by decide, by decide, by decide +kernel⟩ ⟨by decide, by decide⟩) _ (woX ad cA f a) rfl hA rfl (Nat.le_of_ble_eq_true rfl) ⟨Nat.zero_le _, Nat.zero_le _⟩ rfl dX_contains_2 (fun z1 f2 a3 h => ?_)
  obtain ⟨hi4, h⟩ := h
  refine x_if_eq hx hb (tgt := 39) hi4  dX_contains_5 (by decide) (fun hc => ?_) (fun hc => ?_)
  · have h := h.1 hc
    refine x_sub [] rfl ?_
    exact tb_X_contains_39 hO f2 a3 h
  · have h := h.2 hc
    refine x_aload_n hx hb dX_contains_8 rfl 0 rfl ?_
    refine x_iload_n hx hb dX_contains_9 rfl 2 rfl ?_
    refine x_cVi (n := 1) (st := []) (As := [.int (iI x2)]) ⟨hx, hb, hml, hown, hts⟩ hK hN (m_X_isSubgroup h) (x_cwV hts rfl rfl kcX_isSubgroup knX klX_70 kiX_isSubgroup keX_isSubgroup ⟨by decide, by decide, by decide +kernel⟩ ⟨by decide, by decide⟩) _ (woX ad cA f2 a3) rfl hA rfl (Nat.le_of_ble_eq_true rfl) ⟨Nat.zero_le _, Nat.zero_le _⟩ rfl dX_contains_10 (fun z5 f6 a7 h => ?_)
    obtain ⟨hi8, h⟩ := h
    refine x_if_eq hx hb (tgt := 39) hi8  dX_contains_13 (by decide) (fun hc => ?_) (fun hc => ?_)
    · have h := h.1 hc
      refine x_sub [] rfl ?_
      exact tb_X_contains_39 hO f6 a7 h
    · have h := h.2 hc
      refine x_aload_n hx hb dX_contains_16 rfl 0 rfl ?_
      refine x_get hx hb hts (jnX _) hown hK _ (woX ad cA f6 a7) rfl 2 (by decide) (hts _ (List.mem_cons_of_mem _ kfX_31)) (fun _ h9 => h9) (v := .ref (ad 0 3)) (by rfl) dX_contains_17 ?_
      refine x_iload_n hx hb dX_contains_20 rfl 2 rfl ?_
      obtain ⟨hj9, h⟩ := h
      refine x_aald hx hb hK _ _ (wa2X ad cA f6 a7) (wt2X cA) hj9.1 hj9.2 (by decide) (if_pos (by omega)) dX_contains_21 ?_
      have hg10 : 3 ≤ 3 + Int.toNat x2 ∧ 3 + Int.toNat x2 < 7 := by omega
      refine x_aload_n hx hb dX_contains_22 rfl 0 rfl ?_
      refine x_get hx hb hts (jnX _) hown hK _ (woX ad cA f6 a7) rfl 2 (by decide) (hts _ (List.mem_cons_of_mem _ kfX_31)) (fun _ h9 => h9) (v := .ref (ad 0 3)) (by rfl) dX_contains_23 ?_
      refine x_iload_n hx hb dX_contains_26 rfl 1 rfl ?_
      obtain ⟨hj11, h⟩ := h
      refine x_aald hx hb hK _ _ (wa2X ad cA f6 a7) (wt2X cA) hj11.1 hj11.2 (by decide) (if_pos (by omega)) dX_contains_27 ?_
      have hg12 : 3 ≤ 3 + Int.toNat x1 ∧ 3 + Int.toNat x1 < 7 := by omega
      refine x_iconst hx hb dX_contains_28 ?_
      refine x_cVNi (n := 2) (st := []) (As := [.ref (ad (3 + Int.toNat x1) 0), .int (iI 0)]) ⟨hx, hb, hml, hown, hts⟩ hK hN (m_G_liesUpon h) (x_cwVN hts rfl rfl kcG_liesUpon knG hN nlX_133 kiG_liesUpon keG_liesUpon ⟨by decide, by decide, by decide +kernel⟩ ⟨by decide, by decide⟩) _ (woG ad cA f6 a7 (3 + Int.toNat x2) hg10) rfl hA rfl (Nat.le_of_ble_eq_true rfl) ⟨Nat.zero_le _, Nat.zero_le _⟩ rfl dX_contains_29 (fun z13 f14 a15 h => ?_)
      obtain ⟨hi16, h⟩ := h
      refine x_if_eq hx hb (tgt := 39) hi16  dX_contains_32 (by decide) (fun hc => ?_) (fun hc => ?_)
      · have h := h.1 hc
        refine x_sub [] rfl ?_
        exact tb_X_contains_39 hO f14 a15 h
      · have h := h.2 hc
        refine x_iconst hx hb dX_contains_35 ?_
        refine x_goto hx hb (tgt := 40) dX_contains_36 (by decide) ?_
        refine x_sub [] rfl ?_
        exact tb_X_contains_40 hO 1 f14 a15 h
-- X_normal
abbrev rmX_normal : Room := { frames := 2, cells := 0, slots := 0, locals := 47 }
abbrev gX_normal (p : Program) (l : Launch) (e : Env) (s : State) (m : MethodId) (args : Array Value) (below : List Frame) (meth : Method) (c : Code) (A : Nat → Prop) (D : va_G) (ad : Nat → Nat → Nat) (cA : Nat → Nat → ClassId) (post : Int → fS → aS → Prop) (f : fS) (a : aS) (lv : List (Nat × Value)) (pc : Nat) (st : List Value) : Prop := xV p l e rmX_normal s m args below meth c s.heap A 0 0 (xQI below D vwCl (taC cA) (CW ad cA) post A args s) D vwCl 4 (CW ad cA f a) lv pc st
def wb_X_normal_38 (post : Int → fS → aS → Prop) : Nat → Nat → Int → fS → aS → Prop
  | 0, _, _, _, _ => False
  | n + 1, o2, x3, f, a => ir x3 ∧ (ir (f 0 0) ∧ (((f 0 0 < x3) → (post 1 f a)) ∧ (¬ (f 0 0 < x3) → (wp_X_codeOf (fun z15 f16 a17 => (3 ≤ o2 ∧ o2 < 7) ∧ (wp_G_way (fun z19 f20 a21 => wp_G_liesUpon (fun z22 f23 a24 => ir z22 ∧ (((¬ z22 = 0) → (wb_X_normal_38 post n o2 (x3 + 1) f23 a24)) ∧ (¬ (¬ z22 = 0) → (post 0 f23 a24)))) o2 o2 z19 f20 a21) o2 0 z15 f16 a17)) x3 f a))))
set_option maxHeartbeats 4000000 in
set_option maxRecDepth 100000 in
theorem tb_X_normal_38 {p : Program} {l : Launch} {e : Env} {s : State} {m : MethodId} {args : Array Value} {below : List Frame} {meth : Method} {c : Code} {A : Nat → Prop} {D : va_G} {ad : Nat → Nat → Nat} {cA : Nat → Nat → ClassId} {post : Int → fS → aS → Prop} (hO : xOk cX_normal 4 RX (Cond.code yX_normal cX_normal 4 (some .boolean) :: xG) (some .boolean) p s m args meth c A D vwCl (taC cA)) : ∀ (n : Nat) (o2 : Nat) (x3 : Int) (f : fS) (a : aS), wb_X_normal_38 post n o2 x3 f a → gX_normal p l e s m args below meth c A D ad cA post f a [(0, .ref (ad 0 0)), (2, .ref (ad o2 0)), (3, .int (iI x3))] 38 [] := by
  have hO9 := hO
  obtain ⟨hx, hb, hml, hown, hts, hr, hlk, hK, hN, hA⟩ := hO9
  intro n
  induction n with
  | zero => intro o2 x3 f a h; exact False.elim h
  | succ n ih =>
    intro o2 x3 f a h
    rw [wb_X_normal_38] at h
    refine x_iload_n hx hb dX_normal_38 rfl 2 rfl ?_
    refine x_aload_n hx hb dX_normal_39 rfl 0 rfl ?_
    refine x_get hx hb hts (jnX _) hown hK _ (woX ad cA f a) rfl 0 (by decide) (hts _ (List.mem_cons_of_mem _ kfX_18)) (fun _ h9 => h9) (v := .int (iI (f 0 0))) (by rfl) dX_normal_40 ?_
    obtain ⟨hi13, h⟩ := h
    obtain ⟨hi14, h⟩ := h
    refine x_icmp_gt hx hb (tgt := 71) hi13 hi14 dX_normal_43 (by decide) (fun hc => ?_) (fun hc => ?_)
    · have h := h.1 hc
      refine x_iconst hx hb dX_normal_71 ?_
      exact x_zret hx hb hr hlk hK dX_normal_72 (by decide) h
    · have h := h.2 hc
      refine x_aload_n hx hb dX_normal_46 rfl 1 rfl ?_
      refine x_aload_n hx hb dX_normal_47 rfl 1 rfl ?_
      refine x_aload_n hx hb dX_normal_48 rfl 1 rfl ?_
      refine x_iconst hx hb dX_normal_49 ?_
      refine x_iload_n hx hb dX_normal_50 rfl 2 rfl ?_
      refine x_cSi (n := 1) (st := [.int (iI 0), .ref (ad o2 0), .ref (ad o2 0), .ref (ad o2 0)]) (As := [.int (iI x3)]) ⟨hx, hb, hml, hown, hts⟩ hK hN (m_X_codeOf h) (x_cwS hts rfl rfl kcX_codeOf knX klX_108 ksX_codeOf ⟨by decide, by decide, by decide +kernel⟩ ⟨by decide, by decide⟩) hA rfl (Nat.le_of_ble_eq_true rfl) ⟨Nat.zero_le _, Nat.zero_le _⟩ rfl dX_normal_51 (fun z15 f16 a17 h => ?_)
      obtain ⟨hg18, h⟩ := h
      refine x_cVNi (n := 2) (st := [.ref (ad o2 0), .ref (ad o2 0)]) (As := [.int (iI 0), .int (iI z15)]) ⟨hx, hb, hml, hown, hts⟩ hK hN (m_G_way h) (x_cwVN hts rfl rfl kcG_way knG hN nlX_111 kiG_way keG_way ⟨by decide, by decide, by decide +kernel⟩ ⟨by decide, by decide⟩) _ (woG ad cA f16 a17 o2 hg18) rfl hA rfl (Nat.le_of_ble_eq_true rfl) ⟨Nat.zero_le _, Nat.zero_le _⟩ rfl dX_normal_54 (fun z19 f20 a21 h => ?_)
      refine x_cVNi (n := 2) (st := []) (As := [.ref (ad o2 0), .int (iI z19)]) ⟨hx, hb, hml, hown, hts⟩ hK hN (m_G_liesUpon h) (x_cwVN hts rfl rfl kcG_liesUpon knG hN nlX_133 kiG_liesUpon keG_liesUpon ⟨by decide, by decide, by decide +kernel⟩ ⟨by decide, by decide⟩) _ (woG ad cA f20 a21 o2 hg18) rfl hA rfl (Nat.le_of_ble_eq_true rfl) ⟨Nat.zero_le _, Nat.zero_le _⟩ rfl dX_normal_57 (fun z22 f23 a24 h => ?_)
      obtain ⟨hi25, h⟩ := h
      refine x_if_ne hx hb (tgt := 65) hi25  dX_normal_60 (by decide) (fun hc => ?_) (fun hc => ?_)
      · have h := h.1 hc
        refine x_iinc hx hb dX_normal_65 2 rfl (by decide) (lv' := [(3, .int (iI (x3 + 1))), (0, .ref (ad 0 0)), (2, .ref (ad o2 0))]) rfl ?_
        refine x_goto hx hb (tgt := 38) dX_normal_68 (by decide) ?_
        refine x_sub [1, 2, 0] rfl ?_
        exact ih o2 (x3 + 1) f23 a24 h
      · have h := h.2 hc
        refine x_iconst hx hb dX_normal_63 ?_
        exact x_zret hx hb hr hlk hK dX_normal_64 (by decide) h
def wp_X_normal (post : Int → fS → aS → Prop) (x1 : Int) (f : fS) (a : aS) : Prop := wp_X_isSubgroup (fun z1 f2 a3 => ir z1 ∧ (((¬ z1 = 0) → ((0 ≤ x1 ∧ x1 < 4) ∧ (∀ o7 : Nat, o7 = 3 + Int.toNat x1 → (ir (f2 o7 1) ∧ (((¬ f2 o7 1 = 0) → (wp_X_isComplete (fun z9 f10 a11 => ir z9 ∧ (((¬ z9 = 0) → (∃ j, wb_X_normal_38 post j o7 1 f10 a11)) ∧ (¬ (¬ z9 = 0) → (post 0 f10 a11)))) o7 f2 a3)) ∧ (¬ (¬ f2 o7 1 = 0) → (post 1 f2 a3))))))) ∧ (¬ (¬ z1 = 0) → (post 0 f2 a3)))) x1 f a
set_option maxHeartbeats 4000000 in
set_option maxRecDepth 100000 in
theorem m_X_normal {l : Launch} {D : va_G} {ad : Nat → Nat → Nat} {cA : Nat → Nat → ClassId} {post : Int → fS → aS → Prop} {x1 : Int} {f : fS} {a : aS} (h : wp_X_normal post x1 f a) : xCI l yX_normal (Cond.code yX_normal cX_normal 4 (some .boolean) :: xG) rmX_normal D vwCl (taC cA) (CW ad cA f a) [.ref (ad 0 0), .int (iI x1)] (CW ad cA) post := by
  refine x_metI (cc := cX_normal) (nL := 4) (by decide) rfl (Nat.le_of_ble_eq_true rfl) ?_
  intro p e s m below meth c A hO
  have hO9 := hO
  obtain ⟨hx, hb, hml, hown, hts, hr, hlk, hK, hN, hA⟩ := hO9
  unfold wp_X_normal at h
  show gX_normal p l e s m _ below meth c A D ad cA post f a [(0, .ref (ad 0 0)), (1, .int (iI x1))] 0 []
  refine x_aload_n hx hb dX_normal_0 rfl 0 rfl ?_
  refine x_iload_n hx hb dX_normal_1 rfl 1 rfl ?_
  refine x_cVi (n := 1) (st := []) (As := [.int (iI x1)]) ⟨hx, hb, hml, hown, hts⟩ hK hN (m_X_isSubgroup h) (x_cwV hts rfl rfl kcX_isSubgroup knX klX_70 kiX_isSubgroup keX_isSubgroup ⟨by decide, by decide, by decide +kernel⟩ ⟨by decide, by decide⟩) _ (woX ad cA f a) rfl hA rfl (Nat.le_of_ble_eq_true rfl) ⟨Nat.zero_le _, Nat.zero_le _⟩ rfl dX_normal_2 (fun z1 f2 a3 h => ?_)
  obtain ⟨hi4, h⟩ := h
  refine x_if_ne hx hb (tgt := 10) hi4  dX_normal_5 (by decide) (fun hc => ?_) (fun hc => ?_)
  · have h := h.1 hc
    refine x_aload_n hx hb dX_normal_10 rfl 0 rfl ?_
    refine x_get hx hb hts (jnX _) hown hK _ (woX ad cA f2 a3) rfl 2 (by decide) (hts _ (List.mem_cons_of_mem _ kfX_31)) (fun _ h9 => h9) (v := .ref (ad 0 3)) (by rfl) dX_normal_11 ?_
    refine x_iload_n hx hb dX_normal_14 rfl 1 rfl ?_
    obtain ⟨hj5, h⟩ := h
    refine x_aald hx hb hK _ _ (wa2X ad cA f2 a3) (wt2X cA) hj5.1 hj5.2 (by decide) (if_pos (by omega)) dX_normal_15 ?_
    have hg6 : 3 ≤ 3 + Int.toNat x1 ∧ 3 + Int.toNat x1 < 7 := by omega
    refine x_topo (fun o7 eo7 => ?_)
    have h := h o7 eo7
    have hgo7 := eo7 ▸ hg6
    refine x_astore_n hx hb dX_normal_16 rfl (by decide) (lv' := [(2, .ref (ad o7 0)), (0, .ref (ad 0 0)), (1, .int (iI x1))]) rfl ?_
    refine x_aload_n hx hb dX_normal_17 rfl 0 rfl ?_
    refine x_getN hx hb hts (jnG _) hown hK _ (woG ad cA f2 a3 o7 hgo7) rfl 1 (by decide) (va_Nw.use rfl (hN.1 _ nfX_123)) (fun _ h9 => h9) (v := .int (iI (f2 o7 1))) (by rfl) dX_normal_18 ?_
    obtain ⟨hi8, h⟩ := h
    refine x_if_ne hx hb (tgt := 26) hi8  dX_normal_21 (by decide) (fun hc => ?_) (fun hc => ?_)
    · have h := h.1 hc
      refine x_aload_n hx hb dX_normal_26 rfl 1 rfl ?_
      refine x_aload_n hx hb dX_normal_27 rfl 0 rfl ?_
      refine x_cVi (n := 1) (st := []) (As := [.ref (ad o7 0)]) ⟨hx, hb, hml, hown, hts⟩ hK hN (m_X_isComplete h) (x_cwV hts rfl rfl kcX_isComplete knX klX_129 kiX_isComplete keX_isComplete ⟨by decide, by decide, by decide +kernel⟩ ⟨by decide, by decide⟩) _ (woX ad cA f2 a3) rfl hA rfl (Nat.le_of_ble_eq_true rfl) ⟨Nat.zero_le _, Nat.zero_le _⟩ rfl dX_normal_28 (fun z9 f10 a11 h => ?_)
      obtain ⟨hi12, h⟩ := h
      refine x_if_ne hx hb (tgt := 36) hi12  dX_normal_31 (by decide) (fun hc => ?_) (fun hc => ?_)
      · have h := h.1 hc
        refine x_iconst hx hb dX_normal_36 ?_
        refine x_istore_n hx hb dX_normal_37 rfl (by decide) (lv' := [(3, .int (iI 1)), (2, .ref (ad o7 0)), (0, .ref (ad 0 0)), (1, .int (iI x1))]) rfl ?_
        obtain ⟨j, h⟩ := h
        refine x_sub [2, 1, 0] rfl ?_
        exact tb_X_normal_38 hO j o7 1 f10 a11 h
      · have h := h.2 hc
        refine x_iconst hx hb dX_normal_34 ?_
        exact x_zret hx hb hr hlk hK dX_normal_35 (by decide) h
    · have h := h.2 hc
      refine x_iconst hx hb dX_normal_24 ?_
      exact x_zret hx hb hr hlk hK dX_normal_25 (by decide) h
  · have h := h.2 hc
    refine x_iconst hx hb dX_normal_8 ?_
    exact x_zret hx hb hr hlk hK dX_normal_9 (by decide) h
-- M_isLetter
abbrev rmM_isLetter : Room := { frames := 0, cells := 0, slots := 0, locals := 0 }
abbrev gM_isLetter (p : Program) (l : Launch) (e : Env) (s : State) (m : MethodId) (args : Array Value) (below : List Frame) (meth : Method) (c : Code) (A : Nat → Prop) (D : va_G) (ad : Nat → Nat → Nat) (cA : Nat → Nat → ClassId) (post : Int → fS → aS → Prop) (f : fS) (a : aS) (lv : List (Nat × Value)) (pc : Nat) (st : List Value) : Prop := xV p l e rmM_isLetter s m args below meth c s.heap A 0 0 (xQI below D vwCl (taM cA) (MW ad cA) post A args s) D vwCl 2 (MW ad cA f a) lv pc st
def wb_M_isLetter_26 (post : Int → fS → aS → Prop) (y0 : Int) (f : fS) (a : aS) : Prop := (y0 = 0 ∨ y0 = 1) ∧ post y0 f a
set_option maxHeartbeats 4000000 in
set_option maxRecDepth 100000 in
theorem tb_M_isLetter_26 {p : Program} {l : Launch} {e : Env} {s : State} {m : MethodId} {args : Array Value} {below : List Frame} {meth : Method} {c : Code} {A : Nat → Prop} {D : va_G} {ad : Nat → Nat → Nat} {cA : Nat → Nat → ClassId} {post : Int → fS → aS → Prop} (hO : xOk cM_isLetter 2 RM (Cond.code yM_isLetter cM_isLetter 2 (some .boolean) :: xG) (some .boolean) p s m args meth c A D vwCl (taM cA)) : ∀ (y0 : Int) (f : fS) (a : aS), wb_M_isLetter_26 post y0 f a → gM_isLetter p l e s m args below meth c A D ad cA post f a [] 26 [.int (iI y0)] := by
  have hO9 := hO
  obtain ⟨hx, hb, hml, hown, hts, hr, hlk, hK, hN, hA⟩ := hO9
  intro y0 f a h
  unfold wb_M_isLetter_26 at h
  exact x_zret hx hb hr hlk hK dM_isLetter_26 h.1 h.2
def wb_M_isLetter_25 (post : Int → fS → aS → Prop) (f : fS) (a : aS) : Prop := wb_M_isLetter_26 post 0 f a
set_option maxHeartbeats 4000000 in
set_option maxRecDepth 100000 in
theorem tb_M_isLetter_25 {p : Program} {l : Launch} {e : Env} {s : State} {m : MethodId} {args : Array Value} {below : List Frame} {meth : Method} {c : Code} {A : Nat → Prop} {D : va_G} {ad : Nat → Nat → Nat} {cA : Nat → Nat → ClassId} {post : Int → fS → aS → Prop} (hO : xOk cM_isLetter 2 RM (Cond.code yM_isLetter cM_isLetter 2 (some .boolean) :: xG) (some .boolean) p s m args meth c A D vwCl (taM cA)) : ∀ (f : fS) (a : aS), wb_M_isLetter_25 post f a → gM_isLetter p l e s m args below meth c A D ad cA post f a [] 25 [] := by
  have hO9 := hO
  obtain ⟨hx, hb, hml, hown, hts, hr, hlk, hK, hN, hA⟩ := hO9
  intro f a h
  unfold wb_M_isLetter_25 at h
  refine x_iconst hx hb dM_isLetter_25 ?_
  exact tb_M_isLetter_26 hO 0 f a h
def wp_M_isLetter (post : Int → fS → aS → Prop) (x1 : Int) (f : fS) (a : aS) : Prop := ir x1 ∧ (((x1 = 0) → (wb_M_isLetter_25 post f a)) ∧ (¬ (x1 = 0) → (ir (-(f 0 0)) ∧ (((x1 < -(f 0 0)) → (wb_M_isLetter_25 post f a)) ∧ (¬ (x1 < -(f 0 0)) → (ir (f 0 0) ∧ (((f 0 0 < x1) → (wb_M_isLetter_25 post f a)) ∧ (¬ (f 0 0 < x1) → (wb_M_isLetter_26 post 1 f a)))))))))
set_option maxHeartbeats 4000000 in
set_option maxRecDepth 100000 in
theorem m_M_isLetter {l : Launch} {D : va_G} {ad : Nat → Nat → Nat} {cA : Nat → Nat → ClassId} {post : Int → fS → aS → Prop} {x1 : Int} {f : fS} {a : aS} (h : wp_M_isLetter post x1 f a) : xCI l yM_isLetter (Cond.code yM_isLetter cM_isLetter 2 (some .boolean) :: xG) rmM_isLetter D vwCl (taM cA) (MW ad cA f a) [.ref (ad 0 0), .int (iI x1)] (MW ad cA) post := by
  refine x_metI (cc := cM_isLetter) (nL := 2) (by decide) rfl (Nat.le_of_ble_eq_true rfl) ?_
  intro p e s m below meth c A hO
  have hO9 := hO
  obtain ⟨hx, hb, hml, hown, hts, hr, hlk, hK, hN, hA⟩ := hO9
  unfold wp_M_isLetter at h
  show gM_isLetter p l e s m _ below meth c A D ad cA post f a [(0, .ref (ad 0 0)), (1, .int (iI x1))] 0 []
  refine x_iload_n hx hb dM_isLetter_0 rfl 1 rfl ?_
  obtain ⟨hi1, h⟩ := h
  refine x_if_eq hx hb (tgt := 25) hi1  dM_isLetter_1 (by decide) (fun hc => ?_) (fun hc => ?_)
  · have h := h.1 hc
    refine x_sub [] rfl ?_
    exact tb_M_isLetter_25 hO f a h
  · have h := h.2 hc
    refine x_iload_n hx hb dM_isLetter_4 rfl 1 rfl ?_
    refine x_aload_n hx hb dM_isLetter_5 rfl 0 rfl ?_
    refine x_get hx hb hts (jnM _) hown hK _ (woM ad cA f a) rfl 0 (by decide) (hts _ (List.mem_cons_of_mem _ kfM_58)) (fun _ h9 => h9) (v := .int (iI (f 0 0))) (by rfl) dM_isLetter_6 ?_
    refine x_ineg hx hb dM_isLetter_9 ?_
    obtain ⟨hi2, h⟩ := h
    refine x_icmp_lt hx hb (tgt := 25) hi1 hi2 dM_isLetter_10 (by decide) (fun hc => ?_) (fun hc => ?_)
    · have h := h.1 hc
      refine x_sub [] rfl ?_
      exact tb_M_isLetter_25 hO f a h
    · have h := h.2 hc
      refine x_iload_n hx hb dM_isLetter_13 rfl 1 rfl ?_
      refine x_aload_n hx hb dM_isLetter_14 rfl 0 rfl ?_
      refine x_get hx hb hts (jnM _) hown hK _ (woM ad cA f a) rfl 0 (by decide) (hts _ (List.mem_cons_of_mem _ kfM_58)) (fun _ h9 => h9) (v := .int (iI (f 0 0))) (by rfl) dM_isLetter_15 ?_
      obtain ⟨hi3, h⟩ := h
      refine x_icmp_gt hx hb (tgt := 25) hi1 hi3 dM_isLetter_18 (by decide) (fun hc => ?_) (fun hc => ?_)
      · have h := h.1 hc
        refine x_sub [] rfl ?_
        exact tb_M_isLetter_25 hO f a h
      · have h := h.2 hc
        refine x_iconst hx hb dM_isLetter_21 ?_
        refine x_goto hx hb (tgt := 26) dM_isLetter_22 (by decide) ?_
        refine x_sub [] rfl ?_
        exact tb_M_isLetter_26 hO 1 f a h
-- M_isGroup
abbrev rmM_isGroup : Room := { frames := 0, cells := 0, slots := 0, locals := 0 }
abbrev gM_isGroup (p : Program) (l : Launch) (e : Env) (s : State) (m : MethodId) (args : Array Value) (below : List Frame) (meth : Method) (c : Code) (A : Nat → Prop) (D : va_G) (ad : Nat → Nat → Nat) (cA : Nat → Nat → ClassId) (post : Int → fS → aS → Prop) (f : fS) (a : aS) (lv : List (Nat × Value)) (pc : Nat) (st : List Value) : Prop := xV p l e rmM_isGroup s m args below meth c s.heap A 0 0 (xQI below D vwCl (taM cA) (MW ad cA) post A args s) D vwCl 1 (MW ad cA f a) lv pc st
def wb_M_isGroup_14 (post : Int → fS → aS → Prop) (y0 : Int) (f : fS) (a : aS) : Prop := (y0 = 0 ∨ y0 = 1) ∧ post y0 f a
set_option maxHeartbeats 4000000 in
set_option maxRecDepth 100000 in
theorem tb_M_isGroup_14 {p : Program} {l : Launch} {e : Env} {s : State} {m : MethodId} {args : Array Value} {below : List Frame} {meth : Method} {c : Code} {A : Nat → Prop} {D : va_G} {ad : Nat → Nat → Nat} {cA : Nat → Nat → ClassId} {post : Int → fS → aS → Prop} (hO : xOk cM_isGroup 1 RM (Cond.code yM_isGroup cM_isGroup 1 (some .boolean) :: xG) (some .boolean) p s m args meth c A D vwCl (taM cA)) : ∀ (y0 : Int) (f : fS) (a : aS), wb_M_isGroup_14 post y0 f a → gM_isGroup p l e s m args below meth c A D ad cA post f a [] 14 [.int (iI y0)] := by
  have hO9 := hO
  obtain ⟨hx, hb, hml, hown, hts, hr, hlk, hK, hN, hA⟩ := hO9
  intro y0 f a h
  unfold wb_M_isGroup_14 at h
  exact x_zret hx hb hr hlk hK dM_isGroup_14 h.1 h.2
def wb_M_isGroup_13 (post : Int → fS → aS → Prop) (f : fS) (a : aS) : Prop := wb_M_isGroup_14 post 0 f a
set_option maxHeartbeats 4000000 in
set_option maxRecDepth 100000 in
theorem tb_M_isGroup_13 {p : Program} {l : Launch} {e : Env} {s : State} {m : MethodId} {args : Array Value} {below : List Frame} {meth : Method} {c : Code} {A : Nat → Prop} {D : va_G} {ad : Nat → Nat → Nat} {cA : Nat → Nat → ClassId} {post : Int → fS → aS → Prop} (hO : xOk cM_isGroup 1 RM (Cond.code yM_isGroup cM_isGroup 1 (some .boolean) :: xG) (some .boolean) p s m args meth c A D vwCl (taM cA)) : ∀ (f : fS) (a : aS), wb_M_isGroup_13 post f a → gM_isGroup p l e s m args below meth c A D ad cA post f a [] 13 [] := by
  have hO9 := hO
  obtain ⟨hx, hb, hml, hown, hts, hr, hlk, hK, hN, hA⟩ := hO9
  intro f a h
  unfold wb_M_isGroup_13 at h
  refine x_iconst hx hb dM_isGroup_13 ?_
  exact tb_M_isGroup_14 hO 0 f a h
def wp_M_isGroup (post : Int → fS → aS → Prop) (x0 : Int) (f : fS) (a : aS) : Prop := ir x0 ∧ (((x0 < 0) → (wb_M_isGroup_13 post f a)) ∧ (¬ (x0 < 0) → (((4 ≤ x0) → (wb_M_isGroup_13 post f a)) ∧ (¬ (4 ≤ x0) → (wb_M_isGroup_14 post 1 f a)))))
set_option maxHeartbeats 4000000 in
set_option maxRecDepth 100000 in
theorem m_M_isGroup {l : Launch} {D : va_G} {ad : Nat → Nat → Nat} {cA : Nat → Nat → ClassId} {post : Int → fS → aS → Prop} {x0 : Int} {f : fS} {a : aS} (h : wp_M_isGroup post x0 f a) : xCI l yM_isGroup (Cond.code yM_isGroup cM_isGroup 1 (some .boolean) :: xG) rmM_isGroup D vwCl (taM cA) (MW ad cA f a) [.int (iI x0)] (MW ad cA) post := by
  refine x_metI (cc := cM_isGroup) (nL := 1) (by decide) rfl (Nat.le_of_ble_eq_true rfl) ?_
  intro p e s m below meth c A hO
  have hO9 := hO
  obtain ⟨hx, hb, hml, hown, hts, hr, hlk, hK, hN, hA⟩ := hO9
  unfold wp_M_isGroup at h
  show gM_isGroup p l e s m _ below meth c A D ad cA post f a [(0, .int (iI x0))] 0 []
  refine x_iload_n hx hb dM_isGroup_0 rfl 0 rfl ?_
  obtain ⟨hi1, h⟩ := h
  refine x_if_lt hx hb (tgt := 13) hi1  dM_isGroup_1 (by decide) (fun hc => ?_) (fun hc => ?_)
  · have h := h.1 hc
    refine x_sub [] rfl ?_
    exact tb_M_isGroup_13 hO f a h
  · have h := h.2 hc
    refine x_iload_n hx hb dM_isGroup_4 rfl 0 rfl ?_
    refine x_iconst hx hb dM_isGroup_5 ?_
    refine x_icmp_ge hx hb (tgt := 13) hi1 (by decide) dM_isGroup_6 (by decide) (fun hc => ?_) (fun hc => ?_)
    · have h := h.1 hc
      refine x_sub [] rfl ?_
      exact tb_M_isGroup_13 hO f a h
    · have h := h.2 hc
      refine x_iconst hx hb dM_isGroup_9 ?_
      refine x_goto hx hb (tgt := 14) dM_isGroup_10 (by decide) ?_
      refine x_sub [] rfl ?_
      exact tb_M_isGroup_14 hO 1 f a h
-- M_numberOf
abbrev rmM_numberOf : Room := { frames := 0, cells := 0, slots := 0, locals := 0 }
abbrev gM_numberOf (p : Program) (l : Launch) (e : Env) (s : State) (m : MethodId) (args : Array Value) (below : List Frame) (meth : Method) (c : Code) (A : Nat → Prop) (D : va_G) (ad : Nat → Nat → Nat) (cA : Nat → Nat → ClassId) (post : Int → fS → aS → Prop) (f : fS) (a : aS) (lv : List (Nat × Value)) (pc : Nat) (st : List Value) : Prop := xV p l e rmM_numberOf s m args below meth c s.heap A 0 0 (xQI below D vwCl (taM cA) (MW ad cA) post A args s) D vwCl 1 (MW ad cA f a) lv pc st
def wb_M_numberOf_18 (post : Int → fS → aS → Prop) (y0 : Int) (f : fS) (a : aS) : Prop := post y0 f a
set_option maxHeartbeats 4000000 in
set_option maxRecDepth 100000 in
theorem tb_M_numberOf_18 {p : Program} {l : Launch} {e : Env} {s : State} {m : MethodId} {args : Array Value} {below : List Frame} {meth : Method} {c : Code} {A : Nat → Prop} {D : va_G} {ad : Nat → Nat → Nat} {cA : Nat → Nat → ClassId} {post : Int → fS → aS → Prop} (hO : xOk cM_numberOf 1 RM (Cond.code yM_numberOf cM_numberOf 1 (some .int) :: xG) (some .int) p s m args meth c A D vwCl (taM cA)) : ∀ (y0 : Int) (f : fS) (a : aS), wb_M_numberOf_18 post y0 f a → gM_numberOf p l e s m args below meth c A D ad cA post f a [] 18 [.int (iI y0)] := by
  have hO9 := hO
  obtain ⟨hx, hb, hml, hown, hts, hr, hlk, hK, hN, hA⟩ := hO9
  intro y0 f a h
  unfold wb_M_numberOf_18 at h
  exact x_iret hx hb hr hlk hK dM_numberOf_18 h
def wp_M_numberOf (post : Int → fS → aS → Prop) (x0 : Int) (f : fS) (a : aS) : Prop := ir x0 ∧ (((x0 ≤ 0) → (wb_M_numberOf_18 post (((-2) * x0) - 1) f a)) ∧ (¬ (x0 ≤ 0) → (wb_M_numberOf_18 post ((2 * x0) - 2) f a)))
set_option maxHeartbeats 4000000 in
set_option maxRecDepth 100000 in
theorem m_M_numberOf {l : Launch} {D : va_G} {ad : Nat → Nat → Nat} {cA : Nat → Nat → ClassId} {post : Int → fS → aS → Prop} {x0 : Int} {f : fS} {a : aS} (h : wp_M_numberOf post x0 f a) : xCI l yM_numberOf (Cond.code yM_numberOf cM_numberOf 1 (some .int) :: xG) rmM_numberOf D vwCl (taM cA) (MW ad cA f a) [.int (iI x0)] (MW ad cA) post := by
  refine x_metI (cc := cM_numberOf) (nL := 1) (by decide) rfl (Nat.le_of_ble_eq_true rfl) ?_
  intro p e s m below meth c A hO
  have hO9 := hO
  obtain ⟨hx, hb, hml, hown, hts, hr, hlk, hK, hN, hA⟩ := hO9
  unfold wp_M_numberOf at h
  show gM_numberOf p l e s m _ below meth c A D ad cA post f a [(0, .int (iI x0))] 0 []
  refine x_iload_n hx hb dM_numberOf_0 rfl 0 rfl ?_
  obtain ⟨hi1, h⟩ := h
  refine x_if_le hx hb (tgt := 12) hi1  dM_numberOf_1 (by decide) (fun hc => ?_) (fun hc => ?_)
  · have h := h.1 hc
    refine x_bipush hx hb dM_numberOf_12 (by decide) ?_
    refine x_iload_n hx hb dM_numberOf_14 rfl 0 rfl ?_
    refine x_imul hx hb dM_numberOf_15 ?_
    refine x_iconst hx hb dM_numberOf_16 ?_
    refine x_isub hx hb dM_numberOf_17 ?_
    refine x_sub [] rfl ?_
    exact tb_M_numberOf_18 hO (((-2) * x0) - 1) f a h
  · have h := h.2 hc
    refine x_iconst hx hb dM_numberOf_4 ?_
    refine x_iload_n hx hb dM_numberOf_5 rfl 0 rfl ?_
    refine x_imul hx hb dM_numberOf_6 ?_
    refine x_iconst hx hb dM_numberOf_7 ?_
    refine x_isub hx hb dM_numberOf_8 ?_
    refine x_goto hx hb (tgt := 18) dM_numberOf_9 (by decide) ?_
    refine x_sub [] rfl ?_
    exact tb_M_numberOf_18 hO ((2 * x0) - 2) f a h
-- M_letterOf
abbrev rmM_letterOf : Room := { frames := 0, cells := 0, slots := 0, locals := 0 }
abbrev gM_letterOf (p : Program) (l : Launch) (e : Env) (s : State) (m : MethodId) (args : Array Value) (below : List Frame) (meth : Method) (c : Code) (A : Nat → Prop) (D : va_G) (ad : Nat → Nat → Nat) (cA : Nat → Nat → ClassId) (post : Int → fS → aS → Prop) (f : fS) (a : aS) (lv : List (Nat × Value)) (pc : Nat) (st : List Value) : Prop := xV p l e rmM_letterOf s m args below meth c s.heap A 0 0 (xQI below D vwCl (taM cA) (MW ad cA) post A args s) D vwCl 1 (MW ad cA f a) lv pc st
def wb_M_letterOf_20 (post : Int → fS → aS → Prop) (y0 : Int) (f : fS) (a : aS) : Prop := post y0 f a
set_option maxHeartbeats 4000000 in
set_option maxRecDepth 100000 in
theorem tb_M_letterOf_20 {p : Program} {l : Launch} {e : Env} {s : State} {m : MethodId} {args : Array Value} {below : List Frame} {meth : Method} {c : Code} {A : Nat → Prop} {D : va_G} {ad : Nat → Nat → Nat} {cA : Nat → Nat → ClassId} {post : Int → fS → aS → Prop} (hO : xOk cM_letterOf 1 RM (Cond.code yM_letterOf cM_letterOf 1 (some .int) :: xG) (some .int) p s m args meth c A D vwCl (taM cA)) : ∀ (y0 : Int) (f : fS) (a : aS), wb_M_letterOf_20 post y0 f a → gM_letterOf p l e s m args below meth c A D ad cA post f a [] 20 [.int (iI y0)] := by
  have hO9 := hO
  obtain ⟨hx, hb, hml, hown, hts, hr, hlk, hK, hN, hA⟩ := hO9
  intro y0 f a h
  unfold wb_M_letterOf_20 at h
  exact x_iret hx hb hr hlk hK dM_letterOf_20 h
def wp_M_letterOf (post : Int → fS → aS → Prop) (x0 : Int) (f : fS) (a : aS) : Prop := (0 ≤ x0 ∧ x0 ≤ 2147483647) ∧ (ir (x0 % 2) ∧ (((¬ x0 % 2 = 0) → (wb_M_letterOf_20 post ((-(x0 / 2)) - 1) f a)) ∧ (¬ (¬ x0 % 2 = 0) → (wb_M_letterOf_20 post ((x0 / 2) + 1) f a))))
set_option maxHeartbeats 4000000 in
set_option maxRecDepth 100000 in
theorem m_M_letterOf {l : Launch} {D : va_G} {ad : Nat → Nat → Nat} {cA : Nat → Nat → ClassId} {post : Int → fS → aS → Prop} {x0 : Int} {f : fS} {a : aS} (h : wp_M_letterOf post x0 f a) : xCI l yM_letterOf (Cond.code yM_letterOf cM_letterOf 1 (some .int) :: xG) rmM_letterOf D vwCl (taM cA) (MW ad cA f a) [.int (iI x0)] (MW ad cA) post := by
  refine x_metI (cc := cM_letterOf) (nL := 1) (by decide) rfl (Nat.le_of_ble_eq_true rfl) ?_
  intro p e s m below meth c A hO
  have hO9 := hO
  obtain ⟨hx, hb, hml, hown, hts, hr, hlk, hK, hN, hA⟩ := hO9
  unfold wp_M_letterOf at h
  show gM_letterOf p l e s m _ below meth c A D ad cA post f a [(0, .int (iI x0))] 0 []
  refine x_iload_n hx hb dM_letterOf_0 rfl 0 rfl ?_
  refine x_iconst hx hb dM_letterOf_1 ?_
  obtain ⟨hn1, h⟩ := h
  refine x_irem hx hb hn1.1 hn1.2 (by decide) (by decide) dM_letterOf_2 ?_
  obtain ⟨hi2, h⟩ := h
  refine x_if_ne hx hb (tgt := 14) hi2  dM_letterOf_3 (by decide) (fun hc => ?_) (fun hc => ?_)
  · have h := h.1 hc
    refine x_iload_n hx hb dM_letterOf_14 rfl 0 rfl ?_
    refine x_iconst hx hb dM_letterOf_15 ?_
    refine x_idiv hx hb hn1.1 hn1.2 (by decide) (by decide) dM_letterOf_16 ?_
    refine x_ineg hx hb dM_letterOf_17 ?_
    refine x_iconst hx hb dM_letterOf_18 ?_
    refine x_isub hx hb dM_letterOf_19 ?_
    refine x_sub [] rfl ?_
    exact tb_M_letterOf_20 hO ((-(x0 / 2)) - 1) f a h
  · have h := h.2 hc
    refine x_iload_n hx hb dM_letterOf_6 rfl 0 rfl ?_
    refine x_iconst hx hb dM_letterOf_7 ?_
    refine x_idiv hx hb hn1.1 hn1.2 (by decide) (by decide) dM_letterOf_8 ?_
    refine x_iconst hx hb dM_letterOf_9 ?_
    refine x_iadd hx hb dM_letterOf_10 ?_
    refine x_goto hx hb (tgt := 20) dM_letterOf_11 (by decide) ?_
    refine x_sub [] rfl ?_
    exact tb_M_letterOf_20 hO ((x0 / 2) + 1) f a h
-- M_way
abbrev rmM_way : Room := { frames := 0, cells := 0, slots := 0, locals := 0 }
abbrev gM_way (p : Program) (l : Launch) (e : Env) (s : State) (m : MethodId) (args : Array Value) (below : List Frame) (meth : Method) (c : Code) (A : Nat → Prop) (D : va_G) (ad : Nat → Nat → Nat) (cA : Nat → Nat → ClassId) (post : Int → fS → aS → Prop) (f : fS) (a : aS) (lv : List (Nat × Value)) (pc : Nat) (st : List Value) : Prop := xV p l e rmM_way s m args below meth c s.heap A 0 0 (xQI below D vwCl (taM cA) (MW ad cA) post A args s) D vwCl 4 (MW ad cA f a) lv pc st
def wp_M_way (post : Int → fS → aS → Prop) (x1 : Int) (x2 : Int) (x3 : Int) (f : fS) (a : aS) : Prop := (0 ≤ ((384 * x1) + (6 * x2)) + x3 ∧ ((384 * x1) + (6 * x2)) + x3 < 1536) ∧ (post (a 0 4 (Int.toNat (((384 * x1) + (6 * x2)) + x3))) f a)
set_option maxHeartbeats 4000000 in
set_option maxRecDepth 100000 in
theorem m_M_way {l : Launch} {D : va_G} {ad : Nat → Nat → Nat} {cA : Nat → Nat → ClassId} {post : Int → fS → aS → Prop} {x1 : Int} {x2 : Int} {x3 : Int} {f : fS} {a : aS} (h : wp_M_way post x1 x2 x3 f a) : xCI l yM_way (Cond.code yM_way cM_way 4 (some .int) :: xG) rmM_way D vwCl (taM cA) (MW ad cA f a) [.ref (ad 0 0), .int (iI x1), .int (iI x2), .int (iI x3)] (MW ad cA) post := by
  refine x_metI (cc := cM_way) (nL := 4) (by decide) rfl (Nat.le_of_ble_eq_true rfl) ?_
  intro p e s m below meth c A hO
  have hO9 := hO
  obtain ⟨hx, hb, hml, hown, hts, hr, hlk, hK, hN, hA⟩ := hO9
  unfold wp_M_way at h
  show gM_way p l e s m _ below meth c A D ad cA post f a [(0, .ref (ad 0 0)), (1, .int (iI x1)), (2, .int (iI x2)), (3, .int (iI x3))] 0 []
  refine x_aload_n hx hb dM_way_0 rfl 0 rfl ?_
  refine x_get hx hb hts (jnM _) hown hK _ (woM ad cA f a) rfl 4 (by decide) (hts _ (List.mem_cons_of_mem _ kfM_16)) (fun _ h9 => h9) (v := .ref (ad 0 5)) (by rfl) dM_way_1 ?_
  refine x_sipush hx hb dM_way_4 (by decide) ?_
  refine x_iload_n hx hb dM_way_7 rfl 1 rfl ?_
  refine x_imul hx hb dM_way_8 ?_
  refine x_bipush hx hb dM_way_9 (by decide) ?_
  refine x_iload_n hx hb dM_way_11 rfl 2 rfl ?_
  refine x_imul hx hb dM_way_12 ?_
  refine x_iadd hx hb dM_way_13 ?_
  refine x_iload_n hx hb dM_way_14 rfl 3 rfl ?_
  refine x_iadd hx hb dM_way_15 ?_
  obtain ⟨hj1, h⟩ := h
  refine x_iald hx hb hK _ _ (wa4M ad cA f a) (wt4M cA) hj1.1 hj1.2 (by decide) dM_way_16 ?_
  exact x_iret hx hb hr hlk hK dM_way_17 h
-- M_letter
abbrev rmM_letter : Room := { frames := 1, cells := 0, slots := 0, locals := 21 }
abbrev gM_letter (p : Program) (l : Launch) (e : Env) (s : State) (m : MethodId) (args : Array Value) (below : List Frame) (meth : Method) (c : Code) (A : Nat → Prop) (D : va_G) (ad : Nat → Nat → Nat) (cA : Nat → Nat → ClassId) (post : Int → fS → aS → Prop) (f : fS) (a : aS) (lv : List (Nat × Value)) (pc : Nat) (st : List Value) : Prop := xV p l e rmM_letter s m args below meth c s.heap A 0 0 (xQI below D vwCl (taM cA) (MW ad cA) post A args s) D vwCl 2 (MW ad cA f a) lv pc st
def wb_M_letter_48 (post : Int → fS → aS → Prop) (x1 : Int) (f : fS) (a : aS) : Prop := ir (f 0 1) ∧ (((¬ f 0 1 = 24) → ((0 ≤ f 0 1 ∧ f 0 1 < 24) ∧ (post ((f 0 1) + 1) (setF f 0 1 ((f 0 1) + 1)) (setA a 0 2 (va_up (a 0 2) (Int.toNat (f 0 1)) x1))))) ∧ (¬ (¬ f 0 1 = 24) → (post (-2) f a)))
set_option maxHeartbeats 4000000 in
set_option maxRecDepth 100000 in
theorem tb_M_letter_48 {p : Program} {l : Launch} {e : Env} {s : State} {m : MethodId} {args : Array Value} {below : List Frame} {meth : Method} {c : Code} {A : Nat → Prop} {D : va_G} {ad : Nat → Nat → Nat} {cA : Nat → Nat → ClassId} {post : Int → fS → aS → Prop} (hO : xOk cM_letter 2 RM (Cond.code yM_letter cM_letter 2 (some .int) :: xG) (some .int) p s m args meth c A D vwCl (taM cA)) : ∀ (x1 : Int) (f : fS) (a : aS), wb_M_letter_48 post x1 f a → gM_letter p l e s m args below meth c A D ad cA post f a [(0, .ref (ad 0 0)), (1, .int (iI x1))] 48 [] := by
  have hO9 := hO
  obtain ⟨hx, hb, hml, hown, hts, hr, hlk, hK, hN, hA⟩ := hO9
  intro x1 f a h
  unfold wb_M_letter_48 at h
  refine x_aload_n hx hb dM_letter_48 rfl 0 rfl ?_
  refine x_get hx hb hts (jnM _) hown hK _ (woM ad cA f a) rfl 1 (by decide) (hts _ (List.mem_cons_of_mem _ kfM_66)) (fun _ h9 => h9) (v := .int (iI (f 0 1))) (by rfl) dM_letter_49 ?_
  refine x_bipush hx hb dM_letter_52 (by decide) ?_
  obtain ⟨hi9, h⟩ := h
  refine x_icmp_ne hx hb (tgt := 60) hi9 (by decide) dM_letter_54 (by decide) (fun hc => ?_) (fun hc => ?_)
  · have h := h.1 hc
    refine x_aload_n hx hb dM_letter_60 rfl 0 rfl ?_
    refine x_get hx hb hts (jnM _) hown hK _ (woM ad cA f a) rfl 2 (by decide) (hts _ (List.mem_cons_of_mem _ kfM_7)) (fun _ h9 => h9) (v := .ref (ad 0 3)) (by rfl) dM_letter_61 ?_
    refine x_aload_n hx hb dM_letter_64 rfl 0 rfl ?_
    refine x_get hx hb hts (jnM _) hown hK _ (woM ad cA f a) rfl 1 (by decide) (hts _ (List.mem_cons_of_mem _ kfM_66)) (fun _ h9 => h9) (v := .int (iI (f 0 1))) (by rfl) dM_letter_65 ?_
    refine x_iload_n hx hb dM_letter_68 rfl 1 rfl ?_
    obtain ⟨hj10, h⟩ := h
    refine x_iast hx hb hK _ _ (wa2M ad cA f a) (wt2M cA) hj10.1 hj10.2 (by decide) dM_letter_69 (ws2M ad cA f a (va_up (a 0 2) (Int.toNat (f 0 1)) x1)) ?_
    refine x_aload_n hx hb dM_letter_70 rfl 0 rfl ?_
    refine x_dup hx hb rfl dM_letter_71 ?_
    refine x_get hx hb hts (jnM _) hown hK _ (woM ad cA f (setA a 0 2 (va_up (a 0 2) (Int.toNat (f 0 1)) x1))) rfl 1 (by decide) (hts _ (List.mem_cons_of_mem _ kfM_66)) (fun _ h9 => h9) (v := .int (iI (f 0 1))) (by rfl) dM_letter_72 ?_
    refine x_iconst hx hb dM_letter_75 ?_
    refine x_iadd hx hb dM_letter_76 ?_
    refine x_put hx hb hts (jnM _) tyM tkM nmM hown hK _ (woM ad cA f (setA a 0 2 (va_up (a 0 2) (Int.toNat (f 0 1)) x1))) rfl 1 (by decide) (hts _ (List.mem_cons_of_mem _ kfM_66)) (fun _ h9 => h9) rfl (by decide +kernel) (Nat.le_of_ble_eq_true rfl) dM_letter_77 (wf1M ad cA f (setA a 0 2 (va_up (a 0 2) (Int.toNat (f 0 1)) x1)) ((f 0 1) + 1)) ?_
    refine x_aload_n hx hb dM_letter_80 rfl 0 rfl ?_
    refine x_get hx hb hts (jnM _) hown hK _ (woM ad cA (setF f 0 1 ((f 0 1) + 1)) (setA a 0 2 (va_up (a 0 2) (Int.toNat (f 0 1)) x1))) rfl 1 (by decide) (hts _ (List.mem_cons_of_mem _ kfM_66)) (fun _ h9 => h9) (v := .int (iI ((setF f 0 1 ((f 0 1) + 1)) 0 1))) (by rfl) dM_letter_81 ?_
    refine x_eqi (setF_s f 0 1 ((f 0 1) + 1)) ?_
    exact x_iret hx hb hr hlk hK dM_letter_84 h
  · have h := h.2 hc
    refine x_bipush hx hb dM_letter_57 (by decide) ?_
    exact x_iret hx hb hr hlk hK dM_letter_59 h
def wp_M_letter (post : Int → fS → aS → Prop) (x1 : Int) (f : fS) (a : aS) : Prop := wp_M_isLetter (fun z1 f2 a3 => ir z1 ∧ (((¬ z1 = 0) → (ir (f2 0 1) ∧ (((f2 0 1 ≤ 0) → (wb_M_letter_48 post x1 f2 a3)) ∧ (¬ (f2 0 1 ≤ 0) → ((0 ≤ (f2 0 1) - 1 ∧ (f2 0 1) - 1 < 24) ∧ (ir ((a3 0 2) (Int.toNat ((f2 0 1) - 1))) ∧ (ir (-x1) ∧ (((¬ (a3 0 2) (Int.toNat ((f2 0 1) - 1)) = -x1) → (wb_M_letter_48 post x1 f2 a3)) ∧ (¬ (¬ (a3 0 2) (Int.toNat ((f2 0 1) - 1)) = -x1) → (post ((f2 0 1) - 1) (setF f2 0 1 ((f2 0 1) - 1)) a3)))))))))) ∧ (¬ (¬ z1 = 0) → (post (-1) f2 a3)))) x1 f a
set_option maxHeartbeats 4000000 in
set_option maxRecDepth 100000 in
theorem m_M_letter {l : Launch} {D : va_G} {ad : Nat → Nat → Nat} {cA : Nat → Nat → ClassId} {post : Int → fS → aS → Prop} {x1 : Int} {f : fS} {a : aS} (h : wp_M_letter post x1 f a) : xCI l yM_letter (Cond.code yM_letter cM_letter 2 (some .int) :: xG) rmM_letter D vwCl (taM cA) (MW ad cA f a) [.ref (ad 0 0), .int (iI x1)] (MW ad cA) post := by
  refine x_metI (cc := cM_letter) (nL := 2) (by decide) rfl (Nat.le_of_ble_eq_true rfl) ?_
  intro p e s m below meth c A hO
  have hO9 := hO
  obtain ⟨hx, hb, hml, hown, hts, hr, hlk, hK, hN, hA⟩ := hO9
  unfold wp_M_letter at h
  show gM_letter p l e s m _ below meth c A D ad cA post f a [(0, .ref (ad 0 0)), (1, .int (iI x1))] 0 []
  refine x_aload_n hx hb dM_letter_0 rfl 0 rfl ?_
  refine x_iload_n hx hb dM_letter_1 rfl 1 rfl ?_
  refine x_cVi (n := 1) (st := []) (As := [.int (iI x1)]) ⟨hx, hb, hml, hown, hts⟩ hK hN (m_M_isLetter h) (x_cwV hts rfl rfl kcM_isLetter knM klM_62 kiM_isLetter keM_isLetter ⟨by decide, by decide, by decide +kernel⟩ ⟨by decide, by decide⟩) _ (woM ad cA f a) rfl hA rfl (Nat.le_of_ble_eq_true rfl) ⟨Nat.zero_le _, Nat.zero_le _⟩ rfl dM_letter_2 (fun z1 f2 a3 h => ?_)
  obtain ⟨hi4, h⟩ := h
  refine x_if_ne hx hb (tgt := 10) hi4  dM_letter_5 (by decide) (fun hc => ?_) (fun hc => ?_)
  · have h := h.1 hc
    refine x_aload_n hx hb dM_letter_10 rfl 0 rfl ?_
    refine x_get hx hb hts (jnM _) hown hK _ (woM ad cA f2 a3) rfl 1 (by decide) (hts _ (List.mem_cons_of_mem _ kfM_66)) (fun _ h9 => h9) (v := .int (iI (f2 0 1))) (by rfl) dM_letter_11 ?_
    obtain ⟨hi5, h⟩ := h
    refine x_if_le hx hb (tgt := 48) hi5  dM_letter_14 (by decide) (fun hc => ?_) (fun hc => ?_)
    · have h := h.1 hc
      exact tb_M_letter_48 hO x1 f2 a3 h
    · have h := h.2 hc
      refine x_aload_n hx hb dM_letter_17 rfl 0 rfl ?_
      refine x_get hx hb hts (jnM _) hown hK _ (woM ad cA f2 a3) rfl 2 (by decide) (hts _ (List.mem_cons_of_mem _ kfM_7)) (fun _ h9 => h9) (v := .ref (ad 0 3)) (by rfl) dM_letter_18 ?_
      refine x_aload_n hx hb dM_letter_21 rfl 0 rfl ?_
      refine x_get hx hb hts (jnM _) hown hK _ (woM ad cA f2 a3) rfl 1 (by decide) (hts _ (List.mem_cons_of_mem _ kfM_66)) (fun _ h9 => h9) (v := .int (iI (f2 0 1))) (by rfl) dM_letter_22 ?_
      refine x_iconst hx hb dM_letter_25 ?_
      refine x_isub hx hb dM_letter_26 ?_
      obtain ⟨hj6, h⟩ := h
      refine x_iald hx hb hK _ _ (wa2M ad cA f2 a3) (wt2M cA) hj6.1 hj6.2 (by decide) dM_letter_27 ?_
      refine x_iload_n hx hb dM_letter_28 rfl 1 rfl ?_
      refine x_ineg hx hb dM_letter_29 ?_
      obtain ⟨hi7, h⟩ := h
      obtain ⟨hi8, h⟩ := h
      refine x_icmp_ne hx hb (tgt := 48) hi7 hi8 dM_letter_30 (by decide) (fun hc => ?_) (fun hc => ?_)
      · have h := h.1 hc
        exact tb_M_letter_48 hO x1 f2 a3 h
      · have h := h.2 hc
        refine x_aload_n hx hb dM_letter_33 rfl 0 rfl ?_
        refine x_dup hx hb rfl dM_letter_34 ?_
        refine x_get hx hb hts (jnM _) hown hK _ (woM ad cA f2 a3) rfl 1 (by decide) (hts _ (List.mem_cons_of_mem _ kfM_66)) (fun _ h9 => h9) (v := .int (iI (f2 0 1))) (by rfl) dM_letter_35 ?_
        refine x_iconst hx hb dM_letter_38 ?_
        refine x_isub hx hb dM_letter_39 ?_
        refine x_put hx hb hts (jnM _) tyM tkM nmM hown hK _ (woM ad cA f2 a3) rfl 1 (by decide) (hts _ (List.mem_cons_of_mem _ kfM_66)) (fun _ h9 => h9) rfl (by decide +kernel) (Nat.le_of_ble_eq_true rfl) dM_letter_40 (wf1M ad cA f2 a3 ((f2 0 1) - 1)) ?_
        refine x_aload_n hx hb dM_letter_43 rfl 0 rfl ?_
        refine x_get hx hb hts (jnM _) hown hK _ (woM ad cA (setF f2 0 1 ((f2 0 1) - 1)) a3) rfl 1 (by decide) (hts _ (List.mem_cons_of_mem _ kfM_66)) (fun _ h9 => h9) (v := .int (iI ((setF f2 0 1 ((f2 0 1) - 1)) 0 1))) (by rfl) dM_letter_44 ?_
        refine x_eqi (setF_s f2 0 1 ((f2 0 1) - 1)) ?_
        exact x_iret hx hb hr hlk hK dM_letter_47 h
  · have h := h.2 hc
    refine x_iconst hx hb dM_letter_8 ?_
    exact x_iret hx hb hr hlk hK dM_letter_9 h
-- M_clear
abbrev rmM_clear : Room := { frames := 0, cells := 0, slots := 0, locals := 0 }
abbrev gM_clear (p : Program) (l : Launch) (e : Env) (s : State) (m : MethodId) (args : Array Value) (below : List Frame) (meth : Method) (c : Code) (A : Nat → Prop) (D : va_G) (ad : Nat → Nat → Nat) (cA : Nat → Nat → ClassId) (post : Int → fS → aS → Prop) (f : fS) (a : aS) (lv : List (Nat × Value)) (pc : Nat) (st : List Value) : Prop := xV p l e rmM_clear s m args below meth c s.heap A 0 0 (xQI below D vwCl (taM cA) (MW ad cA) post A args s) D vwCl 2 (MW ad cA f a) lv pc st
def wp_M_clear (post : Int → fS → aS → Prop) (f : fS) (a : aS) : Prop := ∀ t1 : Int, t1 = f 0 1 → (post t1 (setF f 0 1 0) a)
set_option maxHeartbeats 4000000 in
set_option maxRecDepth 100000 in
theorem m_M_clear {l : Launch} {D : va_G} {ad : Nat → Nat → Nat} {cA : Nat → Nat → ClassId} {post : Int → fS → aS → Prop} {f : fS} {a : aS} (h : wp_M_clear post  f a) : xCI l yM_clear (Cond.code yM_clear cM_clear 2 (some .int) :: xG) rmM_clear D vwCl (taM cA) (MW ad cA f a) [.ref (ad 0 0)] (MW ad cA) post := by
  refine x_metI (cc := cM_clear) (nL := 2) (by decide) rfl (Nat.le_of_ble_eq_true rfl) ?_
  intro p e s m below meth c A hO
  have hO9 := hO
  obtain ⟨hx, hb, hml, hown, hts, hr, hlk, hK, hN, hA⟩ := hO9
  unfold wp_M_clear at h
  show gM_clear p l e s m _ below meth c A D ad cA post f a [(0, .ref (ad 0 0))] 0 []
  refine x_aload_n hx hb dM_clear_0 rfl 0 rfl ?_
  refine x_get hx hb hts (jnM _) hown hK _ (woM ad cA f a) rfl 1 (by decide) (hts _ (List.mem_cons_of_mem _ kfM_66)) (fun _ h9 => h9) (v := .int (iI (f 0 1))) (by rfl) dM_clear_1 ?_
  refine x_topi (fun t1 et1 => ?_)
  have h := h t1 et1
  refine x_istore_n hx hb dM_clear_4 rfl (by decide) (lv' := [(1, .int (iI t1)), (0, .ref (ad 0 0))]) rfl ?_
  refine x_aload_n hx hb dM_clear_5 rfl 1 rfl ?_
  refine x_iconst hx hb dM_clear_6 ?_
  refine x_put hx hb hts (jnM _) tyM tkM nmM hown hK _ (woM ad cA f a) rfl 1 (by decide) (hts _ (List.mem_cons_of_mem _ kfM_66)) (fun _ h9 => h9) rfl (by decide +kernel) (Nat.le_of_ble_eq_true rfl) dM_clear_7 (wf1M ad cA f a 0) ?_
  refine x_iload_n hx hb dM_clear_10 rfl 0 rfl ?_
  exact x_iret hx hb hr hlk hK dM_clear_11 h
-- M_invert
abbrev rmM_invert : Room := { frames := 0, cells := 0, slots := 0, locals := 0 }
abbrev gM_invert (p : Program) (l : Launch) (e : Env) (s : State) (m : MethodId) (args : Array Value) (below : List Frame) (meth : Method) (c : Code) (A : Nat → Prop) (D : va_G) (ad : Nat → Nat → Nat) (cA : Nat → Nat → ClassId) (post : Int → fS → aS → Prop) (f : fS) (a : aS) (lv : List (Nat × Value)) (pc : Nat) (st : List Value) : Prop := xV p l e rmM_invert s m args below meth c s.heap A 0 0 (xQI below D vwCl (taM cA) (MW ad cA) post A args s) D vwCl 2 (MW ad cA f a) lv pc st
def wb_M_invert_38 (post : Int → fS → aS → Prop) : Nat → Int → fS → aS → Prop
  | 0, _, _, _ => False
  | n + 1, x1, f, a => ir x1 ∧ (ir (f 0 1) ∧ (((f 0 1 ≤ x1) → (post (f 0 1) f a)) ∧ (¬ (f 0 1 ≤ x1) → ((0 ≤ x1 ∧ x1 < 132) ∧ ((0 ≤ x1 ∧ x1 < 24) ∧ (wb_M_invert_38 post n (x1 + 1) f (setA a 0 2 (va_up (a 0 2) (Int.toNat x1) (a 0 24 (Int.toNat x1))))))))))
set_option maxHeartbeats 4000000 in
set_option maxRecDepth 100000 in
theorem tb_M_invert_38 {p : Program} {l : Launch} {e : Env} {s : State} {m : MethodId} {args : Array Value} {below : List Frame} {meth : Method} {c : Code} {A : Nat → Prop} {D : va_G} {ad : Nat → Nat → Nat} {cA : Nat → Nat → ClassId} {post : Int → fS → aS → Prop} (hO : xOk cM_invert 2 RM (Cond.code yM_invert cM_invert 2 (some .int) :: xG) (some .int) p s m args meth c A D vwCl (taM cA)) : ∀ (n : Nat) (x1 : Int) (f : fS) (a : aS), wb_M_invert_38 post n x1 f a → gM_invert p l e s m args below meth c A D ad cA post f a [(0, .ref (ad 0 0)), (1, .int (iI x1))] 38 [] := by
  have hO9 := hO
  obtain ⟨hx, hb, hml, hown, hts, hr, hlk, hK, hN, hA⟩ := hO9
  intro n
  induction n with
  | zero => intro x1 f a h; exact False.elim h
  | succ n ih =>
    intro x1 f a h
    rw [wb_M_invert_38] at h
    refine x_iload_n hx hb dM_invert_38 rfl 1 rfl ?_
    refine x_aload_n hx hb dM_invert_39 rfl 0 rfl ?_
    refine x_get hx hb hts (jnM _) hown hK _ (woM ad cA f a) rfl 1 (by decide) (hts _ (List.mem_cons_of_mem _ kfM_66)) (fun _ h9 => h9) (v := .int (iI (f 0 1))) (by rfl) dM_invert_40 ?_
    obtain ⟨hi5, h⟩ := h
    obtain ⟨hi6, h⟩ := h
    refine x_icmp_ge hx hb (tgt := 64) hi5 hi6 dM_invert_43 (by decide) (fun hc => ?_) (fun hc => ?_)
    · have h := h.1 hc
      refine x_aload_n hx hb dM_invert_64 rfl 0 rfl ?_
      refine x_get hx hb hts (jnM _) hown hK _ (woM ad cA f a) rfl 1 (by decide) (hts _ (List.mem_cons_of_mem _ kfM_66)) (fun _ h9 => h9) (v := .int (iI (f 0 1))) (by rfl) dM_invert_65 ?_
      exact x_iret hx hb hr hlk hK dM_invert_68 h
    · have h := h.2 hc
      refine x_aload_n hx hb dM_invert_46 rfl 0 rfl ?_
      refine x_get hx hb hts (jnM _) hown hK _ (woM ad cA f a) rfl 2 (by decide) (hts _ (List.mem_cons_of_mem _ kfM_7)) (fun _ h9 => h9) (v := .ref (ad 0 3)) (by rfl) dM_invert_47 ?_
      refine x_iload_n hx hb dM_invert_50 rfl 1 rfl ?_
      refine x_aload_n hx hb dM_invert_51 rfl 0 rfl ?_
      refine x_get hx hb hts (jnM _) hown hK _ (woM ad cA f a) rfl 24 (by decide) (hts _ (List.mem_cons_of_mem _ kfM_55)) (fun _ h9 => h9) (v := .ref (ad 0 25)) (by rfl) dM_invert_52 ?_
      refine x_iload_n hx hb dM_invert_55 rfl 1 rfl ?_
      obtain ⟨hj7, h⟩ := h
      refine x_iald hx hb hK _ _ (wa24M ad cA f a) (wt24M cA) hj7.1 hj7.2 (by decide) dM_invert_56 ?_
      obtain ⟨hj8, h⟩ := h
      refine x_iast hx hb hK _ _ (wa2M ad cA f a) (wt2M cA) hj8.1 hj8.2 (by decide) dM_invert_57 (ws2M ad cA f a (va_up (a 0 2) (Int.toNat x1) (a 0 24 (Int.toNat x1)))) ?_
      refine x_iinc hx hb dM_invert_58 1 rfl (by decide) (lv' := [(1, .int (iI (x1 + 1))), (0, .ref (ad 0 0))]) rfl ?_
      refine x_goto hx hb (tgt := 38) dM_invert_61 (by decide) ?_
      refine x_sub [1, 0] rfl ?_
      exact ih (x1 + 1) f (setA a 0 2 (va_up (a 0 2) (Int.toNat x1) (a 0 24 (Int.toNat x1)))) h
def wb_M_invert_2 (post : Int → fS → aS → Prop) : Nat → Int → fS → aS → Prop
  | 0, _, _, _ => False
  | n + 1, x1, f, a => ir x1 ∧ (ir (f 0 1) ∧ (((f 0 1 ≤ x1) → (∃ j, wb_M_invert_38 post j 0 f a)) ∧ (¬ (f 0 1 ≤ x1) → ((0 ≤ ((f 0 1) - 1) - x1 ∧ ((f 0 1) - 1) - x1 < 24) ∧ ((0 ≤ x1 ∧ x1 < 132) ∧ (wb_M_invert_2 post n (x1 + 1) f (setA a 0 24 (va_up (a 0 24) (Int.toNat x1) (-(a 0 2 (Int.toNat (((f 0 1) - 1) - x1))))))))))))
set_option maxHeartbeats 4000000 in
set_option maxRecDepth 100000 in
theorem tb_M_invert_2 {p : Program} {l : Launch} {e : Env} {s : State} {m : MethodId} {args : Array Value} {below : List Frame} {meth : Method} {c : Code} {A : Nat → Prop} {D : va_G} {ad : Nat → Nat → Nat} {cA : Nat → Nat → ClassId} {post : Int → fS → aS → Prop} (hO : xOk cM_invert 2 RM (Cond.code yM_invert cM_invert 2 (some .int) :: xG) (some .int) p s m args meth c A D vwCl (taM cA)) : ∀ (n : Nat) (x1 : Int) (f : fS) (a : aS), wb_M_invert_2 post n x1 f a → gM_invert p l e s m args below meth c A D ad cA post f a [(0, .ref (ad 0 0)), (1, .int (iI x1))] 2 [] := by
  have hO9 := hO
  obtain ⟨hx, hb, hml, hown, hts, hr, hlk, hK, hN, hA⟩ := hO9
  intro n
  induction n with
  | zero => intro x1 f a h; exact False.elim h
  | succ n ih =>
    intro x1 f a h
    rw [wb_M_invert_2] at h
    refine x_iload_n hx hb dM_invert_2 rfl 1 rfl ?_
    refine x_aload_n hx hb dM_invert_3 rfl 0 rfl ?_
    refine x_get hx hb hts (jnM _) hown hK _ (woM ad cA f a) rfl 1 (by decide) (hts _ (List.mem_cons_of_mem _ kfM_66)) (fun _ h9 => h9) (v := .int (iI (f 0 1))) (by rfl) dM_invert_4 ?_
    obtain ⟨hi1, h⟩ := h
    obtain ⟨hi2, h⟩ := h
    refine x_icmp_ge hx hb (tgt := 36) hi1 hi2 dM_invert_7 (by decide) (fun hc => ?_) (fun hc => ?_)
    · have h := h.1 hc
      refine x_iconst hx hb dM_invert_36 ?_
      refine x_istore_n hx hb dM_invert_37 rfl (by decide) (lv' := [(1, .int (iI 0)), (0, .ref (ad 0 0))]) rfl ?_
      obtain ⟨j, h⟩ := h
      refine x_sub [1, 0] rfl ?_
      exact tb_M_invert_38 hO j 0 f a h
    · have h := h.2 hc
      refine x_aload_n hx hb dM_invert_10 rfl 0 rfl ?_
      refine x_get hx hb hts (jnM _) hown hK _ (woM ad cA f a) rfl 24 (by decide) (hts _ (List.mem_cons_of_mem _ kfM_55)) (fun _ h9 => h9) (v := .ref (ad 0 25)) (by rfl) dM_invert_11 ?_
      refine x_iload_n hx hb dM_invert_14 rfl 1 rfl ?_
      refine x_aload_n hx hb dM_invert_15 rfl 0 rfl ?_
      refine x_get hx hb hts (jnM _) hown hK _ (woM ad cA f a) rfl 2 (by decide) (hts _ (List.mem_cons_of_mem _ kfM_7)) (fun _ h9 => h9) (v := .ref (ad 0 3)) (by rfl) dM_invert_16 ?_
      refine x_aload_n hx hb dM_invert_19 rfl 0 rfl ?_
      refine x_get hx hb hts (jnM _) hown hK _ (woM ad cA f a) rfl 1 (by decide) (hts _ (List.mem_cons_of_mem _ kfM_66)) (fun _ h9 => h9) (v := .int (iI (f 0 1))) (by rfl) dM_invert_20 ?_
      refine x_iconst hx hb dM_invert_23 ?_
      refine x_isub hx hb dM_invert_24 ?_
      refine x_iload_n hx hb dM_invert_25 rfl 1 rfl ?_
      refine x_isub hx hb dM_invert_26 ?_
      obtain ⟨hj3, h⟩ := h
      refine x_iald hx hb hK _ _ (wa2M ad cA f a) (wt2M cA) hj3.1 hj3.2 (by decide) dM_invert_27 ?_
      refine x_ineg hx hb dM_invert_28 ?_
      obtain ⟨hj4, h⟩ := h
      refine x_iast hx hb hK _ _ (wa24M ad cA f a) (wt24M cA) hj4.1 hj4.2 (by decide) dM_invert_29 (ws24M ad cA f a (va_up (a 0 24) (Int.toNat x1) (-(a 0 2 (Int.toNat (((f 0 1) - 1) - x1)))))) ?_
      refine x_iinc hx hb dM_invert_30 1 rfl (by decide) (lv' := [(1, .int (iI (x1 + 1))), (0, .ref (ad 0 0))]) rfl ?_
      refine x_goto hx hb (tgt := 2) dM_invert_33 (by decide) ?_
      refine x_sub [1, 0] rfl ?_
      exact ih (x1 + 1) f (setA a 0 24 (va_up (a 0 24) (Int.toNat x1) (-(a 0 2 (Int.toNat (((f 0 1) - 1) - x1)))))) h
def wp_M_invert (post : Int → fS → aS → Prop) (f : fS) (a : aS) : Prop := ∃ j, wb_M_invert_2 post j 0 f a
set_option maxHeartbeats 4000000 in
set_option maxRecDepth 100000 in
theorem m_M_invert {l : Launch} {D : va_G} {ad : Nat → Nat → Nat} {cA : Nat → Nat → ClassId} {post : Int → fS → aS → Prop} {f : fS} {a : aS} (h : wp_M_invert post  f a) : xCI l yM_invert (Cond.code yM_invert cM_invert 2 (some .int) :: xG) rmM_invert D vwCl (taM cA) (MW ad cA f a) [.ref (ad 0 0)] (MW ad cA) post := by
  refine x_metI (cc := cM_invert) (nL := 2) (by decide) rfl (Nat.le_of_ble_eq_true rfl) ?_
  intro p e s m below meth c A hO
  have hO9 := hO
  obtain ⟨hx, hb, hml, hown, hts, hr, hlk, hK, hN, hA⟩ := hO9
  unfold wp_M_invert at h
  show gM_invert p l e s m _ below meth c A D ad cA post f a [(0, .ref (ad 0 0))] 0 []
  refine x_iconst hx hb dM_invert_0 ?_
  refine x_istore_n hx hb dM_invert_1 rfl (by decide) (lv' := [(1, .int (iI 0)), (0, .ref (ad 0 0))]) rfl ?_
  obtain ⟨j, h⟩ := h
  refine x_sub [1, 0] rfl ?_
  exact tb_M_invert_2 hO j 0 f a h
-- M_at
abbrev rmM_at : Room := { frames := 0, cells := 0, slots := 0, locals := 0 }
abbrev gM_at (p : Program) (l : Launch) (e : Env) (s : State) (m : MethodId) (args : Array Value) (below : List Frame) (meth : Method) (c : Code) (A : Nat → Prop) (D : va_G) (ad : Nat → Nat → Nat) (cA : Nat → Nat → ClassId) (post : Int → fS → aS → Prop) (f : fS) (a : aS) (lv : List (Nat × Value)) (pc : Nat) (st : List Value) : Prop := xV p l e rmM_at s m args below meth c s.heap A 0 0 (xQI below D vwCl (taM cA) (MW ad cA) post A args s) D vwCl 2 (MW ad cA f a) lv pc st
def wb_M_at_22 (post : Int → fS → aS → Prop) (y0 : Int) (f : fS) (a : aS) : Prop := post y0 f a
set_option maxHeartbeats 4000000 in
set_option maxRecDepth 100000 in
theorem tb_M_at_22 {p : Program} {l : Launch} {e : Env} {s : State} {m : MethodId} {args : Array Value} {below : List Frame} {meth : Method} {c : Code} {A : Nat → Prop} {D : va_G} {ad : Nat → Nat → Nat} {cA : Nat → Nat → ClassId} {post : Int → fS → aS → Prop} (hO : xOk cM_at 2 RM (Cond.code yM_at cM_at 2 (some .int) :: xG) (some .int) p s m args meth c A D vwCl (taM cA)) : ∀ (y0 : Int) (f : fS) (a : aS), wb_M_at_22 post y0 f a → gM_at p l e s m args below meth c A D ad cA post f a [] 22 [.int (iI y0)] := by
  have hO9 := hO
  obtain ⟨hx, hb, hml, hown, hts, hr, hlk, hK, hN, hA⟩ := hO9
  intro y0 f a h
  unfold wb_M_at_22 at h
  exact x_iret hx hb hr hlk hK dM_at_22 h
def wb_M_at_21 (post : Int → fS → aS → Prop) (f : fS) (a : aS) : Prop := wb_M_at_22 post 0 f a
set_option maxHeartbeats 4000000 in
set_option maxRecDepth 100000 in
theorem tb_M_at_21 {p : Program} {l : Launch} {e : Env} {s : State} {m : MethodId} {args : Array Value} {below : List Frame} {meth : Method} {c : Code} {A : Nat → Prop} {D : va_G} {ad : Nat → Nat → Nat} {cA : Nat → Nat → ClassId} {post : Int → fS → aS → Prop} (hO : xOk cM_at 2 RM (Cond.code yM_at cM_at 2 (some .int) :: xG) (some .int) p s m args meth c A D vwCl (taM cA)) : ∀ (f : fS) (a : aS), wb_M_at_21 post f a → gM_at p l e s m args below meth c A D ad cA post f a [] 21 [] := by
  have hO9 := hO
  obtain ⟨hx, hb, hml, hown, hts, hr, hlk, hK, hN, hA⟩ := hO9
  intro f a h
  unfold wb_M_at_21 at h
  refine x_iconst hx hb dM_at_21 ?_
  exact tb_M_at_22 hO 0 f a h
def wp_M_at (post : Int → fS → aS → Prop) (x1 : Int) (f : fS) (a : aS) : Prop := ir x1 ∧ (((x1 < 0) → (wb_M_at_21 post f a)) ∧ (¬ (x1 < 0) → (ir (f 0 1) ∧ (((f 0 1 ≤ x1) → (wb_M_at_21 post f a)) ∧ (¬ (f 0 1 ≤ x1) → ((0 ≤ x1 ∧ x1 < 24) ∧ (wb_M_at_22 post (a 0 2 (Int.toNat x1)) f a)))))))
set_option maxHeartbeats 4000000 in
set_option maxRecDepth 100000 in
theorem m_M_at {l : Launch} {D : va_G} {ad : Nat → Nat → Nat} {cA : Nat → Nat → ClassId} {post : Int → fS → aS → Prop} {x1 : Int} {f : fS} {a : aS} (h : wp_M_at post x1 f a) : xCI l yM_at (Cond.code yM_at cM_at 2 (some .int) :: xG) rmM_at D vwCl (taM cA) (MW ad cA f a) [.ref (ad 0 0), .int (iI x1)] (MW ad cA) post := by
  refine x_metI (cc := cM_at) (nL := 2) (by decide) rfl (Nat.le_of_ble_eq_true rfl) ?_
  intro p e s m below meth c A hO
  have hO9 := hO
  obtain ⟨hx, hb, hml, hown, hts, hr, hlk, hK, hN, hA⟩ := hO9
  unfold wp_M_at at h
  show gM_at p l e s m _ below meth c A D ad cA post f a [(0, .ref (ad 0 0)), (1, .int (iI x1))] 0 []
  refine x_iload_n hx hb dM_at_0 rfl 1 rfl ?_
  obtain ⟨hi1, h⟩ := h
  refine x_if_lt hx hb (tgt := 21) hi1  dM_at_1 (by decide) (fun hc => ?_) (fun hc => ?_)
  · have h := h.1 hc
    refine x_sub [] rfl ?_
    exact tb_M_at_21 hO f a h
  · have h := h.2 hc
    refine x_iload_n hx hb dM_at_4 rfl 1 rfl ?_
    refine x_aload_n hx hb dM_at_5 rfl 0 rfl ?_
    refine x_get hx hb hts (jnM _) hown hK _ (woM ad cA f a) rfl 1 (by decide) (hts _ (List.mem_cons_of_mem _ kfM_66)) (fun _ h9 => h9) (v := .int (iI (f 0 1))) (by rfl) dM_at_6 ?_
    obtain ⟨hi2, h⟩ := h
    refine x_icmp_ge hx hb (tgt := 21) hi1 hi2 dM_at_9 (by decide) (fun hc => ?_) (fun hc => ?_)
    · have h := h.1 hc
      refine x_sub [] rfl ?_
      exact tb_M_at_21 hO f a h
    · have h := h.2 hc
      refine x_aload_n hx hb dM_at_12 rfl 0 rfl ?_
      refine x_get hx hb hts (jnM _) hown hK _ (woM ad cA f a) rfl 2 (by decide) (hts _ (List.mem_cons_of_mem _ kfM_7)) (fun _ h9 => h9) (v := .ref (ad 0 3)) (by rfl) dM_at_13 ?_
      refine x_iload_n hx hb dM_at_16 rfl 1 rfl ?_
      obtain ⟨hj3, h⟩ := h
      refine x_iald hx hb hK _ _ (wa2M ad cA f a) (wt2M cA) hj3.1 hj3.2 (by decide) dM_at_17 ?_
      refine x_goto hx hb (tgt := 22) dM_at_18 (by decide) ?_
      refine x_sub [] rfl ?_
      exact tb_M_at_22 hO (a 0 2 (Int.toNat x1)) f a h
-- M_begin
abbrev rmM_begin : Room := { frames := 0, cells := 0, slots := 0, locals := 0 }
abbrev gM_begin (p : Program) (l : Launch) (e : Env) (s : State) (m : MethodId) (args : Array Value) (below : List Frame) (meth : Method) (c : Code) (A : Nat → Prop) (D : va_G) (ad : Nat → Nat → Nat) (cA : Nat → Nat → ClassId) (post : fS → aS → Prop) (f : fS) (a : aS) (lv : List (Nat × Value)) (pc : Nat) (st : List Value) : Prop := xV p l e rmM_begin s m args below meth c s.heap A 0 0 (xQV below D vwCl (taM cA) (MW ad cA) post A args s) D vwCl 2 (MW ad cA f a) lv pc st
def wp_M_begin (post : fS → aS → Prop) (x1 : Int) (f : fS) (a : aS) : Prop := post (setF (setF (setF f 0 8 x1) 0 9 0) 0 10 0) a
set_option maxHeartbeats 4000000 in
set_option maxRecDepth 100000 in
theorem m_M_begin {l : Launch} {D : va_G} {ad : Nat → Nat → Nat} {cA : Nat → Nat → ClassId} {post : fS → aS → Prop} {x1 : Int} {f : fS} {a : aS} (h : wp_M_begin post x1 f a) : xCV l yM_begin (Cond.code yM_begin cM_begin 2 none :: xG) rmM_begin D vwCl (taM cA) (MW ad cA f a) [.ref (ad 0 0), .int (iI x1)] (MW ad cA) post := by
  refine x_metV (cc := cM_begin) (nL := 2) (by decide) rfl (Nat.le_of_ble_eq_true rfl) ?_
  intro p e s m below meth c A hO
  have hO9 := hO
  obtain ⟨hx, hb, hml, hown, hts, hr, hlk, hK, hN, hA⟩ := hO9
  unfold wp_M_begin at h
  show gM_begin p l e s m _ below meth c A D ad cA post f a [(0, .ref (ad 0 0)), (1, .int (iI x1))] 0 []
  refine x_aload_n hx hb dM_begin_0 rfl 0 rfl ?_
  refine x_iload_n hx hb dM_begin_1 rfl 1 rfl ?_
  refine x_put hx hb hts (jnM _) tyM tkM nmM hown hK _ (woM ad cA f a) rfl 8 (by decide) (hts _ (List.mem_cons_of_mem _ kfM_69)) (fun _ h9 => h9) rfl (by decide +kernel) (Nat.le_of_ble_eq_true rfl) dM_begin_2 (wf8M ad cA f a x1) ?_
  refine x_aload_n hx hb dM_begin_5 rfl 0 rfl ?_
  refine x_iconst hx hb dM_begin_6 ?_
  refine x_put hx hb hts (jnM _) tyM tkM nmM hown hK _ (woM ad cA (setF f 0 8 x1) a) rfl 9 (by decide) (hts _ (List.mem_cons_of_mem _ kfM_72)) (fun _ h9 => h9) rfl (by decide +kernel) (Nat.le_of_ble_eq_true rfl) dM_begin_7 (wf9M ad cA (setF f 0 8 x1) a 0) ?_
  refine x_aload_n hx hb dM_begin_10 rfl 0 rfl ?_
  refine x_iconst hx hb dM_begin_11 ?_
  refine x_put hx hb hts (jnM _) tyM tkM nmM hown hK _ (woM ad cA (setF (setF f 0 8 x1) 0 9 0) a) rfl 10 (by decide) (hts _ (List.mem_cons_of_mem _ kfM_75)) (fun _ h9 => h9) rfl (by decide +kernel) (Nat.le_of_ble_eq_true rfl) dM_begin_12 (wf10M ad cA (setF (setF f 0 8 x1) 0 9 0) a 0) ?_
  exact x_vret hx hb hr hlk hK dM_begin_15 h
-- M_addEdge
abbrev rmM_addEdge : Room := { frames := 0, cells := 0, slots := 0, locals := 0 }
abbrev gM_addEdge (p : Program) (l : Launch) (e : Env) (s : State) (m : MethodId) (args : Array Value) (below : List Frame) (meth : Method) (c : Code) (A : Nat → Prop) (D : va_G) (ad : Nat → Nat → Nat) (cA : Nat → Nat → ClassId) (post : fS → aS → Prop) (f : fS) (a : aS) (lv : List (Nat × Value)) (pc : Nat) (st : List Value) : Prop := xV p l e rmM_addEdge s m args below meth c s.heap A 0 0 (xQV below D vwCl (taM cA) (MW ad cA) post A args s) D vwCl 4 (MW ad cA f a) lv pc st
def wb_M_addEdge_54 (post : fS → aS → Prop) (y1 : Int) (y2 : Int) (f : fS) (a : aS) : Prop := (0 ≤ y1 ∧ y1 < 256) ∧ (post (setF f 0 10 ((f 0 10) + 1)) (setA a 0 13 (va_up (a 0 13) (Int.toNat y1) y2)))
set_option maxHeartbeats 4000000 in
set_option maxRecDepth 100000 in
theorem tb_M_addEdge_54 {p : Program} {l : Launch} {e : Env} {s : State} {m : MethodId} {args : Array Value} {below : List Frame} {meth : Method} {c : Code} {A : Nat → Prop} {D : va_G} {ad : Nat → Nat → Nat} {cA : Nat → Nat → ClassId} {post : fS → aS → Prop} (hO : xOk cM_addEdge 4 RM (Cond.code yM_addEdge cM_addEdge 4 none :: xG) none p s m args meth c A D vwCl (taM cA)) : ∀ (y1 : Int) (y2 : Int) (f : fS) (a : aS), wb_M_addEdge_54 post y1 y2 f a → gM_addEdge p l e s m args below meth c A D ad cA post f a [(0, .ref (ad 0 0))] 54 [.int (iI y2), .int (iI y1), .ref (ad 0 14)] := by
  have hO9 := hO
  obtain ⟨hx, hb, hml, hown, hts, hr, hlk, hK, hN, hA⟩ := hO9
  intro y1 y2 f a h
  unfold wb_M_addEdge_54 at h
  obtain ⟨hj6, h⟩ := h
  refine x_iast hx hb hK _ _ (wa13M ad cA f a) (wt13M cA) hj6.1 hj6.2 (by decide) dM_addEdge_54 (ws13M ad cA f a (va_up (a 0 13) (Int.toNat y1) y2)) ?_
  refine x_aload_n hx hb dM_addEdge_55 rfl 0 rfl ?_
  refine x_dup hx hb rfl dM_addEdge_56 ?_
  refine x_get hx hb hts (jnM _) hown hK _ (woM ad cA f (setA a 0 13 (va_up (a 0 13) (Int.toNat y1) y2))) rfl 10 (by decide) (hts _ (List.mem_cons_of_mem _ kfM_75)) (fun _ h9 => h9) (v := .int (iI (f 0 10))) (by rfl) dM_addEdge_57 ?_
  refine x_iconst hx hb dM_addEdge_60 ?_
  refine x_iadd hx hb dM_addEdge_61 ?_
  refine x_put hx hb hts (jnM _) tyM tkM nmM hown hK _ (woM ad cA f (setA a 0 13 (va_up (a 0 13) (Int.toNat y1) y2))) rfl 10 (by decide) (hts _ (List.mem_cons_of_mem _ kfM_75)) (fun _ h9 => h9) rfl (by decide +kernel) (Nat.le_of_ble_eq_true rfl) dM_addEdge_62 (wf10M ad cA f (setA a 0 13 (va_up (a 0 13) (Int.toNat y1) y2)) ((f 0 10) + 1)) ?_
  exact x_vret hx hb hr hlk hK dM_addEdge_65 h
def wb_M_addEdge_36 (post : fS → aS → Prop) (x1 : Int) (x2 : Int) (x3 : Int) (y1 : Int) (y2 : Int) (f : fS) (a : aS) : Prop := (0 ≤ y1 ∧ y1 < 256) ∧ (ir x2 ∧ (((x2 ≤ 0) → (wb_M_addEdge_54 post (f 0 10) x1 f (setA a 0 12 (va_up (a 0 12) (Int.toNat y1) y2)))) ∧ (¬ (x2 ≤ 0) → (wb_M_addEdge_54 post (f 0 10) x3 f (setA a 0 12 (va_up (a 0 12) (Int.toNat y1) y2))))))
set_option maxHeartbeats 4000000 in
set_option maxRecDepth 100000 in
theorem tb_M_addEdge_36 {p : Program} {l : Launch} {e : Env} {s : State} {m : MethodId} {args : Array Value} {below : List Frame} {meth : Method} {c : Code} {A : Nat → Prop} {D : va_G} {ad : Nat → Nat → Nat} {cA : Nat → Nat → ClassId} {post : fS → aS → Prop} (hO : xOk cM_addEdge 4 RM (Cond.code yM_addEdge cM_addEdge 4 none :: xG) none p s m args meth c A D vwCl (taM cA)) : ∀ (x1 : Int) (x2 : Int) (x3 : Int) (y1 : Int) (y2 : Int) (f : fS) (a : aS), wb_M_addEdge_36 post x1 x2 x3 y1 y2 f a → gM_addEdge p l e s m args below meth c A D ad cA post f a [(0, .ref (ad 0 0)), (1, .int (iI x1)), (2, .int (iI x2)), (3, .int (iI x3))] 36 [.int (iI y2), .int (iI y1), .ref (ad 0 13)] := by
  have hO9 := hO
  obtain ⟨hx, hb, hml, hown, hts, hr, hlk, hK, hN, hA⟩ := hO9
  intro x1 x2 x3 y1 y2 f a h
  unfold wb_M_addEdge_36 at h
  obtain ⟨hj4, h⟩ := h
  refine x_iast hx hb hK _ _ (wa12M ad cA f a) (wt12M cA) hj4.1 hj4.2 (by decide) dM_addEdge_36 (ws12M ad cA f a (va_up (a 0 12) (Int.toNat y1) y2)) ?_
  refine x_aload_n hx hb dM_addEdge_37 rfl 0 rfl ?_
  refine x_get hx hb hts (jnM _) hown hK _ (woM ad cA f (setA a 0 12 (va_up (a 0 12) (Int.toNat y1) y2))) rfl 13 (by decide) (hts _ (List.mem_cons_of_mem _ kfM_34)) (fun _ h9 => h9) (v := .ref (ad 0 14)) (by rfl) dM_addEdge_38 ?_
  refine x_aload_n hx hb dM_addEdge_41 rfl 0 rfl ?_
  refine x_get hx hb hts (jnM _) hown hK _ (woM ad cA f (setA a 0 12 (va_up (a 0 12) (Int.toNat y1) y2))) rfl 10 (by decide) (hts _ (List.mem_cons_of_mem _ kfM_75)) (fun _ h9 => h9) (v := .int (iI (f 0 10))) (by rfl) dM_addEdge_42 ?_
  refine x_iload_n hx hb dM_addEdge_45 rfl 2 rfl ?_
  obtain ⟨hi5, h⟩ := h
  refine x_if_le hx hb (tgt := 53) hi5  dM_addEdge_46 (by decide) (fun hc => ?_) (fun hc => ?_)
  · have h := h.1 hc
    refine x_iload_n hx hb dM_addEdge_53 rfl 1 rfl ?_
    refine x_sub [0] rfl ?_
    exact tb_M_addEdge_54 hO (f 0 10) x1 f (setA a 0 12 (va_up (a 0 12) (Int.toNat y1) y2)) h
  · have h := h.2 hc
    refine x_iload_n hx hb dM_addEdge_49 rfl 3 rfl ?_
    refine x_goto hx hb (tgt := 54) dM_addEdge_50 (by decide) ?_
    refine x_sub [0] rfl ?_
    exact tb_M_addEdge_54 hO (f 0 10) x3 f (setA a 0 12 (va_up (a 0 12) (Int.toNat y1) y2)) h
def wb_M_addEdge_17 (post : fS → aS → Prop) (x1 : Int) (x2 : Int) (x3 : Int) (y1 : Int) (y2 : Int) (f : fS) (a : aS) : Prop := (0 ≤ y1 ∧ y1 < 256) ∧ (ir x2 ∧ (((x2 ≤ 0) → (wb_M_addEdge_36 post x1 x2 x3 (f 0 10) (-x2) f (setA a 0 11 (va_up (a 0 11) (Int.toNat y1) y2)))) ∧ (¬ (x2 ≤ 0) → (wb_M_addEdge_36 post x1 x2 x3 (f 0 10) x2 f (setA a 0 11 (va_up (a 0 11) (Int.toNat y1) y2))))))
set_option maxHeartbeats 4000000 in
set_option maxRecDepth 100000 in
theorem tb_M_addEdge_17 {p : Program} {l : Launch} {e : Env} {s : State} {m : MethodId} {args : Array Value} {below : List Frame} {meth : Method} {c : Code} {A : Nat → Prop} {D : va_G} {ad : Nat → Nat → Nat} {cA : Nat → Nat → ClassId} {post : fS → aS → Prop} (hO : xOk cM_addEdge 4 RM (Cond.code yM_addEdge cM_addEdge 4 none :: xG) none p s m args meth c A D vwCl (taM cA)) : ∀ (x1 : Int) (x2 : Int) (x3 : Int) (y1 : Int) (y2 : Int) (f : fS) (a : aS), wb_M_addEdge_17 post x1 x2 x3 y1 y2 f a → gM_addEdge p l e s m args below meth c A D ad cA post f a [(0, .ref (ad 0 0)), (1, .int (iI x1)), (2, .int (iI x2)), (3, .int (iI x3))] 17 [.int (iI y2), .int (iI y1), .ref (ad 0 12)] := by
  have hO9 := hO
  obtain ⟨hx, hb, hml, hown, hts, hr, hlk, hK, hN, hA⟩ := hO9
  intro x1 x2 x3 y1 y2 f a h
  unfold wb_M_addEdge_17 at h
  obtain ⟨hj2, h⟩ := h
  refine x_iast hx hb hK _ _ (wa11M ad cA f a) (wt11M cA) hj2.1 hj2.2 (by decide) dM_addEdge_17 (ws11M ad cA f a (va_up (a 0 11) (Int.toNat y1) y2)) ?_
  refine x_aload_n hx hb dM_addEdge_18 rfl 0 rfl ?_
  refine x_get hx hb hts (jnM _) hown hK _ (woM ad cA f (setA a 0 11 (va_up (a 0 11) (Int.toNat y1) y2))) rfl 12 (by decide) (hts _ (List.mem_cons_of_mem _ kfM_31)) (fun _ h9 => h9) (v := .ref (ad 0 13)) (by rfl) dM_addEdge_19 ?_
  refine x_aload_n hx hb dM_addEdge_22 rfl 0 rfl ?_
  refine x_get hx hb hts (jnM _) hown hK _ (woM ad cA f (setA a 0 11 (va_up (a 0 11) (Int.toNat y1) y2))) rfl 10 (by decide) (hts _ (List.mem_cons_of_mem _ kfM_75)) (fun _ h9 => h9) (v := .int (iI (f 0 10))) (by rfl) dM_addEdge_23 ?_
  refine x_iload_n hx hb dM_addEdge_26 rfl 2 rfl ?_
  obtain ⟨hi3, h⟩ := h
  refine x_if_le hx hb (tgt := 34) hi3  dM_addEdge_27 (by decide) (fun hc => ?_) (fun hc => ?_)
  · have h := h.1 hc
    refine x_iload_n hx hb dM_addEdge_34 rfl 2 rfl ?_
    refine x_ineg hx hb dM_addEdge_35 ?_
    exact tb_M_addEdge_36 hO x1 x2 x3 (f 0 10) (-x2) f (setA a 0 11 (va_up (a 0 11) (Int.toNat y1) y2)) h
  · have h := h.2 hc
    refine x_iload_n hx hb dM_addEdge_30 rfl 2 rfl ?_
    refine x_goto hx hb (tgt := 36) dM_addEdge_31 (by decide) ?_
    exact tb_M_addEdge_36 hO x1 x2 x3 (f 0 10) x2 f (setA a 0 11 (va_up (a 0 11) (Int.toNat y1) y2)) h
def wp_M_addEdge (post : fS → aS → Prop) (x1 : Int) (x2 : Int) (x3 : Int) (f : fS) (a : aS) : Prop := ir x2 ∧ (((x2 ≤ 0) → (wb_M_addEdge_17 post x1 x2 x3 (f 0 10) x3 f a)) ∧ (¬ (x2 ≤ 0) → (wb_M_addEdge_17 post x1 x2 x3 (f 0 10) x1 f a)))
set_option maxHeartbeats 4000000 in
set_option maxRecDepth 100000 in
theorem m_M_addEdge {l : Launch} {D : va_G} {ad : Nat → Nat → Nat} {cA : Nat → Nat → ClassId} {post : fS → aS → Prop} {x1 : Int} {x2 : Int} {x3 : Int} {f : fS} {a : aS} (h : wp_M_addEdge post x1 x2 x3 f a) : xCV l yM_addEdge (Cond.code yM_addEdge cM_addEdge 4 none :: xG) rmM_addEdge D vwCl (taM cA) (MW ad cA f a) [.ref (ad 0 0), .int (iI x1), .int (iI x2), .int (iI x3)] (MW ad cA) post := by
  refine x_metV (cc := cM_addEdge) (nL := 4) (by decide) rfl (Nat.le_of_ble_eq_true rfl) ?_
  intro p e s m below meth c A hO
  have hO9 := hO
  obtain ⟨hx, hb, hml, hown, hts, hr, hlk, hK, hN, hA⟩ := hO9
  unfold wp_M_addEdge at h
  show gM_addEdge p l e s m _ below meth c A D ad cA post f a [(0, .ref (ad 0 0)), (1, .int (iI x1)), (2, .int (iI x2)), (3, .int (iI x3))] 0 []
  refine x_aload_n hx hb dM_addEdge_0 rfl 0 rfl ?_
  refine x_get hx hb hts (jnM _) hown hK _ (woM ad cA f a) rfl 11 (by decide) (hts _ (List.mem_cons_of_mem _ kfM_28)) (fun _ h9 => h9) (v := .ref (ad 0 12)) (by rfl) dM_addEdge_1 ?_
  refine x_aload_n hx hb dM_addEdge_4 rfl 0 rfl ?_
  refine x_get hx hb hts (jnM _) hown hK _ (woM ad cA f a) rfl 10 (by decide) (hts _ (List.mem_cons_of_mem _ kfM_75)) (fun _ h9 => h9) (v := .int (iI (f 0 10))) (by rfl) dM_addEdge_5 ?_
  refine x_iload_n hx hb dM_addEdge_8 rfl 2 rfl ?_
  obtain ⟨hi1, h⟩ := h
  refine x_if_le hx hb (tgt := 16) hi1  dM_addEdge_9 (by decide) (fun hc => ?_) (fun hc => ?_)
  · have h := h.1 hc
    refine x_iload_n hx hb dM_addEdge_16 rfl 3 rfl ?_
    exact tb_M_addEdge_17 hO x1 x2 x3 (f 0 10) x3 f a h
  · have h := h.2 hc
    refine x_iload_n hx hb dM_addEdge_12 rfl 1 rfl ?_
    refine x_goto hx hb (tgt := 17) dM_addEdge_13 (by decide) ?_
    exact tb_M_addEdge_17 hO x1 x2 x3 (f 0 10) x1 f a h
-- M_addCopy
abbrev rmM_addCopy : Room := { frames := 1, cells := 0, slots := 0, locals := 23 }
abbrev gM_addCopy (p : Program) (l : Launch) (e : Env) (s : State) (m : MethodId) (args : Array Value) (below : List Frame) (meth : Method) (c : Code) (A : Nat → Prop) (D : va_G) (ad : Nat → Nat → Nat) (cA : Nat → Nat → ClassId) (post : fS → aS → Prop) (f : fS) (a : aS) (lv : List (Nat × Value)) (pc : Nat) (st : List Value) : Prop := xV p l e rmM_addCopy s m args below meth c s.heap A 0 0 (xQV below D vwCl (taM cA) (MW ad cA) post A args s) D vwCl 6 (MW ad cA f a) lv pc st
def wb_M_addCopy_72 (post : fS → aS → Prop) (k15 : Int → Int → Int → Int → fS → aS → Prop) (x1 : Int) (x2 : Int) (x3 : Int) (x4 : Int) (f : fS) (a : aS) : Prop := k15 x1 x2 x3 (x4 + 1) f a
set_option maxHeartbeats 4000000 in
set_option maxRecDepth 100000 in
theorem tb_M_addCopy_72 {p : Program} {l : Launch} {e : Env} {s : State} {m : MethodId} {args : Array Value} {below : List Frame} {meth : Method} {c : Code} {A : Nat → Prop} {D : va_G} {ad : Nat → Nat → Nat} {cA : Nat → Nat → ClassId} {post : fS → aS → Prop} {k15 : Int → Int → Int → Int → fS → aS → Prop} (hO : xOk cM_addCopy 6 RM (Cond.code yM_addCopy cM_addCopy 6 none :: xG) none p s m args meth c A D vwCl (taM cA)) (hk15 : ∀ (x1 : Int) (x2 : Int) (x3 : Int) (x4 : Int) (f : fS) (a : aS), k15 x1 x2 x3 x4 f a → gM_addCopy p l e s m args below meth c A D ad cA post f a [(0, .ref (ad 0 0)), (1, .int (iI x1)), (2, .int (iI x2)), (3, .int (iI x3)), (4, .int (iI x4))] 15 []) : ∀ (x1 : Int) (x2 : Int) (x3 : Int) (x4 : Int) (f : fS) (a : aS), wb_M_addCopy_72 post k15 x1 x2 x3 x4 f a → gM_addCopy p l e s m args below meth c A D ad cA post f a [(0, .ref (ad 0 0)), (1, .int (iI x1)), (2, .int (iI x2)), (3, .int (iI x3)), (4, .int (iI x4))] 72 [] := by
  have hO9 := hO
  obtain ⟨hx, hb, hml, hown, hts, hr, hlk, hK, hN, hA⟩ := hO9
  intro x1 x2 x3 x4 f a h
  unfold wb_M_addCopy_72 at h
  refine x_iinc hx hb dM_addCopy_72 4 rfl (by decide) (lv' := [(4, .int (iI (x4 + 1))), (0, .ref (ad 0 0)), (1, .int (iI x1)), (2, .int (iI x2)), (3, .int (iI x3))]) rfl ?_
  refine x_goto hx hb (tgt := 15) dM_addCopy_75 (by decide) ?_
  refine x_sub [1, 2, 3, 4, 0] rfl ?_
  exact hk15 x1 x2 x3 (x4 + 1) f a h
def wb_M_addCopy_69 (post : fS → aS → Prop) (k15 : Int → Int → Int → Int → fS → aS → Prop) (x1 : Int) (x2 : Int) (x3 : Int) (x4 : Int) (y1 : Int) (y2 : Int) (y3 : Int) (f : fS) (a : aS) : Prop := wp_M_addEdge (fun f16 a17 => wb_M_addCopy_72 post k15 x1 x2 x3 x4 f16 a17) y1 y2 y3 f a
set_option maxHeartbeats 4000000 in
set_option maxRecDepth 100000 in
theorem tb_M_addCopy_69 {p : Program} {l : Launch} {e : Env} {s : State} {m : MethodId} {args : Array Value} {below : List Frame} {meth : Method} {c : Code} {A : Nat → Prop} {D : va_G} {ad : Nat → Nat → Nat} {cA : Nat → Nat → ClassId} {post : fS → aS → Prop} {k15 : Int → Int → Int → Int → fS → aS → Prop} (hO : xOk cM_addCopy 6 RM (Cond.code yM_addCopy cM_addCopy 6 none :: xG) none p s m args meth c A D vwCl (taM cA)) (hk15 : ∀ (x1 : Int) (x2 : Int) (x3 : Int) (x4 : Int) (f : fS) (a : aS), k15 x1 x2 x3 x4 f a → gM_addCopy p l e s m args below meth c A D ad cA post f a [(0, .ref (ad 0 0)), (1, .int (iI x1)), (2, .int (iI x2)), (3, .int (iI x3)), (4, .int (iI x4))] 15 []) : ∀ (x1 : Int) (x2 : Int) (x3 : Int) (x4 : Int) (y1 : Int) (y2 : Int) (y3 : Int) (f : fS) (a : aS), wb_M_addCopy_69 post k15 x1 x2 x3 x4 y1 y2 y3 f a → gM_addCopy p l e s m args below meth c A D ad cA post f a [(0, .ref (ad 0 0)), (1, .int (iI x1)), (2, .int (iI x2)), (3, .int (iI x3)), (4, .int (iI x4))] 69 [.int (iI y3), .int (iI y2), .int (iI y1), .ref (ad 0 0)] := by
  have hO9 := hO
  obtain ⟨hx, hb, hml, hown, hts, hr, hlk, hK, hN, hA⟩ := hO9
  intro x1 x2 x3 x4 y1 y2 y3 f a h
  unfold wb_M_addCopy_69 at h
  refine x_cVv (n := 3) (st := []) (As := [.int (iI y1), .int (iI y2), .int (iI y3)]) ⟨hx, hb, hml, hown, hts⟩ hK hN (m_M_addEdge h) (x_cwV hts rfl rfl kcM_addEdge knM klM_86 kiM_addEdge keM_addEdge ⟨by decide, by decide, by decide +kernel⟩ ⟨by decide, by decide⟩) _ (woM ad cA f a) rfl hA rfl (Nat.le_of_ble_eq_true rfl) ⟨Nat.zero_le _, Nat.zero_le _⟩ rfl dM_addCopy_69 (fun f16 a17 h => ?_)
  exact tb_M_addCopy_72 hO hk15 x1 x2 x3 x4 f16 a17 h
def wb_M_addCopy_54 (post : fS → aS → Prop) (k15 : Int → Int → Int → Int → fS → aS → Prop) (x1 : Int) (x2 : Int) (x3 : Int) (x4 : Int) (x5 : Int) (y1 : Int) (f : fS) (a : aS) : Prop := ir x5 ∧ (((¬ x5 = 0) → (wb_M_addCopy_69 post k15 x1 x2 x3 x4 y1 x4 (x5 + x2) f a)) ∧ (¬ (¬ x5 = 0) → (wb_M_addCopy_69 post k15 x1 x2 x3 x4 y1 x4 0 f a)))
set_option maxHeartbeats 4000000 in
set_option maxRecDepth 100000 in
theorem tb_M_addCopy_54 {p : Program} {l : Launch} {e : Env} {s : State} {m : MethodId} {args : Array Value} {below : List Frame} {meth : Method} {c : Code} {A : Nat → Prop} {D : va_G} {ad : Nat → Nat → Nat} {cA : Nat → Nat → ClassId} {post : fS → aS → Prop} {k15 : Int → Int → Int → Int → fS → aS → Prop} (hO : xOk cM_addCopy 6 RM (Cond.code yM_addCopy cM_addCopy 6 none :: xG) none p s m args meth c A D vwCl (taM cA)) (hk15 : ∀ (x1 : Int) (x2 : Int) (x3 : Int) (x4 : Int) (f : fS) (a : aS), k15 x1 x2 x3 x4 f a → gM_addCopy p l e s m args below meth c A D ad cA post f a [(0, .ref (ad 0 0)), (1, .int (iI x1)), (2, .int (iI x2)), (3, .int (iI x3)), (4, .int (iI x4))] 15 []) : ∀ (x1 : Int) (x2 : Int) (x3 : Int) (x4 : Int) (x5 : Int) (y1 : Int) (f : fS) (a : aS), wb_M_addCopy_54 post k15 x1 x2 x3 x4 x5 y1 f a → gM_addCopy p l e s m args below meth c A D ad cA post f a [(0, .ref (ad 0 0)), (1, .int (iI x1)), (2, .int (iI x2)), (3, .int (iI x3)), (4, .int (iI x4)), (5, .int (iI x5))] 54 [.int (iI y1), .ref (ad 0 0)] := by
  have hO9 := hO
  obtain ⟨hx, hb, hml, hown, hts, hr, hlk, hK, hN, hA⟩ := hO9
  intro x1 x2 x3 x4 x5 y1 f a h
  unfold wb_M_addCopy_54 at h
  refine x_iload hx hb dM_addCopy_54 4 rfl ?_
  refine x_iload hx hb dM_addCopy_56 5 rfl ?_
  obtain ⟨hi14, h⟩ := h
  refine x_if_ne hx hb (tgt := 65) hi14  dM_addCopy_58 (by decide) (fun hc => ?_) (fun hc => ?_)
  · have h := h.1 hc
    refine x_iload hx hb dM_addCopy_65 5 rfl ?_
    refine x_iload_n hx hb dM_addCopy_67 rfl 2 rfl ?_
    refine x_iadd hx hb dM_addCopy_68 ?_
    refine x_sub [0, 1, 2, 3, 4] rfl ?_
    exact tb_M_addCopy_69 hO hk15 x1 x2 x3 x4 y1 x4 (x5 + x2) f a h
  · have h := h.2 hc
    refine x_iconst hx hb dM_addCopy_61 ?_
    refine x_goto hx hb (tgt := 69) dM_addCopy_62 (by decide) ?_
    refine x_sub [0, 1, 2, 3, 4] rfl ?_
    exact tb_M_addCopy_69 hO hk15 x1 x2 x3 x4 y1 x4 0 f a h
def wb_M_addCopy_15 (post : fS → aS → Prop) (k2 : Int → Int → Int → fS → aS → Prop) : Nat → Int → Int → Int → Int → fS → aS → Prop
  | 0, _, _, _, _, _, _ => False
  | n + 1, x1, x2, x3, x4, f, a => ir x4 ∧ (ir (f 0 0) ∧ (((f 0 0 < x4) → (k2 x1 x2 (x3 + 1) f a)) ∧ (¬ (f 0 0 < x4) → (wp_M_numberOf (fun z6 f7 a8 => wp_M_way (fun z9 f10 a11 => ir z9 ∧ (((z9 < 0) → (wb_M_addCopy_72 post (wb_M_addCopy_15 post k2 n) x1 x2 x3 x4 f10 a11)) ∧ (¬ (z9 < 0) → (ir x3 ∧ (((¬ x3 = 0) → (wb_M_addCopy_54 post (wb_M_addCopy_15 post k2 n) x1 x2 x3 x4 z9 (x3 + x2) f10 a11)) ∧ (¬ (¬ x3 = 0) → (wb_M_addCopy_54 post (wb_M_addCopy_15 post k2 n) x1 x2 x3 x4 z9 0 f10 a11))))))) x1 x3 z6 f7 a8) x4 f a))))
set_option maxHeartbeats 4000000 in
set_option maxRecDepth 100000 in
theorem tb_M_addCopy_15 {p : Program} {l : Launch} {e : Env} {s : State} {m : MethodId} {args : Array Value} {below : List Frame} {meth : Method} {c : Code} {A : Nat → Prop} {D : va_G} {ad : Nat → Nat → Nat} {cA : Nat → Nat → ClassId} {post : fS → aS → Prop} {k2 : Int → Int → Int → fS → aS → Prop} (hO : xOk cM_addCopy 6 RM (Cond.code yM_addCopy cM_addCopy 6 none :: xG) none p s m args meth c A D vwCl (taM cA)) (hk2 : ∀ (x1 : Int) (x2 : Int) (x3 : Int) (f : fS) (a : aS), k2 x1 x2 x3 f a → gM_addCopy p l e s m args below meth c A D ad cA post f a [(0, .ref (ad 0 0)), (1, .int (iI x1)), (2, .int (iI x2)), (3, .int (iI x3))] 2 []) : ∀ (n : Nat) (x1 : Int) (x2 : Int) (x3 : Int) (x4 : Int) (f : fS) (a : aS), wb_M_addCopy_15 post k2 n x1 x2 x3 x4 f a → gM_addCopy p l e s m args below meth c A D ad cA post f a [(0, .ref (ad 0 0)), (1, .int (iI x1)), (2, .int (iI x2)), (3, .int (iI x3)), (4, .int (iI x4))] 15 [] := by
  have hO9 := hO
  obtain ⟨hx, hb, hml, hown, hts, hr, hlk, hK, hN, hA⟩ := hO9
  intro n
  induction n with
  | zero => intro x1 x2 x3 x4 f a h; exact False.elim h
  | succ n ih =>
    intro x1 x2 x3 x4 f a h
    rw [wb_M_addCopy_15] at h
    refine x_iload hx hb dM_addCopy_15 4 rfl ?_
    refine x_aload_n hx hb dM_addCopy_17 rfl 0 rfl ?_
    refine x_get hx hb hts (jnM _) hown hK _ (woM ad cA f a) rfl 0 (by decide) (hts _ (List.mem_cons_of_mem _ kfM_58)) (fun _ h9 => h9) (v := .int (iI (f 0 0))) (by rfl) dM_addCopy_18 ?_
    obtain ⟨hi4, h⟩ := h
    obtain ⟨hi5, h⟩ := h
    refine x_icmp_gt hx hb (tgt := 78) hi4 hi5 dM_addCopy_21 (by decide) (fun hc => ?_) (fun hc => ?_)
    · have h := h.1 hc
      refine x_iinc hx hb dM_addCopy_78 3 rfl (by decide) (lv' := [(3, .int (iI (x3 + 1))), (0, .ref (ad 0 0)), (1, .int (iI x1)), (2, .int (iI x2)), (4, .int (iI x4))]) rfl ?_
      refine x_goto hx hb (tgt := 2) dM_addCopy_81 (by decide) ?_
      refine x_sub [1, 2, 3, 0] rfl ?_
      exact hk2 x1 x2 (x3 + 1) f a h
    · have h := h.2 hc
      refine x_aload_n hx hb dM_addCopy_24 rfl 0 rfl ?_
      refine x_iload_n hx hb dM_addCopy_25 rfl 1 rfl ?_
      refine x_iload_n hx hb dM_addCopy_26 rfl 3 rfl ?_
      refine x_iload hx hb dM_addCopy_27 4 rfl ?_
      refine x_cSi (n := 1) (st := [.int (iI x3), .int (iI x1), .ref (ad 0 0)]) (As := [.int (iI x4)]) ⟨hx, hb, hml, hown, hts⟩ hK hN (m_M_numberOf h) (x_cwS hts rfl rfl kcM_numberOf knM klM_78 ksM_numberOf ⟨by decide, by decide, by decide +kernel⟩ ⟨by decide, by decide⟩) hA rfl (Nat.le_of_ble_eq_true rfl) ⟨Nat.zero_le _, Nat.zero_le _⟩ rfl dM_addCopy_29 (fun z6 f7 a8 h => ?_)
      refine x_cVi (n := 3) (st := []) (As := [.int (iI x1), .int (iI x3), .int (iI z6)]) ⟨hx, hb, hml, hown, hts⟩ hK hN (m_M_way h) (x_cwV hts rfl rfl kcM_way knM klM_82 kiM_way keM_way ⟨by decide, by decide, by decide +kernel⟩ ⟨by decide, by decide⟩) _ (woM ad cA f7 a8) rfl hA rfl (Nat.le_of_ble_eq_true rfl) ⟨Nat.zero_le _, Nat.zero_le _⟩ rfl dM_addCopy_32 (fun z9 f10 a11 h => ?_)
      refine x_istore hx hb dM_addCopy_35 (by decide) (lv' := [(5, .int (iI z9)), (0, .ref (ad 0 0)), (1, .int (iI x1)), (2, .int (iI x2)), (3, .int (iI x3)), (4, .int (iI x4))]) rfl ?_
      refine x_iload hx hb dM_addCopy_37 0 rfl ?_
      obtain ⟨hi12, h⟩ := h
      refine x_if_lt hx hb (tgt := 72) hi12  dM_addCopy_39 (by decide) (fun hc => ?_) (fun hc => ?_)
      · have h := h.1 hc
        refine x_sub [1, 2, 3, 4, 5] rfl ?_
        exact tb_M_addCopy_72 hO ih x1 x2 x3 x4 f10 a11 h
      · have h := h.2 hc
        refine x_aload_n hx hb dM_addCopy_42 rfl 1 rfl ?_
        refine x_iload_n hx hb dM_addCopy_43 rfl 4 rfl ?_
        obtain ⟨hi13, h⟩ := h
        refine x_if_ne hx hb (tgt := 51) hi13  dM_addCopy_44 (by decide) (fun hc => ?_) (fun hc => ?_)
        · have h := h.1 hc
          refine x_iload_n hx hb dM_addCopy_51 rfl 4 rfl ?_
          refine x_iload_n hx hb dM_addCopy_52 rfl 3 rfl ?_
          refine x_iadd hx hb dM_addCopy_53 ?_
          refine x_sub [1, 2, 3, 4, 5, 0] rfl ?_
          exact tb_M_addCopy_54 hO ih x1 x2 x3 x4 z9 (x3 + x2) f10 a11 h
        · have h := h.2 hc
          refine x_iconst hx hb dM_addCopy_47 ?_
          refine x_goto hx hb (tgt := 54) dM_addCopy_48 (by decide) ?_
          refine x_sub [1, 2, 3, 4, 5, 0] rfl ?_
          exact tb_M_addCopy_54 hO ih x1 x2 x3 x4 z9 0 f10 a11 h
def wb_M_addCopy_2 (post : fS → aS → Prop) : Nat → Int → Int → Int → fS → aS → Prop
  | 0, _, _, _, _, _ => False
  | n + 1, x1, x2, x3, f, a => (0 ≤ x1 ∧ x1 < 4) ∧ (ir x3 ∧ (ir (a 0 3 (Int.toNat x1)) ∧ (((a 0 3 (Int.toNat x1) ≤ x3) → (post f a)) ∧ (¬ (a 0 3 (Int.toNat x1) ≤ x3) → (∃ j, wb_M_addCopy_15 post (wb_M_addCopy_2 post n) j x1 x2 x3 1 f a)))))
set_option maxHeartbeats 4000000 in
set_option maxRecDepth 100000 in
theorem tb_M_addCopy_2 {p : Program} {l : Launch} {e : Env} {s : State} {m : MethodId} {args : Array Value} {below : List Frame} {meth : Method} {c : Code} {A : Nat → Prop} {D : va_G} {ad : Nat → Nat → Nat} {cA : Nat → Nat → ClassId} {post : fS → aS → Prop} (hO : xOk cM_addCopy 6 RM (Cond.code yM_addCopy cM_addCopy 6 none :: xG) none p s m args meth c A D vwCl (taM cA)) : ∀ (n : Nat) (x1 : Int) (x2 : Int) (x3 : Int) (f : fS) (a : aS), wb_M_addCopy_2 post n x1 x2 x3 f a → gM_addCopy p l e s m args below meth c A D ad cA post f a [(0, .ref (ad 0 0)), (1, .int (iI x1)), (2, .int (iI x2)), (3, .int (iI x3))] 2 [] := by
  have hO9 := hO
  obtain ⟨hx, hb, hml, hown, hts, hr, hlk, hK, hN, hA⟩ := hO9
  intro n
  induction n with
  | zero => intro x1 x2 x3 f a h; exact False.elim h
  | succ n ih =>
    intro x1 x2 x3 f a h
    rw [wb_M_addCopy_2] at h
    refine x_iload_n hx hb dM_addCopy_2 rfl 3 rfl ?_
    refine x_aload_n hx hb dM_addCopy_3 rfl 0 rfl ?_
    refine x_get hx hb hts (jnM _) hown hK _ (woM ad cA f a) rfl 3 (by decide) (hts _ (List.mem_cons_of_mem _ kfM_13)) (fun _ h9 => h9) (v := .ref (ad 0 4)) (by rfl) dM_addCopy_4 ?_
    refine x_iload_n hx hb dM_addCopy_7 rfl 1 rfl ?_
    obtain ⟨hj1, h⟩ := h
    refine x_iald hx hb hK _ _ (wa3M ad cA f a) (wt3M cA) hj1.1 hj1.2 (by decide) dM_addCopy_8 ?_
    obtain ⟨hi2, h⟩ := h
    obtain ⟨hi3, h⟩ := h
    refine x_icmp_ge hx hb (tgt := 84) hi2 hi3 dM_addCopy_9 (by decide) (fun hc => ?_) (fun hc => ?_)
    · have h := h.1 hc
      exact x_vret hx hb hr hlk hK dM_addCopy_84 h
    · have h := h.2 hc
      refine x_iconst hx hb dM_addCopy_12 ?_
      refine x_istore hx hb dM_addCopy_13 (by decide) (lv' := [(4, .int (iI 1)), (0, .ref (ad 0 0)), (1, .int (iI x1)), (2, .int (iI x2)), (3, .int (iI x3))]) rfl ?_
      obtain ⟨j, h⟩ := h
      refine x_sub [1, 2, 3, 4, 0] rfl ?_
      exact tb_M_addCopy_15 hO ih j x1 x2 x3 1 f a h
def wp_M_addCopy (post : fS → aS → Prop) (x1 : Int) (x2 : Int) (f : fS) (a : aS) : Prop := ∃ j, wb_M_addCopy_2 post j x1 x2 0 f a
set_option maxHeartbeats 4000000 in
set_option maxRecDepth 100000 in
theorem m_M_addCopy {l : Launch} {D : va_G} {ad : Nat → Nat → Nat} {cA : Nat → Nat → ClassId} {post : fS → aS → Prop} {x1 : Int} {x2 : Int} {f : fS} {a : aS} (h : wp_M_addCopy post x1 x2 f a) : xCV l yM_addCopy (Cond.code yM_addCopy cM_addCopy 6 none :: xG) rmM_addCopy D vwCl (taM cA) (MW ad cA f a) [.ref (ad 0 0), .int (iI x1), .int (iI x2)] (MW ad cA) post := by
  refine x_metV (cc := cM_addCopy) (nL := 6) (by decide) rfl (Nat.le_of_ble_eq_true rfl) ?_
  intro p e s m below meth c A hO
  have hO9 := hO
  obtain ⟨hx, hb, hml, hown, hts, hr, hlk, hK, hN, hA⟩ := hO9
  unfold wp_M_addCopy at h
  show gM_addCopy p l e s m _ below meth c A D ad cA post f a [(0, .ref (ad 0 0)), (1, .int (iI x1)), (2, .int (iI x2))] 0 []
  refine x_iconst hx hb dM_addCopy_0 ?_
  refine x_istore_n hx hb dM_addCopy_1 rfl (by decide) (lv' := [(3, .int (iI 0)), (0, .ref (ad 0 0)), (1, .int (iI x1)), (2, .int (iI x2))]) rfl ?_
  obtain ⟨j, h⟩ := h
  refine x_sub [1, 2, 3, 0] rfl ?_
  exact tb_M_addCopy_2 hO j x1 x2 0 f a h
