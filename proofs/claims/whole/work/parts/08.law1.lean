section
variable {p : Program} {l : Launch} {e : Env} {R : Room} {s : State} {m : MethodId} {args : Array Value} {below : List Frame} {meth : Method} {c : Code} {H0 : Heap} {A : Nat → Prop} {cells slots : Nat} {Q : State → Prop} {D : va_G} {cl : List vw_C} {tys : List (ClassId × FieldType)} {nL : Nat} {w w' : va_W} {lv lv' : List (Nat × Value)} {pc : Nat} {st : List Value} {cc : ByteArray}
theorem x_slen (hx : p.tables.exec = Jvm.exec) (hb : c.code = cc) {b L : Nat} {xs : Nat → Int32} (hX : va_X b L xs s H0) (hbl : b < H0.size) (hbA : ¬ A b) (hd : decode cc pc = .ok (.arraylength, 1)) (k : xV p l e R s m args below meth c H0 A cells slots Q D cl nL w lv (pc + 1) (.int (iI (L : Int)) :: st)) : xV p l e R s m args below meth c H0 A cells slots Q D cl nL w lv pc (.ref b :: st) :=
  fun H locs ls hP hD hS hl => va_slen hx hb hX hbl hbA hS hd (by rw [← Int32.ofInt_eq_ofNat]; exact k H locs ls hP hD hS hl)
theorem x_sld (hx : p.tables.exec = Jvm.exec) (hb : c.code = cc) {b L : Nat} {xs : Nat → Int32} (hX : va_X b L xs s H0) (hbl : b < H0.size) (hbA : ¬ A b) {i : Int} (h0 : 0 ≤ i) (h1 : i < L) (hL : L ≤ 2147483647) (hd : decode cc pc = .ok (.iaload, 1)) (k : xV p l e R s m args below meth c H0 A cells slots Q D cl nL w lv (pc + 1) (.int (iI (xs i.toNat).toInt) :: st)) : xV p l e R s m args below meth c H0 A cells slots Q D cl nL w lv pc (.int (iI i) :: .ref b :: st) :=
  fun H locs ls hP hD hS hl => va_sld hx hb hX hbl hbA hS (iI_in h0 h1 hL) hd (by rw [iI_clamp ⟨by omega, by omega⟩, ← iI_of (xs i.toNat)]; exact k H locs ls hP hD hS hl)
theorem iI_and31 (v : Int32) : ∃ z : Int, 0 ≤ z ∧ z < 32 ∧ v &&& iI 31 = iI z := by
  have e : iI 31 = 31 := by decide
  have h1 : (v &&& 31).toBitVec.toNat ≤ 31 := by
    rw [Int32.toBitVec_and, BitVec.toNat_and]
    exact Nat.and_le_right
  have h2 : (v &&& 31).toInt = ((v &&& 31).toBitVec.toNat : Int) := by
    show (v &&& 31).toBitVec.toInt = _
    exact BitVec.toInt_eq_toNat_of_lt (by omega)
  refine ⟨(v &&& 31).toInt, by omega, by omega, ?_⟩
  rw [iI_of, e]
theorem x_and31 (hx : p.tables.exec = Jvm.exec) (hb : c.code = cc) {x : Int} (hd : decode cc pc = .ok (.iand, 1)) (k : ∀ z : Int, 0 ≤ z → z < 32 → xV p l e R s m args below meth c H0 A cells slots Q D cl nL w lv (pc + 1) (.int (iI z) :: st)) : xV p l e R s m args below meth c H0 A cells slots Q D cl nL w lv pc (.int (iI 31) :: .int (iI x) :: st) := by
  intro H locs ls hP hD hS hl
  obtain ⟨z, z0, z1, e⟩ := iI_and31 (iI x)
  refine lv_iand hx hb hd ?_
  rw [e]
  exact k z z0 z1 H locs ls hP hD hS hl
theorem x_eqT (hx : p.tables.exec = Jvm.exec) (hb : c.code = cc) {x y off : Int} {tgt : Nat} (h : x = y) (hd : decode cc pc = .ok (.if_icmp .eq off, 3)) (ht : (pc : Int) + off = (tgt : Int)) (k : xV p l e R s m args below meth c H0 A cells slots Q D cl nL w lv tgt st) : xV p l e R s m args below meth c H0 A cells slots Q D cl nL w lv pc (.int (iI y) :: .int (iI x) :: st) :=
  fun H locs ls hP hD hS hl => lv_icmp_eq hx hb hd ht (fun _ => k H locs ls hP hD hS hl) (fun q => absurd (by rw [h]) q)
end
theorem cm_C1 (ad ad2 : Nat → Nat → Nat) (cA cB : Nat → Nat → ClassId) (f : fS) (a : aS) (g : fS) (b : aS) : ([0, 1, 2, 3, 4, 5, 6, 7, 8, 9, 10, 11, 12, 13, 14, 15, 16, 17, 18, 19, 20, 21, 22, 23, 24, 25, 26, 27, 28, 29, 30, 31, 32, 33, 34, 35, 36, 37, 38, 39, 40, 41] : List Nat).map (fun i => (CW ad cA f a ++ MW ad2 cB g b)[i]?) = (CW ad cA f a).map some := rfl
theorem cm_F1 (ad ad2 : Nat → Nat → Nat) (cA cB : Nat → Nat → ClassId) (f : fS) (a : aS) (g : fS) (b : aS) : ([0, 1, 2, 3, 4, 5, 6, 7, 8, 9, 10, 11, 12, 13, 14, 15, 16, 17, 18, 19, 20, 21, 22, 23, 24, 25, 26, 27, 28, 29, 30, 31, 32, 33, 34, 35, 36, 37, 38, 39, 40, 41] : List Nat).filterMap (fun i => (CW ad cA f a ++ MW ad2 cB g b)[i]?) = CW ad cA f a := rfl
theorem cm_R1 (ad ad2 : Nat → Nat → Nat) (cA cB : Nat → Nat → ClassId) (f : fS) (a : aS) (g : fS) (b : aS) : ([42, 43, 44, 45, 46, 47, 48, 49, 50, 51, 52, 53, 54, 55, 56, 57, 58] : List Nat).map (fun i => (CW ad cA f a ++ MW ad2 cB g b)[i]?) = (MW ad2 cB g b).map some := rfl
theorem cm_D1 : ∀ i ∈ ([42, 43, 44, 45, 46, 47, 48, 49, 50, 51, 52, 53, 54, 55, 56, 57, 58] : List Nat), i ∉ ([0, 1, 2, 3, 4, 5, 6, 7, 8, 9, 10, 11, 12, 13, 14, 15, 16, 17, 18, 19, 20, 21, 22, 23, 24, 25, 26, 27, 28, 29, 30, 31, 32, 33, 34, 35, 36, 37, 38, 39, 40, 41] : List Nat) := by decide
theorem cm_N1 : va_nd [0, 1, 2, 3, 4, 5, 6, 7, 8, 9, 10, 11, 12, 13, 14, 15, 16, 17, 18, 19, 20, 21, 22, 23, 24, 25, 26, 27, 28, 29, 30, 31, 32, 33, 34, 35, 36, 37, 38, 39, 40, 41] = true ∧ va_nd [42, 43, 44, 45, 46, 47, 48, 49, 50, 51, 52, 53, 54, 55, 56, 57, 58] = true := ⟨by decide, by decide⟩
theorem cm_C2 (ad ad2 : Nat → Nat → Nat) (cA cB : Nat → Nat → ClassId) (f : fS) (a : aS) (g : fS) (b : aS) : ([0, 1, 2, 3, 4, 5, 6, 7, 8, 9, 10, 11, 12, 13, 14, 15, 16] : List Nat).map (fun i => (MW ad2 cB g b ++ CW ad cA f a)[i]?) = (MW ad2 cB g b).map some := rfl
theorem cm_F2 (ad ad2 : Nat → Nat → Nat) (cA cB : Nat → Nat → ClassId) (f : fS) (a : aS) (g : fS) (b : aS) : ([0, 1, 2, 3, 4, 5, 6, 7, 8, 9, 10, 11, 12, 13, 14, 15, 16] : List Nat).filterMap (fun i => (MW ad2 cB g b ++ CW ad cA f a)[i]?) = MW ad2 cB g b := rfl
theorem cm_R2 (ad ad2 : Nat → Nat → Nat) (cA cB : Nat → Nat → ClassId) (f : fS) (a : aS) (g : fS) (b : aS) : ([17, 18, 19, 20, 21, 22, 23, 24, 25, 26, 27, 28, 29, 30, 31, 32, 33, 34, 35, 36, 37, 38, 39, 40, 41, 42, 43, 44, 45, 46, 47, 48, 49, 50, 51, 52, 53, 54, 55, 56, 57, 58] : List Nat).map (fun i => (MW ad2 cB g b ++ CW ad cA f a)[i]?) = (CW ad cA f a).map some := rfl
theorem cm_D2 : ∀ i ∈ ([17, 18, 19, 20, 21, 22, 23, 24, 25, 26, 27, 28, 29, 30, 31, 32, 33, 34, 35, 36, 37, 38, 39, 40, 41, 42, 43, 44, 45, 46, 47, 48, 49, 50, 51, 52, 53, 54, 55, 56, 57, 58] : List Nat), i ∉ ([0, 1, 2, 3, 4, 5, 6, 7, 8, 9, 10, 11, 12, 13, 14, 15, 16] : List Nat) := by decide
theorem cm_N2 : va_nd [0, 1, 2, 3, 4, 5, 6, 7, 8, 9, 10, 11, 12, 13, 14, 15, 16] = true ∧ va_nd [17, 18, 19, 20, 21, 22, 23, 24, 25, 26, 27, 28, 29, 30, 31, 32, 33, 34, 35, 36, 37, 38, 39, 40, 41, 42, 43, 44, 45, 46, 47, 48, 49, 50, 51, 52, 53, 54, 55, 56, 57, 58] = true := ⟨by decide, by decide⟩
theorem cm_K1 (cA cB : Nat → Nat → ClassId) : ([0, 1, 2, 3, 4, 5, 6, 7, 8, 9, 10, 11, 12, 13, 14, 15, 16, 17, 18, 19, 20, 21, 22, 23, 24, 25, 26, 27, 28, 29, 30, 31, 32, 33, 34] : List Nat).filterMap (fun i => (taC cA ++ taM cB)[i]?) = taC cA := rfl
theorem cm_K2 (cA cB : Nat → Nat → ClassId) : ([35, 36, 37, 38, 39, 40, 41, 42, 43, 44, 45, 46, 47, 48, 49, 50] : List Nat).filterMap (fun i => (taC cA ++ taM cB)[i]?) = taM cB := rfl
abbrev rmL_cell : Room := { frames := 0, cells := 0, slots := 0, locals := 0 }
set_option maxHeartbeats 4000000 in
set_option maxRecDepth 100000 in
theorem m_L_cell {l : Launch} {D : va_G} {b L : Nat} {xs : Nat → Int32} (hL : L ≤ 100000) (sz : Nat) : Met l yL_cell (Cond.code yL_cell cL_cell 2 (some .int) :: xG) rmL_cell (va_Pc [.ref b, .int (iI 0)] (fun S => S.heap.size = sz ∧ va_X b L xs S S.heap ∧ b < S.heap.size)) (va_Qi (fun r (_ : Unit) => ∃ z : Int, ir z ∧ r = iI z ∧ z = if 0 < L then (xs 0).toInt else 0) (fun _ _ => True) (va_A [] sz)) 0 0 (va_A [] sz) := by
  refine Met.ofW (cc := cL_cell) (maxL := 2) (ret := some .int) (by decide) rfl ?_
  intro p e s m args below meth c s₁ B hml hv
  obtain ⟨rfl, hsz, hX, hbl⟩ := hv
  subst hsz
  have hx := B.exec
  have hb := B.bytes
  have hr := B.returns
  have hlk := B.notSynchronized
  have hbA : ¬ va_A [] s.heap.size b := by
    rintro (⟨k, e, h⟩ | h)
    · simp at h
    · omega
  have hl := lv_entry [.ref b, .int (iI 0)] (n := 2) (Nat.le_of_ble_eq_true rfl)
  rw [lg_entry_eq]
  have fin : ∀ z : Int, ir z → (z = if 0 < L then (xs 0).toInt else 0) → xV p l e rmL_cell s m ([.ref b, .int (iI 0)] : List Value).toArray below meth c s.heap (va_A [] s.heap.size) 0 0 (MQ below (va_Qi (fun r (_ : Unit) => ∃ z : Int, ir z ∧ r = iI z ∧ z = if 0 < L then (xs 0).toInt else 0) (fun _ _ => True) (va_A [] s.heap.size)) ([.ref b, .int (iI 0)] : List Value).toArray s 0 0 (va_A [] s.heap.size)) D vwCl 2 [] [(0, .ref b), (1, .int (iI 0))] 13 [.int (iI z)] := by
    intro z hz e1 H locs ls hP hD hS hl
    exact W.iret (v := iI z) hx hb hr (fun t ht hW => ⟨⟨iI z, (), rfl, ⟨z, hz, rfl, e1⟩, trivial⟩, hS.F ht⟩) hS.2.2 dL_cell_13 hlk
  have body : xV p l e rmL_cell s m ([.ref b, .int (iI 0)] : List Value).toArray below meth c s.heap (va_A [] s.heap.size) 0 0 (MQ below (va_Qi (fun r (_ : Unit) => ∃ z : Int, ir z ∧ r = iI z ∧ z = if 0 < L then (xs 0).toInt else 0) (fun _ _ => True) (va_A [] s.heap.size)) ([.ref b, .int (iI 0)] : List Value).toArray s 0 0 (va_A [] s.heap.size)) D vwCl 2 [] [(0, .ref b), (1, .int (iI 0))] 0 [] := by
    refine x_iload_n hx hb dL_cell_0 rfl 1 rfl ?_
    refine x_aload_n hx hb dL_cell_1 rfl 0 rfl ?_
    refine x_slen hx hb hX hbl hbA dL_cell_2 ?_
    refine x_icmp_ge hx hb (tgt := 12) (by decide) ⟨by omega, by omega⟩ dL_cell_3 (by decide) (fun hc => ?_) (fun hc => ?_)
    · refine x_iconst hx hb dL_cell_12 ?_
      exact fin 0 ir_0 (by rw [if_neg (by omega)])
    · refine x_aload_n hx hb dL_cell_6 rfl 0 rfl ?_
      refine x_iload_n hx hb dL_cell_7 rfl 1 rfl ?_
      refine x_sld hx hb hX hbl hbA (by omega) (by omega) (by omega) dL_cell_8 ?_
      refine x_goto hx hb (tgt := 13) dL_cell_9 (by decide) ?_
      exact fin (xs 0).toInt (iI_ir _) (by rw [if_pos (by omega)])
  exact body s.heap [] _ (fun k q h => by simp at h) ⟨fun i j p q h => by simp at h, fun k q h => by simp at h⟩ va_S.rf hl
/-- class and reference answer alike and stay alike -/
def xSim (I : fS → aS → fS → aS → Prop) : Prop :=
  (∀ (f : fS) (a : aS) (g : fS) (b : aS) (x1 : Int), I f a g b → ir x1 → wp_X_letter (fun z f1 a1 => wp_M_letter (fun z2 g1 b1 => z = z2 ∧ I f1 a1 g1 b1) x1 g b) x1 f a) ∧
  (∀ (f : fS) (a : aS) (g : fS) (b : aS), I f a g b → wp_X_clear (fun z f1 a1 => wp_M_clear (fun z2 g1 b1 => z = z2 ∧ I f1 a1 g1 b1)  g b)  f a) ∧
  (∀ (f : fS) (a : aS) (g : fS) (b : aS), I f a g b → wp_X_invert (fun z f1 a1 => wp_M_invert (fun z2 g1 b1 => z = z2 ∧ I f1 a1 g1 b1)  g b)  f a) ∧
  (∀ (f : fS) (a : aS) (g : fS) (b : aS) (x1 : Int), I f a g b → ir x1 → wp_X_at (fun z f1 a1 => wp_M_at (fun z2 g1 b1 => z = z2 ∧ I f1 a1 g1 b1) x1 g b) x1 f a) ∧
  (∀ (f : fS) (a : aS) (g : fS) (b : aS) (x1 x2 : Int), I f a g b → ir x1 → ir x2 → wp_X_take (fun z f1 a1 => wp_M_take (fun z2 g1 b1 => z = z2 ∧ I f1 a1 g1 b1) x1 x2 g b) x1 x2 f a) ∧
  (∀ (f : fS) (a : aS) (g : fS) (b : aS) (x1 : Int), I f a g b → ir x1 → wp_X_generate (fun z f1 a1 => wp_M_generate (fun z2 g1 b1 => z = z2 ∧ I f1 a1 g1 b1) x1 g b) x1 f a) ∧
  (∀ (f : fS) (a : aS) (g : fS) (b : aS) (x1 : Int), I f a g b → ir x1 → wp_X_drop (fun z f1 a1 => wp_M_drop (fun z2 g1 b1 => z = z2 ∧ I f1 a1 g1 b1) x1 g b) x1 f a) ∧
  (∀ (f : fS) (a : aS) (g : fS) (b : aS) (x1 x2 : Int), I f a g b → ir x1 → ir x2 → wp_X_conjugate (fun z f1 a1 => wp_M_conjugate (fun z2 g1 b1 => z = z2 ∧ I f1 a1 g1 b1) x1 x2 g b) x1 x2 f a) ∧
  (∀ (f : fS) (a : aS) (g : fS) (b : aS) (x1 x2 x3 : Int), I f a g b → ir x1 → ir x2 → ir x3 → wp_X_meet (fun z f1 a1 => wp_M_meet (fun z2 g1 b1 => z = z2 ∧ I f1 a1 g1 b1) x1 x2 x3 g b) x1 x2 x3 f a) ∧
  (∀ (f : fS) (a : aS) (g : fS) (b : aS) (x1 x2 x3 : Int), I f a g b → ir x1 → ir x2 → ir x3 → wp_X_join (fun z f1 a1 => wp_M_join (fun z2 g1 b1 => z = z2 ∧ I f1 a1 g1 b1) x1 x2 x3 g b) x1 x2 x3 f a) ∧
  (∀ (f : fS) (a : aS) (g : fS) (b : aS) (x1 : Int), I f a g b → ir x1 → wp_X_member (fun z f1 a1 => wp_M_member (fun z2 g1 b1 => z = z2 ∧ I f1 a1 g1 b1) x1 g b) x1 f a) ∧
  (∀ (f : fS) (a : aS) (g : fS) (b : aS) (x1 : Int), I f a g b → ir x1 → wp_X_trace (fun z f1 a1 => wp_M_trace (fun z2 g1 b1 => z = z2 ∧ I f1 a1 g1 b1) x1 g b) x1 f a) ∧
  (∀ (f : fS) (a : aS) (g : fS) (b : aS) (x1 x2 : Int), I f a g b → ir x1 → ir x2 → wp_X_written (fun z f1 a1 => wp_M_written (fun z2 g1 b1 => z = z2 ∧ I f1 a1 g1 b1) x1 x2 g b) x1 x2 f a) ∧
  (∀ (f : fS) (a : aS) (g : fS) (b : aS) (x1 x2 : Int), I f a g b → ir x1 → ir x2 → wp_X_length (fun z f1 a1 => wp_M_length (fun z2 g1 b1 => z = z2 ∧ I f1 a1 g1 b1) x1 x2 g b) x1 x2 f a) ∧
  (∀ (f : fS) (a : aS) (g : fS) (b : aS) (x1 x2 x3 : Int), I f a g b → ir x1 → ir x2 → ir x3 → wp_X_basis (fun z f1 a1 => wp_M_basis (fun z2 g1 b1 => z = z2 ∧ I f1 a1 g1 b1) x1 x2 x3 g b) x1 x2 x3 f a) ∧
  (∀ (f : fS) (a : aS) (g : fS) (b : aS) (x1 x2 x3 : Int), I f a g b → ir x1 → ir x2 → ir x3 → wp_X_target (fun z f1 a1 => wp_M_target (fun z2 g1 b1 => z = z2 ∧ I f1 a1 g1 b1) x1 x2 x3 g b) x1 x2 x3 f a) ∧
  (∀ (f : fS) (a : aS) (g : fS) (b : aS) (x1 x2 : Int), I f a g b → ir x1 → ir x2 → wp_X_figure (fun z f1 a1 => wp_M_figure (fun z2 g1 b1 => z = z2 ∧ I f1 a1 g1 b1) x1 x2 g b) x1 x2 f a) ∧
  (∀ (f : fS) (a : aS) (g : fS) (b : aS) (x1 x2 : Int), I f a g b → ir x1 → ir x2 → wp_X_contains (fun z f1 a1 => wp_M_contains (fun z2 g1 b1 => z = z2 ∧ I f1 a1 g1 b1) x1 x2 g b) x1 x2 f a) ∧
  (∀ (f : fS) (a : aS) (g : fS) (b : aS) (x1 : Int), I f a g b → ir x1 → wp_X_normal (fun z f1 a1 => wp_M_normal (fun z2 g1 b1 => z = z2 ∧ I f1 a1 g1 b1) x1 g b) x1 f a)
def xBeg (I : fS → aS → fS → aS → Prop) : Prop := ∀ (x : Int) (f : fS) (a : aS) (g : fS) (b : aS), (f 0 0 = max 1 (min 3 x) ∧ f 1 1 = 0 ∧ ∀ o, 3 ≤ o ∧ o < 7 → gr0 f a o) → (g 0 0 = max 1 (min 3 x) ∧ mo0 g b) → I f a g b
