/-- an int by its number -/
def iI (z : Int) : Int32 := Int32.ofInt z
abbrev ir (z : Int) : Prop := -2147483648 ≤ z ∧ z ≤ 2147483647
theorem iI_0 : iI 0 = 0 := by decide
theorem iI_add (x y : Int) : iI x + iI y = iI (x + y) := (Int32.ofInt_add x y).symm
theorem iI_sub (x y : Int) : iI x - iI y = iI (x - y) := (Int32.ofInt_sub x y).symm
theorem iI_mul (x y : Int) : iI x * iI y = iI (x * y) := (Int32.ofInt_mul x y).symm
theorem iI_neg (x : Int) : -iI x = iI (-x) := (Int32.ofInt_neg x).symm
theorem iI_toInt {x : Int} (h : ir x) : (iI x).toInt = x := Int32.toInt_ofInt_of_le (by have := h.1; omega) (by have := h.2; omega)
theorem iI_of (v : Int32) : iI v.toInt = v := Int32.ofInt_toInt v
theorem iI_ir (v : Int32) : ir v.toInt := ⟨by have := v.le_toInt; omega, by have := v.toInt_lt; omega⟩
theorem iI_le {x y : Int} (hx : ir x) (hy : ir y) : iI x ≤ iI y ↔ x ≤ y := by rw [Int32.le_iff_toInt_le, iI_toInt hx, iI_toInt hy]
theorem iI_lt {x y : Int} (hx : ir x) (hy : ir y) : iI x < iI y ↔ x < y := by rw [Int32.lt_iff_toInt_lt, iI_toInt hx, iI_toInt hy]
theorem iI_eq {x y : Int} (hx : ir x) (hy : ir y) : iI x = iI y ↔ x = y := by rw [← Int32.toInt_inj, iI_toInt hx, iI_toInt hy]
theorem ir_0 : ir 0 := by constructor <;> decide
theorem iI_clamp {x : Int} (h : ir x) : (iI x).toNatClampNeg = x.toNat := Int32.toNatClampNeg_ofInt_of_le (by have := h.1; omega) (by have := h.2; omega)
theorem iI_in {i : Int} {n : Nat} (h0 : 0 ≤ i) (h1 : i < n) (hn : n ≤ 2147483647) : vp_in (iI i) n := by
  have hi : ir i := by constructor <;> omega
  rintro (h | h)
  · rw [← iI_0, iI_lt hi ir_0] at h
    omega
  · rw [iI_clamp hi] at h
    omega
theorem iI_upd (g : Nat → Int) {i x : Int} (hi : ir i) : upd (fun j => iI (g j)) (iI i).toNatClampNeg (iI x) = fun j => iI (va_up g i.toNat x j) := by
  funext j
  rw [iI_clamp hi]
  unfold upd va_up
  split <;> rfl
/-- the code of the inverse letter -/
def cx (c : Int) : Int := c + 1 - 2 * (c % 2)
theorem iI_xor1 {c : Int} (h0 : 0 ≤ c) (h6 : c < 6) : iI c ^^^ iI 1 = iI (cx c) := by
  have : c = 0 ∨ c = 1 ∨ c = 2 ∨ c = 3 ∨ c = 4 ∨ c = 5 := by omega
  rcases this with rfl | rfl | rfl | rfl | rfl | rfl <;> decide
theorem iI_and1 {c : Int} (h0 : 0 ≤ c) (h6 : c < 6) : iI c &&& iI 1 = iI (c % 2) := by
  have : c = 0 ∨ c = 1 ∨ c = 2 ∨ c = 3 ∨ c = 4 ∨ c = 5 := by omega
  rcases this with rfl | rfl | rfl | rfl | rfl | rfl <;> decide
theorem iI_shr1 {c : Int} (h0 : 0 ≤ c) (h6 : c < 6) : iI c >>> (iI 1 &&& 31) = iI (c / 2) := by
  have : c = 0 ∨ c = 1 ∨ c = 2 ∨ c = 3 ∨ c = 4 ∨ c = 5 := by omega
  rcases this with rfl | rfl | rfl | rfl | rfl | rfl <;> decide
theorem iI_div {x y : Int} (h0 : 0 ≤ x) (hx : x ≤ 2147483647) (hy : 0 < y) (hy2 : y ≤ 2147483647) : iI x / iI y = iI (x / y) := by
  have h := Int32.ofInt_tdiv (a := x) (b := y) (by have : Int32.minValue.toInt = -2147483648 := by decide
                                                   omega) (by have : Int32.maxValue.toInt = 2147483647 := by decide
                                                              omega) (by have : Int32.minValue.toInt = -2147483648 := by decide
                                                                         omega) (by have : Int32.maxValue.toInt = 2147483647 := by decide
                                                                                    omega)
  rw [Int.tdiv_eq_ediv_of_nonneg h0] at h
  exact h.symm
theorem iI_rem {x y : Int} (h0 : 0 ≤ x) (hx : x ≤ 2147483647) (hy : 0 < y) (hy2 : y ≤ 2147483647) : iI x - iI x / iI y * iI y = iI (x % y) := by
  rw [iI_div h0 hx hy hy2, iI_mul, iI_sub]
  have h := Int.emod_def x y
  rw [h, Int.mul_comm]
theorem iI_ne0 {y : Int} (hy : 0 < y) (hy2 : y ≤ 2147483647) : ¬ iI y = 0 := by
  rw [← iI_0, iI_eq ⟨by omega, hy2⟩ ir_0]
  omega
/-- states: int fields by object and place, int arrays by object and place -/
abbrev fS : Type := Nat → Nat → Int
abbrev aS : Type := Nat → Nat → Nat → Int
def setF (f : fS) (o k : Nat) (v : Int) : fS := fun o' k' => if o' = o ∧ k' = k then v else f o' k'
def setA (a : aS) (o k : Nat) (g : Nat → Int) : aS := fun o' k' => if o' = o ∧ k' = k then g else a o' k'
theorem setF_s (f : fS) (o k : Nat) (v : Int) : setF f o k v o k = v := by simp [setF]
theorem setA_s (a : aS) (o k : Nat) (g : Nat → Int) : setA a o k g o k = g := by simp [setA]
theorem setF_o (f : fS) {o k o' k' : Nat} (v : Int) (h : o' ≠ o) : setF f o k v o' k' = f o' k' := by simp [setF, h]
theorem setA_o (a : aS) {o k o' k' : Nat} (g : Nat → Int) (h : o' ≠ o) : setA a o k g o' k' = a o' k' := by simp [setA, h]
theorem setF_k (f : fS) {o k o' k' : Nat} (v : Int) (h : k' ≠ k) : setF f o k v o' k' = f o' k' := by simp [setF, h]
theorem setA_k (a : aS) {o k o' k' : Nat} (g : Nat → Int) (h : k' ≠ k) : setA a o k g o' k' = a o' k' := by simp [setA, h]
section
variable {p : Program} {l : Launch} {e : Env} {R : Room} {s : State} {m : MethodId} {args : Array Value} {below : List Frame} {meth : Method} {c : Code} {H0 : Heap} {A : Nat → Prop} {cells slots : Nat} {Q : State → Prop} {D : va_G} {cl : List vw_C} {tys : List (ClassId × FieldType)} {nL : Nat} {w w' : va_W} {lv lv' : List (Nat × Value)} {pc : Nat} {st : List Value} {cc : ByteArray}
/-- from every heap that holds the world w, and locals lv: the machine at pc with stack st comes to Q -/
def xV (p : Program) (l : Launch) (e : Env) (R : Room) (s : State) (m : MethodId) (args : Array Value) (below : List Frame) (meth : Method) (c : Code) (H0 : Heap) (A : Nat → Prop) (cells slots : Nat) (Q : State → Prop) (D : va_G) (cl : List vw_C) (nL : Nat) (w : va_W) (lv : List (Nat × Value)) (pc : Nat) (st : List Value) : Prop :=
  ∀ (H : Heap) (locs : List Loc) (ls : Array Slot), va_P D cl w H → va_D A w → va_S A H0 H locs → lv_has ls nL lv → W p l e R s m args below meth c H locs cells slots Q (F0 m pc ls st)
theorem x_sub (ks : List Nat) (h : lv_pick lv ks = lv') (k : xV p l e R s m args below meth c H0 A cells slots Q D cl nL w lv' pc st) : xV p l e R s m args below meth c H0 A cells slots Q D cl nL w lv pc st :=
  fun H locs ls hP hD hS hl => k H locs ls hP hD hS (lv_sub hl ks h)
theorem x_iconst (hx : p.tables.exec = Jvm.exec) (hb : c.code = cc) {n : Int} (hd : decode cc pc = .ok (.iconst n, 1)) (k : xV p l e R s m args below meth c H0 A cells slots Q D cl nL w lv (pc + 1) (.int (iI n) :: st)) : xV p l e R s m args below meth c H0 A cells slots Q D cl nL w lv pc st :=
  fun H locs ls hP hD hS hl => lv_iconst hx hb hd rfl (k H locs ls hP hD hS hl)
theorem x_bipush (hx : p.tables.exec = Jvm.exec) (hb : c.code = cc) {n : Int} (hd : decode cc pc = .ok (.bipush n, 2)) (hv : (Int8.ofInt n).toInt32 = iI n) (k : xV p l e R s m args below meth c H0 A cells slots Q D cl nL w lv (pc + 2) (.int (iI n) :: st)) : xV p l e R s m args below meth c H0 A cells slots Q D cl nL w lv pc st :=
  fun H locs ls hP hD hS hl => lv_bipush hx hb hd hv (k H locs ls hP hD hS hl)
theorem x_sipush (hx : p.tables.exec = Jvm.exec) (hb : c.code = cc) {n : Int} (hd : decode cc pc = .ok (.sipush n, 3)) (hv : (Int16.ofInt n).toInt32 = iI n) (k : xV p l e R s m args below meth c H0 A cells slots Q D cl nL w lv (pc + 3) (.int (iI n) :: st)) : xV p l e R s m args below meth c H0 A cells slots Q D cl nL w lv pc st :=
  fun H locs ls hP hD hS hl => lv_sipush hx hb hd hv (k H locs ls hP hD hS hl)
theorem x_iload_n (hx : p.tables.exec = Jvm.exec) (hb : c.code = cc) {k' : Fin 4} {i : Nat} {v : Int32} (hd : decode cc pc = .ok (.iload_n k', 1)) (hi : (k' : Nat) = i) (q : Nat) (hq : lv[q]? = some (i, .int v)) (k : xV p l e R s m args below meth c H0 A cells slots Q D cl nL w lv (pc + 1) (.int v :: st)) : xV p l e R s m args below meth c H0 A cells slots Q D cl nL w lv pc st :=
  fun H locs ls hP hD hS hl => lv_iload_n hx hb hd hi (lv_at hl q hq) (k H locs ls hP hD hS hl)
theorem x_iload (hx : p.tables.exec = Jvm.exec) (hb : c.code = cc) {i : Nat} {v : Int32} (hd : decode cc pc = .ok (.iload i, 2)) (q : Nat) (hq : lv[q]? = some (i, .int v)) (k : xV p l e R s m args below meth c H0 A cells slots Q D cl nL w lv (pc + 2) (.int v :: st)) : xV p l e R s m args below meth c H0 A cells slots Q D cl nL w lv pc st :=
  fun H locs ls hP hD hS hl => lv_iload hx hb hd (lv_at hl q hq) (k H locs ls hP hD hS hl)
theorem x_istore_n (hx : p.tables.exec = Jvm.exec) (hb : c.code = cc) {k' : Fin 4} {i : Nat} {v : Int32} (hd : decode cc pc = .ok (.istore_n k', 1)) (hi : (k' : Nat) = i) (hn : i < nL) (hl' : (i, Value.int v) :: lv.filter (fun q => !(q.1 == i) && !(q.1 + 1 == i && q.2.category == 2)) = lv') (k : xV p l e R s m args below meth c H0 A cells slots Q D cl nL w lv' (pc + 1) st) : xV p l e R s m args below meth c H0 A cells slots Q D cl nL w lv pc (.int v :: st) :=
  fun H locs ls hP hD hS hl => lv_istore_n hx hb hd hi hl hn hl' (fun ls' h' => k H locs ls' hP hD hS h')
theorem x_istore (hx : p.tables.exec = Jvm.exec) (hb : c.code = cc) {i : Nat} {v : Int32} (hd : decode cc pc = .ok (.istore i, 2)) (hn : i < nL) (hl' : (i, Value.int v) :: lv.filter (fun q => !(q.1 == i) && !(q.1 + 1 == i && q.2.category == 2)) = lv') (k : xV p l e R s m args below meth c H0 A cells slots Q D cl nL w lv' (pc + 2) st) : xV p l e R s m args below meth c H0 A cells slots Q D cl nL w lv pc (.int v :: st) :=
  fun H locs ls hP hD hS hl => lv_istore hx hb hd hl hn hl' (fun ls' h' => k H locs ls' hP hD hS h')
theorem x_aload_n (hx : p.tables.exec = Jvm.exec) (hb : c.code = cc) {k' : Fin 4} {i : Nat} {v : Nat} (hd : decode cc pc = .ok (.aload_n k', 1)) (hi : (k' : Nat) = i) (q : Nat) (hq : lv[q]? = some (i, .ref v)) (k : xV p l e R s m args below meth c H0 A cells slots Q D cl nL w lv (pc + 1) (.ref v :: st)) : xV p l e R s m args below meth c H0 A cells slots Q D cl nL w lv pc st :=
  fun H locs ls hP hD hS hl => lv_aload_n hx hb hd hi (lv_at hl q hq) (k H locs ls hP hD hS hl)
theorem x_aload (hx : p.tables.exec = Jvm.exec) (hb : c.code = cc) {i : Nat} {v : Nat} (hd : decode cc pc = .ok (.aload i, 2)) (q : Nat) (hq : lv[q]? = some (i, .ref v)) (k : xV p l e R s m args below meth c H0 A cells slots Q D cl nL w lv (pc + 2) (.ref v :: st)) : xV p l e R s m args below meth c H0 A cells slots Q D cl nL w lv pc st :=
  fun H locs ls hP hD hS hl => lv_aload hx hb hd (lv_at hl q hq) (k H locs ls hP hD hS hl)
theorem x_astore_n (hx : p.tables.exec = Jvm.exec) (hb : c.code = cc) {k' : Fin 4} {i : Nat} {v : Nat} (hd : decode cc pc = .ok (.astore_n k', 1)) (hi : (k' : Nat) = i) (hn : i < nL) (hl' : (i, Value.ref v) :: lv.filter (fun q => !(q.1 == i) && !(q.1 + 1 == i && q.2.category == 2)) = lv') (k : xV p l e R s m args below meth c H0 A cells slots Q D cl nL w lv' (pc + 1) st) : xV p l e R s m args below meth c H0 A cells slots Q D cl nL w lv pc (.ref v :: st) :=
  fun H locs ls hP hD hS hl => lv_astore_n hx hb hd hi hl hn hl' (fun ls' h' => k H locs ls' hP hD hS h')
theorem x_astore (hx : p.tables.exec = Jvm.exec) (hb : c.code = cc) {i : Nat} {v : Nat} (hd : decode cc pc = .ok (.astore i, 2)) (hn : i < nL) (hl' : (i, Value.ref v) :: lv.filter (fun q => !(q.1 == i) && !(q.1 + 1 == i && q.2.category == 2)) = lv') (k : xV p l e R s m args below meth c H0 A cells slots Q D cl nL w lv' (pc + 2) st) : xV p l e R s m args below meth c H0 A cells slots Q D cl nL w lv pc (.ref v :: st) :=
  fun H locs ls hP hD hS hl => lv_astore hx hb hd hl hn hl' (fun ls' h' => k H locs ls' hP hD hS h')
theorem x_iinc (hx : p.tables.exec = Jvm.exec) (hb : c.code = cc) {i : Nat} {n x : Int} (hd : decode cc pc = .ok (.iinc i n, 3)) (q : Nat) (hq : lv[q]? = some (i, .int (iI x))) (hn : i < nL) (hl' : (i, Value.int (iI (x + n))) :: lv.filter (fun q => !(q.1 == i) && !(q.1 + 1 == i && q.2.category == 2)) = lv') (k : xV p l e R s m args below meth c H0 A cells slots Q D cl nL w lv' (pc + 3) st) : xV p l e R s m args below meth c H0 A cells slots Q D cl nL w lv pc st :=
  fun H locs ls hP hD hS hl => lv_iinc hx hb hd hl hq (iI_add x n) hn hl' (fun ls' h' => k H locs ls' hP hD hS h')
theorem x_iadd (hx : p.tables.exec = Jvm.exec) (hb : c.code = cc) {x y : Int} (hd : decode cc pc = .ok (.iadd, 1)) (k : xV p l e R s m args below meth c H0 A cells slots Q D cl nL w lv (pc + 1) (.int (iI (x + y)) :: st)) : xV p l e R s m args below meth c H0 A cells slots Q D cl nL w lv pc (.int (iI y) :: .int (iI x) :: st) :=
  fun H locs ls hP hD hS hl => lv_iadd hx hb hd (by rw [iI_add]; exact k H locs ls hP hD hS hl)
theorem x_isub (hx : p.tables.exec = Jvm.exec) (hb : c.code = cc) {x y : Int} (hd : decode cc pc = .ok (.isub, 1)) (k : xV p l e R s m args below meth c H0 A cells slots Q D cl nL w lv (pc + 1) (.int (iI (x - y)) :: st)) : xV p l e R s m args below meth c H0 A cells slots Q D cl nL w lv pc (.int (iI y) :: .int (iI x) :: st) :=
  fun H locs ls hP hD hS hl => lv_isub hx hb hd (by rw [iI_sub]; exact k H locs ls hP hD hS hl)
theorem x_imul (hx : p.tables.exec = Jvm.exec) (hb : c.code = cc) {x y : Int} (hd : decode cc pc = .ok (.imul, 1)) (k : xV p l e R s m args below meth c H0 A cells slots Q D cl nL w lv (pc + 1) (.int (iI (x * y)) :: st)) : xV p l e R s m args below meth c H0 A cells slots Q D cl nL w lv pc (.int (iI y) :: .int (iI x) :: st) :=
  fun H locs ls hP hD hS hl => lv_imul hx hb hd (by rw [iI_mul]; exact k H locs ls hP hD hS hl)
theorem x_ineg (hx : p.tables.exec = Jvm.exec) (hb : c.code = cc) {x : Int} (hd : decode cc pc = .ok (.ineg, 1)) (k : xV p l e R s m args below meth c H0 A cells slots Q D cl nL w lv (pc + 1) (.int (iI (-x)) :: st)) : xV p l e R s m args below meth c H0 A cells slots Q D cl nL w lv pc (.int (iI x) :: st) :=
  fun H locs ls hP hD hS hl => lv_ineg hx hb hd (by rw [iI_neg]; exact k H locs ls hP hD hS hl)
theorem x_idiv (hx : p.tables.exec = Jvm.exec) (hb : c.code = cc) {x y : Int} (h0 : 0 ≤ x) (h1 : x ≤ 2147483647) (h2 : 0 < y) (h3 : y ≤ 2147483647) (hd : decode cc pc = .ok (.idiv, 1)) (k : xV p l e R s m args below meth c H0 A cells slots Q D cl nL w lv (pc + 1) (.int (iI (x / y)) :: st)) : xV p l e R s m args below meth c H0 A cells slots Q D cl nL w lv pc (.int (iI y) :: .int (iI x) :: st) :=
  fun H locs ls hP hD hS hl => lv_idiv hx hb hd (iI_ne0 h2 h3) (by rw [iI_div h0 h1 h2 h3]; exact k H locs ls hP hD hS hl)
theorem x_irem (hx : p.tables.exec = Jvm.exec) (hb : c.code = cc) {x y : Int} (h0 : 0 ≤ x) (h1 : x ≤ 2147483647) (h2 : 0 < y) (h3 : y ≤ 2147483647) (hd : decode cc pc = .ok (.irem, 1)) (k : xV p l e R s m args below meth c H0 A cells slots Q D cl nL w lv (pc + 1) (.int (iI (x % y)) :: st)) : xV p l e R s m args below meth c H0 A cells slots Q D cl nL w lv pc (.int (iI y) :: .int (iI x) :: st) :=
  fun H locs ls hP hD hS hl => lv_irem hx hb hd (iI_ne0 h2 h3) (by rw [iI_rem h0 h1 h2 h3]; exact k H locs ls hP hD hS hl)
theorem x_ixor1 (hx : p.tables.exec = Jvm.exec) (hb : c.code = cc) {x : Int} (h0 : 0 ≤ x) (h6 : x < 6) (hd : decode cc pc = .ok (.ixor, 1)) (k : xV p l e R s m args below meth c H0 A cells slots Q D cl nL w lv (pc + 1) (.int (iI (cx x)) :: st)) : xV p l e R s m args below meth c H0 A cells slots Q D cl nL w lv pc (.int (iI 1) :: .int (iI x) :: st) :=
  fun H locs ls hP hD hS hl => lv_ixor hx hb hd (by rw [iI_xor1 h0 h6]; exact k H locs ls hP hD hS hl)
theorem x_iand1 (hx : p.tables.exec = Jvm.exec) (hb : c.code = cc) {x : Int} (h0 : 0 ≤ x) (h6 : x < 6) (hd : decode cc pc = .ok (.iand, 1)) (k : xV p l e R s m args below meth c H0 A cells slots Q D cl nL w lv (pc + 1) (.int (iI (x % 2)) :: st)) : xV p l e R s m args below meth c H0 A cells slots Q D cl nL w lv pc (.int (iI 1) :: .int (iI x) :: st) :=
  fun H locs ls hP hD hS hl => lv_iand hx hb hd (by rw [iI_and1 h0 h6]; exact k H locs ls hP hD hS hl)
theorem x_ishr1 (hx : p.tables.exec = Jvm.exec) (hb : c.code = cc) {x : Int} (h0 : 0 ≤ x) (h6 : x < 6) (hd : decode cc pc = .ok (.ishr, 1)) (k : xV p l e R s m args below meth c H0 A cells slots Q D cl nL w lv (pc + 1) (.int (iI (x / 2)) :: st)) : xV p l e R s m args below meth c H0 A cells slots Q D cl nL w lv pc (.int (iI 1) :: .int (iI x) :: st) :=
  fun H locs ls hP hD hS hl => lv_ishr hx hb hd (by rw [iI_shr1 h0 h6]; exact k H locs ls hP hD hS hl)
theorem x_dup (hx : p.tables.exec = Jvm.exec) (hb : c.code = cc) {a : Value} (ha : a.category = 1) (hd : decode cc pc = .ok (.dup, 1)) (k : xV p l e R s m args below meth c H0 A cells slots Q D cl nL w lv (pc + 1) (a :: a :: st)) : xV p l e R s m args below meth c H0 A cells slots Q D cl nL w lv pc (a :: st) :=
  fun H locs ls hP hD hS hl => lv_dup hx hb hd ha (k H locs ls hP hD hS hl)
theorem x_pop (hx : p.tables.exec = Jvm.exec) (hb : c.code = cc) {a : Value} (ha : a.category = 1) (hd : decode cc pc = .ok (.pop, 1)) (k : xV p l e R s m args below meth c H0 A cells slots Q D cl nL w lv (pc + 1) st) : xV p l e R s m args below meth c H0 A cells slots Q D cl nL w lv pc (a :: st) :=
  fun H locs ls hP hD hS hl => lv_pop hx hb hd ha (k H locs ls hP hD hS hl)
theorem x_dup_x1 (hx : p.tables.exec = Jvm.exec) (hb : c.code = cc) {a b : Value} (ha : a.category = 1) (hb' : b.category = 1) (hd : decode cc pc = .ok (.dup_x1, 1)) (k : xV p l e R s m args below meth c H0 A cells slots Q D cl nL w lv (pc + 1) (a :: b :: a :: st)) : xV p l e R s m args below meth c H0 A cells slots Q D cl nL w lv pc (a :: b :: st) :=
  fun H locs ls hP hD hS hl => lv_dup_x1 hx hb hd ha hb' (k H locs ls hP hD hS hl)
theorem x_goto (hx : p.tables.exec = Jvm.exec) (hb : c.code = cc) {off : Int} {tgt : Nat} (hd : decode cc pc = .ok (.goto off, 3)) (ht : (pc : Int) + off = (tgt : Int)) (k : xV p l e R s m args below meth c H0 A cells slots Q D cl nL w lv tgt st) : xV p l e R s m args below meth c H0 A cells slots Q D cl nL w lv pc st :=
  fun H locs ls hP hD hS hl => lv_goto hx hb hd ht (k H locs ls hP hD hS hl)
theorem x_icmp_eq (hx : p.tables.exec = Jvm.exec) (hb : c.code = cc) {x y off : Int} {tgt : Nat} (h1 : ir x) (h2 : ir y) (hd : decode cc pc = .ok (.if_icmp .eq off, 3)) (ht : (pc : Int) + off = (tgt : Int)) (kt : (x = y) → xV p l e R s m args below meth c H0 A cells slots Q D cl nL w lv tgt st) (kf : ¬ (x = y) → xV p l e R s m args below meth c H0 A cells slots Q D cl nL w lv (pc + 3) st) : xV p l e R s m args below meth c H0 A cells slots Q D cl nL w lv pc (.int (iI y) :: .int (iI x) :: st) :=
  fun H locs ls hP hD hS hl => lv_icmp_eq hx hb hd ht (fun h => kt ((iI_eq h1 h2).mp h) H locs ls hP hD hS hl) (fun h => kf (fun q => h ((iI_eq h1 h2).mpr q)) H locs ls hP hD hS hl)
theorem x_icmp_ne (hx : p.tables.exec = Jvm.exec) (hb : c.code = cc) {x y off : Int} {tgt : Nat} (h1 : ir x) (h2 : ir y) (hd : decode cc pc = .ok (.if_icmp .ne off, 3)) (ht : (pc : Int) + off = (tgt : Int)) (kt : (¬ x = y) → xV p l e R s m args below meth c H0 A cells slots Q D cl nL w lv tgt st) (kf : ¬ (¬ x = y) → xV p l e R s m args below meth c H0 A cells slots Q D cl nL w lv (pc + 3) st) : xV p l e R s m args below meth c H0 A cells slots Q D cl nL w lv pc (.int (iI y) :: .int (iI x) :: st) :=
  fun H locs ls hP hD hS hl => lv_icmp_ne hx hb hd ht (fun h => kt ((not_congr (iI_eq h1 h2)).mp h) H locs ls hP hD hS hl) (fun h => kf (fun q => q ((iI_eq h1 h2).mp h)) H locs ls hP hD hS hl)
theorem x_icmp_lt (hx : p.tables.exec = Jvm.exec) (hb : c.code = cc) {x y off : Int} {tgt : Nat} (h1 : ir x) (h2 : ir y) (hd : decode cc pc = .ok (.if_icmp .lt off, 3)) (ht : (pc : Int) + off = (tgt : Int)) (kt : (x < y) → xV p l e R s m args below meth c H0 A cells slots Q D cl nL w lv tgt st) (kf : ¬ (x < y) → xV p l e R s m args below meth c H0 A cells slots Q D cl nL w lv (pc + 3) st) : xV p l e R s m args below meth c H0 A cells slots Q D cl nL w lv pc (.int (iI y) :: .int (iI x) :: st) :=
  fun H locs ls hP hD hS hl => lv_icmp_lt hx hb hd ht (fun h => kt ((iI_lt h1 h2).mp h) H locs ls hP hD hS hl) (fun h => kf (fun q => h ((iI_lt h1 h2).mpr q)) H locs ls hP hD hS hl)
theorem x_icmp_ge (hx : p.tables.exec = Jvm.exec) (hb : c.code = cc) {x y off : Int} {tgt : Nat} (h1 : ir x) (h2 : ir y) (hd : decode cc pc = .ok (.if_icmp .ge off, 3)) (ht : (pc : Int) + off = (tgt : Int)) (kt : (y ≤ x) → xV p l e R s m args below meth c H0 A cells slots Q D cl nL w lv tgt st) (kf : ¬ (y ≤ x) → xV p l e R s m args below meth c H0 A cells slots Q D cl nL w lv (pc + 3) st) : xV p l e R s m args below meth c H0 A cells slots Q D cl nL w lv pc (.int (iI y) :: .int (iI x) :: st) :=
  fun H locs ls hP hD hS hl => lv_icmp_ge hx hb hd ht (fun h => kt ((iI_le h2 h1).mp h) H locs ls hP hD hS hl) (fun h => kf (fun q => h ((iI_le h2 h1).mpr q)) H locs ls hP hD hS hl)
theorem x_icmp_gt (hx : p.tables.exec = Jvm.exec) (hb : c.code = cc) {x y off : Int} {tgt : Nat} (h1 : ir x) (h2 : ir y) (hd : decode cc pc = .ok (.if_icmp .gt off, 3)) (ht : (pc : Int) + off = (tgt : Int)) (kt : (y < x) → xV p l e R s m args below meth c H0 A cells slots Q D cl nL w lv tgt st) (kf : ¬ (y < x) → xV p l e R s m args below meth c H0 A cells slots Q D cl nL w lv (pc + 3) st) : xV p l e R s m args below meth c H0 A cells slots Q D cl nL w lv pc (.int (iI y) :: .int (iI x) :: st) :=
  fun H locs ls hP hD hS hl => lv_icmp_gt hx hb hd ht (fun h => kt ((iI_lt h2 h1).mp h) H locs ls hP hD hS hl) (fun h => kf (fun q => h ((iI_lt h2 h1).mpr q)) H locs ls hP hD hS hl)
theorem x_icmp_le (hx : p.tables.exec = Jvm.exec) (hb : c.code = cc) {x y off : Int} {tgt : Nat} (h1 : ir x) (h2 : ir y) (hd : decode cc pc = .ok (.if_icmp .le off, 3)) (ht : (pc : Int) + off = (tgt : Int)) (kt : (x ≤ y) → xV p l e R s m args below meth c H0 A cells slots Q D cl nL w lv tgt st) (kf : ¬ (x ≤ y) → xV p l e R s m args below meth c H0 A cells slots Q D cl nL w lv (pc + 3) st) : xV p l e R s m args below meth c H0 A cells slots Q D cl nL w lv pc (.int (iI y) :: .int (iI x) :: st) :=
  fun H locs ls hP hD hS hl => lv_icmp_le hx hb hd ht (fun h => kt ((iI_le h1 h2).mp h) H locs ls hP hD hS hl) (fun h => kf (fun q => h ((iI_le h1 h2).mpr q)) H locs ls hP hD hS hl)
theorem x_if_eq (hx : p.tables.exec = Jvm.exec) (hb : c.code = cc) {x off : Int} {tgt : Nat} (h1 : ir x) (hd : decode cc pc = .ok (.ifCond .eq off, 3)) (ht : (pc : Int) + off = (tgt : Int)) (kt : (x = 0) → xV p l e R s m args below meth c H0 A cells slots Q D cl nL w lv tgt st) (kf : ¬ (x = 0) → xV p l e R s m args below meth c H0 A cells slots Q D cl nL w lv (pc + 3) st) : xV p l e R s m args below meth c H0 A cells slots Q D cl nL w lv pc (.int (iI x) :: st) :=
  fun H locs ls hP hD hS hl => lv_if_eq hx hb hd ht (fun h => kt ((iI_eq h1 ir_0).mp (by rw [iI_0]; exact h)) H locs ls hP hD hS hl) (fun h => kf (fun q => h (by rw [← iI_0]; exact (iI_eq h1 ir_0).mpr q)) H locs ls hP hD hS hl)
theorem x_if_ne (hx : p.tables.exec = Jvm.exec) (hb : c.code = cc) {x off : Int} {tgt : Nat} (h1 : ir x) (hd : decode cc pc = .ok (.ifCond .ne off, 3)) (ht : (pc : Int) + off = (tgt : Int)) (kt : (¬ x = 0) → xV p l e R s m args below meth c H0 A cells slots Q D cl nL w lv tgt st) (kf : ¬ (¬ x = 0) → xV p l e R s m args below meth c H0 A cells slots Q D cl nL w lv (pc + 3) st) : xV p l e R s m args below meth c H0 A cells slots Q D cl nL w lv pc (.int (iI x) :: st) :=
  fun H locs ls hP hD hS hl => lv_if_ne hx hb hd ht (fun h => kt ((not_congr (iI_eq h1 ir_0)).mp (by rw [iI_0]; exact h)) H locs ls hP hD hS hl) (fun h => kf (fun q => q ((iI_eq h1 ir_0).mp (by rw [iI_0]; exact h))) H locs ls hP hD hS hl)
theorem x_if_lt (hx : p.tables.exec = Jvm.exec) (hb : c.code = cc) {x off : Int} {tgt : Nat} (h1 : ir x) (hd : decode cc pc = .ok (.ifCond .lt off, 3)) (ht : (pc : Int) + off = (tgt : Int)) (kt : (x < 0) → xV p l e R s m args below meth c H0 A cells slots Q D cl nL w lv tgt st) (kf : ¬ (x < 0) → xV p l e R s m args below meth c H0 A cells slots Q D cl nL w lv (pc + 3) st) : xV p l e R s m args below meth c H0 A cells slots Q D cl nL w lv pc (.int (iI x) :: st) :=
  fun H locs ls hP hD hS hl => lv_if_lt hx hb hd ht (fun h => kt ((iI_lt h1 ir_0).mp (by rw [iI_0]; exact h)) H locs ls hP hD hS hl) (fun h => kf (fun q => h (by rw [← iI_0]; exact (iI_lt h1 ir_0).mpr q)) H locs ls hP hD hS hl)
theorem x_if_ge (hx : p.tables.exec = Jvm.exec) (hb : c.code = cc) {x off : Int} {tgt : Nat} (h1 : ir x) (hd : decode cc pc = .ok (.ifCond .ge off, 3)) (ht : (pc : Int) + off = (tgt : Int)) (kt : (0 ≤ x) → xV p l e R s m args below meth c H0 A cells slots Q D cl nL w lv tgt st) (kf : ¬ (0 ≤ x) → xV p l e R s m args below meth c H0 A cells slots Q D cl nL w lv (pc + 3) st) : xV p l e R s m args below meth c H0 A cells slots Q D cl nL w lv pc (.int (iI x) :: st) :=
  fun H locs ls hP hD hS hl => lv_if_ge hx hb hd ht (fun h => kt ((iI_le ir_0 h1).mp (by rw [iI_0]; exact h)) H locs ls hP hD hS hl) (fun h => kf (fun q => h (by rw [← iI_0]; exact (iI_le ir_0 h1).mpr q)) H locs ls hP hD hS hl)
theorem x_if_gt (hx : p.tables.exec = Jvm.exec) (hb : c.code = cc) {x off : Int} {tgt : Nat} (h1 : ir x) (hd : decode cc pc = .ok (.ifCond .gt off, 3)) (ht : (pc : Int) + off = (tgt : Int)) (kt : (0 < x) → xV p l e R s m args below meth c H0 A cells slots Q D cl nL w lv tgt st) (kf : ¬ (0 < x) → xV p l e R s m args below meth c H0 A cells slots Q D cl nL w lv (pc + 3) st) : xV p l e R s m args below meth c H0 A cells slots Q D cl nL w lv pc (.int (iI x) :: st) :=
  fun H locs ls hP hD hS hl => lv_if_gt hx hb hd ht (fun h => kt ((iI_lt ir_0 h1).mp (by rw [iI_0]; exact h)) H locs ls hP hD hS hl) (fun h => kf (fun q => h (by rw [← iI_0]; exact (iI_lt ir_0 h1).mpr q)) H locs ls hP hD hS hl)
theorem x_if_le (hx : p.tables.exec = Jvm.exec) (hb : c.code = cc) {x off : Int} {tgt : Nat} (h1 : ir x) (hd : decode cc pc = .ok (.ifCond .le off, 3)) (ht : (pc : Int) + off = (tgt : Int)) (kt : (x ≤ 0) → xV p l e R s m args below meth c H0 A cells slots Q D cl nL w lv tgt st) (kf : ¬ (x ≤ 0) → xV p l e R s m args below meth c H0 A cells slots Q D cl nL w lv (pc + 3) st) : xV p l e R s m args below meth c H0 A cells slots Q D cl nL w lv pc (.int (iI x) :: st) :=
  fun H locs ls hP hD hS hl => lv_if_le hx hb hd ht (fun h => kt ((iI_le h1 ir_0).mp (by rw [iI_0]; exact h)) H locs ls hP hD hS hl) (fun h => kf (fun q => h (by rw [← iI_0]; exact (iI_le h1 ir_0).mpr q)) H locs ls hP hD hS hl)
theorem x_topi {x : Int} (k : ∀ y : Int, y = x → xV p l e R s m args below meth c H0 A cells slots Q D cl nL w lv pc (.int (iI y) :: st)) : xV p l e R s m args below meth c H0 A cells slots Q D cl nL w lv pc (.int (iI x) :: st) :=
  k x rfl
theorem x_topo {ad : Nat → Nat → Nat} {x : Nat} (k : ∀ y : Nat, y = x → xV p l e R s m args below meth c H0 A cells slots Q D cl nL w lv pc (.ref (ad y 0) :: st)) : xV p l e R s m args below meth c H0 A cells slots Q D cl nL w lv pc (.ref (ad x 0) :: st) :=
  k x rfl
theorem x_eqi {x y : Int} (h : x = y) (k : xV p l e R s m args below meth c H0 A cells slots Q D cl nL w lv pc (.int (iI y) :: st)) : xV p l e R s m args below meth c H0 A cells slots Q D cl nL w lv pc (.int (iI x) :: st) :=
  h ▸ k
theorem iI_mmax {x y : Int} (h1 : ir x) (h2 : ir y) : (if iI x < iI y then iI y else iI x) = iI (max x y) := by
  by_cases h : x < y
  · rw [if_pos ((iI_lt h1 h2).mpr h)]
    congr 1
    omega
  · rw [if_neg (fun z => h ((iI_lt h1 h2).mp z))]
    congr 1
    omega
theorem x_mmax (hx : p.tables.exec = Jvm.exec) (hb : c.code = cc) (hml : c.maxLocals = nL) {own : String} {index : Nat} (hown : s.vm.findClass own = some m.cls) (hlink : (Cond.methodLink own index Lib.Math.max.name).before args s = true) (hstat : (Cond.static Lib.Math.max.name).before args s = true) (hini : (Cond.initialized "java/lang/Math").before args s = true) (hcode : (Cond.code Lib.Math.max.name Lib.Math.max.code 2 (some .int)).before args s = true) (hfr : 1 ≤ R.frames) (hlo : (st.map fun v => v.category).sum + 13 ≤ R.locals) (hc : cells ≤ R.cells) (hs : slots ≤ R.slots) {x y : Int} (h1 : ir x) (h2 : ir y) (hd : decode cc pc = .ok (.invokestatic index, 3)) (k : xV p l e R s m args below meth c H0 A cells slots Q D cl nL w lv (pc + 3) (.int (iI (max x y)) :: st)) : xV p l e R s m args below meth c H0 A cells slots Q D cl nL w lv pc (.int (iI y) :: .int (iI x) :: st) :=
  fun H locs ls hP hD hS hl => va_mmax hx hb (by rw [hml]; exact hl.1.symm) hown hlink hstat hini hcode hfr hlo hc hs hd (by rw [iI_mmax h1 h2]; exact k H locs ls hP hD hS hl)
theorem iI_mmin {x y : Int} (h1 : ir x) (h2 : ir y) : (if iI y < iI x then iI y else iI x) = iI (min x y) := by
  by_cases h : y < x
  · rw [if_pos ((iI_lt h2 h1).mpr h)]
    congr 1
    omega
  · rw [if_neg (fun z => h ((iI_lt h2 h1).mp z))]
    congr 1
    omega
theorem x_mmin (hx : p.tables.exec = Jvm.exec) (hb : c.code = cc) (hml : c.maxLocals = nL) {own : String} {index : Nat} (hown : s.vm.findClass own = some m.cls) (hlink : (Cond.methodLink own index Lib.Math.min.name).before args s = true) (hstat : (Cond.static Lib.Math.min.name).before args s = true) (hini : (Cond.initialized "java/lang/Math").before args s = true) (hcode : (Cond.code Lib.Math.min.name Lib.Math.min.code 2 (some .int)).before args s = true) (hfr : 1 ≤ R.frames) (hlo : (st.map fun v => v.category).sum + 13 ≤ R.locals) (hc : cells ≤ R.cells) (hs : slots ≤ R.slots) {x y : Int} (h1 : ir x) (h2 : ir y) (hd : decode cc pc = .ok (.invokestatic index, 3)) (k : xV p l e R s m args below meth c H0 A cells slots Q D cl nL w lv (pc + 3) (.int (iI (min x y)) :: st)) : xV p l e R s m args below meth c H0 A cells slots Q D cl nL w lv pc (.int (iI y) :: .int (iI x) :: st) :=
  fun H locs ls hP hD hS hl => va_mmin hx hb (by rw [hml]; exact hl.1.symm) hown hlink hstat hini hcode hfr hlo hc hs hd (by rw [iI_mmin h1 h2]; exact k H locs ls hP hD hS hl)
theorem x_get (hx : p.tables.exec = Jvm.exec) (hb : c.code = cc) {own ref C : String} {T : u_T} {N ci index : Nat} {Ts : List Cond} (hts : ∀ w ∈ Ts, w.before args s = true) (hin : ∀ w ∈ u_ws C T N, w ∈ Ts) (hown : s.vm.findClass own = some m.cls) (hK : va_K D cl tys s) (q0 : Nat) {a : Nat} {fs : List Value} (he : w[q0]? = some (a, .inr (ci, fs))) (hc : cl[ci]? = some (C, T, N)) (kf : Nat) (hk : kf < N) (hlink : (Cond.fieldLink own index ref (T kf).2.1 (T kf).2.2.1).before args s = true) (hsame : ∀ x, s.fieldFound? (T kf).1 (T kf).2.1 (T kf).2.2.1 = some x → s.fieldFound? ref (T kf).2.1 (T kf).2.2.1 = some x) {v : Value} (hv : fs[kf]? = some v) (hd : decode cc pc = .ok (.getfield index, 3)) (k : xV p l e R s m args below meth c H0 A cells slots Q D cl nL w lv (pc + 3) (v :: st)) : xV p l e R s m args below meth c H0 A cells slots Q D cl nL w lv pc (.ref a :: st) :=
  fun H locs ls hP hD hS hl => va_get hx hb hts hin hown hK hP q0 he hc kf hk hlink hsame hv hd (k H locs ls hP hD hS hl)
theorem x_put (hx : p.tables.exec = Jvm.exec) (hb : c.code = cc) {own ref C : String} {T : u_T} {N ci index : Nat} {Ts : List Cond} (hts : ∀ w ∈ Ts, w.before args s = true) (hin : ∀ w ∈ u_ws C T N, w ∈ Ts) (ty0 : Nat → FieldType) (hty : ∀ k, k < N → parseFieldDescriptor (T k).2.2.1 = some (ty0 k)) (hnm : ∀ a, a < N → ∀ b, b < N → a ≠ b → (T a).2.1 ≠ (T b).2.1) (hown : s.vm.findClass own = some m.cls) (hK : va_K D cl tys s) (q0 : Nat) {a : Nat} {fs : List Value} (he : w[q0]? = some (a, .inr (ci, fs))) (hc : cl[ci]? = some (C, T, N)) (kf : Nat) (hk : kf < N) (hlink : (Cond.fieldLink own index ref (T kf).2.1 (T kf).2.2.1).before args s = true) (hsame : ∀ x, s.fieldFound? (T kf).1 (T kf).2.1 (T kf).2.2.1 = some x → s.fieldFound? ref (T kf).2.1 (T kf).2.2.1 = some x) (hfin : (T kf).2.2.2 = false) {x : Int} (hdT : parseFieldDescriptor (T kf).2.2.1 = some .int) (hl' : kf < fs.length) (hd : decode cc pc = .ok (.putfield index, 3)) (hw : w.set q0 (a, .inr (ci, fs.set kf (.int (iI x)))) = w') (k : xV p l e R s m args below meth c H0 A cells slots Q D cl nL w' lv (pc + 3) st) : xV p l e R s m args below meth c H0 A cells slots Q D cl nL w lv pc (.int (iI x) :: .ref a :: st) :=
  fun H locs ls hP hD hS hl => va_put hx hb hts hin ty0 hty hnm hown hK hP hD hS q0 he hc kf hk hlink hsame hfin hdT rfl rfl hl' hd (fun H1 locs1 hP1 hD1 hS1 => k H1 locs1 ls (hw ▸ hP1) (hw ▸ hD1) hS1 hl)
theorem x_getN (hx : p.tables.exec = Jvm.exec) (hb : c.code = cc) {host : String} {own ref C : String} {T : u_T} {N ci index : Nat} {Ts : List Cond} (hts : ∀ w ∈ Ts, w.before args s = true) (hin : ∀ w ∈ u_ws C T N, w ∈ Ts) (hown : s.vm.findClass own = some m.cls) (hK : va_K D cl tys s) (q0 : Nat) {a : Nat} {fs : List Value} (he : w[q0]? = some (a, .inr (ci, fs))) (hc : cl[ci]? = some (C, T, N)) (kf : Nat) (hk : kf < N) (hlink : (Cond.fieldLinkNest own index ref (T kf).2.1 (T kf).2.2.1 host).before args s = true) (hsame : ∀ x, s.fieldFound? (T kf).1 (T kf).2.1 (T kf).2.2.1 = some x → s.fieldFound? ref (T kf).2.1 (T kf).2.2.1 = some x) {v : Value} (hv : fs[kf]? = some v) (hd : decode cc pc = .ok (.getfield index, 3)) (k : xV p l e R s m args below meth c H0 A cells slots Q D cl nL w lv (pc + 3) (v :: st)) : xV p l e R s m args below meth c H0 A cells slots Q D cl nL w lv pc (.ref a :: st) :=
  fun H locs ls hP hD hS hl => va_getN hx hb hts hin hown hK hP q0 he hc kf hk hlink hsame hv hd (k H locs ls hP hD hS hl)
theorem x_putN (hx : p.tables.exec = Jvm.exec) (hb : c.code = cc) {host : String} {own ref C : String} {T : u_T} {N ci index : Nat} {Ts : List Cond} (hts : ∀ w ∈ Ts, w.before args s = true) (hin : ∀ w ∈ u_ws C T N, w ∈ Ts) (ty0 : Nat → FieldType) (hty : ∀ k, k < N → parseFieldDescriptor (T k).2.2.1 = some (ty0 k)) (hnm : ∀ a, a < N → ∀ b, b < N → a ≠ b → (T a).2.1 ≠ (T b).2.1) (hown : s.vm.findClass own = some m.cls) (hK : va_K D cl tys s) (q0 : Nat) {a : Nat} {fs : List Value} (he : w[q0]? = some (a, .inr (ci, fs))) (hc : cl[ci]? = some (C, T, N)) (kf : Nat) (hk : kf < N) (hlink : (Cond.fieldLinkNest own index ref (T kf).2.1 (T kf).2.2.1 host).before args s = true) (hsame : ∀ x, s.fieldFound? (T kf).1 (T kf).2.1 (T kf).2.2.1 = some x → s.fieldFound? ref (T kf).2.1 (T kf).2.2.1 = some x) (hfin : (T kf).2.2.2 = false) {x : Int} (hdT : parseFieldDescriptor (T kf).2.2.1 = some .int) (hl' : kf < fs.length) (hd : decode cc pc = .ok (.putfield index, 3)) (hw : w.set q0 (a, .inr (ci, fs.set kf (.int (iI x)))) = w') (k : xV p l e R s m args below meth c H0 A cells slots Q D cl nL w' lv (pc + 3) st) : xV p l e R s m args below meth c H0 A cells slots Q D cl nL w lv pc (.int (iI x) :: .ref a :: st) :=
  fun H locs ls hP hD hS hl => va_putN hx hb hts hin ty0 hty hnm hown hK hP hD hS q0 he hc kf hk hlink hsame hfin hdT rfl rfl hl' hd (fun H1 locs1 hP1 hD1 hS1 => k H1 locs1 ls (hw ▸ hP1) (hw ▸ hD1) hS1 hl)
theorem x_iald (hx : p.tables.exec = Jvm.exec) (hb : c.code = cc) (hK : va_K D cl tys s) (q0 t0 : Nat) {a : Nat} {cA : ClassId} {n : Nat} {g : Nat → Int} (ha : w[q0]? = some (a, .inl (cA, n, .inl (fun j => iI (g j))))) (ht : tys[t0]? = some (cA, .int)) {i : Int} (h0 : 0 ≤ i) (h1 : i < n) (hn : n ≤ 2147483647) (hd : decode cc pc = .ok (.iaload, 1)) (k : xV p l e R s m args below meth c H0 A cells slots Q D cl nL w lv (pc + 1) (.int (iI (g i.toNat)) :: st)) : xV p l e R s m args below meth c H0 A cells slots Q D cl nL w lv pc (.int (iI i) :: .ref a :: st) :=
  fun H locs ls hP hD hS hl => va_iald hx hb hK hP q0 t0 ha ht (iI_in h0 h1 hn) hd (by rw [iI_clamp ⟨by omega, by omega⟩]; exact k H locs ls hP hD hS hl)
theorem x_iast (hx : p.tables.exec = Jvm.exec) (hb : c.code = cc) (hK : va_K D cl tys s) (q0 t0 : Nat) {a : Nat} {cA : ClassId} {n : Nat} {g : Nat → Int} (ha : w[q0]? = some (a, .inl (cA, n, .inl (fun j => iI (g j))))) (ht : tys[t0]? = some (cA, .int)) {i : Int} (h0 : 0 ≤ i) (h1 : i < n) (hn : n ≤ 2147483647) {x : Int} (hd : decode cc pc = .ok (.iastore, 1)) (hw : w.set q0 (a, .inl (cA, n, .inl (fun j => iI (va_up g i.toNat x j)))) = w') (k : xV p l e R s m args below meth c H0 A cells slots Q D cl nL w' lv (pc + 1) st) : xV p l e R s m args below meth c H0 A cells slots Q D cl nL w lv pc (.int (iI x) :: .int (iI i) :: .ref a :: st) :=
  fun H locs ls hP hD hS hl => va_iast hx hb hK hP hD hS q0 t0 ha ht (iI_in h0 h1 hn) hd (fun H1 locs1 hP1 hD1 hS1 => by rw [iI_upd g ⟨by omega, by omega⟩] at hP1 hD1; exact k H1 locs1 ls (hw ▸ hP1) (hw ▸ hD1) hS1 hl)
theorem x_aald (hx : p.tables.exec = Jvm.exec) (hb : c.code = cc) (hK : va_K D cl tys s) (q0 t0 : Nat) {a : Nat} {cA : ClassId} {C : String} {n : Nat} {g : Nat → Option Nat} (ha : w[q0]? = some (a, .inl (cA, n, .inr (.inr (.inr (.inr g)))))) (ht : tys[t0]? = some (cA, .object C)) {i : Int} {b : Nat} (h0 : 0 ≤ i) (h1 : i < n) (hn : n ≤ 2147483647) (hg : g i.toNat = some b) (hd : decode cc pc = .ok (.aaload, 1)) (k : xV p l e R s m args below meth c H0 A cells slots Q D cl nL w lv (pc + 1) (.ref b :: st)) : xV p l e R s m args below meth c H0 A cells slots Q D cl nL w lv pc (.int (iI i) :: .ref a :: st) :=
  fun H locs ls hP hD hS hl => va_aldq hx hb hK hP q0 t0 ha ht (iI_in h0 h1 hn) hd (by rw [iI_clamp ⟨by omega, by omega⟩, hg]; exact k H locs ls hP hD hS hl)
theorem x_alen (hx : p.tables.exec = Jvm.exec) (hb : c.code = cc) (hK : va_K D cl tys s) (q0 t0 : Nat) {a : Nat} {cA : ClassId} {n : Nat} {g : Nat → Int32} (ha : w[q0]? = some (a, .inl (cA, n, .inl g))) (ht : tys[t0]? = some (cA, .int)) (hd : decode cc pc = .ok (.arraylength, 1)) (k : xV p l e R s m args below meth c H0 A cells slots Q D cl nL w lv (pc + 1) (.int (iI (n : Int)) :: st)) : xV p l e R s m args below meth c H0 A cells slots Q D cl nL w lv pc (.ref a :: st) :=
  fun H locs ls hP hD hS hl => va_alen hx hb hK hP q0 t0 ha ht (v := iI (n : Int)) (Int32.ofInt_eq_ofNat).symm hd (k H locs ls hP hD hS hl)
theorem x_tsIn (hx : p.tables.exec = Jvm.exec) (hb : c.code = cc) (q : Int) {dflt lo hi : Int} {offs : Array Int} {len : Nat} {x off : Int} {tgt : Nat} (h1 : ir x) (hd : decode cc pc = .ok (.tableswitch dflt lo hi offs, len)) (hq : x = q) (h2 : lo ≤ q) (h3 : q ≤ hi) (ho : offs[(q - lo).toNat]? = some off) (ht : (pc : Int) + off = (tgt : Int)) (k : xV p l e R s m args below meth c H0 A cells slots Q D cl nL w lv tgt st) : xV p l e R s m args below meth c H0 A cells slots Q D cl nL w lv pc (.int (iI x) :: st) :=
  fun H locs ls hP hD hS hl => lv_tableIn hx hb hd (by rw [iI_toInt h1]; omega) (by rw [iI_toInt h1]; omega) (by rw [iI_toInt h1, hq]; exact ho) ht (k H locs ls hP hD hS hl)
theorem x_tsOut (hx : p.tables.exec = Jvm.exec) (hb : c.code = cc) {dflt lo hi : Int} {offs : Array Int} {len : Nat} {x : Int} {tgt : Nat} (h1 : ir x) (hd : decode cc pc = .ok (.tableswitch dflt lo hi offs, len)) (hq : x < lo ∨ hi < x) (ht : (pc : Int) + dflt = (tgt : Int)) (k : xV p l e R s m args below meth c H0 A cells slots Q D cl nL w lv tgt st) : xV p l e R s m args below meth c H0 A cells slots Q D cl nL w lv pc (.int (iI x) :: st) :=
  fun H locs ls hP hD hS hl => lv_tableOut hx hb hd (by rw [iI_toInt h1]; exact hq) ht (k H locs ls hP hD hS hl)
def xCI (l : Launch) (y : MethodName) (ws : List Cond) (rm : Room) (D : va_G) (cl : List vw_C) (tys : List (ClassId × FieldType)) (w : va_W) (av : List Value) (wf : fS → aS → va_W) (post : Int → fS → aS → Prop) : Prop :=
  ∀ sz : Nat, Met l y ws rm (va_Pc av (fun S => S.heap.size = sz ∧ va_P D cl w S.heap ∧ va_K D cl tys S ∧ va_D (fun _ => True) w ∧ xN S)) (va_Qi (fun r (u : fS × aS) => ∃ z, r = iI z ∧ post z u.1 u.2) (fun (u : fS × aS) t => va_P D cl (wf u.1 u.2) t.heap ∧ va_K D cl tys t ∧ va_D (va_A w sz) (wf u.1 u.2)) (va_A w sz)) 0 0 (va_A w sz)
def xCV (l : Launch) (y : MethodName) (ws : List Cond) (rm : Room) (D : va_G) (cl : List vw_C) (tys : List (ClassId × FieldType)) (w : va_W) (av : List Value) (wf : fS → aS → va_W) (post : fS → aS → Prop) : Prop :=
  ∀ sz : Nat, Met l y ws rm (va_Pc av (fun S => S.heap.size = sz ∧ va_P D cl w S.heap ∧ va_K D cl tys S ∧ va_D (fun _ => True) w ∧ xN S)) (va_Qv (fun (u : fS × aS) => post u.1 u.2) (fun (u : fS × aS) t => va_P D cl (wf u.1 u.2) t.heap ∧ va_K D cl tys t ∧ va_D (va_A w sz) (wf u.1 u.2)) (va_A w sz)) 0 0 (va_A w sz)
abbrev xQI (below : List Frame) (D : va_G) (cl : List vw_C) (tys : List (ClassId × FieldType)) (wf : fS → aS → va_W) (post : Int → fS → aS → Prop) (A : Nat → Prop) (args : Array Value) (s : State) : State → Prop := MQ below (va_Qi (fun r (u : fS × aS) => ∃ z, r = iI z ∧ post z u.1 u.2) (fun (u : fS × aS) t => va_P D cl (wf u.1 u.2) t.heap ∧ va_K D cl tys t ∧ va_D A (wf u.1 u.2)) A) args s 0 0 A
abbrev xQV (below : List Frame) (D : va_G) (cl : List vw_C) (tys : List (ClassId × FieldType)) (wf : fS → aS → va_W) (post : fS → aS → Prop) (A : Nat → Prop) (args : Array Value) (s : State) : State → Prop := MQ below (va_Qv (fun (u : fS × aS) => post u.1 u.2) (fun (u : fS × aS) t => va_P D cl (wf u.1 u.2) t.heap ∧ va_K D cl tys t ∧ va_D A (wf u.1 u.2)) A) args s 0 0 A
theorem x_iret {wf : fS → aS → va_W} {post : Int → fS → aS → Prop} {f : fS} {a : aS} {z : Int} (hx : p.tables.exec = Jvm.exec) (hb : c.code = cc) (hr : meth.sig.returnType = (some .int)) (hlk : meth.locks = false) (hK : va_K D cl tys s) (hd : decode cc pc = .ok (.ireturn, 1)) (hp : post z f a) : xV p l e R s m args below meth c s.heap A 0 0 (xQI below D cl tys wf post A args s) D cl nL (wf f a) lv pc [.int (iI z)] :=
  fun H locs ls hP hD hS hl => W.iret (v := iI z) hx hb hr (fun t ht hW => ⟨⟨iI z, (f, a), rfl, ⟨z, rfl, hp⟩, by rw [ht]; exact hP, va_K.moved hW.alike hK, hD⟩, hS.F ht⟩) hS.2.2 hd hlk
theorem x_nar {z : Int} (h : z = 0 ∨ z = 1) : narrow .boolean (.int (iI z)) = .int (iI z) := by
  rcases h with rfl | rfl <;> decide
theorem x_zret {wf : fS → aS → va_W} {post : Int → fS → aS → Prop} {f : fS} {a : aS} {z : Int} (hx : p.tables.exec = Jvm.exec) (hb : c.code = cc) (hr : meth.sig.returnType = (some .boolean)) (hlk : meth.locks = false) (hK : va_K D cl tys s) (hd : decode cc pc = .ok (.ireturn, 1)) (hz : z = 0 ∨ z = 1) (hp : post z f a) : xV p l e R s m args below meth c s.heap A 0 0 (xQI below D cl tys wf post A args s) D cl nL (wf f a) lv pc [.int (iI z)] :=
  fun H locs ls hP hD hS hl => W.zret (v := iI z) hx hb hr (x_nar hz) (fun t ht hW => ⟨⟨iI z, (f, a), rfl, ⟨z, rfl, hp⟩, by rw [ht]; exact hP, va_K.moved hW.alike hK, hD⟩, hS.F ht⟩) hS.2.2 hd hlk
theorem x_vret {wf : fS → aS → va_W} {post : fS → aS → Prop} {f : fS} {a : aS} (hx : p.tables.exec = Jvm.exec) (hb : c.code = cc) (hr : meth.sig.returnType = none) (hlk : meth.locks = false) (hK : va_K D cl tys s) (hd : decode cc pc = .ok (.return_, 1)) (hp : post f a) : xV p l e R s m args below meth c s.heap A 0 0 (xQV below D cl tys wf post A args s) D cl nL (wf f a) lv pc [] :=
  fun H locs ls hP hD hS hl => W.vret hx hb hr (fun t ht hW => ⟨⟨(f, a), rfl, hp, by rw [ht]; exact hP, va_K.moved hW.alike hK, hD⟩, hS.F ht⟩) hS.2.2 hd hlk
theorem x_fre {w : va_W} {A : Nat → Prop} {H0 H : Heap} {locs : List Loc} (hD : va_D A w) (hS : va_S A H0 H locs) (hA : ∀ q, H0.size ≤ q → A q) : ∀ q, va_A w H.size q → A q := by
  intro q h
  rcases h with ⟨k, e, h⟩ | h
  · exact hD.2 k _ h
  · exact hA q (Nat.le_trans hS.1 h)
theorem x_blind {av : List Value} {w : va_W} {sz : Nat} : FrameBlind (va_Pc av (fun S => S.heap.size = sz ∧ va_P D cl w S.heap ∧ va_K D cl tys S ∧ va_D (fun _ => True) w ∧ xN S)) := by
  intro a U g mk q
  obtain ⟨q0, q1, qP, qK, qD, qN⟩ := q
  exact ⟨q0, q1, qP, va_K.moved (u := U) (U := U.calling g mk a) (Vm.Alike.refl U.vm) qK, qD, xN_same (u := U) (U := U.calling g mk a) rfl qN⟩
theorem x_pre {av : List Value} {w : va_W} {H : Heap} {A : Nat → Prop} (hK : va_K D cl tys s) (hN : xN s) (hP : va_P D cl w H) (hD : va_D A w) : ∀ U : State, U.heap = H → s.WarmedH U.vm → (va_Pc av (fun S => S.heap.size = H.size ∧ va_P D cl w S.heap ∧ va_K D cl tys S ∧ va_D (fun _ => True) w ∧ xN S)) av.toArray U :=
  fun U hU hW => ⟨rfl, by rw [hU], by rw [hU]; exact hP, va_K.moved hW.alike hK, hD.weaken (fun _ _ _ _ => trivial), xN_warm hW hN⟩
theorem x_cwV {own C : String} {index maxL n : Nat} {y : MethodName} {bytes : ByteArray} {ret : Option FieldType} {w0 : Cond} {rm : Room} (hts : ∀ w ∈ w0 :: xG, w.before args s = true) (hrc : rm.cells = 0) (hrs : rm.slots = 0) (kc : Cond.code y bytes maxL ret ∈ xG) (kn : Cond.initialized y.cls ∈ xG) (kl : Cond.methodLink own index y ∈ xG) (ki : Cond.instanceMethod y ∈ xG) (ks : Cond.selects C y y ∈ xG) (hd : y.cls ≠ "java/lang/invoke/MethodHandle" ∧ y.cls ≠ "java/lang/invoke/VarHandle" ∧ (parseMethodDescriptor y.desc).map (fun d => d.parameters.length) = some n) (hR : rm.frames + 1 ≤ R.frames ∧ 8 + (maxL + 11) + rm.locals ≤ R.locals) : CallW R s args own C index y bytes maxL ret (Cond.code y bytes maxL ret :: xG) rm 0 0 n :=
  ⟨callB_of n hts (xG_good kc) rfl hrc hrs (hts _ (List.mem_cons_of_mem _ kn)) (hts _ (List.mem_cons_of_mem _ kl)) hd hR, (hts _ (List.mem_cons_of_mem _ ki)), (hts _ (List.mem_cons_of_mem _ ks))⟩
theorem x_cwS {own : String} {index maxL n : Nat} {y : MethodName} {bytes : ByteArray} {ret : Option FieldType} {w0 : Cond} {rm : Room} (hts : ∀ w ∈ w0 :: xG, w.before args s = true) (hrc : rm.cells = 0) (hrs : rm.slots = 0) (kc : Cond.code y bytes maxL ret ∈ xG) (kn : Cond.initialized y.cls ∈ xG) (kl : Cond.methodLink own index y ∈ xG) (ks : Cond.static y ∈ xG) (hd : y.cls ≠ "java/lang/invoke/MethodHandle" ∧ y.cls ≠ "java/lang/invoke/VarHandle" ∧ (parseMethodDescriptor y.desc).map (fun d => d.parameters.length) = some n) (hR : rm.frames + 1 ≤ R.frames ∧ 8 + (maxL + 11) + rm.locals ≤ R.locals) : CallB R s args own index y bytes maxL ret (Cond.code y bytes maxL ret :: xG) rm 0 0 n ∧ (Cond.static y).before args s = true :=
  ⟨callB_of n hts (xG_good kc) rfl hrc hrs (hts _ (List.mem_cons_of_mem _ kn)) (hts _ (List.mem_cons_of_mem _ kl)) hd hR, (hts _ (List.mem_cons_of_mem _ ks))⟩
theorem x_cwVN {own C host : String} {index maxL n : Nat} {y : MethodName} {bytes : ByteArray} {ret : Option FieldType} {w0 : Cond} {rm : Room} (hts : ∀ w ∈ w0 :: xG, w.before args s = true) (hrc : rm.cells = 0) (hrs : rm.slots = 0) (kc : Cond.code y bytes maxL ret ∈ xG) (kn : Cond.initialized y.cls ∈ xG) (hN : xN s) (kl : Cond.methodLinkNest own index y host ∈ xNl) (ki : Cond.instanceMethod y ∈ xG) (ks : Cond.selects C y y ∈ xG) (hd : y.cls ≠ "java/lang/invoke/MethodHandle" ∧ y.cls ≠ "java/lang/invoke/VarHandle" ∧ (parseMethodDescriptor y.desc).map (fun d => d.parameters.length) = some n) (hR : rm.frames + 1 ≤ R.frames ∧ 8 + (maxL + 11) + rm.locals ≤ R.locals) : va_CN R s args own index y host bytes maxL ret (Cond.code y bytes maxL ret :: xG) rm 0 0 n ∧ (Cond.instanceMethod y).before args s = true ∧ (Cond.selects C y y).before args s = true :=
  ⟨va_cnB n hts (xG_good kc) rfl hrc hrs (hN.1 _ kl) (hts _ (List.mem_cons_of_mem _ kn)) hd hR, (hts _ (List.mem_cons_of_mem _ ki)), (hts _ (List.mem_cons_of_mem _ ks))⟩
theorem x_cwSN {own host : String} {index maxL n : Nat} {y : MethodName} {bytes : ByteArray} {ret : Option FieldType} {w0 : Cond} {rm : Room} (hts : ∀ w ∈ w0 :: xG, w.before args s = true) (hrc : rm.cells = 0) (hrs : rm.slots = 0) (kc : Cond.code y bytes maxL ret ∈ xG) (kn : Cond.initialized y.cls ∈ xG) (hN : xN s) (kl : Cond.methodLinkNest own index y host ∈ xNl) (ks : Cond.static y ∈ xG) (hd : y.cls ≠ "java/lang/invoke/MethodHandle" ∧ y.cls ≠ "java/lang/invoke/VarHandle" ∧ (parseMethodDescriptor y.desc).map (fun d => d.parameters.length) = some n) (hR : rm.frames + 1 ≤ R.frames ∧ 8 + (maxL + 11) + rm.locals ≤ R.locals) : va_CN R s args own index y host bytes maxL ret (Cond.code y bytes maxL ret :: xG) rm 0 0 n ∧ (Cond.static y).before args s = true ∧ True :=
  ⟨va_cnB n hts (xG_good kc) rfl hrc hrs (hN.1 _ kl) (hts _ (List.mem_cons_of_mem _ kn)) hd hR, (hts _ (List.mem_cons_of_mem _ ks)), trivial⟩
theorem x_cVNi {wf : fS → aS → va_W} {y : MethodName} {bytes : ByteArray} {maxL n index : Nat} {ret : Option FieldType} {ws : List Cond} {rm : Room} {Ts : List Cond} {own C host : String} {b : Addr} {As : List Value} {T : u_T} {N ci : Nat} {fs : List Value} (S : CallFix p m c cc nL s args Ts own) {st0 : List Value} (hK : va_K D cl tys s) (hN : xN s) {post : Int → fS → aS → Prop} (hM : xCI l y ws rm D cl tys w (.ref b :: As) wf post) (cw : va_CN R s args own index y host bytes maxL ret ws rm 0 0 n ∧ (Cond.instanceMethod y).before args s = true ∧ (Cond.selects C y y).before args s = true) (q0 : Nat) (he : w[q0]? = some (b, .inr (ci, fs))) (hc : cl[ci]? = some (C, T, N)) (hA : ∀ q, H0.size ≤ q → A q) (hn : As.length = n) (hst : (st.map fun v => v.category).sum ≤ 8) (hf : cells ≤ R.cells ∧ slots ≤ R.slots) (hs : st0 = As.reverse ++ .ref b :: st) (hd : decode cc pc = .ok (.invokevirtual index, 3)) (k : ∀ (z : Int) (f : fS) (a : aS), post z f a → xV p l e R s m args below meth c H0 A cells slots Q D cl nL (wf f a) lv (pc + 3) (.int (iI z) :: st)) : xV p l e R s m args below meth c H0 A cells slots Q D cl nL w lv pc st0 := by
  intro H locs ls hP hD hS hl
  have hF := x_fre hD hS hA
  refine va_calli (va_runVN (C := C) (b := b) (As := As) (rest := st) S (hM H.size) cw ⟨x_blind, va_recv hK hP hc he, x_pre hK hN hP hD⟩ rfl hn hl.1 hs (lv_room hst) hd hf) hS (fun q _ h => hF q h) hF (fun r u t H1 locs1 ht hvm hz hB hsz hk hS1 => ?_)
  · obtain ⟨z, rfl, hz⟩ := hz
    obtain ⟨hP1, hK1, hD1⟩ := hB
    rw [ht] at hP1
    exact k z u.1 u.2 hz H1 locs1 ls hP1 (hD1.weaken (fun _ q _ h => hF q.1 h)) hS1 hl
theorem x_cVNv {wf : fS → aS → va_W} {y : MethodName} {bytes : ByteArray} {maxL n index : Nat} {ret : Option FieldType} {ws : List Cond} {rm : Room} {Ts : List Cond} {own C host : String} {b : Addr} {As : List Value} {T : u_T} {N ci : Nat} {fs : List Value} (S : CallFix p m c cc nL s args Ts own) {st0 : List Value} (hK : va_K D cl tys s) (hN : xN s) {post : fS → aS → Prop} (hM : xCV l y ws rm D cl tys w (.ref b :: As) wf post) (cw : va_CN R s args own index y host bytes maxL ret ws rm 0 0 n ∧ (Cond.instanceMethod y).before args s = true ∧ (Cond.selects C y y).before args s = true) (q0 : Nat) (he : w[q0]? = some (b, .inr (ci, fs))) (hc : cl[ci]? = some (C, T, N)) (hA : ∀ q, H0.size ≤ q → A q) (hn : As.length = n) (hst : (st.map fun v => v.category).sum ≤ 8) (hf : cells ≤ R.cells ∧ slots ≤ R.slots) (hs : st0 = As.reverse ++ .ref b :: st) (hd : decode cc pc = .ok (.invokevirtual index, 3)) (k : ∀ (f : fS) (a : aS), post f a → xV p l e R s m args below meth c H0 A cells slots Q D cl nL (wf f a) lv (pc + 3) st) : xV p l e R s m args below meth c H0 A cells slots Q D cl nL w lv pc st0 := by
  intro H locs ls hP hD hS hl
  have hF := x_fre hD hS hA
  refine va_callv (va_runVN (C := C) (b := b) (As := As) (rest := st) S (hM H.size) cw ⟨x_blind, va_recv hK hP hc he, x_pre hK hN hP hD⟩ rfl hn hl.1 hs (lv_room hst) hd hf) hS (fun q _ h => hF q h) hF (fun u t H1 locs1 ht hvm hz hB hsz hk hS1 => ?_)
  · obtain ⟨hP1, hK1, hD1⟩ := hB
    rw [ht] at hP1
    exact k u.1 u.2 hz H1 locs1 ls hP1 (hD1.weaken (fun _ q _ h => hF q.1 h)) hS1 hl
theorem x_cVi {wf : fS → aS → va_W} {y : MethodName} {bytes : ByteArray} {maxL n index : Nat} {ret : Option FieldType} {ws : List Cond} {rm : Room} {Ts : List Cond} {own C : String} {b : Addr} {As : List Value} {T : u_T} {N ci : Nat} {fs : List Value} (S : CallFix p m c cc nL s args Ts own) {st0 : List Value} (hK : va_K D cl tys s) (hN : xN s) {post : Int → fS → aS → Prop} (hM : xCI l y ws rm D cl tys w (.ref b :: As) wf post) (cw : CallW R s args own C index y bytes maxL ret ws rm 0 0 n) (q0 : Nat) (he : w[q0]? = some (b, .inr (ci, fs))) (hc : cl[ci]? = some (C, T, N)) (hA : ∀ q, H0.size ≤ q → A q) (hn : As.length = n) (hst : (st.map fun v => v.category).sum ≤ 8) (hf : cells ≤ R.cells ∧ slots ≤ R.slots) (hs : st0 = As.reverse ++ .ref b :: st) (hd : decode cc pc = .ok (.invokevirtual index, 3)) (k : ∀ (z : Int) (f : fS) (a : aS), post z f a → xV p l e R s m args below meth c H0 A cells slots Q D cl nL (wf f a) lv (pc + 3) (.int (iI z) :: st)) : xV p l e R s m args below meth c H0 A cells slots Q D cl nL w lv pc st0 := by
  intro H locs ls hP hD hS hl
  have hF := x_fre hD hS hA
  refine va_calli (va_runV (C := C) (b := b) (As := As) (rest := st) S (hM H.size) cw ⟨x_blind, va_recv hK hP hc he, x_pre hK hN hP hD⟩ rfl hn hl.1 hs (lv_room hst) hd hf) hS (fun q _ h => hF q h) hF (fun r u t H1 locs1 ht hvm hz hB hsz hk hS1 => ?_)
  · obtain ⟨z, rfl, hz⟩ := hz
    obtain ⟨hP1, hK1, hD1⟩ := hB
    rw [ht] at hP1
    exact k z u.1 u.2 hz H1 locs1 ls hP1 (hD1.weaken (fun _ q _ h => hF q.1 h)) hS1 hl
theorem x_cVv {wf : fS → aS → va_W} {y : MethodName} {bytes : ByteArray} {maxL n index : Nat} {ret : Option FieldType} {ws : List Cond} {rm : Room} {Ts : List Cond} {own C : String} {b : Addr} {As : List Value} {T : u_T} {N ci : Nat} {fs : List Value} (S : CallFix p m c cc nL s args Ts own) {st0 : List Value} (hK : va_K D cl tys s) (hN : xN s) {post : fS → aS → Prop} (hM : xCV l y ws rm D cl tys w (.ref b :: As) wf post) (cw : CallW R s args own C index y bytes maxL ret ws rm 0 0 n) (q0 : Nat) (he : w[q0]? = some (b, .inr (ci, fs))) (hc : cl[ci]? = some (C, T, N)) (hA : ∀ q, H0.size ≤ q → A q) (hn : As.length = n) (hst : (st.map fun v => v.category).sum ≤ 8) (hf : cells ≤ R.cells ∧ slots ≤ R.slots) (hs : st0 = As.reverse ++ .ref b :: st) (hd : decode cc pc = .ok (.invokevirtual index, 3)) (k : ∀ (f : fS) (a : aS), post f a → xV p l e R s m args below meth c H0 A cells slots Q D cl nL (wf f a) lv (pc + 3) st) : xV p l e R s m args below meth c H0 A cells slots Q D cl nL w lv pc st0 := by
  intro H locs ls hP hD hS hl
  have hF := x_fre hD hS hA
  refine va_callv (va_runV (C := C) (b := b) (As := As) (rest := st) S (hM H.size) cw ⟨x_blind, va_recv hK hP hc he, x_pre hK hN hP hD⟩ rfl hn hl.1 hs (lv_room hst) hd hf) hS (fun q _ h => hF q h) hF (fun u t H1 locs1 ht hvm hz hB hsz hk hS1 => ?_)
  · obtain ⟨hP1, hK1, hD1⟩ := hB
    rw [ht] at hP1
    exact k u.1 u.2 hz H1 locs1 ls hP1 (hD1.weaken (fun _ q _ h => hF q.1 h)) hS1 hl
theorem x_cSNi {wf : fS → aS → va_W} {y : MethodName} {bytes : ByteArray} {maxL n index : Nat} {ret : Option FieldType} {ws : List Cond} {rm : Room} {Ts : List Cond} {own host : String} {As : List Value} (S : CallFix p m c cc nL s args Ts own) {st0 : List Value} (hK : va_K D cl tys s) (hN : xN s) {post : Int → fS → aS → Prop} (hM : xCI l y ws rm D cl tys w As wf post) (cw : va_CN R s args own index y host bytes maxL ret ws rm 0 0 n ∧ (Cond.static y).before args s = true ∧ True)  (hA : ∀ q, H0.size ≤ q → A q) (hn : As.length = n) (hst : (st.map fun v => v.category).sum ≤ 8) (hf : cells ≤ R.cells ∧ slots ≤ R.slots) (hs : st0 = As.reverse ++ st) (hd : decode cc pc = .ok (.invokestatic index, 3)) (k : ∀ (z : Int) (f : fS) (a : aS), post z f a → xV p l e R s m args below meth c H0 A cells slots Q D cl nL (wf f a) lv (pc + 3) (.int (iI z) :: st)) : xV p l e R s m args below meth c H0 A cells slots Q D cl nL w lv pc st0 := by
  intro H locs ls hP hD hS hl
  have hF := x_fre hD hS hA
  refine va_calli (va_runSN (As := As) (rest := st) S (hM H.size) cw ⟨x_blind, x_pre hK hN hP hD⟩ rfl hn hl.1 hs (lv_room hst) hd hf) hS (fun q _ h => hF q h) hF (fun r u t H1 locs1 ht hvm hz hB hsz hk hS1 => ?_)
  · obtain ⟨z, rfl, hz⟩ := hz
    obtain ⟨hP1, hK1, hD1⟩ := hB
    rw [ht] at hP1
    exact k z u.1 u.2 hz H1 locs1 ls hP1 (hD1.weaken (fun _ q _ h => hF q.1 h)) hS1 hl
theorem x_cSNv {wf : fS → aS → va_W} {y : MethodName} {bytes : ByteArray} {maxL n index : Nat} {ret : Option FieldType} {ws : List Cond} {rm : Room} {Ts : List Cond} {own host : String} {As : List Value} (S : CallFix p m c cc nL s args Ts own) {st0 : List Value} (hK : va_K D cl tys s) (hN : xN s) {post : fS → aS → Prop} (hM : xCV l y ws rm D cl tys w As wf post) (cw : va_CN R s args own index y host bytes maxL ret ws rm 0 0 n ∧ (Cond.static y).before args s = true ∧ True)  (hA : ∀ q, H0.size ≤ q → A q) (hn : As.length = n) (hst : (st.map fun v => v.category).sum ≤ 8) (hf : cells ≤ R.cells ∧ slots ≤ R.slots) (hs : st0 = As.reverse ++ st) (hd : decode cc pc = .ok (.invokestatic index, 3)) (k : ∀ (f : fS) (a : aS), post f a → xV p l e R s m args below meth c H0 A cells slots Q D cl nL (wf f a) lv (pc + 3) st) : xV p l e R s m args below meth c H0 A cells slots Q D cl nL w lv pc st0 := by
  intro H locs ls hP hD hS hl
  have hF := x_fre hD hS hA
  refine va_callv (va_runSN (As := As) (rest := st) S (hM H.size) cw ⟨x_blind, x_pre hK hN hP hD⟩ rfl hn hl.1 hs (lv_room hst) hd hf) hS (fun q _ h => hF q h) hF (fun u t H1 locs1 ht hvm hz hB hsz hk hS1 => ?_)
  · obtain ⟨hP1, hK1, hD1⟩ := hB
    rw [ht] at hP1
    exact k u.1 u.2 hz H1 locs1 ls hP1 (hD1.weaken (fun _ q _ h => hF q.1 h)) hS1 hl
theorem x_cSi {wf : fS → aS → va_W} {y : MethodName} {bytes : ByteArray} {maxL n index : Nat} {ret : Option FieldType} {ws : List Cond} {rm : Room} {Ts : List Cond} {own : String} {As : List Value} (S : CallFix p m c cc nL s args Ts own) {st0 : List Value} (hK : va_K D cl tys s) (hN : xN s) {post : Int → fS → aS → Prop} (hM : xCI l y ws rm D cl tys w As wf post) (cw : CallB R s args own index y bytes maxL ret ws rm 0 0 n ∧ (Cond.static y).before args s = true)  (hA : ∀ q, H0.size ≤ q → A q) (hn : As.length = n) (hst : (st.map fun v => v.category).sum ≤ 8) (hf : cells ≤ R.cells ∧ slots ≤ R.slots) (hs : st0 = As.reverse ++ st) (hd : decode cc pc = .ok (.invokestatic index, 3)) (k : ∀ (z : Int) (f : fS) (a : aS), post z f a → xV p l e R s m args below meth c H0 A cells slots Q D cl nL (wf f a) lv (pc + 3) (.int (iI z) :: st)) : xV p l e R s m args below meth c H0 A cells slots Q D cl nL w lv pc st0 := by
  intro H locs ls hP hD hS hl
  have hF := x_fre hD hS hA
  refine va_calli (va_runS (As := As) (rest := st) S (hM H.size) cw ⟨x_blind, x_pre hK hN hP hD⟩ rfl hn hl.1 hs (lv_room hst) hd hf) hS (fun q _ h => hF q h) hF (fun r u t H1 locs1 ht hvm hz hB hsz hk hS1 => ?_)
  · obtain ⟨z, rfl, hz⟩ := hz
    obtain ⟨hP1, hK1, hD1⟩ := hB
    rw [ht] at hP1
    exact k z u.1 u.2 hz H1 locs1 ls hP1 (hD1.weaken (fun _ q _ h => hF q.1 h)) hS1 hl
theorem x_cSv {wf : fS → aS → va_W} {y : MethodName} {bytes : ByteArray} {maxL n index : Nat} {ret : Option FieldType} {ws : List Cond} {rm : Room} {Ts : List Cond} {own : String} {As : List Value} (S : CallFix p m c cc nL s args Ts own) {st0 : List Value} (hK : va_K D cl tys s) (hN : xN s) {post : fS → aS → Prop} (hM : xCV l y ws rm D cl tys w As wf post) (cw : CallB R s args own index y bytes maxL ret ws rm 0 0 n ∧ (Cond.static y).before args s = true)  (hA : ∀ q, H0.size ≤ q → A q) (hn : As.length = n) (hst : (st.map fun v => v.category).sum ≤ 8) (hf : cells ≤ R.cells ∧ slots ≤ R.slots) (hs : st0 = As.reverse ++ st) (hd : decode cc pc = .ok (.invokestatic index, 3)) (k : ∀ (f : fS) (a : aS), post f a → xV p l e R s m args below meth c H0 A cells slots Q D cl nL (wf f a) lv (pc + 3) st) : xV p l e R s m args below meth c H0 A cells slots Q D cl nL w lv pc st0 := by
  intro H locs ls hP hD hS hl
  have hF := x_fre hD hS hA
  refine va_callv (va_runS (As := As) (rest := st) S (hM H.size) cw ⟨x_blind, x_pre hK hN hP hD⟩ rfl hn hl.1 hs (lv_room hst) hd hf) hS (fun q _ h => hF q h) hF (fun u t H1 locs1 ht hvm hz hB hsz hk hS1 => ?_)
  · obtain ⟨hP1, hK1, hD1⟩ := hB
    rw [ht] at hP1
    exact k u.1 u.2 hz H1 locs1 ls hP1 (hD1.weaken (fun _ q _ h => hF q.1 h)) hS1 hl
/-- what a method's body stands on -/
def xOk (cc : ByteArray) (nL : Nat) (own : String) (ws : List Cond) (ret : Option FieldType) (p : Program) (s : State) (m : MethodId) (args : Array Value) (meth : Method) (c : Code) (A : Nat → Prop) (D : va_G) (cl : List vw_C) (tys : List (ClassId × FieldType)) : Prop :=
  p.tables.exec = Jvm.exec ∧ c.code = cc ∧ c.maxLocals = nL ∧ s.vm.findClass own = some m.cls ∧ (∀ w ∈ ws, w.before args s = true) ∧ meth.sig.returnType = ret ∧ meth.locks = false ∧ va_K D cl tys s ∧ xN s ∧ ∀ q, s.heap.size ≤ q → A q
theorem x_metI {wf : fS → aS → va_W} {post : Int → fS → aS → Prop} {ty : FieldType} {y : MethodName} {ws ws' : List Cond} {rm : Room} {av : List Value} (hy : plainName y.cls = true) (hw : ws = Cond.code y cc nL (some ty) :: ws') (hn : (lg_sl av).length ≤ nL)
    (body : ∀ (p : Program) (e : Env) (s : State) (m : MethodId) (below : List Frame) (meth : Method) (c : Code) (A : Nat → Prop), xOk cc nL y.cls ws (some ty) p s m av.toArray meth c A D cl tys → xV p l e rm s m av.toArray below meth c s.heap A 0 0 (xQI below D cl tys wf post A av.toArray s) D cl nL w (lv_args 0 av) 0 []) : xCI l y ws rm D cl tys w av wf post := by
  intro sz
  refine Met.ofW (cc := cc) (maxL := nL) (ret := (some ty)) hy hw ?_
  intro p e s m args below meth c s₁ B hml hv
  obtain ⟨rfl, hsz, hP, hK, hD0, hN⟩ := hv
  subst hsz
  have hD := hD0.self (sz := s.heap.size)
  have hl := lv_entry av (n := nL) hn
  rw [lg_entry_eq]
  exact body p e s m below meth c (va_A w s.heap.size) ⟨B.exec, B.bytes, hml, findClass_of_methodNamed B.named, atoms_spec (ws := ws) B.pre, B.returns, B.notSynchronized, hK, hN, fun q h => Or.inr h⟩ s.heap [] _ hP hD va_S.rf hl
theorem x_metV {wf : fS → aS → va_W} {post : fS → aS → Prop} {y : MethodName} {ws ws' : List Cond} {rm : Room} {av : List Value} (hy : plainName y.cls = true) (hw : ws = Cond.code y cc nL none :: ws') (hn : (lg_sl av).length ≤ nL)
    (body : ∀ (p : Program) (e : Env) (s : State) (m : MethodId) (below : List Frame) (meth : Method) (c : Code) (A : Nat → Prop), xOk cc nL y.cls ws none p s m av.toArray meth c A D cl tys → xV p l e rm s m av.toArray below meth c s.heap A 0 0 (xQV below D cl tys wf post A av.toArray s) D cl nL w (lv_args 0 av) 0 []) : xCV l y ws rm D cl tys w av wf post := by
  intro sz
  refine Met.ofW (cc := cc) (maxL := nL) (ret := none) hy hw ?_
  intro p e s m args below meth c s₁ B hml hv
  obtain ⟨rfl, hsz, hP, hK, hD0, hN⟩ := hv
  subst hsz
  have hD := hD0.self (sz := s.heap.size)
  have hl := lv_entry av (n := nL) hn
  rw [lg_entry_eq]
  exact body p e s m below meth c (va_A w s.heap.size) ⟨B.exec, B.bytes, hml, findClass_of_methodNamed B.named, atoms_spec (ws := ws) B.pre, B.returns, B.notSynchronized, hK, hN, fun q h => Or.inr h⟩ s.heap [] _ hP hD va_S.rf hl
end
