section
variable {p : Program} {l : Launch} {e : Env} {R : Room} {s : State} {m : MethodId} {args : Array Value} {below : List Frame} {meth : Method} {c : Code} {H0 : Heap} {A : Nat → Prop} {cells slots : Nat} {Q : State → Prop} {D : va_G} {cl : List vw_C} {tys : List (ClassId × FieldType)} {nL : Nat} {w w' : va_W} {lv lv' : List (Nat × Value)} {pc : Nat} {st : List Value} {cc : ByteArray}
theorem x_weq (h : w = w') (k : xV p l e R s m args below meth c H0 A cells slots Q D cl nL w' lv pc st) : xV p l e R s m args below meth c H0 A cells slots Q D cl nL w lv pc st := h ▸ k
theorem x_wsub (is : List Nat) (hn : va_nd is = true) (h1 : is.filterMap (fun i => w[i]?) = w') (h2 : is.map (fun i => w[i]?) = w'.map some) (k : xV p l e R s m args below meth c H0 A cells slots Q D cl nL w' lv pc st) : xV p l e R s m args below meth c H0 A cells slots Q D cl nL w lv pc st :=
  fun H locs ls hP hD hS hl => k H locs ls (hP.sub is h1) (hD.sub is hn h2) hS hl
theorem x_widen {c1 s1 : Nat} (h1 : cells ≤ c1) (h2 : slots ≤ s1) (k : xV p l e R s m args below meth c H0 A c1 s1 Q D cl nL w lv pc st) : xV p l e R s m args below meth c H0 A cells slots Q D cl nL w lv pc st :=
  fun H locs ls hP hD hS hl => W.widen (k := c1) (n := s1) h1 h2 (k H locs ls hP hD hS hl)
theorem x_newa (hx : p.tables.exec = Jvm.exec) (hb : c.code = cc) (harr : (Cond.arrayClass .int).before args s = true) (hK : va_K D cl tys s) (hA : ∀ q, H0.size ≤ q → A q) {n : Int} {N' : Nat} (hn : n = (N' : Int)) (hm : N' ≤ 100000) (hcells : cells + 1 ≤ R.cells) (hslots : slots + N' ≤ R.slots) (hd : decode cc pc = .ok (.newarray .int, 2)) {w2 : Nat → ClassId → va_W} (hw : ∀ (q : Nat) (cA : ClassId), w ++ [(q, .inl (cA, N', .inl (fun _ => iI 0)))] = w2 q cA) {ty2 : ClassId → List (ClassId × FieldType)} (ht : ∀ cA : ClassId, tys ++ [(cA, .int)] = ty2 cA) (k : ∀ (q : Nat) (cA : ClassId), va_K D cl (ty2 cA) s → xV p l e R s m args below meth c H0 A (cells + 1) (slots + N') Q D cl nL (w2 q cA) lv (pc + 2) (.ref q :: st)) : xV p l e R s m args below meth c H0 A cells slots Q D cl nL w lv pc (.int (iI n) :: st) := by
  intro H locs ls hP hD hS hl
  have hi : ir n := ⟨by omega, by omega⟩
  refine va_newa (atype := .int) (a0 := (N', .inl (fun _ => iI 0))) hx hb harr rfl hK hP hD hS hA (fun cA => rfl) (fun h => by rw [← iI_0, iI_lt hi ir_0] at h; omega) (by rw [iI_clamp hi]; omega) (by show N' * 4 ≤ 536870912; omega) hcells hslots hd (fun q cA H1 hK1 hP1 hD1 hS1 => ?_)
  rw [hw] at hP1 hD1
  have hK2 : va_K D cl (tys ++ [(cA, .int)]) s := hK1
  rw [ht] at hK2
  exact k q cA hK2 H1 locs ls hP1 hD1 hS1 hl
theorem x_newq (hx : p.tables.exec = Jvm.exec) (hb : c.code = cc) {own C0 : String} {index : Nat} (hown : s.vm.findClass own = some m.cls) (hcl : (Cond.classLink own index C0).before args s = true) (hov : va_AO C0 s) (hK : va_K D cl tys s) (hA : ∀ q, H0.size ≤ q → A q) {n : Int} {N' : Nat} (hn : n = (N' : Int)) (hm : N' ≤ 100000) (hcells : cells + 1 ≤ R.cells) (hslots : slots + N' ≤ R.slots) (hd : decode cc pc = .ok (.anewarray index, 3)) {w2 : Nat → ClassId → va_W} (hw : ∀ (q : Nat) (cA : ClassId), w ++ [(q, .inl (cA, N', .inr (.inr (.inr (.inr (fun _ => none))))))] = w2 q cA) {ty2 : ClassId → List (ClassId × FieldType)} (ht : ∀ cA : ClassId, tys ++ [(cA, .object C0)] = ty2 cA) (k : ∀ (q : Nat) (cA : ClassId), va_K D cl (ty2 cA) s → xV p l e R s m args below meth c H0 A (cells + 1) (slots + N') Q D cl nL (w2 q cA) lv (pc + 3) (.ref q :: st)) : xV p l e R s m args below meth c H0 A cells slots Q D cl nL w lv pc (.int (iI n) :: st) := by
  intro H locs ls hP hD hS hl
  have hi : ir n := ⟨by omega, by omega⟩
  refine va_newq hx hb hown hcl hov hK hP hD hS hA (fun h => by rw [← iI_0, iI_lt hi ir_0] at h; omega) (by rw [iI_clamp hi]; omega) (by omega) hcells hslots hd (fun q cA H1 hK1 hP1 hD1 hS1 => ?_)
  rw [hw] at hP1 hD1
  rw [ht] at hK1
  exact k q cA hK1 H1 locs ls hP1 hD1 hS1 hl
theorem x_new (hx : p.tables.exec = Jvm.exec) (hb : c.code = cc) {own C0 : String} {T : u_T} {N ci index : Nat} {Ts : List Cond} (hts : ∀ w ∈ Ts, w.before args s = true) (hin : ∀ w ∈ u_ws C0 T N, w ∈ Ts) (ty : Nat → FieldType) (hty : ∀ k, k < N → parseFieldDescriptor (T k).2.2.1 = some (ty k)) (hown : s.vm.findClass own = some m.cls) (hcl : (Cond.classLink own index C0).before args s = true) (hinst : (Cond.instantiable C0 N).before args s = true) (hini : (Cond.initialized C0).before args s = true) (hK : va_K D cl tys s) (hA : ∀ q, H0.size ≤ q → A q) (hc : cl[ci]? = some (C0, T, N)) {fs : List Value} (hfs : ∀ j, j < N → defaultValue (ty j) = vp_V fs j) (hcells : cells + 1 ≤ R.cells) (hslots : slots + N ≤ R.slots) (hd : decode cc pc = .ok (.new index, 3)) {w2 : Nat → va_W} (hw : ∀ q : Nat, w ++ [(q, .inr (ci, fs))] = w2 q) (k : ∀ q : Nat, xV p l e R s m args below meth c H0 A (cells + 1) (slots + N) Q D cl nL (w2 q) lv (pc + 3) (.ref q :: st)) : xV p l e R s m args below meth c H0 A cells slots Q D cl nL w lv pc st := by
  intro H locs ls hP hD hS hl
  refine va_new hx hb hts hin ty hty hown hcl hinst hini hK hP hD hS hA hc hfs hcells hslots hd (fun q H1 hP1 hD1 hS1 => ?_)
  rw [hw] at hP1 hD1
  exact k q H1 locs ls hP1 hD1 hS1 hl
theorem x_astq (hx : p.tables.exec = Jvm.exec) (hb : c.code = cc) (hK : va_K D cl tys s) (q0 t0 qk ci : Nat) {a : Nat} {cA : ClassId} {r : vw_C} {n v : Nat} {vs : List Value} {g : Nat → Option Nat} (ha : w[q0]? = some (a, .inl (cA, n, .inr (.inr (.inr (.inr g)))))) (ht : tys[t0]? = some (cA, .object r.1)) (hv : w[qk]? = some (v, .inr (ci, vs))) (hc : cl[ci]? = some r) {i : Int} (h0 : 0 ≤ i) (h1 : i < n) (hn : n ≤ 2147483647) (hd : decode cc pc = .ok (.aastore, 1)) (hw : w.set q0 (a, .inl (cA, n, .inr (.inr (.inr (.inr (va_up g i.toNat (some v))))))) = w') (k : xV p l e R s m args below meth c H0 A cells slots Q D cl nL w' lv (pc + 1) st) : xV p l e R s m args below meth c H0 A cells slots Q D cl nL w lv pc (.ref v :: .int (iI i) :: .ref a :: st) := by
  intro H locs ls hP hD hS hl
  refine va_astq hx hb hK hP hD hS q0 t0 qk ci ha ht hv hc (iI_in h0 h1 hn) hd (fun H1 locs1 hP1 hD1 hS1 => ?_)
  rw [iI_clamp ⟨by omega, by omega⟩, hw] at hP1 hD1
  exact k H1 locs1 ls hP1 hD1 hS1 hl
theorem x_putF (hx : p.tables.exec = Jvm.exec) (hb : c.code = cc) {own ref C0 : String} {T : u_T} {N ci index : Nat} {Ts : List Cond} (hts : ∀ w ∈ Ts, w.before args s = true) (hin : ∀ w ∈ u_ws C0 T N, w ∈ Ts) (ty0 : Nat → FieldType) (hty : ∀ k, k < N → parseFieldDescriptor (T k).2.2.1 = some (ty0 k)) (hnm : ∀ a, a < N → ∀ b, b < N → a ≠ b → (T a).2.1 ≠ (T b).2.1) (hown : s.vm.findClass own = some m.cls) (hK : va_K D cl tys s) (q0 : Nat) {a : Nat} {fs : List Value} (he : w[q0]? = some (a, .inr (ci, fs))) (hc : cl[ci]? = some (C0, T, N)) (kf : Nat) (hk : kf < N) (hlink : (Cond.fieldLink own index ref (T kf).2.1 (T kf).2.2.1).before args s = true) (hsame : ∀ x, s.fieldFound? (T kf).1 (T kf).2.1 (T kf).2.2.1 = some x → s.fieldFound? ref (T kf).2.1 (T kf).2.2.1 = some x) (hfin : (T kf).2.2.2 = true) (hin2 : meth.name = "<init>") (hdecl : (T kf).1 = own) {ty : FieldType} {v : Value} (hdT : parseFieldDescriptor (T kf).2.2.1 = some ty) (hn : narrow ty v = v) (hfit : fits ty v = true) (hl' : kf < fs.length) (hd : decode cc pc = .ok (.putfield index, 3)) (hw : w.set q0 (a, .inr (ci, fs.set kf v)) = w') (k : xV p l e R s m args below meth c H0 A cells slots Q D cl nL w' lv (pc + 3) st) : xV p l e R s m args below meth c H0 A cells slots Q D cl nL w lv pc (v :: .ref a :: st) :=
  fun H locs ls hP hD hS hl => va_putF hx hb hts hin ty0 hty hnm hown hK hP hD hS q0 he hc kf hk hlink hsame hfin hin2 hdecl hdT hn hfit hl' hd (fun H1 locs1 hP1 hD1 hS1 => k H1 locs1 ls (hw ▸ hP1) (hw ▸ hD1) hS1 hl)
theorem x_objI (hx : p.tables.exec = Jvm.exec) (hb : c.code = cc) {own : String} {index : Nat} (hown : s.vm.findClass own = some m.cls) (hml : c.maxLocals = nL) (hlink : (Cond.methodLink own index objectInit).before args s = true) (hinst : (Cond.instanceMethod objectInit).before args s = true) (hcode : (Cond.code objectInit ⟨#[0xb1]⟩ 1 none).before args s = true) {a : Nat} (hd : decode cc pc = .ok (.invokespecial index, 3)) (hfr : 1 ≤ R.frames) (hlo : (st.map fun v => v.category).sum + 12 ≤ R.locals) (k : xV p l e R s m args below meth c H0 A cells slots Q D cl nL w lv (pc + 3) st) : xV p l e R s m args below meth c H0 A cells slots Q D cl nL w lv pc (.ref a :: st) := by
  intro H locs ls hP hD hS hl
  refine W.objInit hx hb hown hlink hinst hcode rfl (by rw [hml]; exact hl.1) rfl hd hfr (by show 2 * 0 + _ + 12 ≤ R.locals; omega) ?_
  exact W.eq (g2 := F0 m (pc + 3) ls st) rfl (k H locs ls hP hD hS hl)
/-- what a constructor leaves: addresses, array classes, fields, arrays -/
abbrev xU : Type := (Nat → Nat → Nat) × (Nat → Nat → ClassId) × fS × aS
abbrev xBN (D : va_G) (cl : List vw_C) (wf : (Nat → Nat → Nat) → (Nat → Nat → ClassId) → fS → aS → va_W) (tyf : (Nat → Nat → ClassId) → List (ClassId × FieldType)) (A : Nat → Prop) : xU → State → Prop := fun u t => va_P D cl (wf u.1 u.2.1 u.2.2.1 u.2.2.2) t.heap ∧ va_K D cl (tyf u.2.1) t ∧ va_D A (wf u.1 u.2.1 u.2.2.1 u.2.2.2)
def xCN (l : Launch) (y : MethodName) (ws : List Cond) (rm : Room) (D : va_G) (cl : List vw_C) (w : va_W) (av : List Value) (wf : (Nat → Nat → Nat) → (Nat → Nat → ClassId) → fS → aS → va_W) (tyf : (Nat → Nat → ClassId) → List (ClassId × FieldType)) (post : (Nat → Nat → Nat) → fS → aS → Prop) (mc ms : Nat) : Prop :=
  ∀ sz : Nat, Met l y ws rm (va_Pc av (fun S => S.heap.size = sz ∧ va_P D cl w S.heap ∧ va_K D cl [] S ∧ va_D (fun _ => True) w ∧ xN S)) (va_Qv (fun (u : xU) => post u.1 u.2.2.1 u.2.2.2) (xBN D cl wf tyf (va_A w sz)) (va_A w sz)) mc ms (va_A w sz)
abbrev xQN (below : List Frame) (D : va_G) (cl : List vw_C) (wf : (Nat → Nat → Nat) → (Nat → Nat → ClassId) → fS → aS → va_W) (tyf : (Nat → Nat → ClassId) → List (ClassId × FieldType)) (post : (Nat → Nat → Nat) → fS → aS → Prop) (mc ms : Nat) (A : Nat → Prop) (args : Array Value) (s : State) : State → Prop := MQ below (va_Qv (fun (u : xU) => post u.1 u.2.2.1 u.2.2.2) (xBN D cl wf tyf A) A) args s mc ms A
theorem x_vretN {wf : (Nat → Nat → Nat) → (Nat → Nat → ClassId) → fS → aS → va_W} {tyf : (Nat → Nat → ClassId) → List (ClassId × FieldType)} {post : (Nat → Nat → Nat) → fS → aS → Prop} {mc ms : Nat} (hx : p.tables.exec = Jvm.exec) (hb : c.code = cc) (hr : meth.sig.returnType = none) (hlk : meth.locks = false) (hK : va_K D cl tys s) (ad : Nat → Nat → Nat) (cA : Nat → Nat → ClassId) (f : fS) (a : aS) (hty : tyf cA = tys) (hw : wf ad cA f a = w) (hd : decode cc pc = .ok (.return_, 1)) (hp : post ad f a) : xV p l e R s m args below meth c s.heap A mc ms (xQN below D cl wf tyf post mc ms A args s) D cl nL w lv pc [] := by
  intro H locs ls hP hD hS hl
  subst hty
  subst hw
  exact W.vret hx hb hr (fun t ht hW => ⟨⟨(ad, cA, f, a), rfl, hp, by rw [ht]; exact hP, va_K.moved hW.alike hK, hD⟩, hS.F ht⟩) hS.2.2 hd hlk
theorem x_metN {wf : (Nat → Nat → Nat) → (Nat → Nat → ClassId) → fS → aS → va_W} {tyf : (Nat → Nat → ClassId) → List (ClassId × FieldType)} {post : (Nat → Nat → Nat) → fS → aS → Prop} {mc ms : Nat} {y : MethodName} {ws ws' : List Cond} {rm : Room} {av : List Value} (hy : plainName y.cls = true) (hw : ws = Cond.code y cc nL none :: ws') (hn : (lg_sl av).length ≤ nL)
    (body : ∀ (p : Program) (e : Env) (s : State) (m : MethodId) (below : List Frame) (meth : Method) (c : Code) (A : Nat → Prop), xOk cc nL y.cls ws none p s m av.toArray meth c A D cl [] → meth.name = y.name → xV p l e rm s m av.toArray below meth c s.heap A 0 0 (xQN below D cl wf tyf post mc ms A av.toArray s) D cl nL w (lv_args 0 av) 0 []) : xCN l y ws rm D cl w av wf tyf post mc ms := by
  intro sz
  refine Met.ofW (cc := cc) (maxL := nL) (ret := none) hy hw ?_
  intro p e s m args below meth c s₁ B hml hv
  obtain ⟨rfl, hsz, hP, hK, hD0, hN⟩ := hv
  subst hsz
  have hD := hD0.self (sz := s.heap.size)
  have hl := lv_entry av (n := nL) hn
  rw [lg_entry_eq]
  exact body p e s m below meth c (va_A w s.heap.size) ⟨B.exec, B.bytes, hml, findClass_of_methodNamed B.named, atoms_spec (ws := ws) B.pre, B.returns, B.notSynchronized, hK, hN, fun q h => Or.inr h⟩ (name_of_methodNamed B.named B.method).1 s.heap [] _ hP hD va_S.rf hl
theorem x_blindN {av : List Value} {w : va_W} {sz : Nat} : FrameBlind (va_Pc av (fun S => S.heap.size = sz ∧ va_P D cl w S.heap ∧ va_K D cl [] S ∧ va_D (fun _ => True) w ∧ xN S)) := x_blind (tys := [])
theorem x_cI {wf : (Nat → Nat → Nat) → (Nat → Nat → ClassId) → fS → aS → va_W} {tyf : (Nat → Nat → ClassId) → List (ClassId × FieldType)} {post : (Nat → Nat → Nat) → fS → aS → Prop} {mc ms : Nat} {y : MethodName} {bytes : ByteArray} {maxL n index : Nat} {ws : List Cond} {rm : Room} {Ts : List Cond} {own host : String} {b : Addr} {As : List Value} {ci : Nat} {fs : List Value} (S : CallFix p m c cc nL s args Ts own) {st0 : List Value} (hK : va_K D cl tys s) (hN : xN s) (hM : xCN l y ws rm D cl [(b, .inr (ci, fs))] (.ref b :: As) wf tyf post mc ms) (cw : CallB R s args own index y bytes maxL none ws rm mc ms n ∧ y.name = "<init>" ∧ (Cond.instanceMethod y).before args s = true) (kC : Nat) (he : [w[kC]?] = [some (b, .inr (ci, fs))]) (isR : List Nat) {wr : va_W} (hR : isR.map (fun i => w[i]?) = wr.map some) (hnR : va_nd isR = true) (hdis : ∀ i ∈ isR, i ∉ [kC]) (hA : ∀ q, H0.size ≤ q → A q) (hn : As.length = n) (hst : (st.map fun v => v.category).sum ≤ 8) (hf : cells + mc ≤ R.cells ∧ slots + ms ≤ R.slots) (hs : st0 = As.reverse ++ .ref b :: st) (hd : decode cc pc = .ok (.invokespecial index, 3)) {w2 : (Nat → Nat → Nat) → (Nat → Nat → ClassId) → fS → aS → va_W} (hw : ∀ ad cA f a, wr ++ wf ad cA f a = w2 ad cA f a) {ty2 : (Nat → Nat → ClassId) → List (ClassId × FieldType)} (ht : ∀ cA, tys ++ tyf cA = ty2 cA) (k : ∀ (ad : Nat → Nat → Nat) (cA : Nat → Nat → ClassId) (f : fS) (a : aS), post ad f a → va_K D cl (ty2 cA) s → xV p l e R s m args below meth c H0 A (cells + mc) (slots + ms) Q D cl nL (w2 ad cA f a) lv (pc + 3) st) : xV p l e R s m args below meth c H0 A cells slots Q D cl nL w lv pc st0 := by
  intro H locs ls hP hD hS hl
  have hC : [kC].map (fun i => w[i]?) = [(b, (.inr (ci, fs) : va_E))].map some := he
  have he1 : w[kC]? = some (b, .inr (ci, fs)) := List.head_eq_of_cons_eq he
  have hPc : va_P D cl [(b, .inr (ci, fs))] H := hP.sub [kC] (by simp [he1])
  have hDc : va_D A [(b, .inr (ci, fs))] := hD.sub [kC] (by simp [va_nd]) hC
  have hF := va_free (wc := [(b, .inr (ci, fs))]) hD hS hA [kC] hC
  refine va_callv (va_runI (As := As) (rest := st) S (hM H.size) cw ⟨x_blindN, x_pre (va_K.sub hK [] rfl) hN hPc hDc⟩ rfl hn hl.1 hs (lv_room hst) hd hf) hS (fun q _ h => hF q h) hF (fun u t H1 locs1 ht1 hvm hz hB hsz hk hS1 => ?_)
  obtain ⟨hP1, hK1, hD1⟩ := hB
  rw [ht1] at hP1
  obtain ⟨hP2, hD2⟩ := va_join (wr := wr) hP hD [kC] isR hC hR hnR hdis hk hF hP1 hD1
  have hK2 := hK.app (va_K.moved hvm.symm hK1)
  rw [hw] at hP2 hD2
  rw [ht] at hK2
  exact k u.1 u.2.1 u.2.2.1 u.2.2.2 hz hK2 H1 locs1 ls hP2 hD2 hS1 hl
theorem x_cIN {wf : (Nat → Nat → Nat) → (Nat → Nat → ClassId) → fS → aS → va_W} {tyf : (Nat → Nat → ClassId) → List (ClassId × FieldType)} {post : (Nat → Nat → Nat) → fS → aS → Prop} {mc ms : Nat} {y : MethodName} {bytes : ByteArray} {maxL n index : Nat} {ws : List Cond} {rm : Room} {Ts : List Cond} {own host : String} {b : Addr} {As : List Value} {ci : Nat} {fs : List Value} (S : CallFix p m c cc nL s args Ts own) {st0 : List Value} (hK : va_K D cl tys s) (hN : xN s) (hM : xCN l y ws rm D cl [(b, .inr (ci, fs))] (.ref b :: As) wf tyf post mc ms) (cw : va_CN R s args own index y host bytes maxL none ws rm mc ms n ∧ y.name = "<init>" ∧ (Cond.instanceMethod y).before args s = true) (kC : Nat) (he : [w[kC]?] = [some (b, .inr (ci, fs))]) (isR : List Nat) {wr : va_W} (hR : isR.map (fun i => w[i]?) = wr.map some) (hnR : va_nd isR = true) (hdis : ∀ i ∈ isR, i ∉ [kC]) (hA : ∀ q, H0.size ≤ q → A q) (hn : As.length = n) (hst : (st.map fun v => v.category).sum ≤ 8) (hf : cells + mc ≤ R.cells ∧ slots + ms ≤ R.slots) (hs : st0 = As.reverse ++ .ref b :: st) (hd : decode cc pc = .ok (.invokespecial index, 3)) {w2 : (Nat → Nat → Nat) → (Nat → Nat → ClassId) → fS → aS → va_W} (hw : ∀ ad cA f a, wr ++ wf ad cA f a = w2 ad cA f a) {ty2 : (Nat → Nat → ClassId) → List (ClassId × FieldType)} (ht : ∀ cA, tys ++ tyf cA = ty2 cA) (k : ∀ (ad : Nat → Nat → Nat) (cA : Nat → Nat → ClassId) (f : fS) (a : aS), post ad f a → va_K D cl (ty2 cA) s → xV p l e R s m args below meth c H0 A (cells + mc) (slots + ms) Q D cl nL (w2 ad cA f a) lv (pc + 3) st) : xV p l e R s m args below meth c H0 A cells slots Q D cl nL w lv pc st0 := by
  intro H locs ls hP hD hS hl
  have hC : [kC].map (fun i => w[i]?) = [(b, (.inr (ci, fs) : va_E))].map some := he
  have he1 : w[kC]? = some (b, .inr (ci, fs)) := List.head_eq_of_cons_eq he
  have hPc : va_P D cl [(b, .inr (ci, fs))] H := hP.sub [kC] (by simp [he1])
  have hDc : va_D A [(b, .inr (ci, fs))] := hD.sub [kC] (by simp [va_nd]) hC
  have hF := va_free (wc := [(b, .inr (ci, fs))]) hD hS hA [kC] hC
  refine va_callv (va_runIN (As := As) (rest := st) S (hM H.size) cw ⟨x_blindN, x_pre (va_K.sub hK [] rfl) hN hPc hDc⟩ rfl hn hl.1 hs (lv_room hst) hd hf) hS (fun q _ h => hF q h) hF (fun u t H1 locs1 ht1 hvm hz hB hsz hk hS1 => ?_)
  obtain ⟨hP1, hK1, hD1⟩ := hB
  rw [ht1] at hP1
  obtain ⟨hP2, hD2⟩ := va_join (wr := wr) hP hD [kC] isR hC hR hnR hdis hk hF hP1 hD1
  have hK2 := hK.app (va_K.moved hvm.symm hK1)
  rw [hw] at hP2 hD2
  rw [ht] at hK2
  exact k u.1 u.2.1 u.2.2.1 u.2.2.2 hz hK2 H1 locs1 ls hP2 hD2 hS1 hl
theorem x_fVi {wf : fS → aS → va_W} {y : MethodName} {bytes : ByteArray} {maxL n index : Nat} {ret : Option FieldType} {ws : List Cond} {rm : Room} {Ts : List Cond} {own C0 : String} {b : Addr} {As : List Value} {T : u_T} {N ci : Nat} {fs : List Value} {post : Int → fS → aS → Prop} (S : CallFix p m c cc nL s args Ts own) {st0 : List Value} (hK : va_K D cl tys s) (hN : xN s) {wc wr : va_W} {tyc : List (ClassId × FieldType)} (hM : xCI l y ws rm D cl tyc wc (.ref b :: As) wf post) (cw : CallW R s args own C0 index y bytes maxL ret ws rm 0 0 n) (q0 : Nat) (he : w[q0]? = some (b, .inr (ci, fs))) (hc : cl[ci]? = some (C0, T, N)) (ist isC isR : List Nat) (hKc : ist.filterMap (fun i => tys[i]?) = tyc) (hC : isC.map (fun i => w[i]?) = wc.map some) (hCf : isC.filterMap (fun i => w[i]?) = wc) (hnC : va_nd isC = true) (hR : isR.map (fun i => w[i]?) = wr.map some) (hnR : va_nd isR = true) (hdis : ∀ i ∈ isR, i ∉ isC) (hA : ∀ q, H0.size ≤ q → A q) (hn : As.length = n) (hst : (st.map fun v => v.category).sum ≤ 8) (hf : cells ≤ R.cells ∧ slots ≤ R.slots) (hs : st0 = As.reverse ++ .ref b :: st) (hd : decode cc pc = .ok (.invokevirtual index, 3)) (k : ∀ (z : Int) (f : fS) (a : aS), post z f a → xV p l e R s m args below meth c H0 A cells slots Q D cl nL (wr ++ wf f a) lv (pc + 3) (.int (iI z) :: st)) : xV p l e R s m args below meth c H0 A cells slots Q D cl nL w lv pc st0 := by
  intro H locs ls hP hD hS hl
  have hPc : va_P D cl wc H := hP.sub isC hCf
  have hDc : va_D A wc := hD.sub isC hnC hC
  have hF := va_free (wc := wc) hD hS hA isC hC
  refine va_calli (va_runV (C := C0) (b := b) (As := As) (rest := st) S (hM H.size) cw ⟨x_blind, va_recv hK hP hc he, x_pre (hK.sub ist hKc) hN hPc hDc⟩ rfl hn hl.1 hs (lv_room hst) hd hf) hS (fun q _ h => hF q h) hF (fun r u t H1 locs1 ht hvm hz hB hsz hk hS1 => ?_)
  obtain ⟨z, rfl, hz⟩ := hz
  obtain ⟨hP1, hK1, hD1⟩ := hB
  rw [ht] at hP1
  obtain ⟨hP2, hD2⟩ := va_join (wr := wr) hP hD isC isR hC hR hnR hdis hk hF hP1 hD1
  exact k z u.1 u.2 hz H1 locs1 ls hP2 hD2 hS1 hl
end
section
variable {R : Room} {s : State} {args : Array Value}
theorem x_cwIN {own host : String} {index maxL n mc ms : Nat} {y : MethodName} {bytes : ByteArray} {w0 : Cond} {rm : Room} (hts : ∀ w ∈ w0 :: xG, w.before args s = true) (hrc : rm.cells = mc) (hrs : rm.slots = ms) (kc : Cond.code y bytes maxL none ∈ xG) (kn : Cond.initialized y.cls ∈ xG) (hN : xN s) (kl : Cond.methodLinkNest own index y host ∈ xNl) (ki : Cond.instanceMethod y ∈ xG) (hy : y.name = "<init>") (hd : y.cls ≠ "java/lang/invoke/MethodHandle" ∧ y.cls ≠ "java/lang/invoke/VarHandle" ∧ (parseMethodDescriptor y.desc).map (fun d => d.parameters.length) = some n) (hR : rm.frames + 1 ≤ R.frames ∧ 8 + (maxL + 11) + rm.locals ≤ R.locals) : va_CN R s args own index y host bytes maxL none (Cond.code y bytes maxL none :: xG) rm mc ms n ∧ y.name = "<init>" ∧ (Cond.instanceMethod y).before args s = true :=
  ⟨va_cnB n hts (xG_good kc) rfl hrc hrs (hN.1 _ kl) (hts _ (List.mem_cons_of_mem _ kn)) hd hR, hy, hts _ (List.mem_cons_of_mem _ ki)⟩
theorem x_cwI {own : String} {index maxL n mc ms : Nat} {y : MethodName} {bytes : ByteArray} {w0 : Cond} {rm : Room} (hts : ∀ w ∈ w0 :: xG, w.before args s = true) (hrc : rm.cells = mc) (hrs : rm.slots = ms) (kc : Cond.code y bytes maxL none ∈ xG) (kn : Cond.initialized y.cls ∈ xG) (kl : Cond.methodLink own index y ∈ xG) (ki : Cond.instanceMethod y ∈ xG) (hy : y.name = "<init>") (hd : y.cls ≠ "java/lang/invoke/MethodHandle" ∧ y.cls ≠ "java/lang/invoke/VarHandle" ∧ (parseMethodDescriptor y.desc).map (fun d => d.parameters.length) = some n) (hR : rm.frames + 1 ≤ R.frames ∧ 8 + (maxL + 11) + rm.locals ≤ R.locals) : CallB R s args own index y bytes maxL none (Cond.code y bytes maxL none :: xG) rm mc ms n ∧ y.name = "<init>" ∧ (Cond.instanceMethod y).before args s = true :=
  ⟨callB_of n hts (xG_good kc) rfl hrc hrs (hts _ (List.mem_cons_of_mem _ kn)) (hts _ (List.mem_cons_of_mem _ kl)) hd hR, hy, hts _ (List.mem_cons_of_mem _ ki)⟩
end
def WW (ad : Nat → Nat → Nat) (cA : Nat → Nat → ClassId) (f : fS) (a : aS) : va_W :=
  [(ad 1 0, .inr (2, [.ref (ad 1 1), .int (iI (f 1 1))])),
   (ad 1 1, .inl (cA 1 0, 24, .inl (fun j => iI (a 1 0 j))))]
def taW (cA : Nat → Nat → ClassId) : List (ClassId × FieldType) :=
  [(cA 1 0, .int)]
def DW (ad : Nat → Nat → Nat) (cA : Nat → Nat → ClassId) (f : fS) (a : aS) : va_W :=
  [(ad 2 0, .inr (0, [.int (iI (f 2 0)), .int (iI (f 2 1)), .int (iI (f 2 2)), .ref (ad 2 4), .ref (ad 2 5), .ref (ad 2 6), .ref (ad 2 7), .ref (ad 2 8), .ref (ad 2 9), .ref (ad 2 10), .ref (ad 2 11), .ref (ad 2 12)])),
   (ad 2 4, .inl (cA 2 3, 195, .inl (fun j => iI (a 2 3 j)))),
   (ad 2 5, .inl (cA 2 4, 195, .inl (fun j => iI (a 2 4 j)))),
   (ad 2 6, .inl (cA 2 5, 195, .inl (fun j => iI (a 2 5 j)))),
   (ad 2 7, .inl (cA 2 6, 64, .inl (fun j => iI (a 2 6 j)))),
   (ad 2 8, .inl (cA 2 7, 384, .inl (fun j => iI (a 2 7 j)))),
   (ad 2 9, .inl (cA 2 8, 64, .inl (fun j => iI (a 2 8 j)))),
   (ad 2 10, .inl (cA 2 9, 64, .inl (fun j => iI (a 2 9 j)))),
   (ad 2 11, .inl (cA 2 10, 64, .inl (fun j => iI (a 2 10 j)))),
   (ad 2 12, .inl (cA 2 11, 64, .inl (fun j => iI (a 2 11 j))))]
def taD (cA : Nat → Nat → ClassId) : List (ClassId × FieldType) :=
  [(cA 2 3, .int), (cA 2 4, .int), (cA 2 5, .int), (cA 2 6, .int), (cA 2 7, .int), (cA 2 8, .int), (cA 2 9, .int), (cA 2 10, .int), (cA 2 11, .int)]
def GW (ad : Nat → Nat → Nat) (cA : Nat → Nat → ClassId) (f : fS) (a : aS) : va_W :=
  [(ad 3 0, .inr (1, [.int (iI (f 3 0)), .int (iI (f 3 1)), .int (iI (f 3 2)), .ref (ad 3 4), .ref (ad 3 5), .ref (ad 3 6), .ref (ad 3 7), .ref (ad 3 8), .ref (ad 3 9)])),
   (ad 3 4, .inl (cA 3 3, 384, .inl (fun j => iI (a 3 3 j)))),
   (ad 3 5, .inl (cA 3 4, 384, .inl (fun j => iI (a 3 4 j)))),
   (ad 3 6, .inl (cA 3 5, 64, .inl (fun j => iI (a 3 5 j)))),
   (ad 3 7, .inl (cA 3 6, 64, .inl (fun j => iI (a 3 6 j)))),
   (ad 3 8, .inl (cA 3 7, 64, .inl (fun j => iI (a 3 7 j)))),
   (ad 3 9, .inl (cA 3 8, 64, .inl (fun j => iI (a 3 8 j))))]
def taG (cA : Nat → Nat → ClassId) : List (ClassId × FieldType) :=
  [(cA 3 3, .int), (cA 3 4, .int), (cA 3 5, .int), (cA 3 6, .int), (cA 3 7, .int), (cA 3 8, .int)]
theorem woH (ad : Nat → Nat → Nat) (cA : Nat → Nat → ClassId) (f : fS) (a : aS) : (GW ad cA f a)[0]? = some (ad 3 0, .inr (1, [.int (iI (f 3 0)), .int (iI (f 3 1)), .int (iI (f 3 2)), .ref (ad 3 4), .ref (ad 3 5), .ref (ad 3 6), .ref (ad 3 7), .ref (ad 3 8), .ref (ad 3 9)])) := rfl
theorem wf0H (ad : Nat → Nat → Nat) (cA : Nat → Nat → ClassId) (f : fS) (a : aS) (v : Int) : (GW ad cA f a).set 0 (ad 3 0, .inr (1, ([.int (iI (f 3 0)), .int (iI (f 3 1)), .int (iI (f 3 2)), .ref (ad 3 4), .ref (ad 3 5), .ref (ad 3 6), .ref (ad 3 7), .ref (ad 3 8), .ref (ad 3 9)] : List Value).set 0 (.int (iI v)))) = GW ad cA (setF f 3 0 v) a := rfl
theorem wf1H (ad : Nat → Nat → Nat) (cA : Nat → Nat → ClassId) (f : fS) (a : aS) (v : Int) : (GW ad cA f a).set 0 (ad 3 0, .inr (1, ([.int (iI (f 3 0)), .int (iI (f 3 1)), .int (iI (f 3 2)), .ref (ad 3 4), .ref (ad 3 5), .ref (ad 3 6), .ref (ad 3 7), .ref (ad 3 8), .ref (ad 3 9)] : List Value).set 1 (.int (iI v)))) = GW ad cA (setF f 3 1 v) a := rfl
theorem wf2H (ad : Nat → Nat → Nat) (cA : Nat → Nat → ClassId) (f : fS) (a : aS) (v : Int) : (GW ad cA f a).set 0 (ad 3 0, .inr (1, ([.int (iI (f 3 0)), .int (iI (f 3 1)), .int (iI (f 3 2)), .ref (ad 3 4), .ref (ad 3 5), .ref (ad 3 6), .ref (ad 3 7), .ref (ad 3 8), .ref (ad 3 9)] : List Value).set 2 (.int (iI v)))) = GW ad cA (setF f 3 2 v) a := rfl
theorem wa3H (ad : Nat → Nat → Nat) (cA : Nat → Nat → ClassId) (f : fS) (a : aS) : (GW ad cA f a)[1]? = some (ad 3 4, .inl (cA 3 3, 384, .inl (fun j => iI (a 3 3 j)))) := rfl
theorem ws3H (ad : Nat → Nat → Nat) (cA : Nat → Nat → ClassId) (f : fS) (a : aS) (g : Nat → Int) : (GW ad cA f a).set 1 (ad 3 4, .inl (cA 3 3, 384, .inl (fun j => iI (g j)))) = GW ad cA f (setA a 3 3 g) := rfl
theorem wt3H (cA : Nat → Nat → ClassId) : (taG cA)[0]? = some (cA 3 3, .int) := rfl
theorem wa4H (ad : Nat → Nat → Nat) (cA : Nat → Nat → ClassId) (f : fS) (a : aS) : (GW ad cA f a)[2]? = some (ad 3 5, .inl (cA 3 4, 384, .inl (fun j => iI (a 3 4 j)))) := rfl
theorem ws4H (ad : Nat → Nat → Nat) (cA : Nat → Nat → ClassId) (f : fS) (a : aS) (g : Nat → Int) : (GW ad cA f a).set 2 (ad 3 5, .inl (cA 3 4, 384, .inl (fun j => iI (g j)))) = GW ad cA f (setA a 3 4 g) := rfl
theorem wt4H (cA : Nat → Nat → ClassId) : (taG cA)[1]? = some (cA 3 4, .int) := rfl
theorem wa5H (ad : Nat → Nat → Nat) (cA : Nat → Nat → ClassId) (f : fS) (a : aS) : (GW ad cA f a)[3]? = some (ad 3 6, .inl (cA 3 5, 64, .inl (fun j => iI (a 3 5 j)))) := rfl
theorem ws5H (ad : Nat → Nat → Nat) (cA : Nat → Nat → ClassId) (f : fS) (a : aS) (g : Nat → Int) : (GW ad cA f a).set 3 (ad 3 6, .inl (cA 3 5, 64, .inl (fun j => iI (g j)))) = GW ad cA f (setA a 3 5 g) := rfl
theorem wt5H (cA : Nat → Nat → ClassId) : (taG cA)[2]? = some (cA 3 5, .int) := rfl
theorem wa6H (ad : Nat → Nat → Nat) (cA : Nat → Nat → ClassId) (f : fS) (a : aS) : (GW ad cA f a)[4]? = some (ad 3 7, .inl (cA 3 6, 64, .inl (fun j => iI (a 3 6 j)))) := rfl
theorem ws6H (ad : Nat → Nat → Nat) (cA : Nat → Nat → ClassId) (f : fS) (a : aS) (g : Nat → Int) : (GW ad cA f a).set 4 (ad 3 7, .inl (cA 3 6, 64, .inl (fun j => iI (g j)))) = GW ad cA f (setA a 3 6 g) := rfl
theorem wt6H (cA : Nat → Nat → ClassId) : (taG cA)[3]? = some (cA 3 6, .int) := rfl
theorem wa7H (ad : Nat → Nat → Nat) (cA : Nat → Nat → ClassId) (f : fS) (a : aS) : (GW ad cA f a)[5]? = some (ad 3 8, .inl (cA 3 7, 64, .inl (fun j => iI (a 3 7 j)))) := rfl
theorem ws7H (ad : Nat → Nat → Nat) (cA : Nat → Nat → ClassId) (f : fS) (a : aS) (g : Nat → Int) : (GW ad cA f a).set 5 (ad 3 8, .inl (cA 3 7, 64, .inl (fun j => iI (g j)))) = GW ad cA f (setA a 3 7 g) := rfl
theorem wt7H (cA : Nat → Nat → ClassId) : (taG cA)[4]? = some (cA 3 7, .int) := rfl
theorem wa8H (ad : Nat → Nat → Nat) (cA : Nat → Nat → ClassId) (f : fS) (a : aS) : (GW ad cA f a)[6]? = some (ad 3 9, .inl (cA 3 8, 64, .inl (fun j => iI (a 3 8 j)))) := rfl
theorem ws8H (ad : Nat → Nat → Nat) (cA : Nat → Nat → ClassId) (f : fS) (a : aS) (g : Nat → Int) : (GW ad cA f a).set 6 (ad 3 9, .inl (cA 3 8, 64, .inl (fun j => iI (g j)))) = GW ad cA f (setA a 3 8 g) := rfl
theorem wt8H (cA : Nat → Nat → ClassId) : (taG cA)[5]? = some (cA 3 8, .int) := rfl
theorem wl3H {l : Launch} {D : va_G} (ad : Nat → Nat → Nat) (cA : Nat → Nat → ClassId) (f : fS) (a : aS) (v : Int) (g : Nat → Int) (hg : a 3 3 = g) : xCV l yJ_fill (Cond.code yJ_fill cJ_fill 4 none :: xG) rmJ_fill D vwCl (taG cA) (GW ad cA f a) [.ref (ad 3 4), .int (iI v)] (GW ad cA) (fun f' a' => f' = f ∧ a' = setA a 3 3 (fillA g 384 v)) := by
  have h := m_fill (l := l) (D := D) (cl := vwCl) (tys := taG cA) (W := fun g => GW ad cA f (setA a 3 3 g)) (g := g) (v := v) (wf := GW ad cA) (f := f) (a := setA a 3 3 (fillA g 384 v)) (n := 384) (fun g => by
    have q := wa3H ad cA f (setA a 3 3 g)
    rw [setA_s] at q
    exact q) (fun g g' => by
    have q := ws3H ad cA f (setA a 3 3 g) g'
    rw [setA_ss] at q
    exact q) (wt3H cA) (by decide) rfl
  have e : setA a 3 3 g = a := by rw [← hg, setA_id]
  simp only [e] at h
  exact h
theorem wl4H {l : Launch} {D : va_G} (ad : Nat → Nat → Nat) (cA : Nat → Nat → ClassId) (f : fS) (a : aS) (v : Int) (g : Nat → Int) (hg : a 3 4 = g) : xCV l yJ_fill (Cond.code yJ_fill cJ_fill 4 none :: xG) rmJ_fill D vwCl (taG cA) (GW ad cA f a) [.ref (ad 3 5), .int (iI v)] (GW ad cA) (fun f' a' => f' = f ∧ a' = setA a 3 4 (fillA g 384 v)) := by
  have h := m_fill (l := l) (D := D) (cl := vwCl) (tys := taG cA) (W := fun g => GW ad cA f (setA a 3 4 g)) (g := g) (v := v) (wf := GW ad cA) (f := f) (a := setA a 3 4 (fillA g 384 v)) (n := 384) (fun g => by
    have q := wa4H ad cA f (setA a 3 4 g)
    rw [setA_s] at q
    exact q) (fun g g' => by
    have q := ws4H ad cA f (setA a 3 4 g) g'
    rw [setA_ss] at q
    exact q) (wt4H cA) (by decide) rfl
  have e : setA a 3 4 g = a := by rw [← hg, setA_id]
  simp only [e] at h
  exact h
-- G_reset
abbrev rmGH_reset : Room := { frames := 1, cells := 0, slots := 0, locals := 23 }
abbrev gGH_reset (p : Program) (l : Launch) (e : Env) (s : State) (m : MethodId) (args : Array Value) (below : List Frame) (meth : Method) (c : Code) (A : Nat → Prop) (D : va_G) (ad : Nat → Nat → Nat) (cA : Nat → Nat → ClassId) (post : fS → aS → Prop) (f : fS) (a : aS) (lv : List (Nat × Value)) (pc : Nat) (st : List Value) : Prop := xV p l e rmGH_reset s m args below meth c s.heap A 0 0 (xQV below D vwCl (taG cA) (GW ad cA) post A args s) D vwCl 1 (GW ad cA f a) lv pc st
def wp_GH_reset (post : fS → aS → Prop) (f : fS) (a : aS) : Prop := post (setF (setF (setF f 3 0 1) 3 1 0) 3 2 0) (setA (setA (setA (setA (setA a 3 5 (va_up (a 3 5) (Int.toNat 0) (-1))) 3 6 (va_up (a 3 6) (Int.toNat 0) (-1))) 3 7 (va_up (a 3 7) (Int.toNat 0) 0)) 3 3 (fillA (a 3 3) 384 (-1))) 3 4 (fillA (a 3 4) 384 0))
set_option maxHeartbeats 4000000 in
set_option maxRecDepth 100000 in
theorem m_GH_reset {l : Launch} {D : va_G} {ad : Nat → Nat → Nat} {cA : Nat → Nat → ClassId} {post : fS → aS → Prop} {f : fS} {a : aS} (h : wp_GH_reset post  f a) : xCV l yG_reset (Cond.code yG_reset cG_reset 1 none :: xG) rmGH_reset D vwCl (taG cA) (GW ad cA f a) [.ref (ad 3 0)] (GW ad cA) post := by
  refine x_metV (cc := cG_reset) (nL := 1) (by decide) rfl (Nat.le_of_ble_eq_true rfl) ?_
  intro p e s m below meth c A hO
  have hO9 := hO
  obtain ⟨hx, hb, hml, hown, hts, hr, hlk, hK, hN, hA⟩ := hO9
  unfold wp_GH_reset at h
  show gGH_reset p l e s m _ below meth c A D ad cA post f a [(0, .ref (ad 3 0))] 0 []
  refine x_aload_n hx hb dG_reset_0 rfl 0 rfl ?_
  refine x_iconst hx hb dG_reset_1 ?_
  refine x_put hx hb hts (jnG _) tyG tkG nmG hown hK _ (woH ad cA f a) rfl 0 (by decide) (hts _ (List.mem_cons_of_mem _ kfG_33)) (fun _ h9 => h9) rfl (by decide +kernel) (Nat.le_of_ble_eq_true rfl) dG_reset_2 (wf0H ad cA f a 1) ?_
  refine x_aload_n hx hb dG_reset_5 rfl 0 rfl ?_
  refine x_iconst hx hb dG_reset_6 ?_
  refine x_put hx hb hts (jnG _) tyG tkG nmG hown hK _ (woH ad cA (setF f 3 0 1) a) rfl 1 (by decide) (hts _ (List.mem_cons_of_mem _ kfG_37)) (fun _ h9 => h9) rfl (by decide +kernel) (Nat.le_of_ble_eq_true rfl) dG_reset_7 (wf1H ad cA (setF f 3 0 1) a 0) ?_
  refine x_aload_n hx hb dG_reset_10 rfl 0 rfl ?_
  refine x_iconst hx hb dG_reset_11 ?_
  refine x_put hx hb hts (jnG _) tyG tkG nmG hown hK _ (woH ad cA (setF (setF f 3 0 1) 3 1 0) a) rfl 2 (by decide) (hts _ (List.mem_cons_of_mem _ kfG_40)) (fun _ h9 => h9) rfl (by decide +kernel) (Nat.le_of_ble_eq_true rfl) dG_reset_12 (wf2H ad cA (setF (setF f 3 0 1) 3 1 0) a 0) ?_
  refine x_aload_n hx hb dG_reset_15 rfl 0 rfl ?_
  refine x_get hx hb hts (jnG _) hown hK _ (woH ad cA (setF (setF (setF f 3 0 1) 3 1 0) 3 2 0) a) rfl 5 (by decide) (hts _ (List.mem_cons_of_mem _ kfG_18)) (fun _ h9 => h9) (v := .ref (ad 3 6)) (by rfl) dG_reset_16 ?_
  refine x_iconst hx hb dG_reset_19 ?_
  refine x_iconst hx hb dG_reset_20 ?_
  refine x_iast hx hb hK _ _ (wa5H ad cA (setF (setF (setF f 3 0 1) 3 1 0) 3 2 0) a) (wt5H cA) (by decide) (by decide) (by decide) dG_reset_21 (ws5H ad cA (setF (setF (setF f 3 0 1) 3 1 0) 3 2 0) a (va_up (a 3 5) (Int.toNat 0) (-1))) ?_
  refine x_aload_n hx hb dG_reset_22 rfl 0 rfl ?_
  refine x_get hx hb hts (jnG _) hown hK _ (woH ad cA (setF (setF (setF f 3 0 1) 3 1 0) 3 2 0) (setA a 3 5 (va_up (a 3 5) (Int.toNat 0) (-1)))) rfl 6 (by decide) (hts _ (List.mem_cons_of_mem _ kfG_21)) (fun _ h9 => h9) (v := .ref (ad 3 7)) (by rfl) dG_reset_23 ?_
  refine x_iconst hx hb dG_reset_26 ?_
  refine x_iconst hx hb dG_reset_27 ?_
  refine x_iast hx hb hK _ _ (wa6H ad cA (setF (setF (setF f 3 0 1) 3 1 0) 3 2 0) (setA a 3 5 (va_up (a 3 5) (Int.toNat 0) (-1)))) (wt6H cA) (by decide) (by decide) (by decide) dG_reset_28 (Eq.trans (by rw [(setA_k a (o := 3) (k := 5) (o' := 3) (k' := 6) (va_up (a 3 5) (Int.toNat 0) (-1)) (by decide))]) (ws6H ad cA (setF (setF (setF f 3 0 1) 3 1 0) 3 2 0) (setA a 3 5 (va_up (a 3 5) (Int.toNat 0) (-1))) (va_up (a 3 6) (Int.toNat 0) (-1)))) ?_
  refine x_aload_n hx hb dG_reset_29 rfl 0 rfl ?_
  refine x_get hx hb hts (jnG _) hown hK _ (woH ad cA (setF (setF (setF f 3 0 1) 3 1 0) 3 2 0) (setA (setA a 3 5 (va_up (a 3 5) (Int.toNat 0) (-1))) 3 6 (va_up (a 3 6) (Int.toNat 0) (-1)))) rfl 7 (by decide) (hts _ (List.mem_cons_of_mem _ kfG_24)) (fun _ h9 => h9) (v := .ref (ad 3 8)) (by rfl) dG_reset_30 ?_
  refine x_iconst hx hb dG_reset_33 ?_
  refine x_iconst hx hb dG_reset_34 ?_
  refine x_iast hx hb hK _ _ (wa7H ad cA (setF (setF (setF f 3 0 1) 3 1 0) 3 2 0) (setA (setA a 3 5 (va_up (a 3 5) (Int.toNat 0) (-1))) 3 6 (va_up (a 3 6) (Int.toNat 0) (-1)))) (wt7H cA) (by decide) (by decide) (by decide) dG_reset_35 (Eq.trans (by rw [((setA_k (setA a 3 5 (va_up (a 3 5) (Int.toNat 0) (-1))) (o := 3) (k := 6) (o' := 3) (k' := 7) (va_up (a 3 6) (Int.toNat 0) (-1)) (by decide)).trans (setA_k a (o := 3) (k := 5) (o' := 3) (k' := 7) (va_up (a 3 5) (Int.toNat 0) (-1)) (by decide)))]) (ws7H ad cA (setF (setF (setF f 3 0 1) 3 1 0) 3 2 0) (setA (setA a 3 5 (va_up (a 3 5) (Int.toNat 0) (-1))) 3 6 (va_up (a 3 6) (Int.toNat 0) (-1))) (va_up (a 3 7) (Int.toNat 0) 0))) ?_
  refine x_aload_n hx hb dG_reset_36 rfl 0 rfl ?_
  refine x_get hx hb hts (jnG _) hown hK _ (woH ad cA (setF (setF (setF f 3 0 1) 3 1 0) 3 2 0) (setA (setA (setA a 3 5 (va_up (a 3 5) (Int.toNat 0) (-1))) 3 6 (va_up (a 3 6) (Int.toNat 0) (-1))) 3 7 (va_up (a 3 7) (Int.toNat 0) 0))) rfl 3 (by decide) (hts _ (List.mem_cons_of_mem _ kfG_9)) (fun _ h9 => h9) (v := .ref (ad 3 4)) (by rfl) dG_reset_37 ?_
  refine x_iconst hx hb dG_reset_40 ?_
  refine x_cSv (n := 2) (st := []) (As := [.ref (ad 3 4), .int (iI (-1))]) ⟨hx, hb, hml, hown, hts⟩ hK hN (wl3H ad cA (setF (setF (setF f 3 0 1) 3 1 0) 3 2 0) (setA (setA (setA a 3 5 (va_up (a 3 5) (Int.toNat 0) (-1))) 3 6 (va_up (a 3 6) (Int.toNat 0) (-1))) 3 7 (va_up (a 3 7) (Int.toNat 0) 0)) (-1) (a 3 3) ((((setA_k (setA (setA a 3 5 (va_up (a 3 5) (Int.toNat 0) (-1))) 3 6 (va_up (a 3 6) (Int.toNat 0) (-1))) (o := 3) (k := 7) (o' := 3) (k' := 3) (va_up (a 3 7) (Int.toNat 0) 0) (by decide)).trans (setA_k (setA a 3 5 (va_up (a 3 5) (Int.toNat 0) (-1))) (o := 3) (k := 6) (o' := 3) (k' := 3) (va_up (a 3 6) (Int.toNat 0) (-1)) (by decide))).trans (setA_k a (o := 3) (k := 5) (o' := 3) (k' := 3) (va_up (a 3 5) (Int.toNat 0) (-1)) (by decide))))) (x_cwS hts rfl rfl kcJ_fill knJ klG_43 ksJ_fill ⟨by decide, by decide, by decide +kernel⟩ ⟨by decide, by decide⟩) hA rfl (Nat.le_of_ble_eq_true rfl) ⟨Nat.zero_le _, Nat.zero_le _⟩ rfl dG_reset_41 (fun f9 a9 h9 => ?_)
  rw [h9.1, h9.2]
  refine x_aload_n hx hb dG_reset_44 rfl 0 rfl ?_
  refine x_get hx hb hts (jnG _) hown hK _ (woH ad cA (setF (setF (setF f 3 0 1) 3 1 0) 3 2 0) (setA (setA (setA (setA a 3 5 (va_up (a 3 5) (Int.toNat 0) (-1))) 3 6 (va_up (a 3 6) (Int.toNat 0) (-1))) 3 7 (va_up (a 3 7) (Int.toNat 0) 0)) 3 3 (fillA (a 3 3) 384 (-1)))) rfl 4 (by decide) (hts _ (List.mem_cons_of_mem _ kfG_15)) (fun _ h9 => h9) (v := .ref (ad 3 5)) (by rfl) dG_reset_45 ?_
  refine x_iconst hx hb dG_reset_48 ?_
  refine x_cSv (n := 2) (st := []) (As := [.ref (ad 3 5), .int (iI 0)]) ⟨hx, hb, hml, hown, hts⟩ hK hN (wl4H ad cA (setF (setF (setF f 3 0 1) 3 1 0) 3 2 0) (setA (setA (setA (setA a 3 5 (va_up (a 3 5) (Int.toNat 0) (-1))) 3 6 (va_up (a 3 6) (Int.toNat 0) (-1))) 3 7 (va_up (a 3 7) (Int.toNat 0) 0)) 3 3 (fillA (a 3 3) 384 (-1))) 0 (a 3 4) (((((setA_k (setA (setA (setA a 3 5 (va_up (a 3 5) (Int.toNat 0) (-1))) 3 6 (va_up (a 3 6) (Int.toNat 0) (-1))) 3 7 (va_up (a 3 7) (Int.toNat 0) 0)) (o := 3) (k := 3) (o' := 3) (k' := 4) (fillA (a 3 3) 384 (-1)) (by decide)).trans (setA_k (setA (setA a 3 5 (va_up (a 3 5) (Int.toNat 0) (-1))) 3 6 (va_up (a 3 6) (Int.toNat 0) (-1))) (o := 3) (k := 7) (o' := 3) (k' := 4) (va_up (a 3 7) (Int.toNat 0) 0) (by decide))).trans (setA_k (setA a 3 5 (va_up (a 3 5) (Int.toNat 0) (-1))) (o := 3) (k := 6) (o' := 3) (k' := 4) (va_up (a 3 6) (Int.toNat 0) (-1)) (by decide))).trans (setA_k a (o := 3) (k := 5) (o' := 3) (k' := 4) (va_up (a 3 5) (Int.toNat 0) (-1)) (by decide))))) (x_cwS hts rfl rfl kcJ_fill knJ klG_43 ksJ_fill ⟨by decide, by decide, by decide +kernel⟩ ⟨by decide, by decide⟩) hA rfl (Nat.le_of_ble_eq_true rfl) ⟨Nat.zero_le _, Nat.zero_le _⟩ rfl dG_reset_49 (fun f9 a9 h9 => ?_)
  rw [h9.1, h9.2]
  exact x_vret hx hb hr hlk hK dG_reset_52 h
/-- a graph as it begins -/
def gr0 (f : fS) (a : aS) (o : Nat) : Prop := f o 0 = 1 ∧ f o 1 = 0 ∧ f o 2 = 0 ∧ (∀ j, j < 384 → a o 3 j = -1) ∧ (∀ j, j < 384 → a o 4 j = 0) ∧ a o 5 0 = -1 ∧ a o 6 0 = -1 ∧ a o 7 0 = 0
theorem hfD : ∀ j, j < 12 → defaultValue (tyD j) = vp_V [.int (iI 0), .int (iI 0), .int (iI 0), .null, .null, .null, .null, .null, .null, .null, .null, .null] j := by
  intro j hj
  match j, hj with
  | 0, _ => rfl
  | 1, _ => rfl
  | 2, _ => rfl
  | 3, _ => rfl
  | 4, _ => rfl
  | 5, _ => rfl
  | 6, _ => rfl
  | 7, _ => rfl
  | 8, _ => rfl
  | 9, _ => rfl
  | 10, _ => rfl
  | 11, _ => rfl
  | (z + 12), h => exact absurd h (by omega)
theorem hfG : ∀ j, j < 9 → defaultValue (tyG j) = vp_V [.int (iI 0), .int (iI 0), .int (iI 0), .null, .null, .null, .null, .null, .null] j := by
  intro j hj
  match j, hj with
  | 0, _ => rfl
  | 1, _ => rfl
  | 2, _ => rfl
  | 3, _ => rfl
  | 4, _ => rfl
  | 5, _ => rfl
  | 6, _ => rfl
  | 7, _ => rfl
  | 8, _ => rfl
  | (z + 9), h => exact absurd h (by omega)
theorem hfW : ∀ j, j < 2 → defaultValue (tyW j) = vp_V [.null, .int (iI 0)] j := by
  intro j hj
  match j, hj with
  | 0, _ => rfl
  | 1, _ => rfl
  | (z + 2), h => exact absurd h (by omega)
theorem hfX : ∀ j, j < 4 → defaultValue (tyX j) = vp_V [.int (iI 0), .null, .null, .null] j := by
  intro j hj
  match j, hj with
  | 0, _ => rfl
  | 1, _ => rfl
  | 2, _ => rfl
  | 3, _ => rfl
  | (z + 4), h => exact absurd h (by omega)
theorem hfM : ∀ j, j < 25 → defaultValue (tyM j) = vp_V [.int (iI 0), .int (iI 0), .null, .null, .null, .null, .null, .null, .int (iI 0), .int (iI 0), .int (iI 0), .null, .null, .null, .null, .null, .null, .null, .null, .null, .int (iI 0), .int (iI 0), .int (iI 0), .int (iI 0), .null] j := by
  intro j hj
  match j, hj with
  | 0, _ => rfl
  | 1, _ => rfl
  | 2, _ => rfl
  | 3, _ => rfl
  | 4, _ => rfl
  | 5, _ => rfl
  | 6, _ => rfl
  | 7, _ => rfl
  | 8, _ => rfl
  | 9, _ => rfl
  | 10, _ => rfl
  | 11, _ => rfl
  | 12, _ => rfl
  | 13, _ => rfl
  | 14, _ => rfl
  | 15, _ => rfl
  | 16, _ => rfl
  | 17, _ => rfl
  | 18, _ => rfl
  | 19, _ => rfl
  | 20, _ => rfl
  | 21, _ => rfl
  | 22, _ => rfl
  | 23, _ => rfl
  | 24, _ => rfl
  | (z + 25), h => exact absurd h (by omega)
