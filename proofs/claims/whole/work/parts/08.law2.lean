/-! THE CLAIM OUT OF ONE WALK OF THE LAW'S BODY. Your part is whole_start (and what it stands on); all else here is the same for every law, but numbers. -/
def R_law : String := "FoldedGroupsLaw"
def lw_P (b : Addr) (xs : List Int32) (args : Array Value) (s : State) : Prop := args = #[.ref b] ∧ s.IntsAt b xs ∧ xs.length ≤ 2049 ∧ (Jvm.Cond.and given_1 narrow_1).before args s = true
def lw_Q (_ : Array Value) (s : State) (o : Outcome) (t : State) : Prop := o = .returned (some (.int 1)) ∧ Framed s o t [] 600000 7302250
def lw_Z (below : List Frame) (a : Array Value) (s : State) : State → Prop := fun t => ∃ o, t.status = .running ∧ Ended t below o ∧ lw_Q a s o t
/-- the law's own end, with 1 on the stack, nothing written that was there before, its room as the claim has it -/
theorem lw_ret {p : Program} {l : Launch} {e : Env} {s : State} {m : MethodId} {below : List Frame} {meth : Method} {c : Code} {b : Nat} (hx : p.tables.exec = Jvm.exec) (hb : c.code = code) (hr : meth.sig.returnType = ret) (hlocks : meth.locks = false) {pc : Nat} {H : Heap} {ls : Array Slot} (hdg : decode code pc = .ok (.ireturn, 1)) : W p l e room_1 s m #[Value.ref b] below meth c H [] 600000 7302250 (lw_Z below #[Value.ref b] s) (F0 m pc ls [.int 1]) := by
  intro T hT X
  obtain ⟨fs, hret, hrun, hended, hW, hframe⟩ := X.leave (v := some (.int 1)) (hlocks := hlocks) (fun h => by rw [hr] at h; cases h)
  have hmeth' : T.vm.method? m = some meth := X.method'
  refine ⟨T.setFrames fs, ?_, .returned (some (.int 1)), hrun, hended, rfl, ⟨_, rfl⟩, hW, hframe⟩
  jvm_step X.here [X.here.top, hx, hb, hdg, hmeth', hr, ret, narrow_b1]
  (try refine ⟨rfl, ?_⟩); (try refine ⟨rfl, ?_⟩)
  first | (intro acts; rw [hret _ acts rfl rfl rfl]) | rw [hret _ _ rfl rfl rfl]
  exact Steps.refl _
/-- what holds at the law's entry: the machine, the code, the tables' words (any of lw_tbl by 'hts w (by decide +kernel)'), the script of L ints xs at the cell b, what the Statement gives of the start (any of its parts by flat_of_before) -/
def lw_At (p : Program) (s : State) (m : MethodId) (meth : Method) (c : Code) (b L : Nat) (xs : Nat → Int32) : Prop :=
  p.tables.exec = Jvm.exec ∧ c.code = code ∧ meth.sig.returnType = ret ∧ c.maxLocals = 4 ∧ s.vm.findClass R_law = some m.cls ∧ (∀ w ∈ lw_tbl, w.before #[Value.ref b] s = true) ∧ va_X b L xs s s.heap ∧ b < s.heap.size ∧ meth.locks = false ∧ (Jvm.Cond.and given_1 narrow_1).before #[Value.ref b] s = true
set_option maxHeartbeats 4000000 in
set_option maxRecDepth 100000 in
theorem lc_0 {I : fS → aS → fS → aS → Prop} (hsim : xSim I) {p : Program} {l : Launch} {e : Env} {s : State} {m : MethodId} {below : List Frame} {meth : Method} {c : Code} {b L : Nat} {xs : Nat → Int32} {D : va_G} {ad ad2 : Nat → Nat → Nat} {cA cB : Nat → Nat → ClassId} (hx : p.tables.exec = Jvm.exec) (hb : c.code = code) (hr : meth.sig.returnType = ret) (hml : c.maxLocals = 4) (hown : s.vm.findClass RL = some m.cls) (hts : ∀ w ∈ Cond.static yL_cell :: xG, w.before #[Value.ref b] s = true) (hX : va_X b L xs s s.heap) (hbl : b < s.heap.size) (hlk : meth.locks = false) (hN : xN s) (hK : va_K D vwCl (taC cA ++ taM cB) s) (hL : L ≤ 2049) (n : Nat) (ih : ∀ (i : Int) (f : fS) (a : aS) (g : fS) (h2 : aS), I f a g h2 → 1 ≤ i → (L : Int) + 4 - i ≤ n → i ≤ (L : Int) + 4 → xV p l e room_1 s m #[Value.ref b] below meth c s.heap (fun q => s.heap.size ≤ q) 59 9428 (lw_Z below #[Value.ref b] s) D vwCl 4 (CW ad cA f a ++ MW ad2 cB g h2) [(0, .ref b), (1, .ref (ad 0 0)), (2, .ref (ad2 0 0)), (3, .int (iI i))] 28 []) (i : Int) (f : fS) (a : aS) (g : fS) (h2 : aS) (hI : I f a g h2) (h1 : 1 ≤ i) (h4 : (L : Int) + 4 - i ≤ n + 1) (hi : i ≤ (L : Int) - 4) : xV p l e room_1 s m #[Value.ref b] below meth c s.heap (fun q => s.heap.size ≤ q) 59 9428 (lw_Z below #[Value.ref b] s) D vwCl 4 (CW ad cA f a ++ MW ad2 cB g h2) [(0, .ref b), (1, .ref (ad 0 0)), (2, .ref (ad2 0 0)), (3, .int (iI i))] 132 [] := by
  have hbA : ¬ (fun q => s.heap.size ≤ q) b := by
    show ¬ s.heap.size ≤ b
    omega
  have hA : ∀ q, s.heap.size ≤ q → (fun q => s.heap.size ≤ q) q := fun q h => h
  refine x_aload_n hx hb dL_law_132 rfl 1 rfl ?_
  refine x_aload_n hx hb dL_law_133 rfl 0 rfl ?_
  refine x_iload_n hx hb dL_law_134 rfl 3 rfl ?_
  refine x_iconst hx hb dL_law_135 ?_
  refine x_iadd hx hb dL_law_136 ?_
  refine x_sld hx hb hX hbl hbA (by omega) (by omega) (by omega) dL_law_137 ?_
  have hw := (hsim.1 f a g h2 ((xs (i + 1).toNat).toInt) hI (iI_ir _))
  refine x_fVi (n := 1) (st := []) (As := [.int (iI ((xs (i + 1).toNat).toInt))]) ⟨hx, hb, hml, hown, hts⟩ hK hN (m_X_letter (l := l) (D := D) (ad := ad) (cA := cA) hw) (x_cwV hts rfl rfl kcX_letter knX klL_21 kiX_letter keX_letter ⟨by decide, by decide, by decide +kernel⟩ ⟨by decide, by decide⟩) 0 rfl rfl [0, 1, 2, 3, 4, 5, 6, 7, 8, 9, 10, 11, 12, 13, 14, 15, 16, 17, 18, 19, 20, 21, 22, 23, 24, 25, 26, 27, 28, 29, 30, 31, 32, 33, 34] [0, 1, 2, 3, 4, 5, 6, 7, 8, 9, 10, 11, 12, 13, 14, 15, 16, 17, 18, 19, 20, 21, 22, 23, 24, 25, 26, 27, 28, 29, 30, 31, 32, 33, 34, 35, 36, 37, 38, 39, 40, 41] [42, 43, 44, 45, 46, 47, 48, 49, 50, 51, 52, 53, 54, 55, 56, 57, 58] (cm_K1 cA cB) (cm_C1 ad ad2 cA cB f a g h2) (cm_F1 ad ad2 cA cB f a g h2) cm_N1.1 (cm_R1 ad ad2 cA cB f a g h2) cm_N1.2 cm_D1 hA rfl (Nat.le_of_ble_eq_true rfl) ⟨by decide, by decide⟩ rfl dL_law_138 (fun z f1 a1 hw => ?_)
  refine x_aload_n hx hb dL_law_141 rfl 2 rfl ?_
  refine x_aload_n hx hb dL_law_142 rfl 0 rfl ?_
  refine x_iload_n hx hb dL_law_143 rfl 3 rfl ?_
  refine x_iconst hx hb dL_law_144 ?_
  refine x_iadd hx hb dL_law_145 ?_
  refine x_sld hx hb hX hbl hbA (by omega) (by omega) (by omega) dL_law_146 ?_
  refine x_fVi (n := 1) (st := [.int (iI z)]) (As := [.int (iI ((xs (i + 1).toNat).toInt))]) ⟨hx, hb, hml, hown, hts⟩ hK hN (m_M_letter (l := l) (D := D) (ad := ad2) (cA := cB) hw) (x_cwV hts rfl rfl kcM_letter knM klL_25 kiM_letter keM_letter ⟨by decide, by decide, by decide +kernel⟩ ⟨by decide, by decide⟩) 0 rfl rfl [35, 36, 37, 38, 39, 40, 41, 42, 43, 44, 45, 46, 47, 48, 49, 50] [0, 1, 2, 3, 4, 5, 6, 7, 8, 9, 10, 11, 12, 13, 14, 15, 16] [17, 18, 19, 20, 21, 22, 23, 24, 25, 26, 27, 28, 29, 30, 31, 32, 33, 34, 35, 36, 37, 38, 39, 40, 41, 42, 43, 44, 45, 46, 47, 48, 49, 50, 51, 52, 53, 54, 55, 56, 57, 58] (cm_K2 cA cB) (cm_C2 ad ad2 cA cB f1 a1 g h2) (cm_F2 ad ad2 cA cB f1 a1 g h2) cm_N2.1 (cm_R2 ad ad2 cA cB f1 a1 g h2) cm_N2.2 cm_D2 hA rfl (Nat.le_of_ble_eq_true rfl) ⟨by decide, by decide⟩ rfl dL_law_147 (fun z2 g1 b1 hw => ?_)
  obtain ⟨hz, hI1⟩ := hw
  refine x_eqT hx hb (tgt := 689) hz dL_law_150 (by decide) ?_
  refine x_iinc hx hb dL_law_689 3 rfl (by decide) (lv' := [(3, .int (iI (i + 4))), (0, .ref b), (1, .ref (ad 0 0)), (2, .ref (ad2 0 0))]) rfl ?_
  refine x_goto hx hb (tgt := 28) dL_law_692 (by decide) ?_
  refine x_sub [1, 2, 3, 0] rfl ?_
  exact ih (i + 4) f1 a1 g1 b1 hI1 (by omega) (by omega) (by omega)
set_option maxHeartbeats 4000000 in
set_option maxRecDepth 100000 in
theorem lc_1 {I : fS → aS → fS → aS → Prop} (hsim : xSim I) {p : Program} {l : Launch} {e : Env} {s : State} {m : MethodId} {below : List Frame} {meth : Method} {c : Code} {b L : Nat} {xs : Nat → Int32} {D : va_G} {ad ad2 : Nat → Nat → Nat} {cA cB : Nat → Nat → ClassId} (hx : p.tables.exec = Jvm.exec) (hb : c.code = code) (hr : meth.sig.returnType = ret) (hml : c.maxLocals = 4) (hown : s.vm.findClass RL = some m.cls) (hts : ∀ w ∈ Cond.static yL_cell :: xG, w.before #[Value.ref b] s = true) (hX : va_X b L xs s s.heap) (hbl : b < s.heap.size) (hlk : meth.locks = false) (hN : xN s) (hK : va_K D vwCl (taC cA ++ taM cB) s) (hL : L ≤ 2049) (n : Nat) (ih : ∀ (i : Int) (f : fS) (a : aS) (g : fS) (h2 : aS), I f a g h2 → 1 ≤ i → (L : Int) + 4 - i ≤ n → i ≤ (L : Int) + 4 → xV p l e room_1 s m #[Value.ref b] below meth c s.heap (fun q => s.heap.size ≤ q) 59 9428 (lw_Z below #[Value.ref b] s) D vwCl 4 (CW ad cA f a ++ MW ad2 cB g h2) [(0, .ref b), (1, .ref (ad 0 0)), (2, .ref (ad2 0 0)), (3, .int (iI i))] 28 []) (i : Int) (f : fS) (a : aS) (g : fS) (h2 : aS) (hI : I f a g h2) (h1 : 1 ≤ i) (h4 : (L : Int) + 4 - i ≤ n + 1) (hi : i ≤ (L : Int) - 4) : xV p l e room_1 s m #[Value.ref b] below meth c s.heap (fun q => s.heap.size ≤ q) 59 9428 (lw_Z below #[Value.ref b] s) D vwCl 4 (CW ad cA f a ++ MW ad2 cB g h2) [(0, .ref b), (1, .ref (ad 0 0)), (2, .ref (ad2 0 0)), (3, .int (iI i))] 155 [] := by
  have hbA : ¬ (fun q => s.heap.size ≤ q) b := by
    show ¬ s.heap.size ≤ b
    omega
  have hA : ∀ q, s.heap.size ≤ q → (fun q => s.heap.size ≤ q) q := fun q h => h
  refine x_aload_n hx hb dL_law_155 rfl 1 rfl ?_
  have hw := (hsim.2.1 f a g h2 hI)
  refine x_fVi (n := 0) (st := []) (As := []) ⟨hx, hb, hml, hown, hts⟩ hK hN (m_X_clear (l := l) (D := D) (ad := ad) (cA := cA) hw) (x_cwV hts rfl rfl kcX_clear knX klL_26 kiX_clear keX_clear ⟨by decide, by decide, by decide +kernel⟩ ⟨by decide, by decide⟩) 0 rfl rfl [0, 1, 2, 3, 4, 5, 6, 7, 8, 9, 10, 11, 12, 13, 14, 15, 16, 17, 18, 19, 20, 21, 22, 23, 24, 25, 26, 27, 28, 29, 30, 31, 32, 33, 34] [0, 1, 2, 3, 4, 5, 6, 7, 8, 9, 10, 11, 12, 13, 14, 15, 16, 17, 18, 19, 20, 21, 22, 23, 24, 25, 26, 27, 28, 29, 30, 31, 32, 33, 34, 35, 36, 37, 38, 39, 40, 41] [42, 43, 44, 45, 46, 47, 48, 49, 50, 51, 52, 53, 54, 55, 56, 57, 58] (cm_K1 cA cB) (cm_C1 ad ad2 cA cB f a g h2) (cm_F1 ad ad2 cA cB f a g h2) cm_N1.1 (cm_R1 ad ad2 cA cB f a g h2) cm_N1.2 cm_D1 hA rfl (Nat.le_of_ble_eq_true rfl) ⟨by decide, by decide⟩ rfl dL_law_156 (fun z f1 a1 hw => ?_)
  refine x_aload_n hx hb dL_law_159 rfl 2 rfl ?_
  refine x_fVi (n := 0) (st := [.int (iI z)]) (As := []) ⟨hx, hb, hml, hown, hts⟩ hK hN (m_M_clear (l := l) (D := D) (ad := ad2) (cA := cB) hw) (x_cwV hts rfl rfl kcM_clear knM klL_30 kiM_clear keM_clear ⟨by decide, by decide, by decide +kernel⟩ ⟨by decide, by decide⟩) 0 rfl rfl [35, 36, 37, 38, 39, 40, 41, 42, 43, 44, 45, 46, 47, 48, 49, 50] [0, 1, 2, 3, 4, 5, 6, 7, 8, 9, 10, 11, 12, 13, 14, 15, 16] [17, 18, 19, 20, 21, 22, 23, 24, 25, 26, 27, 28, 29, 30, 31, 32, 33, 34, 35, 36, 37, 38, 39, 40, 41, 42, 43, 44, 45, 46, 47, 48, 49, 50, 51, 52, 53, 54, 55, 56, 57, 58] (cm_K2 cA cB) (cm_C2 ad ad2 cA cB f1 a1 g h2) (cm_F2 ad ad2 cA cB f1 a1 g h2) cm_N2.1 (cm_R2 ad ad2 cA cB f1 a1 g h2) cm_N2.2 cm_D2 hA rfl (Nat.le_of_ble_eq_true rfl) ⟨by decide, by decide⟩ rfl dL_law_160 (fun z2 g1 b1 hw => ?_)
  obtain ⟨hz, hI1⟩ := hw
  refine x_eqT hx hb (tgt := 689) hz dL_law_163 (by decide) ?_
  refine x_iinc hx hb dL_law_689 3 rfl (by decide) (lv' := [(3, .int (iI (i + 4))), (0, .ref b), (1, .ref (ad 0 0)), (2, .ref (ad2 0 0))]) rfl ?_
  refine x_goto hx hb (tgt := 28) dL_law_692 (by decide) ?_
  refine x_sub [1, 2, 3, 0] rfl ?_
  exact ih (i + 4) f1 a1 g1 b1 hI1 (by omega) (by omega) (by omega)
set_option maxHeartbeats 4000000 in
set_option maxRecDepth 100000 in
theorem lc_2 {I : fS → aS → fS → aS → Prop} (hsim : xSim I) {p : Program} {l : Launch} {e : Env} {s : State} {m : MethodId} {below : List Frame} {meth : Method} {c : Code} {b L : Nat} {xs : Nat → Int32} {D : va_G} {ad ad2 : Nat → Nat → Nat} {cA cB : Nat → Nat → ClassId} (hx : p.tables.exec = Jvm.exec) (hb : c.code = code) (hr : meth.sig.returnType = ret) (hml : c.maxLocals = 4) (hown : s.vm.findClass RL = some m.cls) (hts : ∀ w ∈ Cond.static yL_cell :: xG, w.before #[Value.ref b] s = true) (hX : va_X b L xs s s.heap) (hbl : b < s.heap.size) (hlk : meth.locks = false) (hN : xN s) (hK : va_K D vwCl (taC cA ++ taM cB) s) (hL : L ≤ 2049) (n : Nat) (ih : ∀ (i : Int) (f : fS) (a : aS) (g : fS) (h2 : aS), I f a g h2 → 1 ≤ i → (L : Int) + 4 - i ≤ n → i ≤ (L : Int) + 4 → xV p l e room_1 s m #[Value.ref b] below meth c s.heap (fun q => s.heap.size ≤ q) 59 9428 (lw_Z below #[Value.ref b] s) D vwCl 4 (CW ad cA f a ++ MW ad2 cB g h2) [(0, .ref b), (1, .ref (ad 0 0)), (2, .ref (ad2 0 0)), (3, .int (iI i))] 28 []) (i : Int) (f : fS) (a : aS) (g : fS) (h2 : aS) (hI : I f a g h2) (h1 : 1 ≤ i) (h4 : (L : Int) + 4 - i ≤ n + 1) (hi : i ≤ (L : Int) - 4) : xV p l e room_1 s m #[Value.ref b] below meth c s.heap (fun q => s.heap.size ≤ q) 59 9428 (lw_Z below #[Value.ref b] s) D vwCl 4 (CW ad cA f a ++ MW ad2 cB g h2) [(0, .ref b), (1, .ref (ad 0 0)), (2, .ref (ad2 0 0)), (3, .int (iI i))] 168 [] := by
  have hbA : ¬ (fun q => s.heap.size ≤ q) b := by
    show ¬ s.heap.size ≤ b
    omega
  have hA : ∀ q, s.heap.size ≤ q → (fun q => s.heap.size ≤ q) q := fun q h => h
  refine x_aload_n hx hb dL_law_168 rfl 1 rfl ?_
  have hw := (hsim.2.2.1 f a g h2 hI)
  refine x_fVi (n := 0) (st := []) (As := []) ⟨hx, hb, hml, hown, hts⟩ hK hN (m_X_invert (l := l) (D := D) (ad := ad) (cA := cA) hw) (x_cwV hts rfl rfl kcX_invert knX klL_31 kiX_invert keX_invert ⟨by decide, by decide, by decide +kernel⟩ ⟨by decide, by decide⟩) 0 rfl rfl [0, 1, 2, 3, 4, 5, 6, 7, 8, 9, 10, 11, 12, 13, 14, 15, 16, 17, 18, 19, 20, 21, 22, 23, 24, 25, 26, 27, 28, 29, 30, 31, 32, 33, 34] [0, 1, 2, 3, 4, 5, 6, 7, 8, 9, 10, 11, 12, 13, 14, 15, 16, 17, 18, 19, 20, 21, 22, 23, 24, 25, 26, 27, 28, 29, 30, 31, 32, 33, 34, 35, 36, 37, 38, 39, 40, 41] [42, 43, 44, 45, 46, 47, 48, 49, 50, 51, 52, 53, 54, 55, 56, 57, 58] (cm_K1 cA cB) (cm_C1 ad ad2 cA cB f a g h2) (cm_F1 ad ad2 cA cB f a g h2) cm_N1.1 (cm_R1 ad ad2 cA cB f a g h2) cm_N1.2 cm_D1 hA rfl (Nat.le_of_ble_eq_true rfl) ⟨by decide, by decide⟩ rfl dL_law_169 (fun z f1 a1 hw => ?_)
  refine x_aload_n hx hb dL_law_172 rfl 2 rfl ?_
  refine x_fVi (n := 0) (st := [.int (iI z)]) (As := []) ⟨hx, hb, hml, hown, hts⟩ hK hN (m_M_invert (l := l) (D := D) (ad := ad2) (cA := cB) hw) (x_cwV hts rfl rfl kcM_invert knM klL_34 kiM_invert keM_invert ⟨by decide, by decide, by decide +kernel⟩ ⟨by decide, by decide⟩) 0 rfl rfl [35, 36, 37, 38, 39, 40, 41, 42, 43, 44, 45, 46, 47, 48, 49, 50] [0, 1, 2, 3, 4, 5, 6, 7, 8, 9, 10, 11, 12, 13, 14, 15, 16] [17, 18, 19, 20, 21, 22, 23, 24, 25, 26, 27, 28, 29, 30, 31, 32, 33, 34, 35, 36, 37, 38, 39, 40, 41, 42, 43, 44, 45, 46, 47, 48, 49, 50, 51, 52, 53, 54, 55, 56, 57, 58] (cm_K2 cA cB) (cm_C2 ad ad2 cA cB f1 a1 g h2) (cm_F2 ad ad2 cA cB f1 a1 g h2) cm_N2.1 (cm_R2 ad ad2 cA cB f1 a1 g h2) cm_N2.2 cm_D2 hA rfl (Nat.le_of_ble_eq_true rfl) ⟨by decide, by decide⟩ rfl dL_law_173 (fun z2 g1 b1 hw => ?_)
  obtain ⟨hz, hI1⟩ := hw
  refine x_eqT hx hb (tgt := 689) hz dL_law_176 (by decide) ?_
  refine x_iinc hx hb dL_law_689 3 rfl (by decide) (lv' := [(3, .int (iI (i + 4))), (0, .ref b), (1, .ref (ad 0 0)), (2, .ref (ad2 0 0))]) rfl ?_
  refine x_goto hx hb (tgt := 28) dL_law_692 (by decide) ?_
  refine x_sub [1, 2, 3, 0] rfl ?_
  exact ih (i + 4) f1 a1 g1 b1 hI1 (by omega) (by omega) (by omega)
set_option maxHeartbeats 4000000 in
set_option maxRecDepth 100000 in
theorem lc_3 {I : fS → aS → fS → aS → Prop} (hsim : xSim I) {p : Program} {l : Launch} {e : Env} {s : State} {m : MethodId} {below : List Frame} {meth : Method} {c : Code} {b L : Nat} {xs : Nat → Int32} {D : va_G} {ad ad2 : Nat → Nat → Nat} {cA cB : Nat → Nat → ClassId} (hx : p.tables.exec = Jvm.exec) (hb : c.code = code) (hr : meth.sig.returnType = ret) (hml : c.maxLocals = 4) (hown : s.vm.findClass RL = some m.cls) (hts : ∀ w ∈ Cond.static yL_cell :: xG, w.before #[Value.ref b] s = true) (hX : va_X b L xs s s.heap) (hbl : b < s.heap.size) (hlk : meth.locks = false) (hN : xN s) (hK : va_K D vwCl (taC cA ++ taM cB) s) (hL : L ≤ 2049) (n : Nat) (ih : ∀ (i : Int) (f : fS) (a : aS) (g : fS) (h2 : aS), I f a g h2 → 1 ≤ i → (L : Int) + 4 - i ≤ n → i ≤ (L : Int) + 4 → xV p l e room_1 s m #[Value.ref b] below meth c s.heap (fun q => s.heap.size ≤ q) 59 9428 (lw_Z below #[Value.ref b] s) D vwCl 4 (CW ad cA f a ++ MW ad2 cB g h2) [(0, .ref b), (1, .ref (ad 0 0)), (2, .ref (ad2 0 0)), (3, .int (iI i))] 28 []) (i : Int) (f : fS) (a : aS) (g : fS) (h2 : aS) (hI : I f a g h2) (h1 : 1 ≤ i) (h4 : (L : Int) + 4 - i ≤ n + 1) (hi : i ≤ (L : Int) - 4) : xV p l e room_1 s m #[Value.ref b] below meth c s.heap (fun q => s.heap.size ≤ q) 59 9428 (lw_Z below #[Value.ref b] s) D vwCl 4 (CW ad cA f a ++ MW ad2 cB g h2) [(0, .ref b), (1, .ref (ad 0 0)), (2, .ref (ad2 0 0)), (3, .int (iI i))] 181 [] := by
  have hbA : ¬ (fun q => s.heap.size ≤ q) b := by
    show ¬ s.heap.size ≤ b
    omega
  have hA : ∀ q, s.heap.size ≤ q → (fun q => s.heap.size ≤ q) q := fun q h => h
  refine x_aload_n hx hb dL_law_181 rfl 1 rfl ?_
  refine x_aload_n hx hb dL_law_182 rfl 0 rfl ?_
  refine x_iload_n hx hb dL_law_183 rfl 3 rfl ?_
  refine x_iconst hx hb dL_law_184 ?_
  refine x_iadd hx hb dL_law_185 ?_
  refine x_sld hx hb hX hbl hbA (by omega) (by omega) (by omega) dL_law_186 ?_
  have hw := (hsim.2.2.2.1 f a g h2 ((xs (i + 1).toNat).toInt) hI (iI_ir _))
  refine x_fVi (n := 1) (st := []) (As := [.int (iI ((xs (i + 1).toNat).toInt))]) ⟨hx, hb, hml, hown, hts⟩ hK hN (m_X_at (l := l) (D := D) (ad := ad) (cA := cA) hw) (x_cwV hts rfl rfl kcX_at knX klL_35 kiX_at keX_at ⟨by decide, by decide, by decide +kernel⟩ ⟨by decide, by decide⟩) 0 rfl rfl [0, 1, 2, 3, 4, 5, 6, 7, 8, 9, 10, 11, 12, 13, 14, 15, 16, 17, 18, 19, 20, 21, 22, 23, 24, 25, 26, 27, 28, 29, 30, 31, 32, 33, 34] [0, 1, 2, 3, 4, 5, 6, 7, 8, 9, 10, 11, 12, 13, 14, 15, 16, 17, 18, 19, 20, 21, 22, 23, 24, 25, 26, 27, 28, 29, 30, 31, 32, 33, 34, 35, 36, 37, 38, 39, 40, 41] [42, 43, 44, 45, 46, 47, 48, 49, 50, 51, 52, 53, 54, 55, 56, 57, 58] (cm_K1 cA cB) (cm_C1 ad ad2 cA cB f a g h2) (cm_F1 ad ad2 cA cB f a g h2) cm_N1.1 (cm_R1 ad ad2 cA cB f a g h2) cm_N1.2 cm_D1 hA rfl (Nat.le_of_ble_eq_true rfl) ⟨by decide, by decide⟩ rfl dL_law_187 (fun z f1 a1 hw => ?_)
  refine x_aload_n hx hb dL_law_190 rfl 2 rfl ?_
  refine x_aload_n hx hb dL_law_191 rfl 0 rfl ?_
  refine x_iload_n hx hb dL_law_192 rfl 3 rfl ?_
  refine x_iconst hx hb dL_law_193 ?_
  refine x_iadd hx hb dL_law_194 ?_
  refine x_sld hx hb hX hbl hbA (by omega) (by omega) (by omega) dL_law_195 ?_
  refine x_fVi (n := 1) (st := [.int (iI z)]) (As := [.int (iI ((xs (i + 1).toNat).toInt))]) ⟨hx, hb, hml, hown, hts⟩ hK hN (m_M_at (l := l) (D := D) (ad := ad2) (cA := cB) hw) (x_cwV hts rfl rfl kcM_at knM klL_38 kiM_at keM_at ⟨by decide, by decide, by decide +kernel⟩ ⟨by decide, by decide⟩) 0 rfl rfl [35, 36, 37, 38, 39, 40, 41, 42, 43, 44, 45, 46, 47, 48, 49, 50] [0, 1, 2, 3, 4, 5, 6, 7, 8, 9, 10, 11, 12, 13, 14, 15, 16] [17, 18, 19, 20, 21, 22, 23, 24, 25, 26, 27, 28, 29, 30, 31, 32, 33, 34, 35, 36, 37, 38, 39, 40, 41, 42, 43, 44, 45, 46, 47, 48, 49, 50, 51, 52, 53, 54, 55, 56, 57, 58] (cm_K2 cA cB) (cm_C2 ad ad2 cA cB f1 a1 g h2) (cm_F2 ad ad2 cA cB f1 a1 g h2) cm_N2.1 (cm_R2 ad ad2 cA cB f1 a1 g h2) cm_N2.2 cm_D2 hA rfl (Nat.le_of_ble_eq_true rfl) ⟨by decide, by decide⟩ rfl dL_law_196 (fun z2 g1 b1 hw => ?_)
  obtain ⟨hz, hI1⟩ := hw
  refine x_eqT hx hb (tgt := 689) hz dL_law_199 (by decide) ?_
  refine x_iinc hx hb dL_law_689 3 rfl (by decide) (lv' := [(3, .int (iI (i + 4))), (0, .ref b), (1, .ref (ad 0 0)), (2, .ref (ad2 0 0))]) rfl ?_
  refine x_goto hx hb (tgt := 28) dL_law_692 (by decide) ?_
  refine x_sub [1, 2, 3, 0] rfl ?_
  exact ih (i + 4) f1 a1 g1 b1 hI1 (by omega) (by omega) (by omega)
set_option maxHeartbeats 4000000 in
set_option maxRecDepth 100000 in
theorem lc_4 {I : fS → aS → fS → aS → Prop} (hsim : xSim I) {p : Program} {l : Launch} {e : Env} {s : State} {m : MethodId} {below : List Frame} {meth : Method} {c : Code} {b L : Nat} {xs : Nat → Int32} {D : va_G} {ad ad2 : Nat → Nat → Nat} {cA cB : Nat → Nat → ClassId} (hx : p.tables.exec = Jvm.exec) (hb : c.code = code) (hr : meth.sig.returnType = ret) (hml : c.maxLocals = 4) (hown : s.vm.findClass RL = some m.cls) (hts : ∀ w ∈ Cond.static yL_cell :: xG, w.before #[Value.ref b] s = true) (hX : va_X b L xs s s.heap) (hbl : b < s.heap.size) (hlk : meth.locks = false) (hN : xN s) (hK : va_K D vwCl (taC cA ++ taM cB) s) (hL : L ≤ 2049) (n : Nat) (ih : ∀ (i : Int) (f : fS) (a : aS) (g : fS) (h2 : aS), I f a g h2 → 1 ≤ i → (L : Int) + 4 - i ≤ n → i ≤ (L : Int) + 4 → xV p l e room_1 s m #[Value.ref b] below meth c s.heap (fun q => s.heap.size ≤ q) 59 9428 (lw_Z below #[Value.ref b] s) D vwCl 4 (CW ad cA f a ++ MW ad2 cB g h2) [(0, .ref b), (1, .ref (ad 0 0)), (2, .ref (ad2 0 0)), (3, .int (iI i))] 28 []) (i : Int) (f : fS) (a : aS) (g : fS) (h2 : aS) (hI : I f a g h2) (h1 : 1 ≤ i) (h4 : (L : Int) + 4 - i ≤ n + 1) (hi : i ≤ (L : Int) - 4) : xV p l e room_1 s m #[Value.ref b] below meth c s.heap (fun q => s.heap.size ≤ q) 59 9428 (lw_Z below #[Value.ref b] s) D vwCl 4 (CW ad cA f a ++ MW ad2 cB g h2) [(0, .ref b), (1, .ref (ad 0 0)), (2, .ref (ad2 0 0)), (3, .int (iI i))] 204 [] := by
  have hbA : ¬ (fun q => s.heap.size ≤ q) b := by
    show ¬ s.heap.size ≤ b
    omega
  have hA : ∀ q, s.heap.size ≤ q → (fun q => s.heap.size ≤ q) q := fun q h => h
  refine x_aload_n hx hb dL_law_204 rfl 1 rfl ?_
  refine x_aload_n hx hb dL_law_205 rfl 0 rfl ?_
  refine x_iload_n hx hb dL_law_206 rfl 3 rfl ?_
  refine x_iconst hx hb dL_law_207 ?_
  refine x_iadd hx hb dL_law_208 ?_
  refine x_sld hx hb hX hbl hbA (by omega) (by omega) (by omega) dL_law_209 ?_
  refine x_aload_n hx hb dL_law_210 rfl 0 rfl ?_
  refine x_iload_n hx hb dL_law_211 rfl 3 rfl ?_
  refine x_iconst hx hb dL_law_212 ?_
  refine x_iadd hx hb dL_law_213 ?_
  refine x_sld hx hb hX hbl hbA (by omega) (by omega) (by omega) dL_law_214 ?_
  have hw := (hsim.2.2.2.2.1 f a g h2 ((xs (i + 1).toNat).toInt) ((xs (i + 2).toNat).toInt) hI (iI_ir _) (iI_ir _))
  refine x_fVi (n := 2) (st := []) (As := [.int (iI ((xs (i + 1).toNat).toInt)), .int (iI ((xs (i + 2).toNat).toInt))]) ⟨hx, hb, hml, hown, hts⟩ hK hN (m_X_take (l := l) (D := D) (ad := ad) (cA := cA) hw) (x_cwV hts rfl rfl kcX_take knX klL_39 kiX_take keX_take ⟨by decide, by decide, by decide +kernel⟩ ⟨by decide, by decide⟩) 0 rfl rfl [0, 1, 2, 3, 4, 5, 6, 7, 8, 9, 10, 11, 12, 13, 14, 15, 16, 17, 18, 19, 20, 21, 22, 23, 24, 25, 26, 27, 28, 29, 30, 31, 32, 33, 34] [0, 1, 2, 3, 4, 5, 6, 7, 8, 9, 10, 11, 12, 13, 14, 15, 16, 17, 18, 19, 20, 21, 22, 23, 24, 25, 26, 27, 28, 29, 30, 31, 32, 33, 34, 35, 36, 37, 38, 39, 40, 41] [42, 43, 44, 45, 46, 47, 48, 49, 50, 51, 52, 53, 54, 55, 56, 57, 58] (cm_K1 cA cB) (cm_C1 ad ad2 cA cB f a g h2) (cm_F1 ad ad2 cA cB f a g h2) cm_N1.1 (cm_R1 ad ad2 cA cB f a g h2) cm_N1.2 cm_D1 hA rfl (Nat.le_of_ble_eq_true rfl) ⟨by decide, by decide⟩ rfl dL_law_215 (fun z f1 a1 hw => ?_)
  refine x_aload_n hx hb dL_law_218 rfl 2 rfl ?_
  refine x_aload_n hx hb dL_law_219 rfl 0 rfl ?_
  refine x_iload_n hx hb dL_law_220 rfl 3 rfl ?_
  refine x_iconst hx hb dL_law_221 ?_
  refine x_iadd hx hb dL_law_222 ?_
  refine x_sld hx hb hX hbl hbA (by omega) (by omega) (by omega) dL_law_223 ?_
  refine x_aload_n hx hb dL_law_224 rfl 0 rfl ?_
  refine x_iload_n hx hb dL_law_225 rfl 3 rfl ?_
  refine x_iconst hx hb dL_law_226 ?_
  refine x_iadd hx hb dL_law_227 ?_
  refine x_sld hx hb hX hbl hbA (by omega) (by omega) (by omega) dL_law_228 ?_
  refine x_fVi (n := 2) (st := [.int (iI z)]) (As := [.int (iI ((xs (i + 1).toNat).toInt)), .int (iI ((xs (i + 2).toNat).toInt))]) ⟨hx, hb, hml, hown, hts⟩ hK hN (m_M_take (l := l) (D := D) (ad := ad2) (cA := cB) hw) (x_cwV hts rfl rfl kcM_take knM klL_43 kiM_take keM_take ⟨by decide, by decide, by decide +kernel⟩ ⟨by decide, by decide⟩) 0 rfl rfl [35, 36, 37, 38, 39, 40, 41, 42, 43, 44, 45, 46, 47, 48, 49, 50] [0, 1, 2, 3, 4, 5, 6, 7, 8, 9, 10, 11, 12, 13, 14, 15, 16] [17, 18, 19, 20, 21, 22, 23, 24, 25, 26, 27, 28, 29, 30, 31, 32, 33, 34, 35, 36, 37, 38, 39, 40, 41, 42, 43, 44, 45, 46, 47, 48, 49, 50, 51, 52, 53, 54, 55, 56, 57, 58] (cm_K2 cA cB) (cm_C2 ad ad2 cA cB f1 a1 g h2) (cm_F2 ad ad2 cA cB f1 a1 g h2) cm_N2.1 (cm_R2 ad ad2 cA cB f1 a1 g h2) cm_N2.2 cm_D2 hA rfl (Nat.le_of_ble_eq_true rfl) ⟨by decide, by decide⟩ rfl dL_law_229 (fun z2 g1 b1 hw => ?_)
  obtain ⟨hz, hI1⟩ := hw
  refine x_eqT hx hb (tgt := 689) hz dL_law_232 (by decide) ?_
  refine x_iinc hx hb dL_law_689 3 rfl (by decide) (lv' := [(3, .int (iI (i + 4))), (0, .ref b), (1, .ref (ad 0 0)), (2, .ref (ad2 0 0))]) rfl ?_
  refine x_goto hx hb (tgt := 28) dL_law_692 (by decide) ?_
  refine x_sub [1, 2, 3, 0] rfl ?_
  exact ih (i + 4) f1 a1 g1 b1 hI1 (by omega) (by omega) (by omega)
set_option maxHeartbeats 4000000 in
set_option maxRecDepth 100000 in
theorem lc_5 {I : fS → aS → fS → aS → Prop} (hsim : xSim I) {p : Program} {l : Launch} {e : Env} {s : State} {m : MethodId} {below : List Frame} {meth : Method} {c : Code} {b L : Nat} {xs : Nat → Int32} {D : va_G} {ad ad2 : Nat → Nat → Nat} {cA cB : Nat → Nat → ClassId} (hx : p.tables.exec = Jvm.exec) (hb : c.code = code) (hr : meth.sig.returnType = ret) (hml : c.maxLocals = 4) (hown : s.vm.findClass RL = some m.cls) (hts : ∀ w ∈ Cond.static yL_cell :: xG, w.before #[Value.ref b] s = true) (hX : va_X b L xs s s.heap) (hbl : b < s.heap.size) (hlk : meth.locks = false) (hN : xN s) (hK : va_K D vwCl (taC cA ++ taM cB) s) (hL : L ≤ 2049) (n : Nat) (ih : ∀ (i : Int) (f : fS) (a : aS) (g : fS) (h2 : aS), I f a g h2 → 1 ≤ i → (L : Int) + 4 - i ≤ n → i ≤ (L : Int) + 4 → xV p l e room_1 s m #[Value.ref b] below meth c s.heap (fun q => s.heap.size ≤ q) 59 9428 (lw_Z below #[Value.ref b] s) D vwCl 4 (CW ad cA f a ++ MW ad2 cB g h2) [(0, .ref b), (1, .ref (ad 0 0)), (2, .ref (ad2 0 0)), (3, .int (iI i))] 28 []) (i : Int) (f : fS) (a : aS) (g : fS) (h2 : aS) (hI : I f a g h2) (h1 : 1 ≤ i) (h4 : (L : Int) + 4 - i ≤ n + 1) (hi : i ≤ (L : Int) - 4) : xV p l e room_1 s m #[Value.ref b] below meth c s.heap (fun q => s.heap.size ≤ q) 59 9428 (lw_Z below #[Value.ref b] s) D vwCl 4 (CW ad cA f a ++ MW ad2 cB g h2) [(0, .ref b), (1, .ref (ad 0 0)), (2, .ref (ad2 0 0)), (3, .int (iI i))] 237 [] := by
  have hbA : ¬ (fun q => s.heap.size ≤ q) b := by
    show ¬ s.heap.size ≤ b
    omega
  have hA : ∀ q, s.heap.size ≤ q → (fun q => s.heap.size ≤ q) q := fun q h => h
  refine x_aload_n hx hb dL_law_237 rfl 1 rfl ?_
  refine x_aload_n hx hb dL_law_238 rfl 0 rfl ?_
  refine x_iload_n hx hb dL_law_239 rfl 3 rfl ?_
  refine x_iconst hx hb dL_law_240 ?_
  refine x_iadd hx hb dL_law_241 ?_
  refine x_sld hx hb hX hbl hbA (by omega) (by omega) (by omega) dL_law_242 ?_
  have hw := (hsim.2.2.2.2.2.1 f a g h2 ((xs (i + 1).toNat).toInt) hI (iI_ir _))
  refine x_fVi (n := 1) (st := []) (As := [.int (iI ((xs (i + 1).toNat).toInt))]) ⟨hx, hb, hml, hown, hts⟩ hK hN (m_X_generate (l := l) (D := D) (ad := ad) (cA := cA) hw) (x_cwV hts rfl rfl kcX_generate knX klL_44 kiX_generate keX_generate ⟨by decide, by decide, by decide +kernel⟩ ⟨by decide, by decide⟩) 0 rfl rfl [0, 1, 2, 3, 4, 5, 6, 7, 8, 9, 10, 11, 12, 13, 14, 15, 16, 17, 18, 19, 20, 21, 22, 23, 24, 25, 26, 27, 28, 29, 30, 31, 32, 33, 34] [0, 1, 2, 3, 4, 5, 6, 7, 8, 9, 10, 11, 12, 13, 14, 15, 16, 17, 18, 19, 20, 21, 22, 23, 24, 25, 26, 27, 28, 29, 30, 31, 32, 33, 34, 35, 36, 37, 38, 39, 40, 41] [42, 43, 44, 45, 46, 47, 48, 49, 50, 51, 52, 53, 54, 55, 56, 57, 58] (cm_K1 cA cB) (cm_C1 ad ad2 cA cB f a g h2) (cm_F1 ad ad2 cA cB f a g h2) cm_N1.1 (cm_R1 ad ad2 cA cB f a g h2) cm_N1.2 cm_D1 hA rfl (Nat.le_of_ble_eq_true rfl) ⟨by decide, by decide⟩ rfl dL_law_243 (fun z f1 a1 hw => ?_)
  refine x_aload_n hx hb dL_law_246 rfl 2 rfl ?_
  refine x_aload_n hx hb dL_law_247 rfl 0 rfl ?_
  refine x_iload_n hx hb dL_law_248 rfl 3 rfl ?_
  refine x_iconst hx hb dL_law_249 ?_
  refine x_iadd hx hb dL_law_250 ?_
  refine x_sld hx hb hX hbl hbA (by omega) (by omega) (by omega) dL_law_251 ?_
  refine x_fVi (n := 1) (st := [.int (iI z)]) (As := [.int (iI ((xs (i + 1).toNat).toInt))]) ⟨hx, hb, hml, hown, hts⟩ hK hN (m_M_generate (l := l) (D := D) (ad := ad2) (cA := cB) hw) (x_cwV hts rfl rfl kcM_generate knM klL_47 kiM_generate keM_generate ⟨by decide, by decide, by decide +kernel⟩ ⟨by decide, by decide⟩) 0 rfl rfl [35, 36, 37, 38, 39, 40, 41, 42, 43, 44, 45, 46, 47, 48, 49, 50] [0, 1, 2, 3, 4, 5, 6, 7, 8, 9, 10, 11, 12, 13, 14, 15, 16] [17, 18, 19, 20, 21, 22, 23, 24, 25, 26, 27, 28, 29, 30, 31, 32, 33, 34, 35, 36, 37, 38, 39, 40, 41, 42, 43, 44, 45, 46, 47, 48, 49, 50, 51, 52, 53, 54, 55, 56, 57, 58] (cm_K2 cA cB) (cm_C2 ad ad2 cA cB f1 a1 g h2) (cm_F2 ad ad2 cA cB f1 a1 g h2) cm_N2.1 (cm_R2 ad ad2 cA cB f1 a1 g h2) cm_N2.2 cm_D2 hA rfl (Nat.le_of_ble_eq_true rfl) ⟨by decide, by decide⟩ rfl dL_law_252 (fun z2 g1 b1 hw => ?_)
  obtain ⟨hz, hI1⟩ := hw
  refine x_eqT hx hb (tgt := 689) hz dL_law_255 (by decide) ?_
  refine x_iinc hx hb dL_law_689 3 rfl (by decide) (lv' := [(3, .int (iI (i + 4))), (0, .ref b), (1, .ref (ad 0 0)), (2, .ref (ad2 0 0))]) rfl ?_
  refine x_goto hx hb (tgt := 28) dL_law_692 (by decide) ?_
  refine x_sub [1, 2, 3, 0] rfl ?_
  exact ih (i + 4) f1 a1 g1 b1 hI1 (by omega) (by omega) (by omega)
set_option maxHeartbeats 4000000 in
set_option maxRecDepth 100000 in
theorem lc_6 {I : fS → aS → fS → aS → Prop} (hsim : xSim I) {p : Program} {l : Launch} {e : Env} {s : State} {m : MethodId} {below : List Frame} {meth : Method} {c : Code} {b L : Nat} {xs : Nat → Int32} {D : va_G} {ad ad2 : Nat → Nat → Nat} {cA cB : Nat → Nat → ClassId} (hx : p.tables.exec = Jvm.exec) (hb : c.code = code) (hr : meth.sig.returnType = ret) (hml : c.maxLocals = 4) (hown : s.vm.findClass RL = some m.cls) (hts : ∀ w ∈ Cond.static yL_cell :: xG, w.before #[Value.ref b] s = true) (hX : va_X b L xs s s.heap) (hbl : b < s.heap.size) (hlk : meth.locks = false) (hN : xN s) (hK : va_K D vwCl (taC cA ++ taM cB) s) (hL : L ≤ 2049) (n : Nat) (ih : ∀ (i : Int) (f : fS) (a : aS) (g : fS) (h2 : aS), I f a g h2 → 1 ≤ i → (L : Int) + 4 - i ≤ n → i ≤ (L : Int) + 4 → xV p l e room_1 s m #[Value.ref b] below meth c s.heap (fun q => s.heap.size ≤ q) 59 9428 (lw_Z below #[Value.ref b] s) D vwCl 4 (CW ad cA f a ++ MW ad2 cB g h2) [(0, .ref b), (1, .ref (ad 0 0)), (2, .ref (ad2 0 0)), (3, .int (iI i))] 28 []) (i : Int) (f : fS) (a : aS) (g : fS) (h2 : aS) (hI : I f a g h2) (h1 : 1 ≤ i) (h4 : (L : Int) + 4 - i ≤ n + 1) (hi : i ≤ (L : Int) - 4) : xV p l e room_1 s m #[Value.ref b] below meth c s.heap (fun q => s.heap.size ≤ q) 59 9428 (lw_Z below #[Value.ref b] s) D vwCl 4 (CW ad cA f a ++ MW ad2 cB g h2) [(0, .ref b), (1, .ref (ad 0 0)), (2, .ref (ad2 0 0)), (3, .int (iI i))] 260 [] := by
  have hbA : ¬ (fun q => s.heap.size ≤ q) b := by
    show ¬ s.heap.size ≤ b
    omega
  have hA : ∀ q, s.heap.size ≤ q → (fun q => s.heap.size ≤ q) q := fun q h => h
  refine x_aload_n hx hb dL_law_260 rfl 1 rfl ?_
  refine x_aload_n hx hb dL_law_261 rfl 0 rfl ?_
  refine x_iload_n hx hb dL_law_262 rfl 3 rfl ?_
  refine x_iconst hx hb dL_law_263 ?_
  refine x_iadd hx hb dL_law_264 ?_
  refine x_sld hx hb hX hbl hbA (by omega) (by omega) (by omega) dL_law_265 ?_
  have hw := (hsim.2.2.2.2.2.2.1 f a g h2 ((xs (i + 1).toNat).toInt) hI (iI_ir _))
  refine x_fVi (n := 1) (st := []) (As := [.int (iI ((xs (i + 1).toNat).toInt))]) ⟨hx, hb, hml, hown, hts⟩ hK hN (m_X_drop (l := l) (D := D) (ad := ad) (cA := cA) hw) (x_cwV hts rfl rfl kcX_drop knX klL_48 kiX_drop keX_drop ⟨by decide, by decide, by decide +kernel⟩ ⟨by decide, by decide⟩) 0 rfl rfl [0, 1, 2, 3, 4, 5, 6, 7, 8, 9, 10, 11, 12, 13, 14, 15, 16, 17, 18, 19, 20, 21, 22, 23, 24, 25, 26, 27, 28, 29, 30, 31, 32, 33, 34] [0, 1, 2, 3, 4, 5, 6, 7, 8, 9, 10, 11, 12, 13, 14, 15, 16, 17, 18, 19, 20, 21, 22, 23, 24, 25, 26, 27, 28, 29, 30, 31, 32, 33, 34, 35, 36, 37, 38, 39, 40, 41] [42, 43, 44, 45, 46, 47, 48, 49, 50, 51, 52, 53, 54, 55, 56, 57, 58] (cm_K1 cA cB) (cm_C1 ad ad2 cA cB f a g h2) (cm_F1 ad ad2 cA cB f a g h2) cm_N1.1 (cm_R1 ad ad2 cA cB f a g h2) cm_N1.2 cm_D1 hA rfl (Nat.le_of_ble_eq_true rfl) ⟨by decide, by decide⟩ rfl dL_law_266 (fun z f1 a1 hw => ?_)
  refine x_aload_n hx hb dL_law_269 rfl 2 rfl ?_
  refine x_aload_n hx hb dL_law_270 rfl 0 rfl ?_
  refine x_iload_n hx hb dL_law_271 rfl 3 rfl ?_
  refine x_iconst hx hb dL_law_272 ?_
  refine x_iadd hx hb dL_law_273 ?_
  refine x_sld hx hb hX hbl hbA (by omega) (by omega) (by omega) dL_law_274 ?_
  refine x_fVi (n := 1) (st := [.int (iI z)]) (As := [.int (iI ((xs (i + 1).toNat).toInt))]) ⟨hx, hb, hml, hown, hts⟩ hK hN (m_M_drop (l := l) (D := D) (ad := ad2) (cA := cB) hw) (x_cwV hts rfl rfl kcM_drop knM klL_51 kiM_drop keM_drop ⟨by decide, by decide, by decide +kernel⟩ ⟨by decide, by decide⟩) 0 rfl rfl [35, 36, 37, 38, 39, 40, 41, 42, 43, 44, 45, 46, 47, 48, 49, 50] [0, 1, 2, 3, 4, 5, 6, 7, 8, 9, 10, 11, 12, 13, 14, 15, 16] [17, 18, 19, 20, 21, 22, 23, 24, 25, 26, 27, 28, 29, 30, 31, 32, 33, 34, 35, 36, 37, 38, 39, 40, 41, 42, 43, 44, 45, 46, 47, 48, 49, 50, 51, 52, 53, 54, 55, 56, 57, 58] (cm_K2 cA cB) (cm_C2 ad ad2 cA cB f1 a1 g h2) (cm_F2 ad ad2 cA cB f1 a1 g h2) cm_N2.1 (cm_R2 ad ad2 cA cB f1 a1 g h2) cm_N2.2 cm_D2 hA rfl (Nat.le_of_ble_eq_true rfl) ⟨by decide, by decide⟩ rfl dL_law_275 (fun z2 g1 b1 hw => ?_)
  obtain ⟨hz, hI1⟩ := hw
  refine x_eqT hx hb (tgt := 689) hz dL_law_278 (by decide) ?_
  refine x_iinc hx hb dL_law_689 3 rfl (by decide) (lv' := [(3, .int (iI (i + 4))), (0, .ref b), (1, .ref (ad 0 0)), (2, .ref (ad2 0 0))]) rfl ?_
  refine x_goto hx hb (tgt := 28) dL_law_692 (by decide) ?_
  refine x_sub [1, 2, 3, 0] rfl ?_
  exact ih (i + 4) f1 a1 g1 b1 hI1 (by omega) (by omega) (by omega)
set_option maxHeartbeats 4000000 in
set_option maxRecDepth 100000 in
theorem lc_7 {I : fS → aS → fS → aS → Prop} (hsim : xSim I) {p : Program} {l : Launch} {e : Env} {s : State} {m : MethodId} {below : List Frame} {meth : Method} {c : Code} {b L : Nat} {xs : Nat → Int32} {D : va_G} {ad ad2 : Nat → Nat → Nat} {cA cB : Nat → Nat → ClassId} (hx : p.tables.exec = Jvm.exec) (hb : c.code = code) (hr : meth.sig.returnType = ret) (hml : c.maxLocals = 4) (hown : s.vm.findClass RL = some m.cls) (hts : ∀ w ∈ Cond.static yL_cell :: xG, w.before #[Value.ref b] s = true) (hX : va_X b L xs s s.heap) (hbl : b < s.heap.size) (hlk : meth.locks = false) (hN : xN s) (hK : va_K D vwCl (taC cA ++ taM cB) s) (hL : L ≤ 2049) (n : Nat) (ih : ∀ (i : Int) (f : fS) (a : aS) (g : fS) (h2 : aS), I f a g h2 → 1 ≤ i → (L : Int) + 4 - i ≤ n → i ≤ (L : Int) + 4 → xV p l e room_1 s m #[Value.ref b] below meth c s.heap (fun q => s.heap.size ≤ q) 59 9428 (lw_Z below #[Value.ref b] s) D vwCl 4 (CW ad cA f a ++ MW ad2 cB g h2) [(0, .ref b), (1, .ref (ad 0 0)), (2, .ref (ad2 0 0)), (3, .int (iI i))] 28 []) (i : Int) (f : fS) (a : aS) (g : fS) (h2 : aS) (hI : I f a g h2) (h1 : 1 ≤ i) (h4 : (L : Int) + 4 - i ≤ n + 1) (hi : i ≤ (L : Int) - 4) : xV p l e room_1 s m #[Value.ref b] below meth c s.heap (fun q => s.heap.size ≤ q) 59 9428 (lw_Z below #[Value.ref b] s) D vwCl 4 (CW ad cA f a ++ MW ad2 cB g h2) [(0, .ref b), (1, .ref (ad 0 0)), (2, .ref (ad2 0 0)), (3, .int (iI i))] 283 [] := by
  have hbA : ¬ (fun q => s.heap.size ≤ q) b := by
    show ¬ s.heap.size ≤ b
    omega
  have hA : ∀ q, s.heap.size ≤ q → (fun q => s.heap.size ≤ q) q := fun q h => h
  refine x_aload_n hx hb dL_law_283 rfl 1 rfl ?_
  refine x_aload_n hx hb dL_law_284 rfl 0 rfl ?_
  refine x_iload_n hx hb dL_law_285 rfl 3 rfl ?_
  refine x_iconst hx hb dL_law_286 ?_
  refine x_iadd hx hb dL_law_287 ?_
  refine x_sld hx hb hX hbl hbA (by omega) (by omega) (by omega) dL_law_288 ?_
  refine x_aload_n hx hb dL_law_289 rfl 0 rfl ?_
  refine x_iload_n hx hb dL_law_290 rfl 3 rfl ?_
  refine x_iconst hx hb dL_law_291 ?_
  refine x_iadd hx hb dL_law_292 ?_
  refine x_sld hx hb hX hbl hbA (by omega) (by omega) (by omega) dL_law_293 ?_
  have hw := (hsim.2.2.2.2.2.2.2.1 f a g h2 ((xs (i + 1).toNat).toInt) ((xs (i + 2).toNat).toInt) hI (iI_ir _) (iI_ir _))
  refine x_fVi (n := 2) (st := []) (As := [.int (iI ((xs (i + 1).toNat).toInt)), .int (iI ((xs (i + 2).toNat).toInt))]) ⟨hx, hb, hml, hown, hts⟩ hK hN (m_X_conjugate (l := l) (D := D) (ad := ad) (cA := cA) hw) (x_cwV hts rfl rfl kcX_conjugate knX klL_52 kiX_conjugate keX_conjugate ⟨by decide, by decide, by decide +kernel⟩ ⟨by decide, by decide⟩) 0 rfl rfl [0, 1, 2, 3, 4, 5, 6, 7, 8, 9, 10, 11, 12, 13, 14, 15, 16, 17, 18, 19, 20, 21, 22, 23, 24, 25, 26, 27, 28, 29, 30, 31, 32, 33, 34] [0, 1, 2, 3, 4, 5, 6, 7, 8, 9, 10, 11, 12, 13, 14, 15, 16, 17, 18, 19, 20, 21, 22, 23, 24, 25, 26, 27, 28, 29, 30, 31, 32, 33, 34, 35, 36, 37, 38, 39, 40, 41] [42, 43, 44, 45, 46, 47, 48, 49, 50, 51, 52, 53, 54, 55, 56, 57, 58] (cm_K1 cA cB) (cm_C1 ad ad2 cA cB f a g h2) (cm_F1 ad ad2 cA cB f a g h2) cm_N1.1 (cm_R1 ad ad2 cA cB f a g h2) cm_N1.2 cm_D1 hA rfl (Nat.le_of_ble_eq_true rfl) ⟨by decide, by decide⟩ rfl dL_law_294 (fun z f1 a1 hw => ?_)
  refine x_aload_n hx hb dL_law_297 rfl 2 rfl ?_
  refine x_aload_n hx hb dL_law_298 rfl 0 rfl ?_
  refine x_iload_n hx hb dL_law_299 rfl 3 rfl ?_
  refine x_iconst hx hb dL_law_300 ?_
  refine x_iadd hx hb dL_law_301 ?_
  refine x_sld hx hb hX hbl hbA (by omega) (by omega) (by omega) dL_law_302 ?_
  refine x_aload_n hx hb dL_law_303 rfl 0 rfl ?_
  refine x_iload_n hx hb dL_law_304 rfl 3 rfl ?_
  refine x_iconst hx hb dL_law_305 ?_
  refine x_iadd hx hb dL_law_306 ?_
  refine x_sld hx hb hX hbl hbA (by omega) (by omega) (by omega) dL_law_307 ?_
  refine x_fVi (n := 2) (st := [.int (iI z)]) (As := [.int (iI ((xs (i + 1).toNat).toInt)), .int (iI ((xs (i + 2).toNat).toInt))]) ⟨hx, hb, hml, hown, hts⟩ hK hN (m_M_conjugate (l := l) (D := D) (ad := ad2) (cA := cB) hw) (x_cwV hts rfl rfl kcM_conjugate knM klL_55 kiM_conjugate keM_conjugate ⟨by decide, by decide, by decide +kernel⟩ ⟨by decide, by decide⟩) 0 rfl rfl [35, 36, 37, 38, 39, 40, 41, 42, 43, 44, 45, 46, 47, 48, 49, 50] [0, 1, 2, 3, 4, 5, 6, 7, 8, 9, 10, 11, 12, 13, 14, 15, 16] [17, 18, 19, 20, 21, 22, 23, 24, 25, 26, 27, 28, 29, 30, 31, 32, 33, 34, 35, 36, 37, 38, 39, 40, 41, 42, 43, 44, 45, 46, 47, 48, 49, 50, 51, 52, 53, 54, 55, 56, 57, 58] (cm_K2 cA cB) (cm_C2 ad ad2 cA cB f1 a1 g h2) (cm_F2 ad ad2 cA cB f1 a1 g h2) cm_N2.1 (cm_R2 ad ad2 cA cB f1 a1 g h2) cm_N2.2 cm_D2 hA rfl (Nat.le_of_ble_eq_true rfl) ⟨by decide, by decide⟩ rfl dL_law_308 (fun z2 g1 b1 hw => ?_)
  obtain ⟨hz, hI1⟩ := hw
  refine x_eqT hx hb (tgt := 689) hz dL_law_311 (by decide) ?_
  refine x_iinc hx hb dL_law_689 3 rfl (by decide) (lv' := [(3, .int (iI (i + 4))), (0, .ref b), (1, .ref (ad 0 0)), (2, .ref (ad2 0 0))]) rfl ?_
  refine x_goto hx hb (tgt := 28) dL_law_692 (by decide) ?_
  refine x_sub [1, 2, 3, 0] rfl ?_
  exact ih (i + 4) f1 a1 g1 b1 hI1 (by omega) (by omega) (by omega)
set_option maxHeartbeats 4000000 in
set_option maxRecDepth 100000 in
theorem lc_8 {I : fS → aS → fS → aS → Prop} (hsim : xSim I) {p : Program} {l : Launch} {e : Env} {s : State} {m : MethodId} {below : List Frame} {meth : Method} {c : Code} {b L : Nat} {xs : Nat → Int32} {D : va_G} {ad ad2 : Nat → Nat → Nat} {cA cB : Nat → Nat → ClassId} (hx : p.tables.exec = Jvm.exec) (hb : c.code = code) (hr : meth.sig.returnType = ret) (hml : c.maxLocals = 4) (hown : s.vm.findClass RL = some m.cls) (hts : ∀ w ∈ Cond.static yL_cell :: xG, w.before #[Value.ref b] s = true) (hX : va_X b L xs s s.heap) (hbl : b < s.heap.size) (hlk : meth.locks = false) (hN : xN s) (hK : va_K D vwCl (taC cA ++ taM cB) s) (hL : L ≤ 2049) (n : Nat) (ih : ∀ (i : Int) (f : fS) (a : aS) (g : fS) (h2 : aS), I f a g h2 → 1 ≤ i → (L : Int) + 4 - i ≤ n → i ≤ (L : Int) + 4 → xV p l e room_1 s m #[Value.ref b] below meth c s.heap (fun q => s.heap.size ≤ q) 59 9428 (lw_Z below #[Value.ref b] s) D vwCl 4 (CW ad cA f a ++ MW ad2 cB g h2) [(0, .ref b), (1, .ref (ad 0 0)), (2, .ref (ad2 0 0)), (3, .int (iI i))] 28 []) (i : Int) (f : fS) (a : aS) (g : fS) (h2 : aS) (hI : I f a g h2) (h1 : 1 ≤ i) (h4 : (L : Int) + 4 - i ≤ n + 1) (hi : i ≤ (L : Int) - 4) : xV p l e room_1 s m #[Value.ref b] below meth c s.heap (fun q => s.heap.size ≤ q) 59 9428 (lw_Z below #[Value.ref b] s) D vwCl 4 (CW ad cA f a ++ MW ad2 cB g h2) [(0, .ref b), (1, .ref (ad 0 0)), (2, .ref (ad2 0 0)), (3, .int (iI i))] 316 [] := by
  have hbA : ¬ (fun q => s.heap.size ≤ q) b := by
    show ¬ s.heap.size ≤ b
    omega
  have hA : ∀ q, s.heap.size ≤ q → (fun q => s.heap.size ≤ q) q := fun q h => h
  refine x_aload_n hx hb dL_law_316 rfl 1 rfl ?_
  refine x_aload_n hx hb dL_law_317 rfl 0 rfl ?_
  refine x_iload_n hx hb dL_law_318 rfl 3 rfl ?_
  refine x_iconst hx hb dL_law_319 ?_
  refine x_iadd hx hb dL_law_320 ?_
  refine x_sld hx hb hX hbl hbA (by omega) (by omega) (by omega) dL_law_321 ?_
  refine x_aload_n hx hb dL_law_322 rfl 0 rfl ?_
  refine x_iload_n hx hb dL_law_323 rfl 3 rfl ?_
  refine x_iconst hx hb dL_law_324 ?_
  refine x_iadd hx hb dL_law_325 ?_
  refine x_sld hx hb hX hbl hbA (by omega) (by omega) (by omega) dL_law_326 ?_
  refine x_aload_n hx hb dL_law_327 rfl 0 rfl ?_
  refine x_iload_n hx hb dL_law_328 rfl 3 rfl ?_
  refine x_iconst hx hb dL_law_329 ?_
  refine x_iadd hx hb dL_law_330 ?_
  refine x_sld hx hb hX hbl hbA (by omega) (by omega) (by omega) dL_law_331 ?_
  have hw := (hsim.2.2.2.2.2.2.2.2.1 f a g h2 ((xs (i + 1).toNat).toInt) ((xs (i + 2).toNat).toInt) ((xs (i + 3).toNat).toInt) hI (iI_ir _) (iI_ir _) (iI_ir _))
  refine x_fVi (n := 3) (st := []) (As := [.int (iI ((xs (i + 1).toNat).toInt)), .int (iI ((xs (i + 2).toNat).toInt)), .int (iI ((xs (i + 3).toNat).toInt))]) ⟨hx, hb, hml, hown, hts⟩ hK hN (m_X_meet (l := l) (D := D) (ad := ad) (cA := cA) hw) (x_cwV hts rfl rfl kcX_meet knX klL_56 kiX_meet keX_meet ⟨by decide, by decide, by decide +kernel⟩ ⟨by decide, by decide⟩) 0 rfl rfl [0, 1, 2, 3, 4, 5, 6, 7, 8, 9, 10, 11, 12, 13, 14, 15, 16, 17, 18, 19, 20, 21, 22, 23, 24, 25, 26, 27, 28, 29, 30, 31, 32, 33, 34] [0, 1, 2, 3, 4, 5, 6, 7, 8, 9, 10, 11, 12, 13, 14, 15, 16, 17, 18, 19, 20, 21, 22, 23, 24, 25, 26, 27, 28, 29, 30, 31, 32, 33, 34, 35, 36, 37, 38, 39, 40, 41] [42, 43, 44, 45, 46, 47, 48, 49, 50, 51, 52, 53, 54, 55, 56, 57, 58] (cm_K1 cA cB) (cm_C1 ad ad2 cA cB f a g h2) (cm_F1 ad ad2 cA cB f a g h2) cm_N1.1 (cm_R1 ad ad2 cA cB f a g h2) cm_N1.2 cm_D1 hA rfl (Nat.le_of_ble_eq_true rfl) ⟨by decide, by decide⟩ rfl dL_law_332 (fun z f1 a1 hw => ?_)
  refine x_aload_n hx hb dL_law_335 rfl 2 rfl ?_
  refine x_aload_n hx hb dL_law_336 rfl 0 rfl ?_
  refine x_iload_n hx hb dL_law_337 rfl 3 rfl ?_
  refine x_iconst hx hb dL_law_338 ?_
  refine x_iadd hx hb dL_law_339 ?_
  refine x_sld hx hb hX hbl hbA (by omega) (by omega) (by omega) dL_law_340 ?_
  refine x_aload_n hx hb dL_law_341 rfl 0 rfl ?_
  refine x_iload_n hx hb dL_law_342 rfl 3 rfl ?_
  refine x_iconst hx hb dL_law_343 ?_
  refine x_iadd hx hb dL_law_344 ?_
  refine x_sld hx hb hX hbl hbA (by omega) (by omega) (by omega) dL_law_345 ?_
  refine x_aload_n hx hb dL_law_346 rfl 0 rfl ?_
  refine x_iload_n hx hb dL_law_347 rfl 3 rfl ?_
  refine x_iconst hx hb dL_law_348 ?_
  refine x_iadd hx hb dL_law_349 ?_
  refine x_sld hx hb hX hbl hbA (by omega) (by omega) (by omega) dL_law_350 ?_
  refine x_fVi (n := 3) (st := [.int (iI z)]) (As := [.int (iI ((xs (i + 1).toNat).toInt)), .int (iI ((xs (i + 2).toNat).toInt)), .int (iI ((xs (i + 3).toNat).toInt))]) ⟨hx, hb, hml, hown, hts⟩ hK hN (m_M_meet (l := l) (D := D) (ad := ad2) (cA := cB) hw) (x_cwV hts rfl rfl kcM_meet knM klL_60 kiM_meet keM_meet ⟨by decide, by decide, by decide +kernel⟩ ⟨by decide, by decide⟩) 0 rfl rfl [35, 36, 37, 38, 39, 40, 41, 42, 43, 44, 45, 46, 47, 48, 49, 50] [0, 1, 2, 3, 4, 5, 6, 7, 8, 9, 10, 11, 12, 13, 14, 15, 16] [17, 18, 19, 20, 21, 22, 23, 24, 25, 26, 27, 28, 29, 30, 31, 32, 33, 34, 35, 36, 37, 38, 39, 40, 41, 42, 43, 44, 45, 46, 47, 48, 49, 50, 51, 52, 53, 54, 55, 56, 57, 58] (cm_K2 cA cB) (cm_C2 ad ad2 cA cB f1 a1 g h2) (cm_F2 ad ad2 cA cB f1 a1 g h2) cm_N2.1 (cm_R2 ad ad2 cA cB f1 a1 g h2) cm_N2.2 cm_D2 hA rfl (Nat.le_of_ble_eq_true rfl) ⟨by decide, by decide⟩ rfl dL_law_351 (fun z2 g1 b1 hw => ?_)
  obtain ⟨hz, hI1⟩ := hw
  refine x_eqT hx hb (tgt := 689) hz dL_law_354 (by decide) ?_
  refine x_iinc hx hb dL_law_689 3 rfl (by decide) (lv' := [(3, .int (iI (i + 4))), (0, .ref b), (1, .ref (ad 0 0)), (2, .ref (ad2 0 0))]) rfl ?_
  refine x_goto hx hb (tgt := 28) dL_law_692 (by decide) ?_
  refine x_sub [1, 2, 3, 0] rfl ?_
  exact ih (i + 4) f1 a1 g1 b1 hI1 (by omega) (by omega) (by omega)
set_option maxHeartbeats 4000000 in
set_option maxRecDepth 100000 in
theorem lc_9 {I : fS → aS → fS → aS → Prop} (hsim : xSim I) {p : Program} {l : Launch} {e : Env} {s : State} {m : MethodId} {below : List Frame} {meth : Method} {c : Code} {b L : Nat} {xs : Nat → Int32} {D : va_G} {ad ad2 : Nat → Nat → Nat} {cA cB : Nat → Nat → ClassId} (hx : p.tables.exec = Jvm.exec) (hb : c.code = code) (hr : meth.sig.returnType = ret) (hml : c.maxLocals = 4) (hown : s.vm.findClass RL = some m.cls) (hts : ∀ w ∈ Cond.static yL_cell :: xG, w.before #[Value.ref b] s = true) (hX : va_X b L xs s s.heap) (hbl : b < s.heap.size) (hlk : meth.locks = false) (hN : xN s) (hK : va_K D vwCl (taC cA ++ taM cB) s) (hL : L ≤ 2049) (n : Nat) (ih : ∀ (i : Int) (f : fS) (a : aS) (g : fS) (h2 : aS), I f a g h2 → 1 ≤ i → (L : Int) + 4 - i ≤ n → i ≤ (L : Int) + 4 → xV p l e room_1 s m #[Value.ref b] below meth c s.heap (fun q => s.heap.size ≤ q) 59 9428 (lw_Z below #[Value.ref b] s) D vwCl 4 (CW ad cA f a ++ MW ad2 cB g h2) [(0, .ref b), (1, .ref (ad 0 0)), (2, .ref (ad2 0 0)), (3, .int (iI i))] 28 []) (i : Int) (f : fS) (a : aS) (g : fS) (h2 : aS) (hI : I f a g h2) (h1 : 1 ≤ i) (h4 : (L : Int) + 4 - i ≤ n + 1) (hi : i ≤ (L : Int) - 4) : xV p l e room_1 s m #[Value.ref b] below meth c s.heap (fun q => s.heap.size ≤ q) 59 9428 (lw_Z below #[Value.ref b] s) D vwCl 4 (CW ad cA f a ++ MW ad2 cB g h2) [(0, .ref b), (1, .ref (ad 0 0)), (2, .ref (ad2 0 0)), (3, .int (iI i))] 359 [] := by
  have hbA : ¬ (fun q => s.heap.size ≤ q) b := by
    show ¬ s.heap.size ≤ b
    omega
  have hA : ∀ q, s.heap.size ≤ q → (fun q => s.heap.size ≤ q) q := fun q h => h
  refine x_aload_n hx hb dL_law_359 rfl 1 rfl ?_
  refine x_aload_n hx hb dL_law_360 rfl 0 rfl ?_
  refine x_iload_n hx hb dL_law_361 rfl 3 rfl ?_
  refine x_iconst hx hb dL_law_362 ?_
  refine x_iadd hx hb dL_law_363 ?_
  refine x_sld hx hb hX hbl hbA (by omega) (by omega) (by omega) dL_law_364 ?_
  refine x_aload_n hx hb dL_law_365 rfl 0 rfl ?_
  refine x_iload_n hx hb dL_law_366 rfl 3 rfl ?_
  refine x_iconst hx hb dL_law_367 ?_
  refine x_iadd hx hb dL_law_368 ?_
  refine x_sld hx hb hX hbl hbA (by omega) (by omega) (by omega) dL_law_369 ?_
  refine x_aload_n hx hb dL_law_370 rfl 0 rfl ?_
  refine x_iload_n hx hb dL_law_371 rfl 3 rfl ?_
  refine x_iconst hx hb dL_law_372 ?_
  refine x_iadd hx hb dL_law_373 ?_
  refine x_sld hx hb hX hbl hbA (by omega) (by omega) (by omega) dL_law_374 ?_
  have hw := (hsim.2.2.2.2.2.2.2.2.2.1 f a g h2 ((xs (i + 1).toNat).toInt) ((xs (i + 2).toNat).toInt) ((xs (i + 3).toNat).toInt) hI (iI_ir _) (iI_ir _) (iI_ir _))
  refine x_fVi (n := 3) (st := []) (As := [.int (iI ((xs (i + 1).toNat).toInt)), .int (iI ((xs (i + 2).toNat).toInt)), .int (iI ((xs (i + 3).toNat).toInt))]) ⟨hx, hb, hml, hown, hts⟩ hK hN (m_X_join (l := l) (D := D) (ad := ad) (cA := cA) hw) (x_cwV hts rfl rfl kcX_join knX klL_61 kiX_join keX_join ⟨by decide, by decide, by decide +kernel⟩ ⟨by decide, by decide⟩) 0 rfl rfl [0, 1, 2, 3, 4, 5, 6, 7, 8, 9, 10, 11, 12, 13, 14, 15, 16, 17, 18, 19, 20, 21, 22, 23, 24, 25, 26, 27, 28, 29, 30, 31, 32, 33, 34] [0, 1, 2, 3, 4, 5, 6, 7, 8, 9, 10, 11, 12, 13, 14, 15, 16, 17, 18, 19, 20, 21, 22, 23, 24, 25, 26, 27, 28, 29, 30, 31, 32, 33, 34, 35, 36, 37, 38, 39, 40, 41] [42, 43, 44, 45, 46, 47, 48, 49, 50, 51, 52, 53, 54, 55, 56, 57, 58] (cm_K1 cA cB) (cm_C1 ad ad2 cA cB f a g h2) (cm_F1 ad ad2 cA cB f a g h2) cm_N1.1 (cm_R1 ad ad2 cA cB f a g h2) cm_N1.2 cm_D1 hA rfl (Nat.le_of_ble_eq_true rfl) ⟨by decide, by decide⟩ rfl dL_law_375 (fun z f1 a1 hw => ?_)
  refine x_aload_n hx hb dL_law_378 rfl 2 rfl ?_
  refine x_aload_n hx hb dL_law_379 rfl 0 rfl ?_
  refine x_iload_n hx hb dL_law_380 rfl 3 rfl ?_
  refine x_iconst hx hb dL_law_381 ?_
  refine x_iadd hx hb dL_law_382 ?_
  refine x_sld hx hb hX hbl hbA (by omega) (by omega) (by omega) dL_law_383 ?_
  refine x_aload_n hx hb dL_law_384 rfl 0 rfl ?_
  refine x_iload_n hx hb dL_law_385 rfl 3 rfl ?_
  refine x_iconst hx hb dL_law_386 ?_
  refine x_iadd hx hb dL_law_387 ?_
  refine x_sld hx hb hX hbl hbA (by omega) (by omega) (by omega) dL_law_388 ?_
  refine x_aload_n hx hb dL_law_389 rfl 0 rfl ?_
  refine x_iload_n hx hb dL_law_390 rfl 3 rfl ?_
  refine x_iconst hx hb dL_law_391 ?_
  refine x_iadd hx hb dL_law_392 ?_
  refine x_sld hx hb hX hbl hbA (by omega) (by omega) (by omega) dL_law_393 ?_
  refine x_fVi (n := 3) (st := [.int (iI z)]) (As := [.int (iI ((xs (i + 1).toNat).toInt)), .int (iI ((xs (i + 2).toNat).toInt)), .int (iI ((xs (i + 3).toNat).toInt))]) ⟨hx, hb, hml, hown, hts⟩ hK hN (m_M_join (l := l) (D := D) (ad := ad2) (cA := cB) hw) (x_cwV hts rfl rfl kcM_join knM klL_64 kiM_join keM_join ⟨by decide, by decide, by decide +kernel⟩ ⟨by decide, by decide⟩) 0 rfl rfl [35, 36, 37, 38, 39, 40, 41, 42, 43, 44, 45, 46, 47, 48, 49, 50] [0, 1, 2, 3, 4, 5, 6, 7, 8, 9, 10, 11, 12, 13, 14, 15, 16] [17, 18, 19, 20, 21, 22, 23, 24, 25, 26, 27, 28, 29, 30, 31, 32, 33, 34, 35, 36, 37, 38, 39, 40, 41, 42, 43, 44, 45, 46, 47, 48, 49, 50, 51, 52, 53, 54, 55, 56, 57, 58] (cm_K2 cA cB) (cm_C2 ad ad2 cA cB f1 a1 g h2) (cm_F2 ad ad2 cA cB f1 a1 g h2) cm_N2.1 (cm_R2 ad ad2 cA cB f1 a1 g h2) cm_N2.2 cm_D2 hA rfl (Nat.le_of_ble_eq_true rfl) ⟨by decide, by decide⟩ rfl dL_law_394 (fun z2 g1 b1 hw => ?_)
  obtain ⟨hz, hI1⟩ := hw
  refine x_eqT hx hb (tgt := 689) hz dL_law_397 (by decide) ?_
  refine x_iinc hx hb dL_law_689 3 rfl (by decide) (lv' := [(3, .int (iI (i + 4))), (0, .ref b), (1, .ref (ad 0 0)), (2, .ref (ad2 0 0))]) rfl ?_
  refine x_goto hx hb (tgt := 28) dL_law_692 (by decide) ?_
  refine x_sub [1, 2, 3, 0] rfl ?_
  exact ih (i + 4) f1 a1 g1 b1 hI1 (by omega) (by omega) (by omega)
set_option maxHeartbeats 4000000 in
set_option maxRecDepth 100000 in
theorem lc_10 {I : fS → aS → fS → aS → Prop} (hsim : xSim I) {p : Program} {l : Launch} {e : Env} {s : State} {m : MethodId} {below : List Frame} {meth : Method} {c : Code} {b L : Nat} {xs : Nat → Int32} {D : va_G} {ad ad2 : Nat → Nat → Nat} {cA cB : Nat → Nat → ClassId} (hx : p.tables.exec = Jvm.exec) (hb : c.code = code) (hr : meth.sig.returnType = ret) (hml : c.maxLocals = 4) (hown : s.vm.findClass RL = some m.cls) (hts : ∀ w ∈ Cond.static yL_cell :: xG, w.before #[Value.ref b] s = true) (hX : va_X b L xs s s.heap) (hbl : b < s.heap.size) (hlk : meth.locks = false) (hN : xN s) (hK : va_K D vwCl (taC cA ++ taM cB) s) (hL : L ≤ 2049) (n : Nat) (ih : ∀ (i : Int) (f : fS) (a : aS) (g : fS) (h2 : aS), I f a g h2 → 1 ≤ i → (L : Int) + 4 - i ≤ n → i ≤ (L : Int) + 4 → xV p l e room_1 s m #[Value.ref b] below meth c s.heap (fun q => s.heap.size ≤ q) 59 9428 (lw_Z below #[Value.ref b] s) D vwCl 4 (CW ad cA f a ++ MW ad2 cB g h2) [(0, .ref b), (1, .ref (ad 0 0)), (2, .ref (ad2 0 0)), (3, .int (iI i))] 28 []) (i : Int) (f : fS) (a : aS) (g : fS) (h2 : aS) (hI : I f a g h2) (h1 : 1 ≤ i) (h4 : (L : Int) + 4 - i ≤ n + 1) (hi : i ≤ (L : Int) - 4) : xV p l e room_1 s m #[Value.ref b] below meth c s.heap (fun q => s.heap.size ≤ q) 59 9428 (lw_Z below #[Value.ref b] s) D vwCl 4 (CW ad cA f a ++ MW ad2 cB g h2) [(0, .ref b), (1, .ref (ad 0 0)), (2, .ref (ad2 0 0)), (3, .int (iI i))] 402 [] := by
  have hbA : ¬ (fun q => s.heap.size ≤ q) b := by
    show ¬ s.heap.size ≤ b
    omega
  have hA : ∀ q, s.heap.size ≤ q → (fun q => s.heap.size ≤ q) q := fun q h => h
  refine x_aload_n hx hb dL_law_402 rfl 1 rfl ?_
  refine x_aload_n hx hb dL_law_403 rfl 0 rfl ?_
  refine x_iload_n hx hb dL_law_404 rfl 3 rfl ?_
  refine x_iconst hx hb dL_law_405 ?_
  refine x_iadd hx hb dL_law_406 ?_
  refine x_sld hx hb hX hbl hbA (by omega) (by omega) (by omega) dL_law_407 ?_
  have hw := (hsim.2.2.2.2.2.2.2.2.2.2.1 f a g h2 ((xs (i + 1).toNat).toInt) hI (iI_ir _))
  refine x_fVi (n := 1) (st := []) (As := [.int (iI ((xs (i + 1).toNat).toInt))]) ⟨hx, hb, hml, hown, hts⟩ hK hN (m_X_member (l := l) (D := D) (ad := ad) (cA := cA) hw) (x_cwV hts rfl rfl kcX_member knX klL_65 kiX_member keX_member ⟨by decide, by decide, by decide +kernel⟩ ⟨by decide, by decide⟩) 0 rfl rfl [0, 1, 2, 3, 4, 5, 6, 7, 8, 9, 10, 11, 12, 13, 14, 15, 16, 17, 18, 19, 20, 21, 22, 23, 24, 25, 26, 27, 28, 29, 30, 31, 32, 33, 34] [0, 1, 2, 3, 4, 5, 6, 7, 8, 9, 10, 11, 12, 13, 14, 15, 16, 17, 18, 19, 20, 21, 22, 23, 24, 25, 26, 27, 28, 29, 30, 31, 32, 33, 34, 35, 36, 37, 38, 39, 40, 41] [42, 43, 44, 45, 46, 47, 48, 49, 50, 51, 52, 53, 54, 55, 56, 57, 58] (cm_K1 cA cB) (cm_C1 ad ad2 cA cB f a g h2) (cm_F1 ad ad2 cA cB f a g h2) cm_N1.1 (cm_R1 ad ad2 cA cB f a g h2) cm_N1.2 cm_D1 hA rfl (Nat.le_of_ble_eq_true rfl) ⟨by decide, by decide⟩ rfl dL_law_408 (fun z f1 a1 hw => ?_)
  refine x_aload_n hx hb dL_law_411 rfl 2 rfl ?_
  refine x_aload_n hx hb dL_law_412 rfl 0 rfl ?_
  refine x_iload_n hx hb dL_law_413 rfl 3 rfl ?_
  refine x_iconst hx hb dL_law_414 ?_
  refine x_iadd hx hb dL_law_415 ?_
  refine x_sld hx hb hX hbl hbA (by omega) (by omega) (by omega) dL_law_416 ?_
  refine x_fVi (n := 1) (st := [.int (iI z)]) (As := [.int (iI ((xs (i + 1).toNat).toInt))]) ⟨hx, hb, hml, hown, hts⟩ hK hN (m_M_member (l := l) (D := D) (ad := ad2) (cA := cB) hw) (x_cwV hts rfl rfl kcM_member knM klL_69 kiM_member keM_member ⟨by decide, by decide, by decide +kernel⟩ ⟨by decide, by decide⟩) 0 rfl rfl [35, 36, 37, 38, 39, 40, 41, 42, 43, 44, 45, 46, 47, 48, 49, 50] [0, 1, 2, 3, 4, 5, 6, 7, 8, 9, 10, 11, 12, 13, 14, 15, 16] [17, 18, 19, 20, 21, 22, 23, 24, 25, 26, 27, 28, 29, 30, 31, 32, 33, 34, 35, 36, 37, 38, 39, 40, 41, 42, 43, 44, 45, 46, 47, 48, 49, 50, 51, 52, 53, 54, 55, 56, 57, 58] (cm_K2 cA cB) (cm_C2 ad ad2 cA cB f1 a1 g h2) (cm_F2 ad ad2 cA cB f1 a1 g h2) cm_N2.1 (cm_R2 ad ad2 cA cB f1 a1 g h2) cm_N2.2 cm_D2 hA rfl (Nat.le_of_ble_eq_true rfl) ⟨by decide, by decide⟩ rfl dL_law_417 (fun z2 g1 b1 hw => ?_)
  obtain ⟨hz, hI1⟩ := hw
  refine x_eqT hx hb (tgt := 689) hz dL_law_420 (by decide) ?_
  refine x_iinc hx hb dL_law_689 3 rfl (by decide) (lv' := [(3, .int (iI (i + 4))), (0, .ref b), (1, .ref (ad 0 0)), (2, .ref (ad2 0 0))]) rfl ?_
  refine x_goto hx hb (tgt := 28) dL_law_692 (by decide) ?_
  refine x_sub [1, 2, 3, 0] rfl ?_
  exact ih (i + 4) f1 a1 g1 b1 hI1 (by omega) (by omega) (by omega)
set_option maxHeartbeats 4000000 in
set_option maxRecDepth 100000 in
theorem lc_11 {I : fS → aS → fS → aS → Prop} (hsim : xSim I) {p : Program} {l : Launch} {e : Env} {s : State} {m : MethodId} {below : List Frame} {meth : Method} {c : Code} {b L : Nat} {xs : Nat → Int32} {D : va_G} {ad ad2 : Nat → Nat → Nat} {cA cB : Nat → Nat → ClassId} (hx : p.tables.exec = Jvm.exec) (hb : c.code = code) (hr : meth.sig.returnType = ret) (hml : c.maxLocals = 4) (hown : s.vm.findClass RL = some m.cls) (hts : ∀ w ∈ Cond.static yL_cell :: xG, w.before #[Value.ref b] s = true) (hX : va_X b L xs s s.heap) (hbl : b < s.heap.size) (hlk : meth.locks = false) (hN : xN s) (hK : va_K D vwCl (taC cA ++ taM cB) s) (hL : L ≤ 2049) (n : Nat) (ih : ∀ (i : Int) (f : fS) (a : aS) (g : fS) (h2 : aS), I f a g h2 → 1 ≤ i → (L : Int) + 4 - i ≤ n → i ≤ (L : Int) + 4 → xV p l e room_1 s m #[Value.ref b] below meth c s.heap (fun q => s.heap.size ≤ q) 59 9428 (lw_Z below #[Value.ref b] s) D vwCl 4 (CW ad cA f a ++ MW ad2 cB g h2) [(0, .ref b), (1, .ref (ad 0 0)), (2, .ref (ad2 0 0)), (3, .int (iI i))] 28 []) (i : Int) (f : fS) (a : aS) (g : fS) (h2 : aS) (hI : I f a g h2) (h1 : 1 ≤ i) (h4 : (L : Int) + 4 - i ≤ n + 1) (hi : i ≤ (L : Int) - 4) : xV p l e room_1 s m #[Value.ref b] below meth c s.heap (fun q => s.heap.size ≤ q) 59 9428 (lw_Z below #[Value.ref b] s) D vwCl 4 (CW ad cA f a ++ MW ad2 cB g h2) [(0, .ref b), (1, .ref (ad 0 0)), (2, .ref (ad2 0 0)), (3, .int (iI i))] 425 [] := by
  have hbA : ¬ (fun q => s.heap.size ≤ q) b := by
    show ¬ s.heap.size ≤ b
    omega
  have hA : ∀ q, s.heap.size ≤ q → (fun q => s.heap.size ≤ q) q := fun q h => h
  refine x_aload_n hx hb dL_law_425 rfl 1 rfl ?_
  refine x_aload_n hx hb dL_law_426 rfl 0 rfl ?_
  refine x_iload_n hx hb dL_law_427 rfl 3 rfl ?_
  refine x_iconst hx hb dL_law_428 ?_
  refine x_iadd hx hb dL_law_429 ?_
  refine x_sld hx hb hX hbl hbA (by omega) (by omega) (by omega) dL_law_430 ?_
  have hw := (hsim.2.2.2.2.2.2.2.2.2.2.2.1 f a g h2 ((xs (i + 1).toNat).toInt) hI (iI_ir _))
  refine x_fVi (n := 1) (st := []) (As := [.int (iI ((xs (i + 1).toNat).toInt))]) ⟨hx, hb, hml, hown, hts⟩ hK hN (m_X_trace (l := l) (D := D) (ad := ad) (cA := cA) hw) (x_cwV hts rfl rfl kcX_trace knX klL_70 kiX_trace keX_trace ⟨by decide, by decide, by decide +kernel⟩ ⟨by decide, by decide⟩) 0 rfl rfl [0, 1, 2, 3, 4, 5, 6, 7, 8, 9, 10, 11, 12, 13, 14, 15, 16, 17, 18, 19, 20, 21, 22, 23, 24, 25, 26, 27, 28, 29, 30, 31, 32, 33, 34] [0, 1, 2, 3, 4, 5, 6, 7, 8, 9, 10, 11, 12, 13, 14, 15, 16, 17, 18, 19, 20, 21, 22, 23, 24, 25, 26, 27, 28, 29, 30, 31, 32, 33, 34, 35, 36, 37, 38, 39, 40, 41] [42, 43, 44, 45, 46, 47, 48, 49, 50, 51, 52, 53, 54, 55, 56, 57, 58] (cm_K1 cA cB) (cm_C1 ad ad2 cA cB f a g h2) (cm_F1 ad ad2 cA cB f a g h2) cm_N1.1 (cm_R1 ad ad2 cA cB f a g h2) cm_N1.2 cm_D1 hA rfl (Nat.le_of_ble_eq_true rfl) ⟨by decide, by decide⟩ rfl dL_law_431 (fun z f1 a1 hw => ?_)
  refine x_aload_n hx hb dL_law_434 rfl 2 rfl ?_
  refine x_aload_n hx hb dL_law_435 rfl 0 rfl ?_
  refine x_iload_n hx hb dL_law_436 rfl 3 rfl ?_
  refine x_iconst hx hb dL_law_437 ?_
  refine x_iadd hx hb dL_law_438 ?_
  refine x_sld hx hb hX hbl hbA (by omega) (by omega) (by omega) dL_law_439 ?_
  refine x_fVi (n := 1) (st := [.int (iI z)]) (As := [.int (iI ((xs (i + 1).toNat).toInt))]) ⟨hx, hb, hml, hown, hts⟩ hK hN (m_M_trace (l := l) (D := D) (ad := ad2) (cA := cB) hw) (x_cwV hts rfl rfl kcM_trace knM klL_73 kiM_trace keM_trace ⟨by decide, by decide, by decide +kernel⟩ ⟨by decide, by decide⟩) 0 rfl rfl [35, 36, 37, 38, 39, 40, 41, 42, 43, 44, 45, 46, 47, 48, 49, 50] [0, 1, 2, 3, 4, 5, 6, 7, 8, 9, 10, 11, 12, 13, 14, 15, 16] [17, 18, 19, 20, 21, 22, 23, 24, 25, 26, 27, 28, 29, 30, 31, 32, 33, 34, 35, 36, 37, 38, 39, 40, 41, 42, 43, 44, 45, 46, 47, 48, 49, 50, 51, 52, 53, 54, 55, 56, 57, 58] (cm_K2 cA cB) (cm_C2 ad ad2 cA cB f1 a1 g h2) (cm_F2 ad ad2 cA cB f1 a1 g h2) cm_N2.1 (cm_R2 ad ad2 cA cB f1 a1 g h2) cm_N2.2 cm_D2 hA rfl (Nat.le_of_ble_eq_true rfl) ⟨by decide, by decide⟩ rfl dL_law_440 (fun z2 g1 b1 hw => ?_)
  obtain ⟨hz, hI1⟩ := hw
  refine x_eqT hx hb (tgt := 689) hz dL_law_443 (by decide) ?_
  refine x_iinc hx hb dL_law_689 3 rfl (by decide) (lv' := [(3, .int (iI (i + 4))), (0, .ref b), (1, .ref (ad 0 0)), (2, .ref (ad2 0 0))]) rfl ?_
  refine x_goto hx hb (tgt := 28) dL_law_692 (by decide) ?_
  refine x_sub [1, 2, 3, 0] rfl ?_
  exact ih (i + 4) f1 a1 g1 b1 hI1 (by omega) (by omega) (by omega)
set_option maxHeartbeats 4000000 in
set_option maxRecDepth 100000 in
theorem lc_12 {I : fS → aS → fS → aS → Prop} (hsim : xSim I) {p : Program} {l : Launch} {e : Env} {s : State} {m : MethodId} {below : List Frame} {meth : Method} {c : Code} {b L : Nat} {xs : Nat → Int32} {D : va_G} {ad ad2 : Nat → Nat → Nat} {cA cB : Nat → Nat → ClassId} (hx : p.tables.exec = Jvm.exec) (hb : c.code = code) (hr : meth.sig.returnType = ret) (hml : c.maxLocals = 4) (hown : s.vm.findClass RL = some m.cls) (hts : ∀ w ∈ Cond.static yL_cell :: xG, w.before #[Value.ref b] s = true) (hX : va_X b L xs s s.heap) (hbl : b < s.heap.size) (hlk : meth.locks = false) (hN : xN s) (hK : va_K D vwCl (taC cA ++ taM cB) s) (hL : L ≤ 2049) (n : Nat) (ih : ∀ (i : Int) (f : fS) (a : aS) (g : fS) (h2 : aS), I f a g h2 → 1 ≤ i → (L : Int) + 4 - i ≤ n → i ≤ (L : Int) + 4 → xV p l e room_1 s m #[Value.ref b] below meth c s.heap (fun q => s.heap.size ≤ q) 59 9428 (lw_Z below #[Value.ref b] s) D vwCl 4 (CW ad cA f a ++ MW ad2 cB g h2) [(0, .ref b), (1, .ref (ad 0 0)), (2, .ref (ad2 0 0)), (3, .int (iI i))] 28 []) (i : Int) (f : fS) (a : aS) (g : fS) (h2 : aS) (hI : I f a g h2) (h1 : 1 ≤ i) (h4 : (L : Int) + 4 - i ≤ n + 1) (hi : i ≤ (L : Int) - 4) : xV p l e room_1 s m #[Value.ref b] below meth c s.heap (fun q => s.heap.size ≤ q) 59 9428 (lw_Z below #[Value.ref b] s) D vwCl 4 (CW ad cA f a ++ MW ad2 cB g h2) [(0, .ref b), (1, .ref (ad 0 0)), (2, .ref (ad2 0 0)), (3, .int (iI i))] 448 [] := by
  have hbA : ¬ (fun q => s.heap.size ≤ q) b := by
    show ¬ s.heap.size ≤ b
    omega
  have hA : ∀ q, s.heap.size ≤ q → (fun q => s.heap.size ≤ q) q := fun q h => h
  refine x_aload_n hx hb dL_law_448 rfl 1 rfl ?_
  refine x_aload_n hx hb dL_law_449 rfl 0 rfl ?_
  refine x_iload_n hx hb dL_law_450 rfl 3 rfl ?_
  refine x_iconst hx hb dL_law_451 ?_
  refine x_iadd hx hb dL_law_452 ?_
  refine x_sld hx hb hX hbl hbA (by omega) (by omega) (by omega) dL_law_453 ?_
  refine x_aload_n hx hb dL_law_454 rfl 0 rfl ?_
  refine x_iload_n hx hb dL_law_455 rfl 3 rfl ?_
  refine x_iconst hx hb dL_law_456 ?_
  refine x_iadd hx hb dL_law_457 ?_
  refine x_sld hx hb hX hbl hbA (by omega) (by omega) (by omega) dL_law_458 ?_
  have hw := (hsim.2.2.2.2.2.2.2.2.2.2.2.2.1 f a g h2 ((xs (i + 1).toNat).toInt) ((xs (i + 2).toNat).toInt) hI (iI_ir _) (iI_ir _))
  refine x_fVi (n := 2) (st := []) (As := [.int (iI ((xs (i + 1).toNat).toInt)), .int (iI ((xs (i + 2).toNat).toInt))]) ⟨hx, hb, hml, hown, hts⟩ hK hN (m_X_written (l := l) (D := D) (ad := ad) (cA := cA) hw) (x_cwV hts rfl rfl kcX_written knX klL_74 kiX_written keX_written ⟨by decide, by decide, by decide +kernel⟩ ⟨by decide, by decide⟩) 0 rfl rfl [0, 1, 2, 3, 4, 5, 6, 7, 8, 9, 10, 11, 12, 13, 14, 15, 16, 17, 18, 19, 20, 21, 22, 23, 24, 25, 26, 27, 28, 29, 30, 31, 32, 33, 34] [0, 1, 2, 3, 4, 5, 6, 7, 8, 9, 10, 11, 12, 13, 14, 15, 16, 17, 18, 19, 20, 21, 22, 23, 24, 25, 26, 27, 28, 29, 30, 31, 32, 33, 34, 35, 36, 37, 38, 39, 40, 41] [42, 43, 44, 45, 46, 47, 48, 49, 50, 51, 52, 53, 54, 55, 56, 57, 58] (cm_K1 cA cB) (cm_C1 ad ad2 cA cB f a g h2) (cm_F1 ad ad2 cA cB f a g h2) cm_N1.1 (cm_R1 ad ad2 cA cB f a g h2) cm_N1.2 cm_D1 hA rfl (Nat.le_of_ble_eq_true rfl) ⟨by decide, by decide⟩ rfl dL_law_459 (fun z f1 a1 hw => ?_)
  refine x_aload_n hx hb dL_law_462 rfl 2 rfl ?_
  refine x_aload_n hx hb dL_law_463 rfl 0 rfl ?_
  refine x_iload_n hx hb dL_law_464 rfl 3 rfl ?_
  refine x_iconst hx hb dL_law_465 ?_
  refine x_iadd hx hb dL_law_466 ?_
  refine x_sld hx hb hX hbl hbA (by omega) (by omega) (by omega) dL_law_467 ?_
  refine x_aload_n hx hb dL_law_468 rfl 0 rfl ?_
  refine x_iload_n hx hb dL_law_469 rfl 3 rfl ?_
  refine x_iconst hx hb dL_law_470 ?_
  refine x_iadd hx hb dL_law_471 ?_
  refine x_sld hx hb hX hbl hbA (by omega) (by omega) (by omega) dL_law_472 ?_
  refine x_fVi (n := 2) (st := [.int (iI z)]) (As := [.int (iI ((xs (i + 1).toNat).toInt)), .int (iI ((xs (i + 2).toNat).toInt))]) ⟨hx, hb, hml, hown, hts⟩ hK hN (m_M_written (l := l) (D := D) (ad := ad2) (cA := cB) hw) (x_cwV hts rfl rfl kcM_written knM klL_77 kiM_written keM_written ⟨by decide, by decide, by decide +kernel⟩ ⟨by decide, by decide⟩) 0 rfl rfl [35, 36, 37, 38, 39, 40, 41, 42, 43, 44, 45, 46, 47, 48, 49, 50] [0, 1, 2, 3, 4, 5, 6, 7, 8, 9, 10, 11, 12, 13, 14, 15, 16] [17, 18, 19, 20, 21, 22, 23, 24, 25, 26, 27, 28, 29, 30, 31, 32, 33, 34, 35, 36, 37, 38, 39, 40, 41, 42, 43, 44, 45, 46, 47, 48, 49, 50, 51, 52, 53, 54, 55, 56, 57, 58] (cm_K2 cA cB) (cm_C2 ad ad2 cA cB f1 a1 g h2) (cm_F2 ad ad2 cA cB f1 a1 g h2) cm_N2.1 (cm_R2 ad ad2 cA cB f1 a1 g h2) cm_N2.2 cm_D2 hA rfl (Nat.le_of_ble_eq_true rfl) ⟨by decide, by decide⟩ rfl dL_law_473 (fun z2 g1 b1 hw => ?_)
  obtain ⟨hz, hI1⟩ := hw
  refine x_eqT hx hb (tgt := 689) hz dL_law_476 (by decide) ?_
  refine x_iinc hx hb dL_law_689 3 rfl (by decide) (lv' := [(3, .int (iI (i + 4))), (0, .ref b), (1, .ref (ad 0 0)), (2, .ref (ad2 0 0))]) rfl ?_
  refine x_goto hx hb (tgt := 28) dL_law_692 (by decide) ?_
  refine x_sub [1, 2, 3, 0] rfl ?_
  exact ih (i + 4) f1 a1 g1 b1 hI1 (by omega) (by omega) (by omega)
set_option maxHeartbeats 4000000 in
set_option maxRecDepth 100000 in
theorem lc_13 {I : fS → aS → fS → aS → Prop} (hsim : xSim I) {p : Program} {l : Launch} {e : Env} {s : State} {m : MethodId} {below : List Frame} {meth : Method} {c : Code} {b L : Nat} {xs : Nat → Int32} {D : va_G} {ad ad2 : Nat → Nat → Nat} {cA cB : Nat → Nat → ClassId} (hx : p.tables.exec = Jvm.exec) (hb : c.code = code) (hr : meth.sig.returnType = ret) (hml : c.maxLocals = 4) (hown : s.vm.findClass RL = some m.cls) (hts : ∀ w ∈ Cond.static yL_cell :: xG, w.before #[Value.ref b] s = true) (hX : va_X b L xs s s.heap) (hbl : b < s.heap.size) (hlk : meth.locks = false) (hN : xN s) (hK : va_K D vwCl (taC cA ++ taM cB) s) (hL : L ≤ 2049) (n : Nat) (ih : ∀ (i : Int) (f : fS) (a : aS) (g : fS) (h2 : aS), I f a g h2 → 1 ≤ i → (L : Int) + 4 - i ≤ n → i ≤ (L : Int) + 4 → xV p l e room_1 s m #[Value.ref b] below meth c s.heap (fun q => s.heap.size ≤ q) 59 9428 (lw_Z below #[Value.ref b] s) D vwCl 4 (CW ad cA f a ++ MW ad2 cB g h2) [(0, .ref b), (1, .ref (ad 0 0)), (2, .ref (ad2 0 0)), (3, .int (iI i))] 28 []) (i : Int) (f : fS) (a : aS) (g : fS) (h2 : aS) (hI : I f a g h2) (h1 : 1 ≤ i) (h4 : (L : Int) + 4 - i ≤ n + 1) (hi : i ≤ (L : Int) - 4) : xV p l e room_1 s m #[Value.ref b] below meth c s.heap (fun q => s.heap.size ≤ q) 59 9428 (lw_Z below #[Value.ref b] s) D vwCl 4 (CW ad cA f a ++ MW ad2 cB g h2) [(0, .ref b), (1, .ref (ad 0 0)), (2, .ref (ad2 0 0)), (3, .int (iI i))] 481 [] := by
  have hbA : ¬ (fun q => s.heap.size ≤ q) b := by
    show ¬ s.heap.size ≤ b
    omega
  have hA : ∀ q, s.heap.size ≤ q → (fun q => s.heap.size ≤ q) q := fun q h => h
  refine x_aload_n hx hb dL_law_481 rfl 1 rfl ?_
  refine x_aload_n hx hb dL_law_482 rfl 0 rfl ?_
  refine x_iload_n hx hb dL_law_483 rfl 3 rfl ?_
  refine x_iconst hx hb dL_law_484 ?_
  refine x_iadd hx hb dL_law_485 ?_
  refine x_sld hx hb hX hbl hbA (by omega) (by omega) (by omega) dL_law_486 ?_
  refine x_aload_n hx hb dL_law_487 rfl 0 rfl ?_
  refine x_iload_n hx hb dL_law_488 rfl 3 rfl ?_
  refine x_iconst hx hb dL_law_489 ?_
  refine x_iadd hx hb dL_law_490 ?_
  refine x_sld hx hb hX hbl hbA (by omega) (by omega) (by omega) dL_law_491 ?_
  have hw := (hsim.2.2.2.2.2.2.2.2.2.2.2.2.2.1 f a g h2 ((xs (i + 1).toNat).toInt) ((xs (i + 2).toNat).toInt) hI (iI_ir _) (iI_ir _))
  refine x_fVi (n := 2) (st := []) (As := [.int (iI ((xs (i + 1).toNat).toInt)), .int (iI ((xs (i + 2).toNat).toInt))]) ⟨hx, hb, hml, hown, hts⟩ hK hN (m_X_length (l := l) (D := D) (ad := ad) (cA := cA) hw) (x_cwV hts rfl rfl kcX_length knX klL_78 kiX_length keX_length ⟨by decide, by decide, by decide +kernel⟩ ⟨by decide, by decide⟩) 0 rfl rfl [0, 1, 2, 3, 4, 5, 6, 7, 8, 9, 10, 11, 12, 13, 14, 15, 16, 17, 18, 19, 20, 21, 22, 23, 24, 25, 26, 27, 28, 29, 30, 31, 32, 33, 34] [0, 1, 2, 3, 4, 5, 6, 7, 8, 9, 10, 11, 12, 13, 14, 15, 16, 17, 18, 19, 20, 21, 22, 23, 24, 25, 26, 27, 28, 29, 30, 31, 32, 33, 34, 35, 36, 37, 38, 39, 40, 41] [42, 43, 44, 45, 46, 47, 48, 49, 50, 51, 52, 53, 54, 55, 56, 57, 58] (cm_K1 cA cB) (cm_C1 ad ad2 cA cB f a g h2) (cm_F1 ad ad2 cA cB f a g h2) cm_N1.1 (cm_R1 ad ad2 cA cB f a g h2) cm_N1.2 cm_D1 hA rfl (Nat.le_of_ble_eq_true rfl) ⟨by decide, by decide⟩ rfl dL_law_492 (fun z f1 a1 hw => ?_)
  refine x_aload_n hx hb dL_law_495 rfl 2 rfl ?_
  refine x_aload_n hx hb dL_law_496 rfl 0 rfl ?_
  refine x_iload_n hx hb dL_law_497 rfl 3 rfl ?_
  refine x_iconst hx hb dL_law_498 ?_
  refine x_iadd hx hb dL_law_499 ?_
  refine x_sld hx hb hX hbl hbA (by omega) (by omega) (by omega) dL_law_500 ?_
  refine x_aload_n hx hb dL_law_501 rfl 0 rfl ?_
  refine x_iload_n hx hb dL_law_502 rfl 3 rfl ?_
  refine x_iconst hx hb dL_law_503 ?_
  refine x_iadd hx hb dL_law_504 ?_
  refine x_sld hx hb hX hbl hbA (by omega) (by omega) (by omega) dL_law_505 ?_
  refine x_fVi (n := 2) (st := [.int (iI z)]) (As := [.int (iI ((xs (i + 1).toNat).toInt)), .int (iI ((xs (i + 2).toNat).toInt))]) ⟨hx, hb, hml, hown, hts⟩ hK hN (m_M_length (l := l) (D := D) (ad := ad2) (cA := cB) hw) (x_cwV hts rfl rfl kcM_length knM klL_81 kiM_length keM_length ⟨by decide, by decide, by decide +kernel⟩ ⟨by decide, by decide⟩) 0 rfl rfl [35, 36, 37, 38, 39, 40, 41, 42, 43, 44, 45, 46, 47, 48, 49, 50] [0, 1, 2, 3, 4, 5, 6, 7, 8, 9, 10, 11, 12, 13, 14, 15, 16] [17, 18, 19, 20, 21, 22, 23, 24, 25, 26, 27, 28, 29, 30, 31, 32, 33, 34, 35, 36, 37, 38, 39, 40, 41, 42, 43, 44, 45, 46, 47, 48, 49, 50, 51, 52, 53, 54, 55, 56, 57, 58] (cm_K2 cA cB) (cm_C2 ad ad2 cA cB f1 a1 g h2) (cm_F2 ad ad2 cA cB f1 a1 g h2) cm_N2.1 (cm_R2 ad ad2 cA cB f1 a1 g h2) cm_N2.2 cm_D2 hA rfl (Nat.le_of_ble_eq_true rfl) ⟨by decide, by decide⟩ rfl dL_law_506 (fun z2 g1 b1 hw => ?_)
  obtain ⟨hz, hI1⟩ := hw
  refine x_eqT hx hb (tgt := 689) hz dL_law_509 (by decide) ?_
  refine x_iinc hx hb dL_law_689 3 rfl (by decide) (lv' := [(3, .int (iI (i + 4))), (0, .ref b), (1, .ref (ad 0 0)), (2, .ref (ad2 0 0))]) rfl ?_
  refine x_goto hx hb (tgt := 28) dL_law_692 (by decide) ?_
  refine x_sub [1, 2, 3, 0] rfl ?_
  exact ih (i + 4) f1 a1 g1 b1 hI1 (by omega) (by omega) (by omega)
set_option maxHeartbeats 4000000 in
set_option maxRecDepth 100000 in
theorem lc_14 {I : fS → aS → fS → aS → Prop} (hsim : xSim I) {p : Program} {l : Launch} {e : Env} {s : State} {m : MethodId} {below : List Frame} {meth : Method} {c : Code} {b L : Nat} {xs : Nat → Int32} {D : va_G} {ad ad2 : Nat → Nat → Nat} {cA cB : Nat → Nat → ClassId} (hx : p.tables.exec = Jvm.exec) (hb : c.code = code) (hr : meth.sig.returnType = ret) (hml : c.maxLocals = 4) (hown : s.vm.findClass RL = some m.cls) (hts : ∀ w ∈ Cond.static yL_cell :: xG, w.before #[Value.ref b] s = true) (hX : va_X b L xs s s.heap) (hbl : b < s.heap.size) (hlk : meth.locks = false) (hN : xN s) (hK : va_K D vwCl (taC cA ++ taM cB) s) (hL : L ≤ 2049) (n : Nat) (ih : ∀ (i : Int) (f : fS) (a : aS) (g : fS) (h2 : aS), I f a g h2 → 1 ≤ i → (L : Int) + 4 - i ≤ n → i ≤ (L : Int) + 4 → xV p l e room_1 s m #[Value.ref b] below meth c s.heap (fun q => s.heap.size ≤ q) 59 9428 (lw_Z below #[Value.ref b] s) D vwCl 4 (CW ad cA f a ++ MW ad2 cB g h2) [(0, .ref b), (1, .ref (ad 0 0)), (2, .ref (ad2 0 0)), (3, .int (iI i))] 28 []) (i : Int) (f : fS) (a : aS) (g : fS) (h2 : aS) (hI : I f a g h2) (h1 : 1 ≤ i) (h4 : (L : Int) + 4 - i ≤ n + 1) (hi : i ≤ (L : Int) - 4) : xV p l e room_1 s m #[Value.ref b] below meth c s.heap (fun q => s.heap.size ≤ q) 59 9428 (lw_Z below #[Value.ref b] s) D vwCl 4 (CW ad cA f a ++ MW ad2 cB g h2) [(0, .ref b), (1, .ref (ad 0 0)), (2, .ref (ad2 0 0)), (3, .int (iI i))] 514 [] := by
  have hbA : ¬ (fun q => s.heap.size ≤ q) b := by
    show ¬ s.heap.size ≤ b
    omega
  have hA : ∀ q, s.heap.size ≤ q → (fun q => s.heap.size ≤ q) q := fun q h => h
  refine x_aload_n hx hb dL_law_514 rfl 1 rfl ?_
  refine x_aload_n hx hb dL_law_515 rfl 0 rfl ?_
  refine x_iload_n hx hb dL_law_516 rfl 3 rfl ?_
  refine x_iconst hx hb dL_law_517 ?_
  refine x_iadd hx hb dL_law_518 ?_
  refine x_sld hx hb hX hbl hbA (by omega) (by omega) (by omega) dL_law_519 ?_
  refine x_aload_n hx hb dL_law_520 rfl 0 rfl ?_
  refine x_iload_n hx hb dL_law_521 rfl 3 rfl ?_
  refine x_iconst hx hb dL_law_522 ?_
  refine x_iadd hx hb dL_law_523 ?_
  refine x_sld hx hb hX hbl hbA (by omega) (by omega) (by omega) dL_law_524 ?_
  refine x_aload_n hx hb dL_law_525 rfl 0 rfl ?_
  refine x_iload_n hx hb dL_law_526 rfl 3 rfl ?_
  refine x_iconst hx hb dL_law_527 ?_
  refine x_iadd hx hb dL_law_528 ?_
  refine x_sld hx hb hX hbl hbA (by omega) (by omega) (by omega) dL_law_529 ?_
  have hw := (hsim.2.2.2.2.2.2.2.2.2.2.2.2.2.2.1 f a g h2 ((xs (i + 1).toNat).toInt) ((xs (i + 2).toNat).toInt) ((xs (i + 3).toNat).toInt) hI (iI_ir _) (iI_ir _) (iI_ir _))
  refine x_fVi (n := 3) (st := []) (As := [.int (iI ((xs (i + 1).toNat).toInt)), .int (iI ((xs (i + 2).toNat).toInt)), .int (iI ((xs (i + 3).toNat).toInt))]) ⟨hx, hb, hml, hown, hts⟩ hK hN (m_X_basis (l := l) (D := D) (ad := ad) (cA := cA) hw) (x_cwV hts rfl rfl kcX_basis knX klL_82 kiX_basis keX_basis ⟨by decide, by decide, by decide +kernel⟩ ⟨by decide, by decide⟩) 0 rfl rfl [0, 1, 2, 3, 4, 5, 6, 7, 8, 9, 10, 11, 12, 13, 14, 15, 16, 17, 18, 19, 20, 21, 22, 23, 24, 25, 26, 27, 28, 29, 30, 31, 32, 33, 34] [0, 1, 2, 3, 4, 5, 6, 7, 8, 9, 10, 11, 12, 13, 14, 15, 16, 17, 18, 19, 20, 21, 22, 23, 24, 25, 26, 27, 28, 29, 30, 31, 32, 33, 34, 35, 36, 37, 38, 39, 40, 41] [42, 43, 44, 45, 46, 47, 48, 49, 50, 51, 52, 53, 54, 55, 56, 57, 58] (cm_K1 cA cB) (cm_C1 ad ad2 cA cB f a g h2) (cm_F1 ad ad2 cA cB f a g h2) cm_N1.1 (cm_R1 ad ad2 cA cB f a g h2) cm_N1.2 cm_D1 hA rfl (Nat.le_of_ble_eq_true rfl) ⟨by decide, by decide⟩ rfl dL_law_530 (fun z f1 a1 hw => ?_)
  refine x_aload_n hx hb dL_law_533 rfl 2 rfl ?_
  refine x_aload_n hx hb dL_law_534 rfl 0 rfl ?_
  refine x_iload_n hx hb dL_law_535 rfl 3 rfl ?_
  refine x_iconst hx hb dL_law_536 ?_
  refine x_iadd hx hb dL_law_537 ?_
  refine x_sld hx hb hX hbl hbA (by omega) (by omega) (by omega) dL_law_538 ?_
  refine x_aload_n hx hb dL_law_539 rfl 0 rfl ?_
  refine x_iload_n hx hb dL_law_540 rfl 3 rfl ?_
  refine x_iconst hx hb dL_law_541 ?_
  refine x_iadd hx hb dL_law_542 ?_
  refine x_sld hx hb hX hbl hbA (by omega) (by omega) (by omega) dL_law_543 ?_
  refine x_aload_n hx hb dL_law_544 rfl 0 rfl ?_
  refine x_iload_n hx hb dL_law_545 rfl 3 rfl ?_
  refine x_iconst hx hb dL_law_546 ?_
  refine x_iadd hx hb dL_law_547 ?_
  refine x_sld hx hb hX hbl hbA (by omega) (by omega) (by omega) dL_law_548 ?_
  refine x_fVi (n := 3) (st := [.int (iI z)]) (As := [.int (iI ((xs (i + 1).toNat).toInt)), .int (iI ((xs (i + 2).toNat).toInt)), .int (iI ((xs (i + 3).toNat).toInt))]) ⟨hx, hb, hml, hown, hts⟩ hK hN (m_M_basis (l := l) (D := D) (ad := ad2) (cA := cB) hw) (x_cwV hts rfl rfl kcM_basis knM klL_85 kiM_basis keM_basis ⟨by decide, by decide, by decide +kernel⟩ ⟨by decide, by decide⟩) 0 rfl rfl [35, 36, 37, 38, 39, 40, 41, 42, 43, 44, 45, 46, 47, 48, 49, 50] [0, 1, 2, 3, 4, 5, 6, 7, 8, 9, 10, 11, 12, 13, 14, 15, 16] [17, 18, 19, 20, 21, 22, 23, 24, 25, 26, 27, 28, 29, 30, 31, 32, 33, 34, 35, 36, 37, 38, 39, 40, 41, 42, 43, 44, 45, 46, 47, 48, 49, 50, 51, 52, 53, 54, 55, 56, 57, 58] (cm_K2 cA cB) (cm_C2 ad ad2 cA cB f1 a1 g h2) (cm_F2 ad ad2 cA cB f1 a1 g h2) cm_N2.1 (cm_R2 ad ad2 cA cB f1 a1 g h2) cm_N2.2 cm_D2 hA rfl (Nat.le_of_ble_eq_true rfl) ⟨by decide, by decide⟩ rfl dL_law_549 (fun z2 g1 b1 hw => ?_)
  obtain ⟨hz, hI1⟩ := hw
  refine x_eqT hx hb (tgt := 689) hz dL_law_552 (by decide) ?_
  refine x_iinc hx hb dL_law_689 3 rfl (by decide) (lv' := [(3, .int (iI (i + 4))), (0, .ref b), (1, .ref (ad 0 0)), (2, .ref (ad2 0 0))]) rfl ?_
  refine x_goto hx hb (tgt := 28) dL_law_692 (by decide) ?_
  refine x_sub [1, 2, 3, 0] rfl ?_
  exact ih (i + 4) f1 a1 g1 b1 hI1 (by omega) (by omega) (by omega)
set_option maxHeartbeats 4000000 in
set_option maxRecDepth 100000 in
theorem lc_15 {I : fS → aS → fS → aS → Prop} (hsim : xSim I) {p : Program} {l : Launch} {e : Env} {s : State} {m : MethodId} {below : List Frame} {meth : Method} {c : Code} {b L : Nat} {xs : Nat → Int32} {D : va_G} {ad ad2 : Nat → Nat → Nat} {cA cB : Nat → Nat → ClassId} (hx : p.tables.exec = Jvm.exec) (hb : c.code = code) (hr : meth.sig.returnType = ret) (hml : c.maxLocals = 4) (hown : s.vm.findClass RL = some m.cls) (hts : ∀ w ∈ Cond.static yL_cell :: xG, w.before #[Value.ref b] s = true) (hX : va_X b L xs s s.heap) (hbl : b < s.heap.size) (hlk : meth.locks = false) (hN : xN s) (hK : va_K D vwCl (taC cA ++ taM cB) s) (hL : L ≤ 2049) (n : Nat) (ih : ∀ (i : Int) (f : fS) (a : aS) (g : fS) (h2 : aS), I f a g h2 → 1 ≤ i → (L : Int) + 4 - i ≤ n → i ≤ (L : Int) + 4 → xV p l e room_1 s m #[Value.ref b] below meth c s.heap (fun q => s.heap.size ≤ q) 59 9428 (lw_Z below #[Value.ref b] s) D vwCl 4 (CW ad cA f a ++ MW ad2 cB g h2) [(0, .ref b), (1, .ref (ad 0 0)), (2, .ref (ad2 0 0)), (3, .int (iI i))] 28 []) (i : Int) (f : fS) (a : aS) (g : fS) (h2 : aS) (hI : I f a g h2) (h1 : 1 ≤ i) (h4 : (L : Int) + 4 - i ≤ n + 1) (hi : i ≤ (L : Int) - 4) : xV p l e room_1 s m #[Value.ref b] below meth c s.heap (fun q => s.heap.size ≤ q) 59 9428 (lw_Z below #[Value.ref b] s) D vwCl 4 (CW ad cA f a ++ MW ad2 cB g h2) [(0, .ref b), (1, .ref (ad 0 0)), (2, .ref (ad2 0 0)), (3, .int (iI i))] 557 [] := by
  have hbA : ¬ (fun q => s.heap.size ≤ q) b := by
    show ¬ s.heap.size ≤ b
    omega
  have hA : ∀ q, s.heap.size ≤ q → (fun q => s.heap.size ≤ q) q := fun q h => h
  refine x_aload_n hx hb dL_law_557 rfl 1 rfl ?_
  refine x_aload_n hx hb dL_law_558 rfl 0 rfl ?_
  refine x_iload_n hx hb dL_law_559 rfl 3 rfl ?_
  refine x_iconst hx hb dL_law_560 ?_
  refine x_iadd hx hb dL_law_561 ?_
  refine x_sld hx hb hX hbl hbA (by omega) (by omega) (by omega) dL_law_562 ?_
  refine x_aload_n hx hb dL_law_563 rfl 0 rfl ?_
  refine x_iload_n hx hb dL_law_564 rfl 3 rfl ?_
  refine x_iconst hx hb dL_law_565 ?_
  refine x_iadd hx hb dL_law_566 ?_
  refine x_sld hx hb hX hbl hbA (by omega) (by omega) (by omega) dL_law_567 ?_
  refine x_aload_n hx hb dL_law_568 rfl 0 rfl ?_
  refine x_iload_n hx hb dL_law_569 rfl 3 rfl ?_
  refine x_iconst hx hb dL_law_570 ?_
  refine x_iadd hx hb dL_law_571 ?_
  refine x_sld hx hb hX hbl hbA (by omega) (by omega) (by omega) dL_law_572 ?_
  have hw := (hsim.2.2.2.2.2.2.2.2.2.2.2.2.2.2.2.1 f a g h2 ((xs (i + 1).toNat).toInt) ((xs (i + 2).toNat).toInt) ((xs (i + 3).toNat).toInt) hI (iI_ir _) (iI_ir _) (iI_ir _))
  refine x_fVi (n := 3) (st := []) (As := [.int (iI ((xs (i + 1).toNat).toInt)), .int (iI ((xs (i + 2).toNat).toInt)), .int (iI ((xs (i + 3).toNat).toInt))]) ⟨hx, hb, hml, hown, hts⟩ hK hN (m_X_target (l := l) (D := D) (ad := ad) (cA := cA) hw) (x_cwV hts rfl rfl kcX_target knX klL_86 kiX_target keX_target ⟨by decide, by decide, by decide +kernel⟩ ⟨by decide, by decide⟩) 0 rfl rfl [0, 1, 2, 3, 4, 5, 6, 7, 8, 9, 10, 11, 12, 13, 14, 15, 16, 17, 18, 19, 20, 21, 22, 23, 24, 25, 26, 27, 28, 29, 30, 31, 32, 33, 34] [0, 1, 2, 3, 4, 5, 6, 7, 8, 9, 10, 11, 12, 13, 14, 15, 16, 17, 18, 19, 20, 21, 22, 23, 24, 25, 26, 27, 28, 29, 30, 31, 32, 33, 34, 35, 36, 37, 38, 39, 40, 41] [42, 43, 44, 45, 46, 47, 48, 49, 50, 51, 52, 53, 54, 55, 56, 57, 58] (cm_K1 cA cB) (cm_C1 ad ad2 cA cB f a g h2) (cm_F1 ad ad2 cA cB f a g h2) cm_N1.1 (cm_R1 ad ad2 cA cB f a g h2) cm_N1.2 cm_D1 hA rfl (Nat.le_of_ble_eq_true rfl) ⟨by decide, by decide⟩ rfl dL_law_573 (fun z f1 a1 hw => ?_)
  refine x_aload_n hx hb dL_law_576 rfl 2 rfl ?_
  refine x_aload_n hx hb dL_law_577 rfl 0 rfl ?_
  refine x_iload_n hx hb dL_law_578 rfl 3 rfl ?_
  refine x_iconst hx hb dL_law_579 ?_
  refine x_iadd hx hb dL_law_580 ?_
  refine x_sld hx hb hX hbl hbA (by omega) (by omega) (by omega) dL_law_581 ?_
  refine x_aload_n hx hb dL_law_582 rfl 0 rfl ?_
  refine x_iload_n hx hb dL_law_583 rfl 3 rfl ?_
  refine x_iconst hx hb dL_law_584 ?_
  refine x_iadd hx hb dL_law_585 ?_
  refine x_sld hx hb hX hbl hbA (by omega) (by omega) (by omega) dL_law_586 ?_
  refine x_aload_n hx hb dL_law_587 rfl 0 rfl ?_
  refine x_iload_n hx hb dL_law_588 rfl 3 rfl ?_
  refine x_iconst hx hb dL_law_589 ?_
  refine x_iadd hx hb dL_law_590 ?_
  refine x_sld hx hb hX hbl hbA (by omega) (by omega) (by omega) dL_law_591 ?_
  refine x_fVi (n := 3) (st := [.int (iI z)]) (As := [.int (iI ((xs (i + 1).toNat).toInt)), .int (iI ((xs (i + 2).toNat).toInt)), .int (iI ((xs (i + 3).toNat).toInt))]) ⟨hx, hb, hml, hown, hts⟩ hK hN (m_M_target (l := l) (D := D) (ad := ad2) (cA := cB) hw) (x_cwV hts rfl rfl kcM_target knM klL_89 kiM_target keM_target ⟨by decide, by decide, by decide +kernel⟩ ⟨by decide, by decide⟩) 0 rfl rfl [35, 36, 37, 38, 39, 40, 41, 42, 43, 44, 45, 46, 47, 48, 49, 50] [0, 1, 2, 3, 4, 5, 6, 7, 8, 9, 10, 11, 12, 13, 14, 15, 16] [17, 18, 19, 20, 21, 22, 23, 24, 25, 26, 27, 28, 29, 30, 31, 32, 33, 34, 35, 36, 37, 38, 39, 40, 41, 42, 43, 44, 45, 46, 47, 48, 49, 50, 51, 52, 53, 54, 55, 56, 57, 58] (cm_K2 cA cB) (cm_C2 ad ad2 cA cB f1 a1 g h2) (cm_F2 ad ad2 cA cB f1 a1 g h2) cm_N2.1 (cm_R2 ad ad2 cA cB f1 a1 g h2) cm_N2.2 cm_D2 hA rfl (Nat.le_of_ble_eq_true rfl) ⟨by decide, by decide⟩ rfl dL_law_592 (fun z2 g1 b1 hw => ?_)
  obtain ⟨hz, hI1⟩ := hw
  refine x_eqT hx hb (tgt := 689) hz dL_law_595 (by decide) ?_
  refine x_iinc hx hb dL_law_689 3 rfl (by decide) (lv' := [(3, .int (iI (i + 4))), (0, .ref b), (1, .ref (ad 0 0)), (2, .ref (ad2 0 0))]) rfl ?_
  refine x_goto hx hb (tgt := 28) dL_law_692 (by decide) ?_
  refine x_sub [1, 2, 3, 0] rfl ?_
  exact ih (i + 4) f1 a1 g1 b1 hI1 (by omega) (by omega) (by omega)
set_option maxHeartbeats 4000000 in
set_option maxRecDepth 100000 in
theorem lc_16 {I : fS → aS → fS → aS → Prop} (hsim : xSim I) {p : Program} {l : Launch} {e : Env} {s : State} {m : MethodId} {below : List Frame} {meth : Method} {c : Code} {b L : Nat} {xs : Nat → Int32} {D : va_G} {ad ad2 : Nat → Nat → Nat} {cA cB : Nat → Nat → ClassId} (hx : p.tables.exec = Jvm.exec) (hb : c.code = code) (hr : meth.sig.returnType = ret) (hml : c.maxLocals = 4) (hown : s.vm.findClass RL = some m.cls) (hts : ∀ w ∈ Cond.static yL_cell :: xG, w.before #[Value.ref b] s = true) (hX : va_X b L xs s s.heap) (hbl : b < s.heap.size) (hlk : meth.locks = false) (hN : xN s) (hK : va_K D vwCl (taC cA ++ taM cB) s) (hL : L ≤ 2049) (n : Nat) (ih : ∀ (i : Int) (f : fS) (a : aS) (g : fS) (h2 : aS), I f a g h2 → 1 ≤ i → (L : Int) + 4 - i ≤ n → i ≤ (L : Int) + 4 → xV p l e room_1 s m #[Value.ref b] below meth c s.heap (fun q => s.heap.size ≤ q) 59 9428 (lw_Z below #[Value.ref b] s) D vwCl 4 (CW ad cA f a ++ MW ad2 cB g h2) [(0, .ref b), (1, .ref (ad 0 0)), (2, .ref (ad2 0 0)), (3, .int (iI i))] 28 []) (i : Int) (f : fS) (a : aS) (g : fS) (h2 : aS) (hI : I f a g h2) (h1 : 1 ≤ i) (h4 : (L : Int) + 4 - i ≤ n + 1) (hi : i ≤ (L : Int) - 4) : xV p l e room_1 s m #[Value.ref b] below meth c s.heap (fun q => s.heap.size ≤ q) 59 9428 (lw_Z below #[Value.ref b] s) D vwCl 4 (CW ad cA f a ++ MW ad2 cB g h2) [(0, .ref b), (1, .ref (ad 0 0)), (2, .ref (ad2 0 0)), (3, .int (iI i))] 600 [] := by
  have hbA : ¬ (fun q => s.heap.size ≤ q) b := by
    show ¬ s.heap.size ≤ b
    omega
  have hA : ∀ q, s.heap.size ≤ q → (fun q => s.heap.size ≤ q) q := fun q h => h
  refine x_aload_n hx hb dL_law_600 rfl 1 rfl ?_
  refine x_aload_n hx hb dL_law_601 rfl 0 rfl ?_
  refine x_iload_n hx hb dL_law_602 rfl 3 rfl ?_
  refine x_iconst hx hb dL_law_603 ?_
  refine x_iadd hx hb dL_law_604 ?_
  refine x_sld hx hb hX hbl hbA (by omega) (by omega) (by omega) dL_law_605 ?_
  refine x_aload_n hx hb dL_law_606 rfl 0 rfl ?_
  refine x_iload_n hx hb dL_law_607 rfl 3 rfl ?_
  refine x_iconst hx hb dL_law_608 ?_
  refine x_iadd hx hb dL_law_609 ?_
  refine x_sld hx hb hX hbl hbA (by omega) (by omega) (by omega) dL_law_610 ?_
  have hw := (hsim.2.2.2.2.2.2.2.2.2.2.2.2.2.2.2.2.1 f a g h2 ((xs (i + 1).toNat).toInt) ((xs (i + 2).toNat).toInt) hI (iI_ir _) (iI_ir _))
  refine x_fVi (n := 2) (st := []) (As := [.int (iI ((xs (i + 1).toNat).toInt)), .int (iI ((xs (i + 2).toNat).toInt))]) ⟨hx, hb, hml, hown, hts⟩ hK hN (m_X_figure (l := l) (D := D) (ad := ad) (cA := cA) hw) (x_cwV hts rfl rfl kcX_figure knX klL_90 kiX_figure keX_figure ⟨by decide, by decide, by decide +kernel⟩ ⟨by decide, by decide⟩) 0 rfl rfl [0, 1, 2, 3, 4, 5, 6, 7, 8, 9, 10, 11, 12, 13, 14, 15, 16, 17, 18, 19, 20, 21, 22, 23, 24, 25, 26, 27, 28, 29, 30, 31, 32, 33, 34] [0, 1, 2, 3, 4, 5, 6, 7, 8, 9, 10, 11, 12, 13, 14, 15, 16, 17, 18, 19, 20, 21, 22, 23, 24, 25, 26, 27, 28, 29, 30, 31, 32, 33, 34, 35, 36, 37, 38, 39, 40, 41] [42, 43, 44, 45, 46, 47, 48, 49, 50, 51, 52, 53, 54, 55, 56, 57, 58] (cm_K1 cA cB) (cm_C1 ad ad2 cA cB f a g h2) (cm_F1 ad ad2 cA cB f a g h2) cm_N1.1 (cm_R1 ad ad2 cA cB f a g h2) cm_N1.2 cm_D1 hA rfl (Nat.le_of_ble_eq_true rfl) ⟨by decide, by decide⟩ rfl dL_law_611 (fun z f1 a1 hw => ?_)
  refine x_aload_n hx hb dL_law_614 rfl 2 rfl ?_
  refine x_aload_n hx hb dL_law_615 rfl 0 rfl ?_
  refine x_iload_n hx hb dL_law_616 rfl 3 rfl ?_
  refine x_iconst hx hb dL_law_617 ?_
  refine x_iadd hx hb dL_law_618 ?_
  refine x_sld hx hb hX hbl hbA (by omega) (by omega) (by omega) dL_law_619 ?_
  refine x_aload_n hx hb dL_law_620 rfl 0 rfl ?_
  refine x_iload_n hx hb dL_law_621 rfl 3 rfl ?_
  refine x_iconst hx hb dL_law_622 ?_
  refine x_iadd hx hb dL_law_623 ?_
  refine x_sld hx hb hX hbl hbA (by omega) (by omega) (by omega) dL_law_624 ?_
  refine x_fVi (n := 2) (st := [.int (iI z)]) (As := [.int (iI ((xs (i + 1).toNat).toInt)), .int (iI ((xs (i + 2).toNat).toInt))]) ⟨hx, hb, hml, hown, hts⟩ hK hN (m_M_figure (l := l) (D := D) (ad := ad2) (cA := cB) hw) (x_cwV hts rfl rfl kcM_figure knM klL_93 kiM_figure keM_figure ⟨by decide, by decide, by decide +kernel⟩ ⟨by decide, by decide⟩) 0 rfl rfl [35, 36, 37, 38, 39, 40, 41, 42, 43, 44, 45, 46, 47, 48, 49, 50] [0, 1, 2, 3, 4, 5, 6, 7, 8, 9, 10, 11, 12, 13, 14, 15, 16] [17, 18, 19, 20, 21, 22, 23, 24, 25, 26, 27, 28, 29, 30, 31, 32, 33, 34, 35, 36, 37, 38, 39, 40, 41, 42, 43, 44, 45, 46, 47, 48, 49, 50, 51, 52, 53, 54, 55, 56, 57, 58] (cm_K2 cA cB) (cm_C2 ad ad2 cA cB f1 a1 g h2) (cm_F2 ad ad2 cA cB f1 a1 g h2) cm_N2.1 (cm_R2 ad ad2 cA cB f1 a1 g h2) cm_N2.2 cm_D2 hA rfl (Nat.le_of_ble_eq_true rfl) ⟨by decide, by decide⟩ rfl dL_law_625 (fun z2 g1 b1 hw => ?_)
  obtain ⟨hz, hI1⟩ := hw
  refine x_eqT hx hb (tgt := 689) hz dL_law_628 (by decide) ?_
  refine x_iinc hx hb dL_law_689 3 rfl (by decide) (lv' := [(3, .int (iI (i + 4))), (0, .ref b), (1, .ref (ad 0 0)), (2, .ref (ad2 0 0))]) rfl ?_
  refine x_goto hx hb (tgt := 28) dL_law_692 (by decide) ?_
  refine x_sub [1, 2, 3, 0] rfl ?_
  exact ih (i + 4) f1 a1 g1 b1 hI1 (by omega) (by omega) (by omega)
set_option maxHeartbeats 4000000 in
set_option maxRecDepth 100000 in
theorem lc_17 {I : fS → aS → fS → aS → Prop} (hsim : xSim I) {p : Program} {l : Launch} {e : Env} {s : State} {m : MethodId} {below : List Frame} {meth : Method} {c : Code} {b L : Nat} {xs : Nat → Int32} {D : va_G} {ad ad2 : Nat → Nat → Nat} {cA cB : Nat → Nat → ClassId} (hx : p.tables.exec = Jvm.exec) (hb : c.code = code) (hr : meth.sig.returnType = ret) (hml : c.maxLocals = 4) (hown : s.vm.findClass RL = some m.cls) (hts : ∀ w ∈ Cond.static yL_cell :: xG, w.before #[Value.ref b] s = true) (hX : va_X b L xs s s.heap) (hbl : b < s.heap.size) (hlk : meth.locks = false) (hN : xN s) (hK : va_K D vwCl (taC cA ++ taM cB) s) (hL : L ≤ 2049) (n : Nat) (ih : ∀ (i : Int) (f : fS) (a : aS) (g : fS) (h2 : aS), I f a g h2 → 1 ≤ i → (L : Int) + 4 - i ≤ n → i ≤ (L : Int) + 4 → xV p l e room_1 s m #[Value.ref b] below meth c s.heap (fun q => s.heap.size ≤ q) 59 9428 (lw_Z below #[Value.ref b] s) D vwCl 4 (CW ad cA f a ++ MW ad2 cB g h2) [(0, .ref b), (1, .ref (ad 0 0)), (2, .ref (ad2 0 0)), (3, .int (iI i))] 28 []) (i : Int) (f : fS) (a : aS) (g : fS) (h2 : aS) (hI : I f a g h2) (h1 : 1 ≤ i) (h4 : (L : Int) + 4 - i ≤ n + 1) (hi : i ≤ (L : Int) - 4) : xV p l e room_1 s m #[Value.ref b] below meth c s.heap (fun q => s.heap.size ≤ q) 59 9428 (lw_Z below #[Value.ref b] s) D vwCl 4 (CW ad cA f a ++ MW ad2 cB g h2) [(0, .ref b), (1, .ref (ad 0 0)), (2, .ref (ad2 0 0)), (3, .int (iI i))] 633 [] := by
  have hbA : ¬ (fun q => s.heap.size ≤ q) b := by
    show ¬ s.heap.size ≤ b
    omega
  have hA : ∀ q, s.heap.size ≤ q → (fun q => s.heap.size ≤ q) q := fun q h => h
  refine x_aload_n hx hb dL_law_633 rfl 1 rfl ?_
  refine x_aload_n hx hb dL_law_634 rfl 0 rfl ?_
  refine x_iload_n hx hb dL_law_635 rfl 3 rfl ?_
  refine x_iconst hx hb dL_law_636 ?_
  refine x_iadd hx hb dL_law_637 ?_
  refine x_sld hx hb hX hbl hbA (by omega) (by omega) (by omega) dL_law_638 ?_
  refine x_aload_n hx hb dL_law_639 rfl 0 rfl ?_
  refine x_iload_n hx hb dL_law_640 rfl 3 rfl ?_
  refine x_iconst hx hb dL_law_641 ?_
  refine x_iadd hx hb dL_law_642 ?_
  refine x_sld hx hb hX hbl hbA (by omega) (by omega) (by omega) dL_law_643 ?_
  have hw := (hsim.2.2.2.2.2.2.2.2.2.2.2.2.2.2.2.2.2.1 f a g h2 ((xs (i + 1).toNat).toInt) ((xs (i + 2).toNat).toInt) hI (iI_ir _) (iI_ir _))
  refine x_fVi (n := 2) (st := []) (As := [.int (iI ((xs (i + 1).toNat).toInt)), .int (iI ((xs (i + 2).toNat).toInt))]) ⟨hx, hb, hml, hown, hts⟩ hK hN (m_X_contains (l := l) (D := D) (ad := ad) (cA := cA) hw) (x_cwV hts rfl rfl kcX_contains knX klL_94 kiX_contains keX_contains ⟨by decide, by decide, by decide +kernel⟩ ⟨by decide, by decide⟩) 0 rfl rfl [0, 1, 2, 3, 4, 5, 6, 7, 8, 9, 10, 11, 12, 13, 14, 15, 16, 17, 18, 19, 20, 21, 22, 23, 24, 25, 26, 27, 28, 29, 30, 31, 32, 33, 34] [0, 1, 2, 3, 4, 5, 6, 7, 8, 9, 10, 11, 12, 13, 14, 15, 16, 17, 18, 19, 20, 21, 22, 23, 24, 25, 26, 27, 28, 29, 30, 31, 32, 33, 34, 35, 36, 37, 38, 39, 40, 41] [42, 43, 44, 45, 46, 47, 48, 49, 50, 51, 52, 53, 54, 55, 56, 57, 58] (cm_K1 cA cB) (cm_C1 ad ad2 cA cB f a g h2) (cm_F1 ad ad2 cA cB f a g h2) cm_N1.1 (cm_R1 ad ad2 cA cB f a g h2) cm_N1.2 cm_D1 hA rfl (Nat.le_of_ble_eq_true rfl) ⟨by decide, by decide⟩ rfl dL_law_644 (fun z f1 a1 hw => ?_)
  refine x_aload_n hx hb dL_law_647 rfl 2 rfl ?_
  refine x_aload_n hx hb dL_law_648 rfl 0 rfl ?_
  refine x_iload_n hx hb dL_law_649 rfl 3 rfl ?_
  refine x_iconst hx hb dL_law_650 ?_
  refine x_iadd hx hb dL_law_651 ?_
  refine x_sld hx hb hX hbl hbA (by omega) (by omega) (by omega) dL_law_652 ?_
  refine x_aload_n hx hb dL_law_653 rfl 0 rfl ?_
  refine x_iload_n hx hb dL_law_654 rfl 3 rfl ?_
  refine x_iconst hx hb dL_law_655 ?_
  refine x_iadd hx hb dL_law_656 ?_
  refine x_sld hx hb hX hbl hbA (by omega) (by omega) (by omega) dL_law_657 ?_
  refine x_fVi (n := 2) (st := [.int (iI z)]) (As := [.int (iI ((xs (i + 1).toNat).toInt)), .int (iI ((xs (i + 2).toNat).toInt))]) ⟨hx, hb, hml, hown, hts⟩ hK hN (m_M_contains (l := l) (D := D) (ad := ad2) (cA := cB) hw) (x_cwV hts rfl rfl kcM_contains knM klL_98 kiM_contains keM_contains ⟨by decide, by decide, by decide +kernel⟩ ⟨by decide, by decide⟩) 0 rfl rfl [35, 36, 37, 38, 39, 40, 41, 42, 43, 44, 45, 46, 47, 48, 49, 50] [0, 1, 2, 3, 4, 5, 6, 7, 8, 9, 10, 11, 12, 13, 14, 15, 16] [17, 18, 19, 20, 21, 22, 23, 24, 25, 26, 27, 28, 29, 30, 31, 32, 33, 34, 35, 36, 37, 38, 39, 40, 41, 42, 43, 44, 45, 46, 47, 48, 49, 50, 51, 52, 53, 54, 55, 56, 57, 58] (cm_K2 cA cB) (cm_C2 ad ad2 cA cB f1 a1 g h2) (cm_F2 ad ad2 cA cB f1 a1 g h2) cm_N2.1 (cm_R2 ad ad2 cA cB f1 a1 g h2) cm_N2.2 cm_D2 hA rfl (Nat.le_of_ble_eq_true rfl) ⟨by decide, by decide⟩ rfl dL_law_658 (fun z2 g1 b1 hw => ?_)
  obtain ⟨hz, hI1⟩ := hw
  refine x_eqT hx hb (tgt := 689) hz dL_law_661 (by decide) ?_
  refine x_iinc hx hb dL_law_689 3 rfl (by decide) (lv' := [(3, .int (iI (i + 4))), (0, .ref b), (1, .ref (ad 0 0)), (2, .ref (ad2 0 0))]) rfl ?_
  refine x_goto hx hb (tgt := 28) dL_law_692 (by decide) ?_
  refine x_sub [1, 2, 3, 0] rfl ?_
  exact ih (i + 4) f1 a1 g1 b1 hI1 (by omega) (by omega) (by omega)
set_option maxHeartbeats 4000000 in
set_option maxRecDepth 100000 in
theorem lc_18 {I : fS → aS → fS → aS → Prop} (hsim : xSim I) {p : Program} {l : Launch} {e : Env} {s : State} {m : MethodId} {below : List Frame} {meth : Method} {c : Code} {b L : Nat} {xs : Nat → Int32} {D : va_G} {ad ad2 : Nat → Nat → Nat} {cA cB : Nat → Nat → ClassId} (hx : p.tables.exec = Jvm.exec) (hb : c.code = code) (hr : meth.sig.returnType = ret) (hml : c.maxLocals = 4) (hown : s.vm.findClass RL = some m.cls) (hts : ∀ w ∈ Cond.static yL_cell :: xG, w.before #[Value.ref b] s = true) (hX : va_X b L xs s s.heap) (hbl : b < s.heap.size) (hlk : meth.locks = false) (hN : xN s) (hK : va_K D vwCl (taC cA ++ taM cB) s) (hL : L ≤ 2049) (n : Nat) (ih : ∀ (i : Int) (f : fS) (a : aS) (g : fS) (h2 : aS), I f a g h2 → 1 ≤ i → (L : Int) + 4 - i ≤ n → i ≤ (L : Int) + 4 → xV p l e room_1 s m #[Value.ref b] below meth c s.heap (fun q => s.heap.size ≤ q) 59 9428 (lw_Z below #[Value.ref b] s) D vwCl 4 (CW ad cA f a ++ MW ad2 cB g h2) [(0, .ref b), (1, .ref (ad 0 0)), (2, .ref (ad2 0 0)), (3, .int (iI i))] 28 []) (i : Int) (f : fS) (a : aS) (g : fS) (h2 : aS) (hI : I f a g h2) (h1 : 1 ≤ i) (h4 : (L : Int) + 4 - i ≤ n + 1) (hi : i ≤ (L : Int) - 4) : xV p l e room_1 s m #[Value.ref b] below meth c s.heap (fun q => s.heap.size ≤ q) 59 9428 (lw_Z below #[Value.ref b] s) D vwCl 4 (CW ad cA f a ++ MW ad2 cB g h2) [(0, .ref b), (1, .ref (ad 0 0)), (2, .ref (ad2 0 0)), (3, .int (iI i))] 666 [] := by
  have hbA : ¬ (fun q => s.heap.size ≤ q) b := by
    show ¬ s.heap.size ≤ b
    omega
  have hA : ∀ q, s.heap.size ≤ q → (fun q => s.heap.size ≤ q) q := fun q h => h
  refine x_aload_n hx hb dL_law_666 rfl 1 rfl ?_
  refine x_aload_n hx hb dL_law_667 rfl 0 rfl ?_
  refine x_iload_n hx hb dL_law_668 rfl 3 rfl ?_
  refine x_iconst hx hb dL_law_669 ?_
  refine x_iadd hx hb dL_law_670 ?_
  refine x_sld hx hb hX hbl hbA (by omega) (by omega) (by omega) dL_law_671 ?_
  have hw := (hsim.2.2.2.2.2.2.2.2.2.2.2.2.2.2.2.2.2.2 f a g h2 ((xs (i + 1).toNat).toInt) hI (iI_ir _))
  refine x_fVi (n := 1) (st := []) (As := [.int (iI ((xs (i + 1).toNat).toInt))]) ⟨hx, hb, hml, hown, hts⟩ hK hN (m_X_normal (l := l) (D := D) (ad := ad) (cA := cA) hw) (x_cwV hts rfl rfl kcX_normal knX klL_99 kiX_normal keX_normal ⟨by decide, by decide, by decide +kernel⟩ ⟨by decide, by decide⟩) 0 rfl rfl [0, 1, 2, 3, 4, 5, 6, 7, 8, 9, 10, 11, 12, 13, 14, 15, 16, 17, 18, 19, 20, 21, 22, 23, 24, 25, 26, 27, 28, 29, 30, 31, 32, 33, 34] [0, 1, 2, 3, 4, 5, 6, 7, 8, 9, 10, 11, 12, 13, 14, 15, 16, 17, 18, 19, 20, 21, 22, 23, 24, 25, 26, 27, 28, 29, 30, 31, 32, 33, 34, 35, 36, 37, 38, 39, 40, 41] [42, 43, 44, 45, 46, 47, 48, 49, 50, 51, 52, 53, 54, 55, 56, 57, 58] (cm_K1 cA cB) (cm_C1 ad ad2 cA cB f a g h2) (cm_F1 ad ad2 cA cB f a g h2) cm_N1.1 (cm_R1 ad ad2 cA cB f a g h2) cm_N1.2 cm_D1 hA rfl (Nat.le_of_ble_eq_true rfl) ⟨by decide, by decide⟩ rfl dL_law_672 (fun z f1 a1 hw => ?_)
  refine x_aload_n hx hb dL_law_675 rfl 2 rfl ?_
  refine x_aload_n hx hb dL_law_676 rfl 0 rfl ?_
  refine x_iload_n hx hb dL_law_677 rfl 3 rfl ?_
  refine x_iconst hx hb dL_law_678 ?_
  refine x_iadd hx hb dL_law_679 ?_
  refine x_sld hx hb hX hbl hbA (by omega) (by omega) (by omega) dL_law_680 ?_
  refine x_fVi (n := 1) (st := [.int (iI z)]) (As := [.int (iI ((xs (i + 1).toNat).toInt))]) ⟨hx, hb, hml, hown, hts⟩ hK hN (m_M_normal (l := l) (D := D) (ad := ad2) (cA := cB) hw) (x_cwV hts rfl rfl kcM_normal knM klL_102 kiM_normal keM_normal ⟨by decide, by decide, by decide +kernel⟩ ⟨by decide, by decide⟩) 0 rfl rfl [35, 36, 37, 38, 39, 40, 41, 42, 43, 44, 45, 46, 47, 48, 49, 50] [0, 1, 2, 3, 4, 5, 6, 7, 8, 9, 10, 11, 12, 13, 14, 15, 16] [17, 18, 19, 20, 21, 22, 23, 24, 25, 26, 27, 28, 29, 30, 31, 32, 33, 34, 35, 36, 37, 38, 39, 40, 41, 42, 43, 44, 45, 46, 47, 48, 49, 50, 51, 52, 53, 54, 55, 56, 57, 58] (cm_K2 cA cB) (cm_C2 ad ad2 cA cB f1 a1 g h2) (cm_F2 ad ad2 cA cB f1 a1 g h2) cm_N2.1 (cm_R2 ad ad2 cA cB f1 a1 g h2) cm_N2.2 cm_D2 hA rfl (Nat.le_of_ble_eq_true rfl) ⟨by decide, by decide⟩ rfl dL_law_681 (fun z2 g1 b1 hw => ?_)
  obtain ⟨hz, hI1⟩ := hw
  refine x_eqT hx hb (tgt := 689) hz dL_law_684 (by decide) ?_
  refine x_iinc hx hb dL_law_689 3 rfl (by decide) (lv' := [(3, .int (iI (i + 4))), (0, .ref b), (1, .ref (ad 0 0)), (2, .ref (ad2 0 0))]) rfl ?_
  refine x_goto hx hb (tgt := 28) dL_law_692 (by decide) ?_
  refine x_sub [1, 2, 3, 0] rfl ?_
  exact ih (i + 4) f1 a1 g1 b1 hI1 (by omega) (by omega) (by omega)
set_option maxHeartbeats 4000000 in
set_option maxRecDepth 100000 in
theorem law_loop {I : fS → aS → fS → aS → Prop} (hsim : xSim I) {p : Program} {l : Launch} {e : Env} {s : State} {m : MethodId} {below : List Frame} {meth : Method} {c : Code} {b L : Nat} {xs : Nat → Int32} {D : va_G} {ad ad2 : Nat → Nat → Nat} {cA cB : Nat → Nat → ClassId} (hx : p.tables.exec = Jvm.exec) (hb : c.code = code) (hr : meth.sig.returnType = ret) (hml : c.maxLocals = 4) (hown : s.vm.findClass RL = some m.cls) (hts : ∀ w ∈ Cond.static yL_cell :: xG, w.before #[Value.ref b] s = true) (hX : va_X b L xs s s.heap) (hbl : b < s.heap.size) (hlk : meth.locks = false) (hN : xN s) (hK : va_K D vwCl (taC cA ++ taM cB) s) (hL : L ≤ 2049) : ∀ (n : Nat) (i : Int) (f : fS) (a : aS) (g : fS) (h2 : aS), I f a g h2 → 1 ≤ i → (L : Int) + 4 - i ≤ n → i ≤ (L : Int) + 4 → xV p l e room_1 s m #[Value.ref b] below meth c s.heap (fun q => s.heap.size ≤ q) 59 9428 (lw_Z below #[Value.ref b] s) D vwCl 4 (CW ad cA f a ++ MW ad2 cB g h2) [(0, .ref b), (1, .ref (ad 0 0)), (2, .ref (ad2 0 0)), (3, .int (iI i))] 28 [] := by
  have hbA : ¬ (fun q => s.heap.size ≤ q) b := by
    show ¬ s.heap.size ≤ b
    omega
  have hA : ∀ q, s.heap.size ≤ q → (fun q => s.heap.size ≤ q) q := fun q h => h
  intro n
  induction n with
  | zero =>
    intro i f a g h2 hI h1 h4 h5
    refine x_iload_n hx hb dL_law_28 rfl 3 rfl ?_
    refine x_aload_n hx hb dL_law_29 rfl 0 rfl ?_
    refine x_slen hx hb hX hbl hbA dL_law_30 ?_
    refine x_iconst hx hb dL_law_31 ?_
    refine x_isub hx hb dL_law_32 ?_
    refine x_icmp_gt hx hb (tgt := 695) ⟨by omega, by omega⟩ ⟨by omega, by omega⟩ dL_law_33 (by decide) (fun hc => ?_) (fun hc => ?_)
    · refine x_iconst hx hb dL_law_695 ?_
      intro H locs ls hP hD hS hl
      refine va_forget (fun q hq => hS.2.2 q hq) (W.widen (k := room_1.cells) (n := room_1.slots) (by decide) (by decide) ?_)
      exact lw_ret hx hb hr hlk dL_law_696
    · exact absurd (by omega) hc
  | succ n ih =>
    intro i f a g h2 hI h1 h4 h5
    refine x_iload_n hx hb dL_law_28 rfl 3 rfl ?_
    refine x_aload_n hx hb dL_law_29 rfl 0 rfl ?_
    refine x_slen hx hb hX hbl hbA dL_law_30 ?_
    refine x_iconst hx hb dL_law_31 ?_
    refine x_isub hx hb dL_law_32 ?_
    refine x_icmp_gt hx hb (tgt := 695) ⟨by omega, by omega⟩ ⟨by omega, by omega⟩ dL_law_33 (by decide) (fun hc => ?_) (fun hc => ?_)
    · refine x_iconst hx hb dL_law_695 ?_
      intro H locs ls hP hD hS hl
      refine va_forget (fun q hq => hS.2.2 q hq) (W.widen (k := room_1.cells) (n := room_1.slots) (by decide) (by decide) ?_)
      exact lw_ret hx hb hr hlk dL_law_696
    · have hi : i ≤ (L : Int) - 4 := by omega
      refine x_aload_n hx hb dL_law_36 rfl 0 rfl ?_
      refine x_iload_n hx hb dL_law_37 rfl 3 rfl ?_
      refine x_sld hx hb hX hbl hbA (by omega) (by omega) (by omega) dL_law_38 ?_
      refine x_bipush hx hb dL_law_39 (by decide) ?_
      refine x_and31 hx hb dL_law_41 (fun z z0 z1 => ?_)
      have hz : ir z := ⟨by omega, by omega⟩
      by_cases hq0 : z = 0
      · refine x_tsIn hx hb 0 (tgt := 132) hz dL_law_42 hq0 (by decide) (by decide) rfl (by decide) ?_
        exact lc_0 hsim hx hb hr hml hown hts hX hbl hlk hN hK hL n ih i f a g h2 hI h1 h4 (by omega)
      by_cases hq1 : z = 1
      · refine x_tsIn hx hb 1 (tgt := 155) hz dL_law_42 hq1 (by decide) (by decide) rfl (by decide) ?_
        exact lc_1 hsim hx hb hr hml hown hts hX hbl hlk hN hK hL n ih i f a g h2 hI h1 h4 (by omega)
      by_cases hq2 : z = 2
      · refine x_tsIn hx hb 2 (tgt := 168) hz dL_law_42 hq2 (by decide) (by decide) rfl (by decide) ?_
        exact lc_2 hsim hx hb hr hml hown hts hX hbl hlk hN hK hL n ih i f a g h2 hI h1 h4 (by omega)
      by_cases hq3 : z = 3
      · refine x_tsIn hx hb 3 (tgt := 181) hz dL_law_42 hq3 (by decide) (by decide) rfl (by decide) ?_
        exact lc_3 hsim hx hb hr hml hown hts hX hbl hlk hN hK hL n ih i f a g h2 hI h1 h4 (by omega)
      by_cases hq4 : z = 4
      · refine x_tsIn hx hb 4 (tgt := 204) hz dL_law_42 hq4 (by decide) (by decide) rfl (by decide) ?_
        exact lc_4 hsim hx hb hr hml hown hts hX hbl hlk hN hK hL n ih i f a g h2 hI h1 h4 (by omega)
      by_cases hq5 : z = 5
      · refine x_tsIn hx hb 5 (tgt := 237) hz dL_law_42 hq5 (by decide) (by decide) rfl (by decide) ?_
        exact lc_5 hsim hx hb hr hml hown hts hX hbl hlk hN hK hL n ih i f a g h2 hI h1 h4 (by omega)
      by_cases hq6 : z = 6
      · refine x_tsIn hx hb 6 (tgt := 260) hz dL_law_42 hq6 (by decide) (by decide) rfl (by decide) ?_
        exact lc_6 hsim hx hb hr hml hown hts hX hbl hlk hN hK hL n ih i f a g h2 hI h1 h4 (by omega)
      by_cases hq7 : z = 7
      · refine x_tsIn hx hb 7 (tgt := 283) hz dL_law_42 hq7 (by decide) (by decide) rfl (by decide) ?_
        exact lc_7 hsim hx hb hr hml hown hts hX hbl hlk hN hK hL n ih i f a g h2 hI h1 h4 (by omega)
      by_cases hq8 : z = 8
      · refine x_tsIn hx hb 8 (tgt := 316) hz dL_law_42 hq8 (by decide) (by decide) rfl (by decide) ?_
        exact lc_8 hsim hx hb hr hml hown hts hX hbl hlk hN hK hL n ih i f a g h2 hI h1 h4 (by omega)
      by_cases hq9 : z = 9
      · refine x_tsIn hx hb 9 (tgt := 359) hz dL_law_42 hq9 (by decide) (by decide) rfl (by decide) ?_
        exact lc_9 hsim hx hb hr hml hown hts hX hbl hlk hN hK hL n ih i f a g h2 hI h1 h4 (by omega)
      by_cases hq10 : z = 10
      · refine x_tsIn hx hb 10 (tgt := 402) hz dL_law_42 hq10 (by decide) (by decide) rfl (by decide) ?_
        exact lc_10 hsim hx hb hr hml hown hts hX hbl hlk hN hK hL n ih i f a g h2 hI h1 h4 (by omega)
      by_cases hq11 : z = 11
      · refine x_tsIn hx hb 11 (tgt := 425) hz dL_law_42 hq11 (by decide) (by decide) rfl (by decide) ?_
        exact lc_11 hsim hx hb hr hml hown hts hX hbl hlk hN hK hL n ih i f a g h2 hI h1 h4 (by omega)
      by_cases hq12 : z = 12
      · refine x_tsIn hx hb 12 (tgt := 448) hz dL_law_42 hq12 (by decide) (by decide) rfl (by decide) ?_
        exact lc_12 hsim hx hb hr hml hown hts hX hbl hlk hN hK hL n ih i f a g h2 hI h1 h4 (by omega)
      by_cases hq13 : z = 13
      · refine x_tsIn hx hb 13 (tgt := 481) hz dL_law_42 hq13 (by decide) (by decide) rfl (by decide) ?_
        exact lc_13 hsim hx hb hr hml hown hts hX hbl hlk hN hK hL n ih i f a g h2 hI h1 h4 (by omega)
      by_cases hq14 : z = 14
      · refine x_tsIn hx hb 14 (tgt := 514) hz dL_law_42 hq14 (by decide) (by decide) rfl (by decide) ?_
        exact lc_14 hsim hx hb hr hml hown hts hX hbl hlk hN hK hL n ih i f a g h2 hI h1 h4 (by omega)
      by_cases hq15 : z = 15
      · refine x_tsIn hx hb 15 (tgt := 557) hz dL_law_42 hq15 (by decide) (by decide) rfl (by decide) ?_
        exact lc_15 hsim hx hb hr hml hown hts hX hbl hlk hN hK hL n ih i f a g h2 hI h1 h4 (by omega)
      by_cases hq16 : z = 16
      · refine x_tsIn hx hb 16 (tgt := 600) hz dL_law_42 hq16 (by decide) (by decide) rfl (by decide) ?_
        exact lc_16 hsim hx hb hr hml hown hts hX hbl hlk hN hK hL n ih i f a g h2 hI h1 h4 (by omega)
      by_cases hq17 : z = 17
      · refine x_tsIn hx hb 17 (tgt := 633) hz dL_law_42 hq17 (by decide) (by decide) rfl (by decide) ?_
        exact lc_17 hsim hx hb hr hml hown hts hX hbl hlk hN hK hL n ih i f a g h2 hI h1 h4 (by omega)
      by_cases hq18 : z = 18
      · refine x_tsIn hx hb 18 (tgt := 666) hz dL_law_42 hq18 (by decide) (by decide) rfl (by decide) ?_
        exact lc_18 hsim hx hb hr hml hown hts hX hbl hlk hN hK hL n ih i f a g h2 hI h1 h4 (by omega)
      refine x_tsOut hx hb (tgt := 689) hz dL_law_42 (by omega) (by decide) ?_
      refine x_iinc hx hb dL_law_689 3 rfl (by decide) (lv' := [(3, .int (iI (i + 4))), (0, .ref b), (1, .ref (ad 0 0)), (2, .ref (ad2 0 0))]) rfl ?_
      refine x_goto hx hb (tgt := 28) dL_law_692 (by decide) ?_
      refine x_sub [1, 2, 3, 0] rfl ?_
      exact ih (i + 4) f a g h2 hI (by omega) (by omega) (by omega)
