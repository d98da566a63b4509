set_option maxHeartbeats 4000000 in
theorem x_cell {p : Program} {l : Launch} {e : Env} {s : State} {m : MethodId} {below : List Frame} {meth : Method} {c : Code} {cells slots : Nat} {Q : State → Prop} {D : va_G} {w : va_W} {lv : List (Nat × Value)} {pc : Nat} {st : List Value} {b L : Nat} {xs : Nat → Int32} (hx : p.tables.exec = Jvm.exec) (hb : c.code = code) (hml : c.maxLocals = 4) (hown : s.vm.findClass RL = some m.cls) (hts : ∀ w ∈ Cond.static yL_cell :: xG, w.before #[Value.ref b] s = true) (hX : va_X b L xs s s.heap) (hbl : b < s.heap.size) (hL : L ≤ 100000) (hst : (st.map fun v => v.category).sum ≤ 8) (hf : cells ≤ room_1.cells ∧ slots ≤ room_1.slots) (hd : decode code pc = .ok (.invokestatic 9, 3)) (k : ∀ z : Int, ir z → (z = if 0 < L then (xs 0).toInt else 0) → xV p l e room_1 s m #[Value.ref b] below meth c s.heap (fun q => s.heap.size ≤ q) cells slots Q D vwCl 4 w lv (pc + 3) (.int (iI z) :: st)) : xV p l e room_1 s m #[Value.ref b] below meth c s.heap (fun q => s.heap.size ≤ q) cells slots Q D vwCl 4 w lv pc (.int (iI 0) :: .ref b :: st) := by
  intro H locs ls hP hD hS hl
  have hbA : ¬ (fun q => s.heap.size ≤ q) b := by
    show ¬ s.heap.size ≤ b
    omega
  have hXH : va_X b L xs s H := hX.kept (hS.2.1 b hbl hbA)
  have hbH : b < H.size := Nat.lt_of_lt_of_le hbl hS.1
  have hE : ∀ q, va_A [] H.size q → H.size ≤ q := by
    rintro q (⟨k, e, h⟩ | h)
    · simp at h
    · exact h
  refine va_calli (va_runS (As := [.ref b, .int (iI 0)]) (rest := st) ⟨hx, hb, hml, hown, hts⟩ (m_L_cell (l := l) (D := D) (b := b) (L := L) (xs := xs) hL H.size) (x_cwS (n := 2) hts rfl rfl kcL_cell knL klL_9 ksL_cell ⟨by decide, by decide, by decide +kernel⟩ ⟨by decide, by decide⟩) ⟨fun a U g mk q => by
    obtain ⟨q0, q1, q2, q3⟩ := q
    exact ⟨q0, q1, va_X.moved (u := U) (U := U.calling g mk a) (Vm.Alike.refl U.vm) q2, q3⟩, fun U hU hW => ⟨rfl, by rw [hU], by rw [hU]; exact va_X.moved hW.alike hXH, by rw [hU]; exact hbH⟩⟩ rfl rfl hl.1 rfl (lv_room hst) hd hf) hS (fun q _ h => Nat.le_trans hS.1 (hE q h)) (fun q h => Nat.le_trans hS.1 (hE q h)) (fun r u t H1 locs1 ht hvm hz hB hsz hk hS1 => ?_)
  obtain ⟨z, hz1, rfl, hz2⟩ := hz
  have hP1 : va_P D vwCl w H1 := hP.kept (fun j q hq => hk q.1 (hP j q hq).lt (fun h => by have h1 := hE _ h; have h2 := (hP j q hq).lt; omega))
  exact k z hz1 hz2 H1 locs1 ls hP1 hD hS1 hl
set_option maxHeartbeats 4000000 in
set_option maxRecDepth 100000 in
theorem law_walk {I : fS → aS → fS → aS → Prop} (hsim : xSim I) (hbeg : xBeg I) {p : Program} {e : Env} {s : State} {m : MethodId} {below : List Frame} {meth : Method} {c : Code} (l : Launch) {b L : Nat} {xs : Nat → Int32} (hL : L ≤ 2049) (C0 : lw_At p s m meth c b L xs) : W p l e room_1 s m #[Value.ref b] below meth c s.heap [] 0 0 (lw_Z below #[Value.ref b] s) (entryFrame m ([Value.ref b] : List Value).toArray 4) := by
  obtain ⟨hx, hb, hr, hml, hown0, htsT, hX, hbl, hlk, hgv⟩ := C0
  have hts : ∀ w ∈ Cond.static yL_cell :: xG, w.before #[Value.ref b] s = true := fun w hw => by
    rcases List.mem_cons.mp hw with h | h
    · rw [h]
      exact htsT _ (List.mem_filter.mp ksL_cell).1
    · exact htsT _ (List.mem_filter.mp h).1
  have hN := xN_of htsT
  have hown : s.vm.findClass RL = some m.cls := hown0
  obtain ⟨c0, i0, k0⟩ := u_known (C := RD) (T := TD) (N := 12) hts (jnD _) (hts _ (List.mem_cons_of_mem _ kbD))
  obtain ⟨c1, i1, k1⟩ := u_known (C := RG) (T := TG) (N := 9) hts (jnG _) (hts _ (List.mem_cons_of_mem _ kbG))
  obtain ⟨c2, i2, k2⟩ := u_known (C := RW) (T := TW) (N := 2) hts (jnW _) (hts _ (List.mem_cons_of_mem _ kbW))
  obtain ⟨c3, i3, k3⟩ := u_known (C := RX) (T := TX) (N := 4) hts (jnX _) (hts _ (List.mem_cons_of_mem _ kbX))
  obtain ⟨c4, i4, k4⟩ := u_known (C := RM) (T := TM) (N := 25) hts (jnM _) (hts _ (List.mem_cons_of_mem _ kbM))
  obtain ⟨D, hD0⟩ : ∃ D : va_G, D = ((fun k => match k with | 0 => c0 | 1 => c1 | 2 => c2 | 3 => c3 | _ => c4), (fun k => match k with | 0 => i0 | 1 => i1 | 2 => i2 | 3 => i3 | _ => i4)) := ⟨_, rfl⟩
  have hK : va_K D vwCl [] s := by
    rw [hD0]
    refine ⟨fun c q hq => ?_, fun k q h => by simp at h⟩
    match c, hq with
    | 0, h => cases h; exact k0
    | 1, h => cases h; exact k1
    | 2, h => cases h; exact k2
    | 3, h => cases h; exact k3
    | 4, h => cases h; exact k4
    | (n + 5), h => simp at h
  have hA : ∀ q, s.heap.size ≤ q → (fun q => s.heap.size ≤ q) q := fun q h => h
  have hl := lv_entry [.ref b] (n := 4) (Nat.le_of_ble_eq_true rfl)
  rw [lg_entry_eq]
  have start : xV p l e room_1 s m #[Value.ref b] below meth c s.heap (fun q => s.heap.size ≤ q) 0 0 (lw_Z below #[Value.ref b] s) D vwCl 4 [] [(0, .ref b)] 0 [] := by
    refine x_new hx hb hts (jnX _) tyX tkX hown (hts _ (List.mem_cons_of_mem _ kkL_7)) (hts _ (List.mem_cons_of_mem _ kbX)) (hts _ (List.mem_cons_of_mem _ knX)) hK hA (ci := 3) (C0 := RX) (T := TX) (N := 4) rfl (fs := [.int (iI 0), .null, .null, .null]) hfX (by decide) (by decide) dL_law_0 (w2 := fun q1 => [(q1, .inr (3, [.int (iI 0), .null, .null, .null]))]) (fun _ => rfl) (fun q1 => ?_)
    refine x_dup hx hb rfl dL_law_3 ?_
    refine x_aload_n hx hb dL_law_4 rfl 0 rfl ?_
    refine x_iconst hx hb dL_law_5 ?_
    refine x_cell hx hb hml hown hts hX hbl (by omega) (Nat.le_of_ble_eq_true rfl) ⟨by decide, by decide⟩ dL_law_6 (fun z hz ez => ?_)
    refine x_cI (host := "") (n := 1) (st := [.ref q1]) (As := [.int (iI z)]) ⟨hx, hb, hml, hown, hts⟩ hK hN (n_X_init (l := l) (D := D) hz) (x_cwI hts rfl rfl kcX_init knX klL_15 kiX_init rfl ⟨by decide, by decide, by decide +kernel⟩ ⟨by decide, by decide⟩) 0 rfl [] (wr := []) rfl (by decide) (by decide) hA rfl (Nat.le_of_ble_eq_true rfl) ⟨by decide, by decide⟩ rfl dL_law_9 (w2 := fun ad cA f a => CW ad cA f a) (fun _ _ _ _ => rfl) (ty2 := fun cA => taC cA) (fun _ => rfl) (fun ad cA f a hp hK => ?_)
    obtain ⟨e1, hp⟩ := hp
    subst e1
    refine x_astore_n hx hb dL_law_12 rfl (by decide) (lv' := [(1, .ref (ad 0 0)), (0, .ref b)]) rfl ?_
    refine x_new hx hb hts (jnM _) tyM tkM hown (hts _ (List.mem_cons_of_mem _ kkL_18)) (hts _ (List.mem_cons_of_mem _ kbM)) (hts _ (List.mem_cons_of_mem _ knM)) hK hA (ci := 4) (C0 := RM) (T := TM) (N := 25) rfl (fs := [.int (iI 0), .int (iI 0), .null, .null, .null, .null, .null, .null, .int (iI 0), .int (iI 0), .int (iI 0), .null, .null, .null, .null, .null, .null, .null, .null, .null, .int (iI 0), .int (iI 0), .int (iI 0), .int (iI 0), .null]) hfM (by decide) (by decide) dL_law_13 (w2 := fun q2 => CW ad cA f a ++ [(q2, .inr (4, [.int (iI 0), .int (iI 0), .null, .null, .null, .null, .null, .null, .int (iI 0), .int (iI 0), .int (iI 0), .null, .null, .null, .null, .null, .null, .null, .null, .null, .int (iI 0), .int (iI 0), .int (iI 0), .int (iI 0), .null]))]) (fun _ => rfl) (fun q2 => ?_)
    refine x_dup hx hb rfl dL_law_16 ?_
    refine x_aload_n hx hb dL_law_17 rfl 1 rfl ?_
    refine x_iconst hx hb dL_law_18 ?_
    refine x_cell hx hb hml hown hts hX hbl (by omega) (Nat.le_of_ble_eq_true rfl) ⟨by decide, by decide⟩ dL_law_19 (fun z2 hz2 ez2 => ?_)
    have e2 : z2 = z := by rw [ez, ez2]
    subst e2
    refine x_cI (host := "") (n := 1) (st := [.ref q2]) (As := [.int (iI z2)]) ⟨hx, hb, hml, hown, hts⟩ hK hN (n_M_init (l := l) (D := D) hz2) (x_cwI hts rfl rfl kcM_init knM klL_20 kiM_init rfl ⟨by decide, by decide, by decide +kernel⟩ ⟨by decide, by decide⟩) 42 rfl [0, 1, 2, 3, 4, 5, 6, 7, 8, 9, 10, 11, 12, 13, 14, 15, 16, 17, 18, 19, 20, 21, 22, 23, 24, 25, 26, 27, 28, 29, 30, 31, 32, 33, 34, 35, 36, 37, 38, 39, 40, 41] (wr := CW ad cA f a) rfl (by decide) (by decide) hA rfl (Nat.le_of_ble_eq_true rfl) ⟨by decide, by decide⟩ rfl dL_law_22 (w2 := fun ad2 cB g h2 => CW ad cA f a ++ MW ad2 cB g h2) (fun _ _ _ _ => rfl) (ty2 := fun cB => taC cA ++ taM cB) (fun _ => rfl) (fun ad2 cB g h2 hq hK => ?_)
    obtain ⟨e3, hq⟩ := hq
    subst e3
    refine x_astore_n hx hb dL_law_25 rfl (by decide) (lv' := [(2, .ref (ad2 0 0)), (1, .ref (ad 0 0)), (0, .ref b)]) rfl ?_
    refine x_iconst hx hb dL_law_26 ?_
    refine x_istore_n hx hb dL_law_27 rfl (by decide) (lv' := [(3, .int (iI 1)), (2, .ref (ad2 0 0)), (1, .ref (ad 0 0)), (0, .ref b)]) rfl ?_
    refine x_sub [3, 2, 1, 0] rfl ?_
    exact law_loop hsim hx hb hr hml hown hts hX hbl hlk hN hK hL (L + 4) 1 f a g h2 (hbeg z2 f a g h2 hp hq) (by omega) (by omega) (by omega)
  exact start s.heap [] _ (fun k q h => by simp at h) ⟨fun i j p q h => by simp at h, fun k q h => by simp at h⟩ va_S.rf hl
