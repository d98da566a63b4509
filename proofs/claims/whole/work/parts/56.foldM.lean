def frT (b b' : aS) : Prop := ∀ i, i ≠ 14 → i ≠ 15 → b' 0 i = b 0 i
theorem frT_tr {b b' b'' : aS} (h : frT b b') (h' : frT b' b'') : frT b b'' := fun i q r => (h' i q r).trans (h i q r)
theorem frT_14 {b : aS} {w : Nat → Int} : frT b (setA b 0 14 w) := fun i q _ => setA_k _ _ q
theorem frT_15 {b : aS} {w : Nat → Int} : frT b (setA b 0 15 w) := fun i _ r => setA_k _ _ r
theorem va_up_id (w : Nat → Int) (i : Nat) : va_up w i (w i) = w := by
  funext j
  unfold va_up
  by_cases q : j = i
  · rw [if_pos q, q]
  · rw [if_neg q]
theorem tbM_at {x c : Int} (x0 : 0 ≤ x) (x1 : x < 64) (c0 : 0 ≤ c) (c1 : c < 6) (w : Nat → Int) : w (6 * x + c).toNat = tb w 0 64 x c := by
  rw [tb_at _ _ x0 x1 c0 c1, Nat.zero_add]
theorem tbM_up {x c y : Int} (x0 : 0 ≤ x) (x1 : x < 64) (c0 : 0 ≤ c) (c1 : c < 6) (w : Nat → Int) : tb (va_up w (6 * x + c).toNat y) 0 64 = up2 (tb w 0 64) x c y := by
  have e := tb_up w 0 y x0 x1 c0 c1
  rw [Nat.zero_add] at e
  exact e
section
variable {m : Nat} {E : Int → Int → Int → Prop} {g : fS} {b : aS}
theorem fo_set {nm : Nat → Int} {W : Int → Int → Int} {u c v : Int} (hE : fo_in m E) (hn : fo_nm m E nm) (h : W (nm u.toNat) c = -1 ∨ W (nm u.toNat) c = nm v.toNat) {p d q : Int} (he : E p d q) (hw : W (nm p.toNat) d = nm q.toNat) : up2 W (nm u.toNat) c (nm v.toNat) (nm p.toNat) d = nm q.toNat := by
  by_cases z : nm p.toNat = nm u.toNat ∧ d = c
  · rw [z.1, z.2, up2_s]
    rw [z.1, z.2] at hw
    rcases h with y | y
    · have i := hE p d q he
      have gq := hn.1 q.toNat (by omega)
      omega
    · exact y.symm.trans hw
  · rw [up2_n _ _ z]
    exact hw
theorem s_uniteM {post : fS → aS → Prop} {x y : Int} (hx : ir x) (hy : ir y) (hm : g 0 8 = (m : Int)) (h64 : m ≤ 64) (hi : ∀ v, v < m → ir (b 0 14 v)) (h1 : y ≤ x → post g (setA b 0 14 (unm m (b 0 14) y x))) (h2 : ¬ y ≤ x → post g (setA b 0 14 (unm m (b 0 14) x y))) : wp_M_unite post x y g b := by
  have loop : ∀ (lw hg : Int), ir hg → post g (setA b 0 14 (unm m (b 0 14) lw hg)) → wb_M_unite_21 post lw hg g b := by
    intro lw hg hh hp
    have go : ∀ n i : Nat, i ≤ m → m < n + i → wb_M_unite_26 post n lw hg (i : Int) g (setA b 0 14 (unm i (b 0 14) lw hg)) := by
      intro n
      induction n with
      | zero => intro i g1 g2; omega
      | succ n ih =>
        intro i g1 g2
        rw [wb_M_unite_26, setA_s, Int.toNat_natCast, unm_i]
        have e1 : (i : Int) + 1 = ((i + 1 : Nat) : Int) := by omega
        refine ⟨⟨by omega, by omega⟩, ⟨by omega, by omega⟩, fun q => ?_, fun q => ⟨⟨by omega, by omega⟩, hi i (by omega), hh, fun w => ⟨⟨by omega, by omega⟩, ?_⟩, fun w => ⟨⟨by omega, by omega⟩, ?_⟩⟩⟩
        · have e : i = m := by omega
          rw [e]
          exact hp
        · rw [setA_s, setA_ss, Int.toNat_natCast, e1]
          have e3 : va_up (unm i (b 0 14) lw hg) i (b 0 14 i) = unm (i + 1) (b 0 14) lw hg := by
            have q1 := va_up_id (unm i (b 0 14) lw hg) i
            rw [unm_i] at q1
            rw [q1]
            exact unm_n w
          rw [e3]
          exact ih (i + 1) (by omega) (by omega)
        · rw [setA_s, setA_ss, Int.toNat_natCast, e1, unm_y (Classical.byContradiction w)]
          exact ih (i + 1) (by omega) (by omega)
    have q := go (m + 1) 0 (by omega) (by omega)
    rw [unm_0, setA_id] at q
    exact ⟨_, q⟩
  exact ⟨hx, hy, fun z => ⟨hx, hy, fun _ => loop _ _ hx (h1 z), fun w => absurd z w⟩, fun z => ⟨hx, hy, fun w => absurd w z, fun _ => loop _ _ hy (h2 z)⟩⟩
theorem s_once {post : Int → fS → aS → Prop} {e : Int} (hd : mS g b (m : Int) E e) (he : e ≤ 256) (h64 : m ≤ 64) (hE : fo_in m E) (hc : ∀ u c v, E u c v → 0 ≤ c ∧ c < 6) (hn : fo_nm m E (b 0 14))
    (h0 : ∀ b', frT b b' → b' 0 14 = b 0 14 → fo_spec m E (b' 0 14) (tb (b' 0 15) 0 64) → post 0 g b')
    (h1 : ∀ b', frT b b' → fo_nm m E (b' 0 14) → cnt m (b' 0 14) < cnt m (b 0 14) → post 1 g b') : wp_M_foldOnce post g b := by
  obtain ⟨d1, d2, d3⟩ := hd
  have ed : ∀ i : Nat, (i : Int) < g 0 10 → E (b 0 11 i) (2 * b 0 12 i - 2) (b 0 13 i) ∧ E (b 0 13 i) (cx (2 * b 0 12 i - 2)) (b 0 11 i) := fun i hi => ⟨(d3 _ _ _).mp ⟨i, by omega, Or.inl ⟨rfl, rfl, rfl⟩⟩, (d3 _ _ _).mp ⟨i, by omega, Or.inr ⟨rfl, rfl, rfl⟩⟩⟩
  have un : ∀ (b1 : aS) (x y : Int), frT b b1 → b1 0 14 = b 0 14 → 0 ≤ x → x < m → b 0 14 x.toNat = x → 0 ≤ y → y < m → b 0 14 y.toNat = y → x ≠ y → (∀ R, fo_cong E R → R y x) → wp_M_unite (fun g1 b2 => post 1 g1 b2) x y g b1 := by
    intro b1 x y hfr h14 x0 x1 hx y0 y1 hy hxy hR
    refine s_uniteM ⟨by omega, by omega⟩ ⟨by omega, by omega⟩ d1 h64 (fun v hv => by rw [h14]; have := hn.1 v hv; exact ⟨by omega, by omega⟩) (fun z => ?_) (fun z => ?_)
    · have q := un_ok hn y0 y1 hy x0 x1 hx (fun w => hxy w.symm) (fun R h => h.2.1 _ _ (hR R h))
      refine h1 _ (frT_tr hfr frT_14) ?_ ?_
      · rw [setA_s, h14]; exact q.1
      · rw [setA_s, h14]; exact q.2
    · have q := un_ok hn x0 x1 hx y0 y1 hy hxy hR
      refine h1 _ (frT_tr hfr frT_14) ?_ ?_
      · rw [setA_s, h14]; exact q.1
      · rw [setA_s, h14]; exact q.2
  have edges : ∀ (n i : Nat) (b1 : aS), (i : Int) ≤ g 0 10 → g 0 10 < n + i → frT b b1 → b1 0 14 = b 0 14 → fo_pw m E (tb (b1 0 15) 0 64) → fo_ps E (b 0 14) (tb (b1 0 15) 0 64) → (∀ j : Nat, j < i → tb (b1 0 15) 0 64 (b 0 14 (b 0 11 j).toNat) (2 * b 0 12 j - 2) = b 0 14 (b 0 13 j).toNat ∧ tb (b1 0 15) 0 64 (b 0 14 (b 0 13 j).toNat) (cx (2 * b 0 12 j - 2)) = b 0 14 (b 0 11 j).toNat) → wb_M_foldOnce_24 post n (i : Int) g b1 := by
    intro n
    induction n with
    | zero => intro i b1 g1 g2; omega
    | succ n ih =>
      intro i b1 g1 g2 hfr h14 hw hs hl
      have f11 := hfr 11 (by omega) (by omega)
      have f12 := hfr 12 (by omega) (by omega)
      have f13 := hfr 13 (by omega) (by omega)
      rw [wb_M_foldOnce_24, f11, f12, f13, h14, Int.toNat_natCast]
      refine ⟨⟨by omega, by omega⟩, ⟨by omega, by omega⟩, fun q => h0 b1 hfr h14 ?_, fun q => ⟨⟨by omega, by omega⟩, ?_⟩⟩
      · rw [h14]
        refine fo_end hn hs (fun u c v huv => ?_)
        obtain ⟨j, j1, j2⟩ := (d3 u c v).mpr huv
        have w := hl j (by omega)
        rcases j2 with ⟨x1, x2, x3⟩ | ⟨x1, x2, x3⟩
        · rw [← x1, ← x2, ← x3]
          exact w.1
        · rw [← x1, ← x2, ← x3]
          exact w.2
      · obtain ⟨E1, E2⟩ := ed i (by omega)
        obtain ⟨i1, i2, i3, i4⟩ := hE _ _ _ E1
        have c1 := hc _ _ _ E1
        have c2 := hc _ _ _ E2
        have nf := hn.1 (b 0 11 i).toNat (by omega)
        have nt' := hn.1 (b 0 13 i).toNat (by omega)
        have ecx : cx (2 * b 0 12 i - 2) = 2 * b 0 12 i - 2 + 1 := by unfold cx; omega
        have eco : co (b 0 12 i) = 2 * b 0 12 i - 2 := if_pos (by omega)
        refine ⟨⟨by omega, by omega⟩, fun t7 e7 => ⟨⟨by omega, by omega⟩, fun t9 e9 => s_codeM ⟨by omega, by omega⟩ ?_⟩⟩
        subst e7
        subst e9
        rw [eco]
        have eo : b1 0 15 (6 * b 0 14 (b 0 11 i).toNat + (2 * b 0 12 i - 2)).toNat = tb (b1 0 15) 0 64 (b 0 14 (b 0 11 i).toNat) (2 * b 0 12 i - 2) := tbM_at nf.1 (by omega) c1.1 c1.2 _
        have ek : b1 0 15 (6 * b 0 14 (b 0 13 i).toNat + (2 * b 0 12 i - 2) + 1).toNat = tb (b1 0 15) 0 64 (b 0 14 (b 0 13 i).toNat) (cx (2 * b 0 12 i - 2)) := by
          rw [← tbM_at nt'.1 (by omega) c2.1 c2.2, ecx, Int.add_assoc]
        have ix : 6 * b 0 14 (b 0 13 i).toNat + (2 * b 0 12 i - 2) + 1 = 6 * b 0 14 (b 0 13 i).toNat + cx (2 * b 0 12 i - 2) := by rw [ecx]; omega
        have rng : ∀ x c, tb (b1 0 15) 0 64 x c = -1 ∨ (0 ≤ tb (b1 0 15) 0 64 x c ∧ tb (b1 0 15) 0 64 x c < m) := by
          intro x c
          by_cases z : tb (b1 0 15) 0 64 x c = -1
          · exact Or.inl z
          · exact Or.inr (hw x c z).2.1
        have r1 := rng (b 0 14 (b 0 11 i).toNat) (2 * b 0 12 i - 2)
        have r2 := rng (b 0 14 (b 0 13 i).toNat) (cx (2 * b 0 12 i - 2))
        refine ⟨⟨by omega, by omega⟩, fun t14 e14 => ⟨⟨by omega, by omega⟩, fun t16 e16 => ?_⟩⟩
        rw [eo] at e14
        rw [ek] at e16
        have set : (t14 = -1 ∨ t14 = b 0 14 (b 0 13 i).toNat) → (t16 = -1 ∨ t16 = b 0 14 (b 0 11 i).toNat) → wb_M_foldOnce_137 post (wb_M_foldOnce_24 post n) (i : Int) (b 0 14 (b 0 11 i).toNat) (b 0 14 (b 0 13 i).toNat) (2 * b 0 12 i - 2) g b1 := by
          intro s1 s2
          refine ⟨⟨by omega, by omega⟩, ⟨by omega, by omega⟩, ?_⟩
          have e1 : (i : Int) + 1 = ((i + 1 : Nat) : Int) := by omega
          rw [setA_ss, e1, ix]
          have eW : tb (setA b1 0 15 (va_up (va_up (b1 0 15) (6 * b 0 14 (b 0 11 i).toNat + (2 * b 0 12 i - 2)).toNat (b 0 14 (b 0 13 i).toNat)) (6 * b 0 14 (b 0 13 i).toNat + cx (2 * b 0 12 i - 2)).toNat (b 0 14 (b 0 11 i).toNat)) 0 15) 0 64 = up2 (up2 (tb (b1 0 15) 0 64) (b 0 14 (b 0 11 i).toNat) (2 * b 0 12 i - 2) (b 0 14 (b 0 13 i).toNat)) (b 0 14 (b 0 13 i).toNat) (cx (2 * b 0 12 i - 2)) (b 0 14 (b 0 11 i).toNat) := by
            rw [setA_s, tbM_up nt'.1 (by omega) c2.1 c2.2, tbM_up nf.1 (by omega) c1.1 c1.2]
          have k1 : tb (b1 0 15) 0 64 (b 0 14 (b 0 11 i).toNat) (2 * b 0 12 i - 2) = -1 ∨ tb (b1 0 15) 0 64 (b 0 14 (b 0 11 i).toNat) (2 * b 0 12 i - 2) = b 0 14 (b 0 13 i).toNat := by rw [← e14]; exact s1
          have k2 : up2 (tb (b1 0 15) 0 64) (b 0 14 (b 0 11 i).toNat) (2 * b 0 12 i - 2) (b 0 14 (b 0 13 i).toNat) (b 0 14 (b 0 13 i).toNat) (cx (2 * b 0 12 i - 2)) = -1 ∨ up2 (tb (b1 0 15) 0 64) (b 0 14 (b 0 11 i).toNat) (2 * b 0 12 i - 2) (b 0 14 (b 0 13 i).toNat) (b 0 14 (b 0 13 i).toNat) (cx (2 * b 0 12 i - 2)) = b 0 14 (b 0 11 i).toNat := by
            rw [up2_n _ _ (fun z => by have := z.2; omega), ← e16]
            exact s2
          refine ih (i + 1) _ (by omega) (by omega) (frT_tr hfr frT_15) ((setA_k _ _ (by omega)).trans h14) ?_ ?_ (fun j hj => ?_)
          · rw [eW]
            exact fo_pw_up hE hn (fo_pw_up hE hn hw E1) E2
          · rw [eW]
            exact fo_ps_up (fo_ps_up hs E1) E2
          · rw [eW]
            by_cases w : j = i
            · rw [w]
              exact ⟨fo_set hE hn k2 E1 (up2_s _ _ _ _), up2_s _ _ _ _⟩
            · obtain ⟨F1, F2⟩ := ed j (by omega)
              have y := hl j (by omega)
              exact ⟨fo_set hE hn k2 F1 (fo_set hE hn k1 F1 y.1), fo_set hE hn k2 F2 (fo_set hE hn k1 F2 y.2)⟩
        have second : (t14 = -1 ∨ t14 = b 0 14 (b 0 13 i).toNat) → wb_M_foldOnce_117 post (wb_M_foldOnce_24 post n) (i : Int) (b 0 14 (b 0 11 i).toNat) (b 0 14 (b 0 13 i).toNat) (2 * b 0 12 i - 2) t16 g b1 := by
          intro s1
          refine ⟨⟨by omega, by omega⟩, fun z => set s1 (by omega), fun z => ⟨⟨by omega, by omega⟩, fun y => set s1 (Or.inr y), fun y => ?_⟩⟩
          have hq : tb (b1 0 15) 0 64 (b 0 14 (b 0 13 i).toNat) (cx (2 * b 0 12 i - 2)) ≠ -1 := by omega
          have fx := (fo_ps_nm hE hn hs hq).1
          have mt := fo_meet hE hn hw E2 hq
          rw [fx, ← e16] at mt
          rw [← e16] at fx
          exact un b1 t16 _ hfr h14 (by omega) (by omega) fx nf.1 nf.2.1 nf.2.2 y mt
        refine ⟨⟨by omega, by omega⟩, fun z => second (by omega), fun z => ⟨⟨by omega, by omega⟩, fun y => second (Or.inr y), fun y => ?_⟩⟩
        have hq : tb (b1 0 15) 0 64 (b 0 14 (b 0 11 i).toNat) (2 * b 0 12 i - 2) ≠ -1 := by omega
        have fx := (fo_ps_nm hE hn hs hq).1
        have mt := fo_meet hE hn hw E1 hq
        rw [fx, ← e14] at mt
        rw [← e14] at fx
        exact un b1 t14 _ hfr h14 (by omega) (by omega) fx nt'.1 nt'.2.1 nt'.2.2 y mt
  have reset : ∀ (n i : Nat) (b1 : aS), i ≤ 384 → 384 < n + i → frT b b1 → b1 0 14 = b 0 14 → (∀ j, j < i → b1 0 15 j = -1) → wb_M_foldOnce_2 post n (i : Int) g b1 := by
    intro n
    induction n with
    | zero => intro i b1 g1 g2; omega
    | succ n ih =>
      intro i b1 g1 g2 hfr h14 hz
      rw [wb_M_foldOnce_2, Int.toNat_natCast]
      refine ⟨⟨by omega, by omega⟩, fun q => ?_, fun q => ⟨⟨by omega, by omega⟩, ?_⟩⟩
      · have w1 : ∀ x c, tb (b1 0 15) 0 64 x c = -1 := by
          intro x c
          unfold tb
          by_cases r : (0 ≤ x ∧ x < 64) ∧ 0 ≤ c ∧ c < 6
          · rw [if_pos r]
            exact hz _ (by omega)
          · rw [if_neg r]
        exact ⟨_, edges ((g 0 10).toNat + 1) 0 b1 (by omega) (by omega) hfr h14 (fo_pw0 m E w1) (fo_ps0 E _ w1) (fun j hj => by omega)⟩
      · have e1 : (i : Int) + 1 = ((i + 1 : Nat) : Int) := by omega
        rw [e1]
        refine ih (i + 1) _ (by omega) (by omega) (frT_tr hfr frT_15) ((setA_k _ _ (by omega)).trans h14) (fun j hj => ?_)
        rw [setA_s]
        by_cases z : j = i
        · rw [z, va_up_self]
        · rw [va_up_ne _ _ z]
          exact hz j (by omega)
  exact ⟨_, reset 385 0 b (by omega) (by omega) (fun _ _ _ => rfl) rfl (fun j hj => by omega)⟩
theorem mS_fr {b' : aS} {e M : Int} (h : frT b b') (hd : mS g b M E e) : mS g b' M E e := by
  refine ⟨hd.1, hd.2.1, fun u c v => ?_⟩
  rw [h 11 (by omega) (by omega), h 12 (by omega) (by omega), h 13 (by omega) (by omega)]
  exact hd.2.2 u c v
theorem s_foldM {post : fS → aS → Prop} {e : Int} (hd : mS g b (m : Int) E e) (he : e ≤ 256) (h64 : m ≤ 64) (hE : fo_in m E) (hc : ∀ u c v, E u c v → 0 ≤ c ∧ c < 6) (hb : 0 ≤ g 0 9 ∧ g 0 9 < m) (hp : ∀ b', frT b b' → fo_spec m E (b' 0 14) (tb (b' 0 15) 0 64) → post (setF g 0 9 (b' 0 14 (g 0 9).toNat)) b') : wp_M_fold post g b := by
  have d1 := hd.1
  have passes : ∀ (n : Nat) (ch : Int) (b1 : aS), frT b b1 → fo_nm m E (b1 0 14) → ((ch = 0 ∧ fo_spec m E (b1 0 14) (tb (b1 0 15) 0 64) ∧ 0 < n) ∨ (ch = 1 ∧ cnt m (b1 0 14) + 1 < n)) → wb_M_fold_25 post n ch g b1 := by
    intro n
    induction n with
    | zero => intro ch b1 hfr hn hst; omega
    | succ n ih =>
      intro ch b1 hfr hn hst
      rw [wb_M_fold_25]
      rcases hst with ⟨z1, z2, z3⟩ | ⟨z1, z2⟩
      · subst z1
        exact ⟨by decide, fun _ => ⟨⟨by omega, by omega⟩, hp b1 hfr z2⟩, fun y => absurd rfl y⟩
      · subst z1
        refine ⟨by decide, fun y => absurd y (by decide), fun _ => ?_⟩
        refine s_once (mS_fr hfr hd) he h64 hE hc hn (fun b2 f2 n2 s2 => ?_) (fun b2 f2 n2 c2 => ?_)
        · exact ih 0 b2 (frT_tr hfr f2) ⟨s2.1, s2.2.1⟩ (Or.inl ⟨rfl, s2, by omega⟩)
        · exact ih 1 b2 (frT_tr hfr f2) n2 (Or.inr ⟨rfl, by omega⟩)
  have names : ∀ (n i : Nat) (b1 : aS), i ≤ m → m < n + i → frT b b1 → (∀ v, v < i → b1 0 14 v = (v : Int)) → wb_M_fold_2 post n (i : Int) g b1 := by
    intro n
    induction n with
    | zero => intro i b1 g1 g2; omega
    | succ n ih =>
      intro i b1 g1 g2 hfr h4
      rw [wb_M_fold_2, Int.toNat_natCast]
      refine ⟨⟨by omega, by omega⟩, ⟨by omega, by omega⟩, fun q => ?_, fun q => ⟨⟨by omega, by omega⟩, ?_⟩⟩
      · have ei : i = m := by omega
        subst ei
        obtain ⟨s1, s2⟩ := fo_start i E h4
        exact ⟨_, passes (i + 2) 1 b1 hfr s1 (Or.inr ⟨rfl, by omega⟩)⟩
      · have e1 : (i : Int) + 1 = ((i + 1 : Nat) : Int) := by omega
        rw [e1]
        refine ih (i + 1) _ (by omega) (by omega) (frT_tr hfr frT_14) (fun v hv => ?_)
        rw [setA_s]
        by_cases z : v = i
        · rw [z, va_up_self]
        · rw [va_up_ne _ _ z]
          exact h4 v (by omega)
  exact ⟨_, names (m + 1) 0 b (by omega) (by omega) (fun _ _ _ => rfl) (fun v hv => by omega)⟩
end
