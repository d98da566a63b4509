/-- the class's numbering after j looks -/
def nmS (T : Int → Int → Int) (S0 : bS) (f : fS) (a : aS) (o j : Nat) (f1 : fS) (a1 : aS) : Prop :=
  (∃ n : Nat, bfr T S0 j = (n, a1 2 10, a1 2 11, a1 o 5, a1 o 6, a1 o 7) ∧ f1 o 0 = (n : Int)) ∧ (f1 o 1 = 0 ∧ f1 o 2 = 0 ∧ (∀ i, i < 384 → a1 o 4 i = 0) ∧ a1 2 7 = a 2 7 ∧ a1 o 6 0 = -1) ∧
  (∀ o' i, o' ≠ 2 → o' ≠ o → f1 o' i = f o' i ∧ a1 o' i = a o' i) ∧ (∀ i, i < j → i / 6 < (bfr T S0 i).1) ∧
  ∀ x c : Int, 0 ≤ x → x < 64 → 0 ≤ c → c < 6 → tb (a1 o 3) 0 64 x c = if 6 * x + c < (j : Int) ∧ T (a1 2 11 x.toNat) c ≠ -1 then a1 2 10 (T (a1 2 11 x.toNat) c).toNat else -1
theorem s_num {post : Int → fS → aS → Prop} {N b : Int} {m o : Nat} {f : fS} {a : aS} (ho : 3 ≤ o ∧ o < 7) (hN : 1 ≤ N ∧ N ≤ 3) (h64 : m ≤ 64) (hb : f 2 1 = b) (b0 : 0 ≤ b ∧ b < m) (ht : tbl N m b (tb (a 2 7) 0 64)) (hp : ∀ (f' : fS) (a' : aS) (S0 : bS) (n : Nat) (nu od : Nat → Int), bst m b S0 → bf_fin (tb (a 2 7) 0 64) S0 (n, nu, od, a' o 5, a' o 6, a' o 7) → f' o 0 = (n : Int) → a' o 6 0 = -1 → gA f' a' o = stA n nu od (tb (a 2 7) 0 64) → gok N f' a' o → (∀ o' i, o' ≠ 2 → o' ≠ o → f' o' i = f o' i ∧ a' o' i = a o' i) → post (f' o 0) f' a') : wp_D_numberInto post o f a := by
  have o2 : o ≠ 2 := by omega
  have o2' : ¬ 2 = o := by omega
  have hT0 : ∀ x c, tb (a 2 7) 0 64 x c = -1 ∨ (0 ≤ tb (a 2 7) 0 64 x c ∧ tb (a 2 7) 0 64 x c < m) := by
    intro x c
    by_cases q : tb (a 2 7) 0 64 x c = -1
    · exact Or.inl q
    · exact Or.inr (ht.1 x c q).2.2.1
  refine ⟨ho, ho, ?_⟩
  generalize hf3 : setF (setF (setF f o 0 1) o 1 0) o 2 0 = f3
  generalize ha4 : setA (setA (setA (setA (setA a o 5 (va_up (a o 5) (Int.toNat 0) (-1))) o 6 (va_up (a o 6) (Int.toNat 0) (-1))) o 7 (va_up (a o 7) (Int.toNat 0) 0)) o 3 (fillA (a o 3) 384 (-1))) o 4 (fillA (a o 4) 384 0) = a4
  show (0 ≤ f3 2 1 ∧ f3 2 1 < 64) ∧ ∃ j, wb_D_numberInto_34 post j o 0 f3 (setA (setA (setA a4 2 10 (fillA (a4 2 10) 64 (-1))) 2 10 (va_up (fillA (a4 2 10) 64 (-1)) (f3 2 1).toNat 0)) 2 11 (va_up (a4 2 11) (Int.toNat 0) (f3 2 1)))
  have eb : f3 2 1 = b := by
    rw [← hf3, setF_o _ _ o2', setF_o _ _ o2', setF_o _ _ o2']
    exact hb
  rw [eb]
  refine ⟨⟨by omega, by omega⟩, ?_⟩
  generalize ha5 : setA (setA (setA a4 2 10 (fillA (a4 2 10) 64 (-1))) 2 10 (va_up (fillA (a4 2 10) 64 (-1)) b.toNat 0)) 2 11 (va_up (a4 2 11) (Int.toNat 0) b) = a5
  have z0 : f3 o 0 = 1 := by rw [← hf3]; simp [setF]
  have z1 : f3 o 1 = 0 := by rw [← hf3]; simp [setF]
  have z2 : f3 o 2 = 0 := by rw [← hf3]; simp [setF]
  have y10 : a5 2 10 b.toNat = 0 ∧ ∀ x : Nat, x < m → x ≠ b.toNat → a5 2 10 x = -1 := by
    rw [← ha5, ← ha4]
    refine ⟨by simp [setA, va_up], fun x hx hxb => ?_⟩
    have : x < 64 := by omega
    simp [setA, va_up, fillA, hxb, this]
  have y11 : a5 2 11 0 = b := by rw [← ha5, ← ha4]; simp [setA, va_up]
  have y7 : a5 2 7 = a 2 7 := by rw [← ha5, ← ha4]; simp [setA, o2, o2']
  have y3 : ∀ x c, tb (a5 o 3) 0 64 x c = -1 := by
    intro x c
    have e : a5 o 3 = fillA (a o 3) 384 (-1) := by rw [← ha5, ← ha4]; simp [setA, o2, o2']
    rw [e]
    unfold tb
    by_cases r : (0 ≤ x ∧ x < 64) ∧ 0 ≤ c ∧ c < 6
    · rw [if_pos r]
      exact if_pos (by omega)
    · rw [if_neg r]
  have y4 : ∀ i, i < 384 → a5 o 4 i = 0 := by
    intro i hi
    have e : a5 o 4 = fillA (a o 4) 384 0 := by rw [← ha5, ← ha4]; simp [setA, o2, o2']
    rw [e]
    exact if_pos hi
  have y6 : a5 o 6 0 = -1 := by rw [← ha5, ← ha4]; simp [setA, va_up, o2, o2']
  have yd : a5 o 7 0 = 0 := by rw [← ha5, ← ha4]; simp [setA, va_up, o2, o2']
  have yf : ∀ o' i, o' ≠ 2 → o' ≠ o → f3 o' i = f o' i ∧ a5 o' i = a o' i := by
    intro o' i h1 h2
    rw [← hf3, ← ha5, ← ha4]
    exact ⟨by simp [setF, h2], by simp [setA, h1, h2]⟩
  have hS0 : bst m b (1, a5 2 10, a5 2 11, a5 o 5, a5 o 6, a5 o 7) := ⟨rfl, y11, b0, y10.1, y10.2, yd⟩
  have allinv := bf_inv_all hT0 (bst_inv (tb (a 2 7) 0 64) hS0)
  have looks : ∀ (v : Nat) (k34 : Nat → Int → fS → aS → Prop), (∀ f1 a1, nmS (tb (a 2 7) 0 64) (1, a5 2 10, a5 2 11, a5 o 5, a5 o 6, a5 o 7) f a o (6 * v + 6) f1 a1 → k34 o ((v : Int) + 1) f1 a1) → ∀ (n2 d : Nat) (f1 : fS) (a1 : aS), d ≤ 6 → 6 < n2 + d → (v : Int) < f1 o 0 → nmS (tb (a 2 7) 0 64) (1, a5 2 10, a5 2 11, a5 o 5, a5 o 6, a5 o 7) f a o (6 * v + d) f1 a1 → wb_D_numberInto_50 post k34 n2 o (v : Int) (d : Int) f1 a1 := by
    intro v k34 hk n2
    induction n2 with
    | zero => intro d f1 a1 g1 g2; omega
    | succ n2 ih =>
      intro d f1 a1 g1 g2 hv hst
      have hst0 := hst
      obtain ⟨⟨n, eS, fn⟩, ⟨e1, e2, it, w7, ar0⟩, frx, lk, wy⟩ := hst
      have inv := allinv (6 * v + d) lk
      rw [eS] at inv
      obtain ⟨i1, i2, i3, i4, i5, i6, i7⟩ := inv
      have ov := i4 v (by omega)
      have le : n ≤ m := by
        have q := bf_inv_le (allinv (6 * v + d) lk)
        rw [eS] at q
        exact q
      rw [wb_D_numberInto_50]
      refine ⟨⟨by omega, by omega⟩, fun z => ?_, fun z => ⟨⟨by omega, by omega⟩, ?_⟩⟩
      · have ed : d = 6 := by omega
        subst ed
        exact hk f1 a1 hst0
      · rw [Int.toNat_natCast]
        refine ⟨⟨by omega, by omega⟩, fun t htt => ?_⟩
        rw [w7, tbD_at (c := (d : Int)) ov.1 (by omega) (by omega) (by omega) (a 2 7)] at htt
        have rt := hT0 (a1 2 11 v) (d : Int)
        have e9 : (d : Int) + 1 = ((d + 1 : Nat) : Int) := by omega
        have j1 : (6 * v + d) / 6 = v := by omega
        have j2 : (6 * v + d) % 6 = d := by omega
        have bs : bfr (tb (a 2 7) 0 64) (1, a5 2 10, a5 2 11, a5 o 5, a5 o 6, a5 o 7) (6 * v + (d + 1)) = bf (tb (a 2 7) 0 64) v d (n, a1 2 10, a1 2 11, a1 o 5, a1 o 6, a1 o 7) := by
          show bf (tb (a 2 7) 0 64) ((6 * v + d) / 6) ((6 * v + d) % 6) (bfr (tb (a 2 7) 0 64) (1, a5 2 10, a5 2 11, a5 o 5, a5 o 6, a5 o 7) (6 * v + d)) = _
          rw [j1, j2, eS]
        have lk2 : ∀ i, i < 6 * v + (d + 1) → i / 6 < (bfr (tb (a 2 7) 0 64) (1, a5 2 10, a5 2 11, a5 o 5, a5 o 6, a5 o 7) i).1 := by
          intro i hi
          by_cases w : i = 6 * v + d
          · rw [w, eS, j1]
            show v < n
            omega
          · exact lk i (by omega)
        refine ⟨⟨by omega, by omega⟩, fun w => ?_, fun w => ?_⟩
        · -- a way
          have upd : ∀ (f2 : fS) (a2 : aS) (n' : Nat), bfr (tb (a 2 7) 0 64) (1, a5 2 10, a5 2 11, a5 o 5, a5 o 6, a5 o 7) (6 * v + (d + 1)) = (n', a2 2 10, a2 2 11, a2 o 5, a2 o 6, a2 o 7) → f2 o 0 = (n' : Int) → n ≤ n' → f2 o 1 = 0 → f2 o 2 = 0 → (∀ i, i < 384 → a2 o 4 i = 0) → a2 2 7 = a 2 7 → a2 o 6 0 = -1 → (∀ o' i, o' ≠ 2 → o' ≠ o → f2 o' i = f o' i ∧ a2 o' i = a o' i) → a2 o 3 = a1 o 3 → (∀ x : Nat, x ≤ v → a2 2 11 x = a1 2 11 x) → (∀ y : Int, 0 ≤ y → 0 ≤ a1 2 10 y.toNat → a2 2 10 y.toNat = a1 2 10 y.toNat) → wb_D_numberInto_122 post (wb_D_numberInto_50 post k34 n2) o (v : Int) (d : Int) t f2 a2 := by
            intro f2 a2 n' q1 q2 qn q3 q4 q5 q6 q7 q8 q9 q10 q11
            refine ⟨ho, ⟨by omega, by omega⟩, ⟨by omega, by omega⟩, ?_⟩
            show wb_D_numberInto_50 post k34 n2 o (v : Int) ((d : Int) + 1) f2 _
            rw [e9]
            have s10 : ∀ w, setA a2 o 3 w 2 10 = a2 2 10 := fun w => setA_o _ _ o2'
            have s11 : ∀ w, setA a2 o 3 w 2 11 = a2 2 11 := fun w => setA_o _ _ o2'
            refine ih (d + 1) _ _ (by omega) (by omega) (by omega) ⟨⟨n', ?_, q2⟩, ⟨q3, q4, fun i hi => ?_, ?_, ?_⟩, fun o' i u1 u2 => ⟨(q8 o' i u1 u2).1, ?_⟩, lk2, fun x c x0 x1 c0 c1 => ?_⟩
            · rw [q1, s10, s11, setA_k _ _ (by omega), setA_k _ _ (by omega), setA_k _ _ (by omega)]
            · rw [setA_k _ _ (by omega)]
              exact q5 i hi
            · rw [setA_o _ _ o2']
              exact q6
            · rw [setA_k _ _ (by omega)]
              exact q7
            · rw [setA_o _ _ u2]
              exact (q8 o' i u1 u2).2
            · rw [setA_s, s10, s11, q9, tbD_up (by omega) (by omega) (by omega) (by omega)]
              unfold up2
              by_cases y1 : x = (v : Int) ∧ c = (d : Int)
              · rw [if_pos y1, y1.1, y1.2, Int.toNat_natCast, q10 v (Nat.le_refl v), ← htt, if_pos ⟨by omega, w⟩]
              · rw [if_neg y1, wy x c x0 x1 c0 c1]
                by_cases y2 : 6 * x + c < ((6 * v + d : Nat) : Int)
                · have ex : x.toNat ≤ v := by omega
                  rw [q10 _ ex]
                  by_cases y3 : tb (a 2 7) 0 64 (a1 2 11 x.toNat) c ≠ -1
                  · rw [if_pos ⟨y2, y3⟩, if_pos ⟨by omega, y3⟩]
                    have r := hT0 (a1 2 11 x.toNat) c
                    have k7 := (i7 (6 * x.toNat + c.toNat) (by omega)).2
                    have d1 : (6 * x.toNat + c.toNat) / 6 = x.toNat := by omega
                    have d2 : (((6 * x.toNat + c.toNat) % 6 : Nat) : Int) = c := by omega
                    rw [d1, d2] at k7
                    exact (q11 _ (by omega) (k7 (by omega))).symm
                  · rw [if_neg (fun u => y3 u.2), if_neg (fun u => y3 u.2)]
                · rw [if_neg (fun u => y2 u.1), if_neg (fun u => by
                    have := u.1
                    omega)]
          have rn := i5 t.toNat (by omega)
          have rnu : a1 2 10 t.toNat = -1 ∨ (0 ≤ a1 2 10 t.toNat ∧ a1 2 10 t.toNat < n) := by
            rcases rn with u | ⟨k', u1, u2, u3⟩
            · exact Or.inl u
            · exact Or.inr ⟨by omega, by omega⟩
          clear rn
          refine ⟨⟨by omega, by omega⟩, ⟨by omega, by omega⟩, fun y => ?_, fun y => ?_⟩
          · refine upd f1 a1 n ?_ fn (Nat.le_refl n) e1 e2 it w7 ar0 frx rfl (fun _ _ => rfl) (fun _ _ _ => rfl)
            rw [bs]
            simp only [bf]
            rw [if_neg (fun u => by rw [← htt] at u; omega)]
          · have y := Classical.byContradiction y
            have cond : 0 ≤ tb (a 2 7) 0 64 (a1 2 11 v) (d : Int) ∧ a1 2 10 (tb (a 2 7) 0 64 (a1 2 11 v) (d : Int)).toNat < 0 := by
              rw [← htt]
              omega
            have bs2 : bfr (tb (a 2 7) 0 64) (1, a5 2 10, a5 2 11, a5 o 5, a5 o 6, a5 o 7) (6 * v + (d + 1)) = (n + 1, va_up (a1 2 10) t.toNat n, va_up (a1 2 11) n t, va_up (a1 o 5) n v, va_up (a1 o 6) n d, va_up (a1 o 7) n (a1 o 7 v + 1)) := by
              rw [bs]
              simp only [bf]
              rw [if_pos cond, ← htt]
            have le2 : n + 1 ≤ m := by
              have q := bf_inv_le (allinv (6 * v + (d + 1)) lk2)
              rw [bs2] at q
              exact q
            have en : (n : Int).toNat = n := by omega
            have ev : (v : Int).toNat = v := by omega
            refine ⟨ho, ⟨by omega, by omega⟩, ?_⟩
            rw [fn, en]
            refine ⟨ho, by rw [fn]; exact ⟨by omega, by omega⟩, fun u => by rw [fn] at u; omega, fun u => ⟨by rw [fn]; exact ⟨by omega, by omega⟩, ⟨by omega, by omega⟩, ?_⟩⟩
            rw [fn, en, ev]
            have s : ∀ w1 w2 i, setA (setA a1 2 10 w1) 2 11 w2 o i = a1 o i := fun w1 w2 i => (setA_o _ _ o2).trans (setA_o _ _ o2)
            rw [s, s, s]
            refine upd _ _ (n + 1) ?_ ?_ (by omega) ?_ ?_ (fun i hi => ?_) ?_ ?_ (fun o' i u1 u2 => ?_) ?_ (fun x hx => ?_) (fun q q0 q1 => ?_)
            · rw [bs2]
              congr 1
              · simp [setA, o2, o2']
            · rw [setF_s]
              omega
            · rw [setF_k _ _ (by omega)]
              exact e1
            · rw [setF_k _ _ (by omega)]
              exact e2
            · rw [setA_k _ _ (by omega), setA_k _ _ (by omega), setA_k _ _ (by omega), s]
              exact it i hi
            · rw [setA_o _ _ o2', setA_o _ _ o2', setA_o _ _ o2', setA_k _ _ (by omega), setA_k _ _ (by omega)]
              exact w7
            · rw [setA_k _ _ (by omega), setA_s, va_up_ne _ _ (by omega)]
              exact ar0
            · rw [setF_o _ _ u2, setA_o _ _ u2, setA_o _ _ u2, setA_o _ _ u2, setA_o _ _ u1, setA_o _ _ u1]
              exact frx o' i u1 u2
            · rw [setA_k _ _ (by omega), setA_k _ _ (by omega), setA_k _ _ (by omega), s]
            · rw [setA_o _ _ o2', setA_o _ _ o2', setA_o _ _ o2', setA_s, va_up_ne _ _ (by omega)]
            · rw [setA_o _ _ o2', setA_o _ _ o2', setA_o _ _ o2', setA_k _ _ (by omega), setA_s, va_up_ne _ _ (fun u => by
                rw [u] at q1
                omega)]
        · have w := Classical.byContradiction w
          show wb_D_numberInto_50 post k34 n2 o (v : Int) ((d : Int) + 1) f1 a1
          rw [e9]
          refine ih (d + 1) f1 a1 (by omega) (by omega) hv ⟨⟨n, ?_, fn⟩, ⟨e1, e2, it, w7, ar0⟩, frx, lk2, fun x c x0 x1 c0 c1 => ?_⟩
          · rw [bs]
            simp only [bf]
            rw [if_neg (fun u => by rw [← htt] at u; omega)]
          · rw [wy x c x0 x1 c0 c1]
            by_cases y2 : 6 * x + c < ((6 * v + d : Nat) : Int) ∧ tb (a 2 7) 0 64 (a1 2 11 x.toNat) c ≠ -1
            · rw [if_pos y2, if_pos ⟨by omega, y2.2⟩]
            · rw [if_neg y2, if_neg (fun u => y2 ⟨by
                rcases Int.lt_or_le (6 * x + c) ((6 * v + d : Nat) : Int) with k | k
                · exact k
                · have ex : x = (v : Int) := by omega
                  have ec : c = (d : Int) := by omega
                  have u2 := u.2
                  rw [ex, ec, Int.toNat_natCast, ← htt] at u2
                  exact absurd w u2, u.2⟩)]
  have outer : ∀ (n v : Nat) (f1 : fS) (a1 : aS), (v : Int) ≤ f1 o 0 → 65 < n + v → nmS (tb (a 2 7) 0 64) (1, a5 2 10, a5 2 11, a5 o 5, a5 o 6, a5 o 7) f a o (6 * v) f1 a1 → wb_D_numberInto_34 post n o (v : Int) f1 a1 := by
    intro n
    induction n with
    | zero =>
      intro v f1 a1 g1 g2 hst
      obtain ⟨⟨n, eS, fn⟩, _, _, lk, _⟩ := hst
      have q := bf_inv_le (allinv (6 * v) lk)
      rw [eS] at q
      have q : n ≤ m := q
      omega
    | succ n ih =>
      intro v f1 a1 g1 g2 hst
      have hst0 := hst
      obtain ⟨⟨k, eS, fn⟩, ⟨e1, e2, it, w7, ar0⟩, frx, lk, wy⟩ := hst
      have le : k ≤ m := by
        have q := bf_inv_le (allinv (6 * v) lk)
        rw [eS] at q
        exact q
      have inv := allinv (6 * v) lk
      rw [eS] at inv
      have fin : f1 o 0 ≤ (v : Int) → wb_D_numberInto_152 post o f1 a1 := by
        intro hle
        have ek : k = v := by omega
        subst ek
        have eA : gA f1 a1 o = stA k (a1 2 10) (a1 2 11) (tb (a 2 7) 0 64) := by
          funext x c
          show tb (a1 o 3) 0 (f1 o 0) x c = _
          rw [fn]
          unfold stA
          by_cases q : 0 ≤ x ∧ x < (k : Int)
          · by_cases q2 : 0 ≤ c ∧ c < 6
            · have t := wy x c q.1 (by omega) q2.1 q2.2
              rw [tb_at _ _ q.1 (by omega) q2.1 q2.2] at t
              rw [tb_at _ _ q.1 q.2 q2.1 q2.2, t]
              have r := hT0 (a1 2 11 x.toNat) c
              by_cases q3 : 0 ≤ tb (a 2 7) 0 64 (a1 2 11 x.toNat) c
              · rw [if_pos ⟨by omega, by omega⟩, if_pos ⟨q, q3⟩]
              · rw [if_neg (fun u => q3 (by have := u.2; omega)), if_neg (fun u => q3 u.2)]
            · have z : tb (a1 o 3) 0 (k : Int) x c = -1 := if_neg (fun u => q2 u.2)
              have z2 : tb (a 2 7) 0 64 (a1 2 11 x.toNat) c = -1 := if_neg (fun u => q2 u.2)
              rw [z, z2, if_neg (fun u => by have := u.2; omega)]
          · have z : tb (a1 o 3) 0 (k : Int) x c = -1 := if_neg (fun u => q u.1)
            rw [z, if_neg (fun u => q u.1)]
        have hgi : gi N (f1 o 0) (gA f1 a1 o) (a1 o 5) (a1 o 6) (a1 o 7) := by
          rw [eA, fn]
          exact gi_of hN.2 (by omega) ar0 ht inv
        refine ⟨ho, s_basis ho hN hgi e1 e2 it (fun f2 a2 ff fa gk => ?_)⟩
        have f20 := ff o 0 (by omega)
        have a23 := fa o 3 (by omega)
        have eA2 : gA f2 a2 o = gA f1 a1 o := by
          show tb (a2 o 3) 0 (f2 o 0) = tb (a1 o 3) 0 (f1 o 0)
          rw [a23, f20]
        refine hp f2 a2 (1, a5 2 10, a5 2 11, a5 o 5, a5 o 6, a5 o 7) k (a1 2 10) (a1 2 11) hS0 ⟨?_, ?_⟩ (by rw [f20]; exact fn) (by rw [fa o 6 (by omega)]; exact ar0) (by rw [eA2]; exact eA) gk (fun o' i u1 u2 => ?_)
        · rw [fa o 5 (by omega), fa o 6 (by omega), fa o 7 (by omega)]
          exact eS.symm
        · exact lk
        · rw [ff o' i (fun u => u2 u.1), fa o' i (fun u => u2 u.1)]
          exact frx o' i u1 u2
      rw [wb_D_numberInto_34]
      refine ⟨⟨by omega, by omega⟩, fun z => fin (by omega), fun z => ⟨ho, ⟨by omega, by omega⟩, fun y => fin y, fun y => ?_⟩⟩
      refine ⟨_, looks v (wb_D_numberInto_34 post n) (fun f2 a2 h2 => ?_) 7 0 f1 a1 (by omega) (by omega) (by omega) hst0⟩
      have e4 : (v : Int) + 1 = ((v + 1 : Nat) : Int) := by omega
      have e5 : 6 * v + 6 = 6 * (v + 1) := by omega
      rw [e4]
      rw [e5] at h2
      refine ih (v + 1) f2 a2 ?_ (by omega) h2
      obtain ⟨⟨k2, eS2, fn2⟩, _, _, lk2, _⟩ := h2
      have inv2' := allinv (6 * (v + 1)) lk2
      rw [eS2] at inv2'
      have := (inv2'.2.2.2.2.2.2 (6 * v) (by omega)).1
      omega
  refine ⟨_, outer 66 0 f3 a5 (by omega) (by omega) ⟨⟨1, rfl, z0⟩, ⟨z1, z2, y4, y7, y6⟩, yf, fun i hi => by omega, fun x c x0 x1 c0 c1 => ?_⟩⟩
  rw [y3 x c, if_neg (fun u => by have := u.1; omega)]
