section
variable {N : Int} {f : fS} {a : aS} {g : fS} {b : aS} {k : Nat} {s : Int}
theorem gA_fr {a' : aS} {o : Nat} (h : ∀ i, i ≤ 7 → a' o i = a o i) : gA f a' o = gA f a o := by
  show tb (a' o 3) 0 (f o 0) = tb (a o 3) 0 (f o 0)
  rw [h 3 (by omega)]
theorem s_take_l {post : Int → fS → aS → Prop} (hk : k < 4) (hN : 1 ≤ N ∧ N ≤ 3) (ho : gok N f a (3 + k)) {i : Nat} (hi : pn (gA f a (3 + k)) (a (3 + k) 6) i = true) (hL : elL a f (3 + k) i ≤ 24) (hp : ∀ a' : aS, (∀ j, j < elL a f (3 + k) i → a' 1 0 j = elW a f (3 + k) i j) → (∀ o q, ¬ (o = 1 ∧ q = 0) → a' o q = a o q) → post (elL a f (3 + k) i : Int) (setF f 1 1 (elL a f (3 + k) i : Int)) a') : ∀ (n j : Nat) (a' : aS), j ≤ elL a f (3 + k) i → elL a f (3 + k) i < n + j → (∀ q, q < j → a' 1 0 q = elW a f (3 + k) i q) → (∀ o q, ¬ (o = 1 ∧ q = 0) → a' o q = a o q) → wb_X_take_42 post n (elL a f (3 + k) i : Int) (3 + k) (6 * ((i / 3 : Nat) : Int) + 2 * ((i % 3 : Nat) : Int)) (j : Int) f a' := by
  intro n
  induction n with
  | zero => intro j a' h1 h2; omega
  | succ n ih =>
    intro j a' h1 h2 h3 h4
    have hfr : ∀ q, a' (3 + k) q = a (3 + k) q := fun q => h4 (3 + k) q (by omega)
    have ho' : gok N f a' (3 + k) := gok_congr (fun _ => rfl) (fun q _ => hfr q) ho
    have eA : gA f a' (3 + k) = gA f a (3 + k) := gA_fr (fun q _ => hfr q)
    have bd := elL_bd hk hN ho hi
    rw [wb_X_take_42]
    refine ⟨⟨by omega, by omega⟩, ⟨by omega, by omega⟩, fun q => hp a' (fun l hl => h3 l (by omega)) h4, fun q => ⟨⟨by omega, by omega⟩, ?_⟩⟩
    have hn := (pn_iff _ _ _).mp hi
    refine s_letter hk hN ho' (v := ((i / 3 : Nat) : Int)) (c := 2 * ((i % 3 : Nat) : Int)) (by rw [eA, hfr 6]; exact hn) (by omega) ?_ ⟨⟨by omega, by omega⟩, ?_⟩
    · rw [eA, hfr 7, Int.toNat_natCast]
      omega
    · have e3 : (j : Int) + 1 = ((j + 1 : Nat) : Int) := by omega
      rw [e3, Int.toNat_natCast]
      refine ih (j + 1) _ (by omega) (by omega) (fun l hl => ?_) (fun o l hol => ?_)
      · rw [setA_s]
        by_cases z : l = j
        · rw [z, va_up_self, eA, hfr 5, hfr 6, hfr 7]
          rfl
        · rw [va_up_ne _ _ z]
          exact h3 l (by omega)
      · rw [← h4 o l hol]
        unfold setA
        rw [if_neg hol]
theorem s_take_M {post : Int → fS → aS → Prop} {g0 : fS} {b0 : aS} {L : Nat} (hL : L ≤ 24) (hg : g0 0 1 = (L : Int)) (hp : ∀ b' : aS, (∀ j, j < L → b' 0 2 j = b0 0 24 j) → (∀ o q, ¬ (o = 0 ∧ q = 2) → b' o q = b0 o q) → post (L : Int) g0 b') : ∀ (n j : Nat) (b' : aS), j ≤ L → L < n + j → (∀ q, q < j → b' 0 2 q = b0 0 24 q) → (∀ o q, ¬ (o = 0 ∧ q = 2) → b' o q = b0 o q) → wb_M_take_50 post n (j : Int) g0 b' := by
  intro n
  induction n with
  | zero => intro j b' h1 h2; omega
  | succ n ih =>
    intro j b' h1 h2 h3 h4
    rw [wb_M_take_50, hg]
    refine ⟨⟨by omega, by omega⟩, ⟨by omega, by omega⟩, fun q => hp b' (fun l hl => h3 l (by omega)) h4, fun q => ⟨⟨by omega, by omega⟩, ⟨by omega, by omega⟩, ?_⟩⟩
    have e3 : (j : Int) + 1 = ((j + 1 : Nat) : Int) := by omega
    rw [e3, Int.toNat_natCast]
    refine ih (j + 1) _ (by omega) (by omega) (fun l hl => ?_) (fun o l hol => ?_)
    · rw [setA_s, h4 0 24 (by omega)]
      by_cases z : l = j
      · rw [z, va_up_self]
      · rw [va_up_ne _ _ z]
        exact h3 l (by omega)
    · rw [← h4 o l hol]
      unfold setA
      rw [if_neg hol]
end
theorem sim_take (f : fS) (a : aS) (g : fS) (b : aS) (x1 x2 : Int) (hI : Inv f a g b) (h1 : ir x1) (h2 : ir x2) : wp_X_take (fun z f1 a1 => wp_M_take (fun z2 g1 b1 => z = z2 ∧ Inv f1 a1 g1 b1) x1 x2 g b) x1 x2 f a := by
  obtain ⟨w1, w2, w3, w4, w5, w6⟩ := hI.1
  refine s_length hI h1 h2 (fun q => ⟨by decide, fun y => absurd rfl y, fun _ => ?_⟩) (fun i q i1 i2 i3 => ?_)
  · refine s_grpB h1 (fun _ => ⟨rfl, hI⟩) (fun y => ?_)
    obtain ⟨k1, k2⟩ := hI.2 x1.toNat (by omega)
    refine s_find h2 (k := x1.toNat) (by omega) (by omega) w1 w2 k1 k2 (fun i i1 i2 i3 => ?_) (fun _ => n_0 ⟨rfl, hI⟩)
    exfalso
    apply q
    have lt := pg_lt i1 i2
    have e := k1.2.2.1
    exact ⟨y, by omega, by omega⟩
  · obtain ⟨k1, k2⟩ := hI.2 x1.toNat (by omega)
    have lt := pg_lt i1 i2
    have e := k1.2.2.1
    have bd := elL_bd (k := x1.toNat) (by omega) w1 k1 i2
    have M : ∀ (f1 : fS) (a1 : aS), (∀ R : Nat → Int, (∀ j, j < elL a f (3 + x1.toNat) i → R j = elW a f (3 + x1.toNat) i j) → ((elL a f (3 + x1.toNat) i ≤ 24 → ∃ j, wb_M_take_50 (fun z2 g1 b1 => (elL a f (3 + x1.toNat) i : Int) = z2 ∧ Inv f1 a1 g1 b1) j 0 (setF (setF (elG a f (3 + x1.toNat) g i) 0 23 (elL a f (3 + x1.toNat) i : Int)) 0 1 (elL a f (3 + x1.toNat) i : Int)) (setA b 0 24 R)))) → elL a f (3 + x1.toNat) i ≤ 24 → wp_M_take (fun z2 g1 b1 => (elL a f (3 + x1.toNat) i : Int) = z2 ∧ Inv f1 a1 g1 b1) x1 x2 g b := by
      intro f1 a1 hM hL
      refine s_grpB h1 (fun z => absurd q z) (fun _ => ?_)
      refine s_find h2 (k := x1.toNat) (by omega) (by omega) w1 w2 k1 k2 (fun j j1 j2 j3 => n_1 ?_) (fun z => absurd ⟨by omega, by omega⟩ z)
      have ej : j = i := pg_uniq j2 i2 (by omega)
      subst ej
      refine s_elM (k := x1.toNat) (by omega) (by omega) w1 k1 k2 j2 (fun R hR => ?_)
      rw [setF_s]
      exact ⟨⟨by omega, by omega⟩, fun _ => hM R hR hL, fun z => by omega⟩
    refine ⟨⟨by omega, by omega⟩, fun _ => ⟨fun y => ⟨q, fun o eo => ?_⟩, fun y => ?_⟩, fun y => by omega⟩
    · subst eo
      refine s_slot h2 (by omega) w1 k1 (fun j j1 j2 j3 => ?_) (fun z => absurd ⟨by omega, by omega⟩ z)
      have ej : j = i := pg_uniq j2 i2 (by omega)
      subst ej
      refine ⟨_, s_take_l (k := x1.toNat) (by omega) w1 k1 j2 (by omega) (fun a1 ha1 ha2 => ?_) (elL a f (3 + x1.toNat) j + 1) 0 a (by omega) (by omega) (fun l hl => by omega) (fun _ _ _ => rfl)⟩
      refine M _ _ (fun R hR hL => ⟨_, s_take_M (L := elL a f (3 + x1.toNat) j) (b0 := setA b 0 24 R) hL (setF_s _ _ _ _) (fun b1 hb1 hb2 => ⟨rfl, ?_⟩) (elL a f (3 + x1.toNat) j + 1) 0 _ (by omega) (by omega) (fun l hl => by omega) (fun _ _ _ => rfl)⟩) (by omega)
      have hn := (pn_iff _ _ _).mp j2
      refine inv_of hI ⟨setF_o _ _ (by omega), fun o l ho => setF_o _ _ (by omega), fun o l ho _ => ha2 o l (by omega), fun l l1 l2 => by rw [hb2 0 l (by omega), setA_k _ _ (by omega)]⟩ ?_
      unfold wrel
      rw [setF_o _ _ (by omega), setF_s, setF_s]
      refine ⟨w1, by rw [setF_k _ _ (by omega)]; simp [setF]; exact w2, ⟨by omega, by omega⟩, rfl, ?_, fun l hl => ?_⟩
      · rw [Int.toNat_natCast]
        refine wok_congr (w := elW a f (3 + x1.toNat) j) ⟨fun l hl => ?_, fun l hl => ?_⟩ ha1
        · have q1 := ew_in k1.1 hn (j := l) (by rw [Int.toNat_natCast]; exact hl)
          exact lo_in q1.1 q1.2
        · exact ewl_red k1.1 hn l (by rw [Int.toNat_natCast]; exact hl)
      · rw [hb1 l (by omega), setA_s, hR l (by omega), ha1 l (by omega)]
    · refine s_grpB h1 (fun z => absurd q z) (fun _ => ?_)
      refine s_find h2 (k := x1.toNat) (by omega) (by omega) w1 w2 k1 k2 (fun j j1 j2 j3 => n_1 ?_) (fun z => absurd ⟨by omega, by omega⟩ z)
      have ej : j = i := pg_uniq j2 i2 (by omega)
      subst ej
      refine s_elM (k := x1.toNat) (by omega) (by omega) w1 k1 k2 j2 (fun R hR => ?_)
      rw [setF_s]
      exact ⟨⟨by omega, by omega⟩, fun z => by omega, fun z => ⟨rfl, inv_el hI⟩⟩
