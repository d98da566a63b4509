theorem s_turn_l {post : fS → aS → Prop} {f : fS} {a0 : aS} {w : Nat → Int} {L : Nat} (hL : L ≤ 24) (hp : ∀ a, (∀ q : Nat, q < L → a 1 0 q = -(w (L - 1 - q))) → (∀ o k, ¬ (o = 1 ∧ k = 0) → a o k = a0 o k) → post f a) : ∀ (n : Nat) (i j : Int) (a : aS), 0 ≤ i → i + j = (L : Int) - 1 → (i ≤ j + 2 ∧ j + 2 - i < n) → (∀ q : Nat, q < L → ((q : Int) < i ∨ j < q → a 1 0 q = -(w (L - 1 - q))) ∧ (i ≤ q → (q : Int) ≤ j → a 1 0 q = w q)) → (∀ o k, ¬ (o = 1 ∧ k = 0) → a o k = a0 o k) → wb_W_turnRound_9 post n i j f a := by
  intro n
  induction n with
  | zero =>
    intro i j a h0 h1 h2 h3 h4
    omega
  | succ n ih =>
    intro i j a h0 h1 h2 h3 h4
    rw [wb_W_turnRound_9]
    refine ⟨⟨by omega, by omega⟩, ⟨by omega, by omega⟩, fun q => hp a (fun k hk => (h3 k hk).1 (by omega)) h4, fun q => ⟨⟨by omega, by omega⟩, fun t ht => ⟨⟨by omega, by omega⟩, ?_⟩⟩⟩
    refine ih (i + 1) (j + (-1)) _ (by omega) (by omega) (by omega) (fun k hk => ?_) (fun o k hok => ?_)
    · rw [setA_s]
      have ti : a 1 0 i.toNat = w i.toNat := (h3 i.toNat (by omega)).2 (by omega) (by omega)
      have tj : a 1 0 j.toNat = w j.toNat := (h3 j.toNat (by omega)).2 (by omega) (by omega)
      have ei : L - 1 - i.toNat = j.toNat := by omega
      have ej : L - 1 - j.toNat = i.toNat := by omega
      by_cases z : k = j.toNat
      · rw [z, va_up_self, ej, ht, ti]
        exact ⟨fun _ => rfl, fun _ _ => by omega⟩
      · rw [va_up_ne _ _ z]
        by_cases y : k = i.toNat
        · rw [y, va_up_self, ei, tj]
          exact ⟨fun _ => rfl, fun _ _ => by omega⟩
        · rw [va_up_ne _ _ y]
          exact ⟨fun _ => (h3 k hk).1 (by omega), fun _ _ => (h3 k hk).2 (by omega) (by omega)⟩
    · rw [← h4 o k hok]
      unfold setA
      rw [if_neg hok, if_neg hok]
theorem s_turn {post : fS → aS → Prop} {f : fS} {a : aS} (hL : 0 ≤ f 1 1 ∧ f 1 1 ≤ 24) (hp : ∀ a', (∀ q : Nat, q < (f 1 1).toNat → a' 1 0 q = -(a 1 0 ((f 1 1).toNat - 1 - q))) → (∀ o k, ¬ (o = 1 ∧ k = 0) → a' o k = a o k) → post f a') : wp_W_turnRound post f a := by
  intro t ht
  refine ⟨(f 1 1).toNat + 2, s_turn_l (L := (f 1 1).toNat) (a0 := a) (w := a 1 0) (by omega) hp _ 0 t a (by omega) (by omega) ⟨by omega, by omega⟩ (fun q hq => ⟨fun z => by omega, fun _ _ => rfl⟩) (fun _ _ _ => rfl)⟩
theorem s_inv2_l {post : Int → fS → aS → Prop} {g : fS} {b0 : aS} {L : Nat} (hL : L ≤ 24) (hg : g 0 1 = (L : Int)) (hp : ∀ b, (∀ q : Nat, q < L → b 0 2 q = b0 0 24 q) → (∀ o k, ¬ (o = 0 ∧ k = 2) → b o k = b0 o k) → post (g 0 1) g b) : ∀ (n i : Nat) (b : aS), i ≤ L → L < n + i → (∀ q : Nat, q < i → b 0 2 q = b0 0 24 q) → (∀ o k, ¬ (o = 0 ∧ k = 2) → b o k = b0 o k) → wb_M_invert_38 post n (i : Int) g b := by
  intro n
  induction n with
  | zero => intro i b h1 h2; omega
  | succ n ih =>
    intro i b h1 h2 h3 h4
    rw [wb_M_invert_38]
    refine ⟨⟨by omega, by omega⟩, ⟨by omega, by omega⟩, fun q => hp b (fun k hk => h3 k (by omega)) h4, fun q => ⟨⟨by omega, by omega⟩, ⟨by omega, by omega⟩, ?_⟩⟩
    have e : (i : Int) + 1 = ((i + 1 : Nat) : Int) := by omega
    rw [e, Int.toNat_natCast]
    refine ih (i + 1) _ (by omega) (by omega) (fun k hk => ?_) (fun o k hok => ?_)
    · rw [setA_s, h4 0 24 (by omega)]
      by_cases z : k = i
      · rw [z, va_up_self]
      · rw [va_up_ne _ _ z]
        exact h3 k (by omega)
    · rw [← h4 o k hok]
      unfold setA
      rw [if_neg hok]
theorem s_inv1_l {post : Int → fS → aS → Prop} {g : fS} {b0 : aS} {L : Nat} (hL : L ≤ 24) (hg : g 0 1 = (L : Int)) (hp : ∀ b, (∀ q : Nat, q < L → b 0 24 q = -(b0 0 2 (L - 1 - q))) → (∀ o k, ¬ (o = 0 ∧ k = 24) → b o k = b0 o k) → ∃ j, wb_M_invert_38 post j 0 g b) : ∀ (n i : Nat) (b : aS), i ≤ L → L < n + i → (∀ q : Nat, q < i → b 0 24 q = -(b0 0 2 (L - 1 - q))) → (∀ o k, ¬ (o = 0 ∧ k = 24) → b o k = b0 o k) → wb_M_invert_2 post n (i : Int) g b := by
  intro n
  induction n with
  | zero => intro i b h1 h2; omega
  | succ n ih =>
    intro i b h1 h2 h3 h4
    rw [wb_M_invert_2]
    refine ⟨⟨by omega, by omega⟩, ⟨by omega, by omega⟩, fun q => hp b (fun k hk => h3 k (by omega)) h4, fun q => ⟨⟨by omega, by omega⟩, ⟨by omega, by omega⟩, ?_⟩⟩
    have e : (i : Int) + 1 = ((i + 1 : Nat) : Int) := by omega
    have e2 : (g 0 1 - 1 - (i : Int)).toNat = L - 1 - i := by omega
    rw [e, Int.toNat_natCast, e2]
    refine ih (i + 1) _ (by omega) (by omega) (fun k hk => ?_) (fun o k hok => ?_)
    · rw [setA_s, h4 0 2 (by omega)]
      by_cases z : k = i
      · rw [z, va_up_self]
      · rw [va_up_ne _ _ z]
        exact h3 k (by omega)
    · rw [← h4 o k hok]
      unfold setA
      rw [if_neg hok]
theorem sim_invert (f : fS) (a : aS) (g : fS) (b : aS) (hI : Inv f a g b) : wp_X_invert (fun z f1 a1 => wp_M_invert (fun z2 g1 b1 => z = z2 ∧ Inv f1 a1 g1 b1) g b) f a := by
  obtain ⟨w1, w2, w3, w4, w5, w6⟩ := hI.1
  refine s_turn w3 (fun a1 ha1 ha2 => ?_)
  refine ⟨(f 1 1).toNat + 1, s_inv1_l (L := (f 1 1).toNat) (b0 := b) (by omega) (by omega) (fun b1 hb1 hb2 => ?_) _ 0 b (by omega) (by omega) (fun q hq => by omega) (fun _ _ _ => rfl)⟩
  refine ⟨(f 1 1).toNat + 1, s_inv2_l (L := (f 1 1).toNat) (b0 := b1) (by omega) (by omega) (fun b2 hc1 hc2 => ⟨by omega, ?_⟩) _ 0 b1 (by omega) (by omega) (fun q hq => by omega) (fun _ _ _ => rfl)⟩
  refine inv_of hI ⟨rfl, fun _ _ _ => rfl, fun o i ho _ => ha2 o i (by omega), fun i i1 i2 => by rw [hc2 0 i (by omega), hb2 0 i (by omega)]⟩ ?_
  refine ⟨w1, w2, w3, w4, ⟨fun i hi => ?_, fun i hi => ?_⟩, fun i hi => ?_⟩
  · rw [ha1 i hi]
    have q := w5.1 ((f 1 1).toNat - 1 - i) (by omega)
    omega
  · rw [ha1 i (by omega), ha1 (i + 1) hi]
    have q := w5.2 ((f 1 1).toNat - 1 - (i + 1)) (by omega)
    have e : (f 1 1).toNat - 1 - (i + 1) + 1 = (f 1 1).toNat - 1 - i := by omega
    rw [e] at q
    omega
  · rw [hc1 i (by omega), hb1 i (by omega), ha1 i (by omega), w6 _ (by omega)]
