/-- answers of yes or no, taken up -/
theorem b_1 {P Q : Prop} (h : Q) : ir 1 ∧ (((1 : Int) = 0 → P) ∧ (¬ (1 : Int) = 0 → Q)) := ⟨by decide, fun e => absurd e (by decide), fun _ => h⟩
theorem b_0 {P Q : Prop} (h : P) : ir 0 ∧ (((0 : Int) = 0 → P) ∧ (¬ (0 : Int) = 0 → Q)) := ⟨by decide, fun _ => h, fun e => absurd rfl e⟩
theorem n_1 {P Q : Prop} (h : P) : ir 1 ∧ ((¬ (1 : Int) = 0 → P) ∧ (¬ ¬ (1 : Int) = 0 → Q)) := ⟨by decide, fun _ => h, fun e => absurd (by decide) e⟩
theorem n_0 {P Q : Prop} (h : Q) : ir 0 ∧ ((¬ (0 : Int) = 0 → P) ∧ (¬ ¬ (0 : Int) = 0 → Q)) := ⟨by decide, fun e => absurd rfl e, fun _ => h⟩
section
variable {post : Int → fS → aS → Prop} {P Q : fS → aS → Prop} {x : Int} {f : fS} {a : aS}
theorem s_sub (hx : ir x) (h0 : ¬ (0 ≤ x ∧ x < 4) → post 0 f a) (h1 : 0 ≤ x ∧ x < 4 → post 1 f a) : wp_X_isSubgroup post x f a :=
  ⟨hx, fun h => ⟨Or.inl rfl, h0 (by omega)⟩, fun h => ⟨fun h2 => ⟨Or.inl rfl, h0 (by omega)⟩, fun h2 => ⟨Or.inr rfl, h1 (by omega)⟩⟩⟩
theorem s_subB (hx : ir x) (h0 : ¬ (0 ≤ x ∧ x < 4) → P f a) (h1 : 0 ≤ x ∧ x < 4 → Q f a) : wp_X_isSubgroup (fun z f a => ir z ∧ ((z = 0 → P f a) ∧ (¬ z = 0 → Q f a))) x f a := s_sub hx (fun h => b_0 (h0 h)) (fun h => b_1 (h1 h))
theorem s_subN (hx : ir x) (h0 : ¬ (0 ≤ x ∧ x < 4) → P f a) (h1 : 0 ≤ x ∧ x < 4 → Q f a) : wp_X_isSubgroup (fun z f a => ir z ∧ ((¬ z = 0 → Q f a) ∧ (¬ ¬ z = 0 → P f a))) x f a := s_sub hx (fun h => n_0 (h0 h)) (fun h => n_1 (h1 h))
theorem s_grp (hx : ir x) (h0 : ¬ (0 ≤ x ∧ x < 4) → post 0 f a) (h1 : 0 ≤ x ∧ x < 4 → post 1 f a) : wp_M_isGroup post x f a :=
  ⟨hx, fun h => ⟨Or.inl rfl, h0 (by omega)⟩, fun h => ⟨fun h2 => ⟨Or.inl rfl, h0 (by omega)⟩, fun h2 => ⟨Or.inr rfl, h1 (by omega)⟩⟩⟩
theorem s_grpB (hx : ir x) (h0 : ¬ (0 ≤ x ∧ x < 4) → P f a) (h1 : 0 ≤ x ∧ x < 4 → Q f a) : wp_M_isGroup (fun z f a => ir z ∧ ((z = 0 → P f a) ∧ (¬ z = 0 → Q f a))) x f a := s_grp hx (fun h => b_0 (h0 h)) (fun h => b_1 (h1 h))
theorem s_grpN (hx : ir x) (h0 : ¬ (0 ≤ x ∧ x < 4) → P f a) (h1 : 0 ≤ x ∧ x < 4 → Q f a) : wp_M_isGroup (fun z f a => ir z ∧ ((¬ z = 0 → Q f a) ∧ (¬ ¬ z = 0 → P f a))) x f a := s_grp hx (fun h => n_0 (h0 h)) (fun h => n_1 (h1 h))
theorem s_let (hx : ir x) (hN : 1 ≤ f 0 0 ∧ f 0 0 ≤ 3) (h0 : ¬ (x ≠ 0 ∧ -(f 0 0) ≤ x ∧ x ≤ f 0 0) → post 0 f a) (h1 : x ≠ 0 ∧ -(f 0 0) ≤ x ∧ x ≤ f 0 0 → post 1 f a) : wp_X_isLetter post x f a :=
  ⟨hx, fun h => ⟨Or.inl rfl, h0 (by omega)⟩, fun h => ⟨⟨by omega, by omega⟩, fun h2 => ⟨Or.inl rfl, h0 (by omega)⟩, fun h2 => ⟨⟨by omega, by omega⟩, fun h3 => ⟨Or.inl rfl, h0 (by omega)⟩, fun h3 => ⟨Or.inr rfl, h1 (by omega)⟩⟩⟩⟩
theorem s_letM (hx : ir x) (hN : 1 ≤ f 0 0 ∧ f 0 0 ≤ 3) (h0 : ¬ (x ≠ 0 ∧ -(f 0 0) ≤ x ∧ x ≤ f 0 0) → post 0 f a) (h1 : x ≠ 0 ∧ -(f 0 0) ≤ x ∧ x ≤ f 0 0 → post 1 f a) : wp_M_isLetter post x f a :=
  ⟨hx, fun h => ⟨Or.inl rfl, h0 (by omega)⟩, fun h => ⟨⟨by omega, by omega⟩, fun h2 => ⟨Or.inl rfl, h0 (by omega)⟩, fun h2 => ⟨⟨by omega, by omega⟩, fun h3 => ⟨Or.inl rfl, h0 (by omega)⟩, fun h3 => ⟨Or.inr rfl, h1 (by omega)⟩⟩⟩⟩
theorem s_code (hx : ir x) (h : post (co x) f a) : wp_X_codeOf post x f a := by
  refine ⟨hx, fun q => ?_, fun q => ?_⟩
  · have e : co x = (-2) * x - 1 := by unfold co; rw [if_neg (by omega)]
    rw [e] at h
    exact h
  · have e : co x = 2 * x - 2 := by unfold co; rw [if_pos (by omega)]
    rw [e] at h
    exact h
theorem s_codeM (hx : ir x) (h : post (co x) f a) : wp_M_numberOf post x f a := by
  refine ⟨hx, fun q => ?_, fun q => ?_⟩
  · have e : co x = (-2) * x - 1 := by unfold co; rw [if_neg (by omega)]
    rw [e] at h
    exact h
  · have e : co x = 2 * x - 2 := by unfold co; rw [if_pos (by omega)]
    rw [e] at h
    exact h
theorem s_lo (h0 : 0 ≤ x) (h6 : x < 6) (h : post (lo x) f a) : wp_X_letterOf post x f a := by
  refine ⟨⟨h0, h6⟩, fun t ht => ⟨⟨by omega, by omega⟩, fun q => ?_, fun q => ?_⟩⟩
  · have e : lo x = -t := by unfold lo; rw [if_neg q]; omega
    rw [e] at h
    exact h
  · have e : lo x = t := by unfold lo; rw [if_pos (by omega)]; omega
    rw [e] at h
    exact h
theorem s_loM (h0 : 0 ≤ x) (h6 : x < 6) (h : post (lo x) f a) : wp_M_letterOf post x f a := by
  refine ⟨⟨h0, by omega⟩, ⟨by omega, by omega⟩, fun q => ?_, fun q => ?_⟩
  · have e : lo x = -(x / 2) - 1 := by unfold lo; rw [if_neg q]
    rw [e] at h
    exact h
  · have e : lo x = x / 2 + 1 := by unfold lo; rw [if_pos (by omega)]
    rw [e] at h
    exact h
end
theorem gok_congr {N : Int} {f f' : fS} {a a' : aS} {o : Nat} (hf : ∀ i, f' o i = f o i) (ha : ∀ i, i ≤ 7 → a' o i = a o i) (h : gok N f a o) : gok N f' a' o := by
  unfold gok gA at h ⊢
  rw [hf 0, hf 1, hf 2, ha 3 (by omega), ha 4 (by omega), ha 5 (by omega), ha 6 (by omega), ha 7 (by omega)]
  exact h
theorem grel_congr {f f' : fS} {a a' : aS} {g g' : fS} {b b' : aS} {k : Nat} (hf : ∀ i, f' (3 + k) i = f (3 + k) i) (ha : ∀ i, i ≤ 7 → a' (3 + k) i = a (3 + k) i) (hb : ∀ i, 3 ≤ i → i ≤ 7 → b' 0 i = b 0 i) (h : grel f a g b k) : grel f' a' g' b' k := by
  unfold grel gA at h ⊢
  rw [hf 0, ha 3 (by omega), ha 5 (by omega), ha 6 (by omega), ha 7 (by omega), hb 3 (by omega) (by omega), hb 4 (by omega) (by omega), hb 5 (by omega) (by omega), hb 6 (by omega) (by omega), hb 7 (by omega) (by omega)]
  exact h
/-- the graphs are as they were -/
def frm (f f' : fS) (a a' b b' : aS) : Prop := f' 0 0 = f 0 0 ∧ (∀ o i, 3 ≤ o → f' o i = f o i) ∧ (∀ o i, 3 ≤ o → i ≤ 7 → a' o i = a o i) ∧ ∀ i, 3 ≤ i → i ≤ 7 → b' 0 i = b 0 i
theorem inv_of {f f' : fS} {a a' : aS} {g g' : fS} {b b' : aS} (h : Inv f a g b) (hf : frm f f' a a' b b') (hw : wrel f' a' g' b') : Inv f' a' g' b' := by
  refine ⟨hw, fun k hk => ?_⟩
  obtain ⟨h1, h2⟩ := h.2 k hk
  obtain ⟨f1, f2, f3, f4⟩ := hf
  rw [f1]
  exact ⟨gok_congr (fun i => f2 (3 + k) i (by omega)) (fun i hi => f3 (3 + k) i (by omega) hi) h1, grel_congr (fun i => f2 (3 + k) i (by omega)) (fun i hi => f3 (3 + k) i (by omega) hi) f4 h2⟩
/-- a reference's change of its own scratch -/
theorem inv_g {f : fS} {a : aS} {g g' : fS} {b b' : aS} (h : Inv f a g b) (h0 : g' 0 0 = g 0 0) (h1 : g' 0 1 = g 0 1) (hb : ∀ i, 2 ≤ i → i ≤ 7 → b' 0 i = b 0 i) : Inv f a g' b' := by
  refine inv_of h ⟨rfl, fun _ _ _ => rfl, fun _ _ _ _ => rfl, fun i i1 i2 => hb i (by omega) i2⟩ ?_
  obtain ⟨w1, w2, w3, w4, w5, w6⟩ := h.1
  exact ⟨w1, by rw [h0, w2], w3, by rw [h1, w4], w5, fun i hi => by rw [hb 2 (by omega) (by omega)]; exact w6 i hi⟩
theorem inv_word {f : fS} {a : aS} {g : fS} {b : aS} (h : Inv f a g b) {n : Int} {w v : Nat → Int} (n0 : 0 ≤ n) (n1 : n ≤ 24) (hw : wok (f 0 0) w n.toNat) (hv : ∀ i : Nat, (i : Int) < n → v i = w i) : Inv (setF f 1 1 n) (setA a 1 0 w) (setF g 0 1 n) (setA b 0 2 v) := by
  obtain ⟨w1, w2, w3, w4, w5, w6⟩ := h.1
  refine inv_of h ⟨setF_o _ _ (by omega), fun o i ho => setF_o _ _ (by omega), fun o i ho _ => setA_o _ _ (by omega), fun i i1 i2 => setA_k _ _ (by omega)⟩ ?_
  unfold wrel
  rw [setF_o _ _ (by omega), setF_k _ _ (by omega), setF_s, setF_s, setA_s, setA_s]
  exact ⟨w1, w2, ⟨n0, n1⟩, rfl, hw, hv⟩
theorem sim_letter (f : fS) (a : aS) (g : fS) (b : aS) (x : Int) (hI : Inv f a g b) (hx : ir x) : wp_X_letter (fun z f1 a1 => wp_M_letter (fun z2 g1 b1 => z = z2 ∧ Inv f1 a1 g1 b1) x g b) x f a := by
  obtain ⟨w1, w2, w3, w4, w5, w6⟩ := hI.1
  have wl : ∀ i : Nat, (i : Int) < f 1 1 → ir (a 1 0 i) := fun i hi => by
    have q := w5.1 i (by omega)
    exact ⟨by omega, by omega⟩
  refine s_let hx w1 (fun h => b_0 ?_) (fun h => b_1 ?_)
  · show wp_M_letter _ x g b
    exact s_letM hx (by omega) (fun _ => n_0 ⟨rfl, hI⟩) (fun h2 => absurd ⟨h2.1, by omega, by omega⟩ h)
  · -- a letter
    have full : (f 1 1 ≤ 0 ∨ a 1 0 (f 1 1 - 1).toNat ≠ -x) → wb_W_append_38 (fun z f1 a1 => wp_M_letter (fun z2 g1 b1 => z = z2 ∧ Inv f1 a1 g1 b1) x g b) x f a := by
      intro hne
      have hM : ∀ post : Int → fS → aS → Prop, wb_M_letter_48 post x g b → wp_M_letter post x g b := by
        intro post hp
        refine s_letM hx (by omega) (fun h2 => absurd ⟨h.1, by omega, by omega⟩ h2) (fun _ => n_1 ?_)
        refine ⟨⟨by omega, by omega⟩, fun _ => hp, fun q => ⟨⟨by omega, by omega⟩, ?_, ⟨by omega, by omega⟩, fun _ => hp, fun q2 => ?_⟩⟩
        · have e := w6 (g 0 1 - 1).toNat (by omega)
          rw [e]
          exact wl _ (by omega)
        · have e := w6 (g 0 1 - 1).toNat (by omega)
          have q3 : b 0 2 (g 0 1 - 1).toNat = -x := Classical.byContradiction q2
          rw [e, w4] at q3
          rcases hne with z | z
          · omega
          · exact absurd q3 z
      refine ⟨⟨by omega, by omega⟩, fun q => ⟨⟨by omega, by omega⟩, ?_⟩, fun q => ?_⟩
      · refine hM _ ⟨⟨by omega, by omega⟩, fun q2 => ⟨⟨by omega, by omega⟩, ⟨by omega, ?_⟩⟩, fun q2 => absurd (by omega) q2⟩
        have e1 : (g 0 1).toNat = (f 1 1).toNat := by omega
        rw [e1, w4]
        refine inv_word hI (by omega) (by omega) ⟨fun i hi => ?_, fun i hi => ?_⟩ (fun i hi => ?_)
        · by_cases z : i = (f 1 1).toNat
          · rw [z, va_up_self]
            exact h
          · rw [va_up_ne _ _ z]
            exact w5.1 i (by omega)
        · rw [va_up_ne (a 1 0) x (by omega : i ≠ (f 1 1).toNat)]
          by_cases z : i + 1 = (f 1 1).toNat
          · rw [z, va_up_self]
            intro y
            have e2 : (f 1 1 - 1).toNat = i := by omega
            rcases hne with u | u
            · omega
            · rw [e2] at u
              omega
          · rw [va_up_ne _ _ z]
            exact w5.2 i (by omega)
        · by_cases z : i = (f 1 1).toNat
          · rw [z, va_up_self, va_up_self]
          · rw [va_up_ne _ _ z, va_up_ne _ _ z]
            exact w6 i (by omega)
      · exact hM _ ⟨⟨by omega, by omega⟩, fun q2 => absurd (by omega) q2, fun q2 => ⟨rfl, hI⟩⟩
    refine ⟨⟨by omega, by omega⟩, fun q => full (Or.inl q), fun q => ⟨⟨by omega, by omega⟩, wl _ (by omega), ⟨by omega, by omega⟩, fun q2 => full (Or.inr q2), fun q2 => ?_⟩⟩
    have q3 : a 1 0 (f 1 1 - 1).toNat = -x := Classical.byContradiction q2
    refine s_letM hx (by omega) (fun h2 => absurd ⟨h.1, by omega, by omega⟩ h2) (fun _ => n_1 ?_)
    have e := w6 (g 0 1 - 1).toNat (by omega)
    have e2 : (g 0 1 - 1).toNat = (f 1 1 - 1).toNat := by omega
    refine ⟨⟨by omega, by omega⟩, fun q => by omega, fun q => ⟨⟨by omega, by omega⟩, by rw [e]; exact wl _ (by omega), ⟨by omega, by omega⟩, fun q4 => ?_, fun _ => ⟨by omega, ?_⟩⟩⟩
    · rw [e, e2] at q4
      exact absurd q3 q4
    · have s1 : setA a 1 0 (a 1 0) = a := setA_id a 1 0
      have s2 : setA b 0 2 (b 0 2) = b := setA_id b 0 2
      have k := inv_word hI (n := f 1 1 - 1) (w := a 1 0) (v := b 0 2) (by omega) (by omega) ⟨fun i hi => w5.1 i (by omega), fun i hi => w5.2 i (by omega)⟩ (fun i hi => w6 i (by omega))
      rw [s1, s2] at k
      rw [w4]
      exact k
theorem sim_clear (f : fS) (a : aS) (g : fS) (b : aS) (hI : Inv f a g b) : wp_X_clear (fun z f1 a1 => wp_M_clear (fun z2 g1 b1 => z = z2 ∧ Inv f1 a1 g1 b1) g b) f a := by
  obtain ⟨w1, w2, w3, w4, w5, w6⟩ := hI.1
  intro t ht t2 ht2
  refine ⟨by omega, ?_⟩
  have k := inv_word hI (n := 0) (w := a 1 0) (v := b 0 2) (by omega) (by omega) ⟨fun i hi => absurd hi (by omega), fun i hi => absurd hi (by omega)⟩ (fun i hi => absurd hi (by omega))
  rw [setA_id, setA_id] at k
  exact k
theorem sim_at (f : fS) (a : aS) (g : fS) (b : aS) (x : Int) (hI : Inv f a g b) (hx : ir x) : wp_X_at (fun z f1 a1 => wp_M_at (fun z2 g1 b1 => z = z2 ∧ Inv f1 a1 g1 b1) x g b) x f a := by
  obtain ⟨w1, w2, w3, w4, w5, w6⟩ := hI.1
  have out : (x < 0 ∨ f 1 1 ≤ x) → wp_M_at (fun z2 g1 b1 => 0 = z2 ∧ Inv f a g1 b1) x g b := fun h =>
    ⟨hx, fun _ => ⟨rfl, hI⟩, fun h2 => ⟨⟨by omega, by omega⟩, fun _ => ⟨rfl, hI⟩, fun h3 => absurd h3 (by omega)⟩⟩
  refine ⟨hx, fun h => out (Or.inl h), fun h => ⟨⟨by omega, by omega⟩, fun h2 => out (Or.inr h2), fun h2 => ⟨⟨by omega, by omega⟩, ?_⟩⟩⟩
  exact ⟨hx, fun h3 => by omega, fun h3 => ⟨⟨by omega, by omega⟩, fun h4 => by omega, fun h4 => ⟨⟨by omega, by omega⟩, (w6 _ (by omega)).symm, hI⟩⟩⟩
