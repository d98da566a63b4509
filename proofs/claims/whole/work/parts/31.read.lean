section
variable {post : Int → fS → aS → Prop} {N : Int} {f : fS} {a : aS} {g : fS} {b : aS} {o : Nat}
theorem gok_in (h : gok N f a o) (v c : Int) : gA f a o v c = -1 ∨ (0 ≤ gA f a o v c ∧ gA f a o v c < f o 0) := by
  by_cases q : gA f a o v c = -1
  · exact Or.inl q
  · exact Or.inr (h.1.2.1 v c q).2.2.1
theorem gok_ir (h : gok N f a o) (v c : Int) : ir (gA f a o v c) := by
  have q := gok_in h v c
  have n := h.1.1
  exact ⟨by omega, by omega⟩
theorem gA_at {v c : Int} (v0 : 0 ≤ v) (v1 : v < f o 0) (c0 : 0 ≤ c) (c1 : c < 6) : a o 3 (v * 6 + c).toNat = gA f a o v c := by
  show _ = tb (a o 3) 0 (f o 0) v c
  rw [tb_at _ _ v0 v1 c0 c1]
  have e : 0 + (6 * v + c).toNat = (v * 6 + c).toNat := by omega
  rw [e]
theorem s_way (ho : 3 ≤ o ∧ o < 7) (h : gok N f a o) {v c : Int} (v0 : 0 ≤ v) (v1 : v < f o 0) (c0 : 0 ≤ c) (c1 : c < 6) (hp : post (gA f a o v c) f a) : wp_G_way post o v c f a := by
  have n := h.1.1
  refine ⟨ho, ⟨by omega, by omega⟩, ?_⟩
  rw [gA_at (a := a) v0 v1 c0 c1]
  exact hp
theorem gB_at {k : Nat} {s v c : Int} (hs : s = (k : Int)) (h : grel f a g b k) (v0 : 0 ≤ v) (v1 : v < f (3 + k) 0) (c0 : 0 ≤ c) (c1 : c < 6) : b 0 4 (384 * s + 6 * v + c).toNat = gA f a (3 + k) v c := by
  rw [← h.2.1, tb_at _ _ v0 v1 c0 c1]
  have e : 384 * k + (6 * v + c).toNat = (384 * s + 6 * v + c).toNat := by omega
  rw [e]
theorem s_wayM {k : Nat} {s v c : Int} (hs : s = (k : Int)) (hk : k < 4) (ho : gok N f a (3 + k)) (h : grel f a g b k) (v0 : 0 ≤ v) (v1 : v < f (3 + k) 0) (c0 : 0 ≤ c) (c1 : c < 6) (hp : post (gA f a (3 + k) v c) g b) : wp_M_way post s v c g b := by
  have n := ho.1.1
  refine ⟨⟨by omega, by omega⟩, ?_⟩
  rw [gB_at hs h v0 v1 c0 c1]
  exact hp
theorem rg_m1 {A : Int → Int → Int} (h1 : ∀ c, A (-1) c = -1) {w : Nat → Int} {i : Nat} (h : rg A 0 w i = -1) : ∀ j, rg A 0 w (i + j) = -1 := by
  intro j
  induction j with
  | zero => exact h
  | succ j ih =>
    show A (rg A 0 w (i + j)) (w (i + j)) = -1
    rw [ih, h1]
theorem rg_in (h : gok N f a o) (w : Nat → Int) (i : Nat) : rg (gA f a o) 0 w i = -1 ∨ (0 ≤ rg (gA f a o) 0 w i ∧ rg (gA f a o) 0 w i < f o 0) := by
  cases i with
  | zero =>
    have n := h.1.1
    exact Or.inr ⟨Int.le_refl 0, by show 0 < f o 0; omega⟩
  | succ i => exact gok_in h _ _
theorem s_trace_l {s : Int} (hs : 0 ≤ s ∧ s < 4) (hN : N ≤ 3) (ho : gok N f a (3 + s.toNat)) (hL : 0 ≤ f 1 1 ∧ f 1 1 ≤ 24) (hw : wok N (a 1 0) (f 1 1).toNat) (hp : post (rg (gA f a (3 + s.toNat)) 0 (fun j => co (a 1 0 j)) (f 1 1).toNat) f a) : ∀ n i : Nat, i ≤ (f 1 1).toNat → (f 1 1).toNat < n + i → wb_X_trace_14 post n s (rg (gA f a (3 + s.toNat)) 0 (fun j => co (a 1 0 j)) i) (i : Int) f a := by
  intro n
  induction n with
  | zero => intro i h1 h2; omega
  | succ n ih =>
    intro i h1 h2
    have r := rg_in ho (fun j => co (a 1 0 j)) i
    have nn := ho.1.1
    rw [wb_X_trace_14]
    refine ⟨⟨by omega, by omega⟩, ⟨by omega, by omega⟩, fun q => ?_, fun q => ⟨⟨by omega, by omega⟩, fun q2 => ?_, fun q2 => ⟨hs, ⟨by omega, by omega⟩, ?_⟩⟩⟩
    · have e : i = (f 1 1).toNat := by omega
      rw [e]
      exact hp
    · have e := rg_m1 (gi_m1 ho.1) q2 ((f 1 1).toNat - i)
      have e2 : i + ((f 1 1).toNat - i) = (f 1 1).toNat := by omega
      rw [e2] at e
      show post (rg (gA f a (3 + s.toNat)) 0 (fun j => co (a 1 0 j)) i) f a
      rw [q2, ← e]
      exact hp
    · obtain ⟨l1, l2, l3⟩ := hw.1 i (by omega)
      have c := co_in l1 l2 l3
      have ei : (i : Int).toNat = i := by omega
      rw [ei]
      refine s_code ⟨by omega, by omega⟩ ?_
      refine s_way ⟨by omega, by omega⟩ ho (by omega) (by omega) c.1 (by omega) ?_
      have k := ih (i + 1) (by omega) (by omega)
      have e3 : ((i + 1 : Nat) : Int) = (i : Int) + 1 := by omega
      rw [e3] at k
      exact k
theorem s_walk_l {k : Nat} {s : Int} (hs : s = (k : Int)) (hk : k < 4) (hN : N ≤ 3) (ho : gok N f a (3 + k)) (hr : grel f a g b k) (hL : 0 ≤ g 0 1 ∧ g 0 1 ≤ 24) (hw : wok N (b 0 2) (g 0 1).toNat) (hp : post (rg (gA f a (3 + k)) 0 (fun j => co (b 0 2 j)) (g 0 1).toNat) g b) : ∀ n i : Nat, i ≤ (g 0 1).toNat → (g 0 1).toNat < n + i → wb_M_walk_4 post n s (rg (gA f a (3 + k)) 0 (fun j => co (b 0 2 j)) i) (i : Int) g b := by
  intro n
  induction n with
  | zero => intro i h1 h2; omega
  | succ n ih =>
    intro i h1 h2
    have r := rg_in ho (fun j => co (b 0 2 j)) i
    have nn := ho.1.1
    rw [wb_M_walk_4]
    refine ⟨⟨by omega, by omega⟩, ⟨by omega, by omega⟩, fun q => ?_, fun q => ⟨⟨by omega, by omega⟩, fun q2 => ?_, fun q2 => ⟨⟨by omega, by omega⟩, ?_⟩⟩⟩
    · have e : i = (g 0 1).toNat := by omega
      rw [e]
      exact hp
    · have q3 : rg (gA f a (3 + k)) 0 (fun j => co (b 0 2 j)) i = -1 := by omega
      have e := rg_m1 (gi_m1 ho.1) q3 ((g 0 1).toNat - i)
      have e2 : i + ((g 0 1).toNat - i) = (g 0 1).toNat := by omega
      rw [e2] at e
      show post (rg (gA f a (3 + k)) 0 (fun j => co (b 0 2 j)) i) g b
      rw [q3, ← e]
      exact hp
    · obtain ⟨l1, l2, l3⟩ := hw.1 i (by omega)
      have c := co_in l1 l2 l3
      have ei : (i : Int).toNat = i := by omega
      rw [ei]
      refine s_codeM ⟨by omega, by omega⟩ ?_
      refine s_wayM hs hk ho hr (by omega) (by omega) c.1 (by omega) ?_
      have k := ih (i + 1) (by omega) (by omega)
      have e3 : ((i + 1 : Nat) : Int) = (i : Int) + 1 := by omega
      rw [e3] at k
      exact k
end
/-- where the typed word leads -/
def trd (f : fS) (a : aS) (s : Int) : Int := rg (gA f a (3 + s.toNat)) 0 (fun j => co (a 1 0 j)) (f 1 1).toNat
theorem s_trace {post : Int → fS → aS → Prop} {f : fS} {a : aS} {g : fS} {b : aS} {s : Int} (hI : Inv f a g b) (hx : ir s) (h0 : ¬ (0 ≤ s ∧ s < 4) → post (-1) f a) (h1 : 0 ≤ s ∧ s < 4 → post (trd f a s) f a) : wp_X_trace post s f a := by
  obtain ⟨w1, w2, w3, w4, w5, w6⟩ := hI.1
  refine s_subN hx (fun h => h0 h) (fun h => ?_)
  obtain ⟨k1, k2⟩ := hI.2 s.toNat (by omega)
  exact ⟨(f 1 1).toNat + 1, s_trace_l h w1.2 k1 w3 w5 (h1 h) _ 0 (by omega) (by omega)⟩
theorem wok_congr {N : Int} {w v : Nat → Int} {L : Nat} (h : wok N w L) (e : ∀ i, i < L → v i = w i) : wok N v L := by
  refine ⟨fun i hi => by rw [e i hi]; exact h.1 i hi, fun i hi => by rw [e i (by omega), e (i + 1) hi]; exact h.2 i hi⟩
theorem s_walk {post : Int → fS → aS → Prop} {f : fS} {a : aS} {g : fS} {b : aS} {s : Int} (hI : Inv f a g b) (hs : 0 ≤ s ∧ s < 4) (h1 : post (trd f a s) g b) : wp_M_walk post s g b := by
  obtain ⟨w1, w2, w3, w4, w5, w6⟩ := hI.1
  obtain ⟨k1, k2⟩ := hI.2 s.toNat (by omega)
  have e : (g 0 1).toNat = (f 1 1).toNat := by omega
  have hb : wok (f 0 0) (b 0 2) (g 0 1).toNat := by
    rw [e]
    exact wok_congr w5 (fun i hi => w6 i (by omega))
  have ht : trd f a s = rg (gA f a (3 + s.toNat)) 0 (fun j => co (b 0 2 j)) (g 0 1).toNat := by
    unfold trd
    rw [e]
    refine rg_congr _ _ (fun i hi => ?_)
    show co (a 1 0 i) = co (b 0 2 i)
    rw [w6 i (by omega)]
  rw [ht] at h1
  exact ⟨(g 0 1).toNat + 1, s_walk_l (s := s) (by omega) (by omega) w1.2 k1 k2 (by omega) hb h1 _ 0 (by omega) (by omega)⟩
theorem trd_ir {f : fS} {a : aS} {g : fS} {b : aS} {s : Int} (hI : Inv f a g b) (hs : 0 ≤ s ∧ s < 4) : ir (trd f a s) := by
  obtain ⟨k1, k2⟩ := hI.2 s.toNat (by omega)
  have r := rg_in k1 (fun j => co (a 1 0 j)) (f 1 1).toNat
  have nn := k1.1.1
  unfold trd
  exact ⟨by omega, by omega⟩
theorem sim_trace (f : fS) (a : aS) (g : fS) (b : aS) (x : Int) (hI : Inv f a g b) (hx : ir x) : wp_X_trace (fun z f1 a1 => wp_M_trace (fun z2 g1 b1 => z = z2 ∧ Inv f1 a1 g1 b1) x g b) x f a := by
  refine s_trace hI hx (fun h => s_grpB hx (fun _ => ⟨rfl, hI⟩) (fun h2 => absurd h2 h)) (fun h => ?_)
  exact s_grpB hx (fun h2 => absurd h h2) (fun _ => s_walk hI h ⟨rfl, hI⟩)
theorem s_member {post : Int → fS → aS → Prop} {f : fS} {a : aS} {g : fS} {b : aS} {s : Int} (hI : Inv f a g b) (hx : ir s) (h0 : ¬ ((0 ≤ s ∧ s < 4) ∧ trd f a s = 0) → post 0 f a) (h1 : (0 ≤ s ∧ s < 4) ∧ trd f a s = 0 → post 1 f a) : wp_X_member post s f a := by
  refine s_trace hI hx (fun h => ⟨by decide, fun _ => ⟨Or.inl rfl, h0 (fun q => h q.1)⟩, fun q => absurd (by decide) q⟩) (fun h => ⟨trd_ir hI h, fun q => ⟨Or.inl rfl, h0 (fun r => q r.2)⟩, fun q => ⟨Or.inr rfl, h1 ⟨h, Classical.byContradiction q⟩⟩⟩)
theorem sim_member (f : fS) (a : aS) (g : fS) (b : aS) (x : Int) (hI : Inv f a g b) (hx : ir x) : wp_X_member (fun z f1 a1 => wp_M_member (fun z2 g1 b1 => z = z2 ∧ Inv f1 a1 g1 b1) x g b) x f a := by
  refine s_member hI hx (fun h => ?_) (fun h => ?_)
  · refine s_grpB hx (fun _ => ⟨Or.inl rfl, rfl, hI⟩) (fun h2 => s_walk hI h2 ⟨trd_ir hI h2, fun q => ⟨Or.inl rfl, rfl, hI⟩, fun q => ?_⟩)
    exact absurd ⟨h2, Classical.byContradiction q⟩ h
  · exact s_grpB hx (fun h2 => absurd h.1 h2) (fun h2 => s_walk hI h2 ⟨trd_ir hI h2, fun q => absurd h.2 q, fun q => ⟨Or.inr rfl, rfl, hI⟩⟩)
theorem sim_target (f : fS) (a : aS) (g : fS) (b : aS) (x1 x2 x3 : Int) (hI : Inv f a g b) (h1 : ir x1) (h2 : ir x2) (h3 : ir x3) : wp_X_target (fun z f1 a1 => wp_M_target (fun z2 g1 b1 => z = z2 ∧ Inv f1 a1 g1 b1) x1 x2 x3 g b) x1 x2 x3 f a := by
  obtain ⟨w1, w2, w3, w4, w5, w6⟩ := hI.1
  have no : ¬ ((0 ≤ x1 ∧ x1 < 4) ∧ (x3 ≠ 0 ∧ -(f 0 0) ≤ x3 ∧ x3 ≤ f 0 0) ∧ 0 ≤ x2 ∧ x2 < f (3 + x1.toNat) 0) → wp_M_target (fun z2 g1 b1 => -1 = z2 ∧ Inv f a g1 b1) x1 x2 x3 g b := by
    intro h
    refine s_grpB h1 (fun _ => ⟨rfl, hI⟩) (fun q1 => ?_)
    obtain ⟨k1, k2⟩ := hI.2 x1.toNat (by omega)
    have e := k2.1
    have nn := k1.1.1
    refine ⟨h2, fun _ => ⟨rfl, hI⟩, fun q2 => ⟨q1, ⟨by omega, by omega⟩, fun _ => ⟨rfl, hI⟩, fun q3 => ?_⟩⟩
    refine s_letM h3 (by omega) (fun _ => b_0 ⟨rfl, hI⟩) (fun q4 => ?_)
    exact absurd ⟨q1, ⟨q4.1, by omega, by omega⟩, by omega, by omega⟩ h
  refine s_subB h1 (fun q => no (fun z => q z.1)) (fun q1 => ?_)
  obtain ⟨k1, k2⟩ := hI.2 x1.toNat (by omega)
  have e := k2.1
  have nn := k1.1.1
  refine s_let h3 w1 (fun q => b_0 (no (fun z => q z.2.1))) (fun q2 => b_1 ?_)
  refine ⟨h2, fun q => no (fun z => by omega), fun q3 => ⟨q1, ⟨by omega, by omega⟩, fun q4 => ?_, fun q4 => no (fun z => by omega)⟩⟩
  have c := co_in q2.1 q2.2.1 q2.2.2
  refine s_code h3 (s_way ⟨by omega, by omega⟩ k1 (by omega) q4 c.1 (by omega) ?_)
  refine s_grpB h1 (fun z => absurd q1 z) (fun _ => ⟨h2, fun z => by omega, fun _ => ⟨q1, ⟨by omega, by omega⟩, fun z => by omega, fun _ => ?_⟩⟩)
  refine s_letM h3 (by omega) (fun z => absurd ⟨q2.1, by omega, by omega⟩ z) (fun _ => b_1 ?_)
  exact s_codeM h3 (s_wayM (k := x1.toNat) (by omega) (by omega) k1 k2 (by omega) q4 c.1 (by omega) ⟨rfl, hI⟩)
