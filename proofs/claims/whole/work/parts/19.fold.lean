/-- a table changed at one place -/
def up2 (W : Int → Int → Int) (x c y : Int) : Int → Int → Int := fun x' c' => if x' = x ∧ c' = c then y else W x' c'
theorem up2_s (W : Int → Int → Int) (x c y : Int) : up2 W x c y x c = y := if_pos ⟨rfl, rfl⟩
theorem up2_n (W : Int → Int → Int) {x c x' c' : Int} (y : Int) (h : ¬ (x' = x ∧ c' = c)) : up2 W x c y x' c' = W x' c' := if_neg h
/-- how many vertices stand for themselves -/
def cnt (m : Nat) (nm : Nat → Int) : Nat := pg_n (fun v => decide (nm v = (v : Int))) m
theorem pg_imp {P Q : Nat → Bool} {n : Nat} (h : ∀ i, i < n → P i = true → Q i = true) : pg_n P n ≤ pg_n Q n := pg_inj n P Q n (fun i => i) (fun i hi p => ⟨hi, h i hi p⟩) (fun _ _ _ _ _ _ e => e)
theorem pg_less {P Q : Nat → Bool} {n b : Nat} (h : ∀ i, i < n → P i = true → Q i = true) (hb : b < n) (hq : Q b = true) (hp : P b = false) : pg_n P n < pg_n Q n := by
  rw [pg_del hb hq]
  have g : pg_n P n ≤ pg_n (fun i => Q i && !(decide (i = b))) n := pg_imp (fun i hi p => by
    have e : i ≠ b := fun z => by rw [z, hp] at p; exact Bool.noConfusion p
    simp [h i hi p, e])
  omega
/-- names: idempotent, and no coarser than they must be -/
def fo_nm (m : Nat) (E : Int → Int → Int → Prop) (nm : Nat → Int) : Prop :=
  (∀ v : Nat, v < m → 0 ≤ nm v ∧ nm v < m ∧ nm (nm v).toNat = nm v) ∧ ∀ R, fo_cong E R → ∀ v : Nat, v < m → R v (nm v)
def unm (m : Nat) (nm : Nat → Int) (a b : Int) (v : Nat) : Int := if v < m ∧ nm v = b then a else nm v
theorem fo_start (m : Nat) (E : Int → Int → Int → Prop) {nm : Nat → Int} (h : ∀ v, v < m → nm v = (v : Int)) : fo_nm m E nm ∧ cnt m nm = m := by
  refine ⟨⟨fun v hv => ?_, fun R hR v hv => ?_⟩, ?_⟩
  · rw [h v hv, Int.toNat_natCast, h v hv]
    exact ⟨by omega, by omega, rfl⟩
  · rw [h v hv]
    exact hR.1 _
  · exact pg_all (fun i hi => decide_eq_true (h i hi))
theorem cnt_pos {m : Nat} {E : Int → Int → Int → Prop} {nm : Nat → Int} (hm : 1 ≤ m) (h : fo_nm m E nm) : 1 ≤ cnt m nm := by
  have g := h.1 0 (by omega)
  have e : (((nm 0).toNat : Nat) : Int) = nm 0 := by omega
  have q := pg_lt (P := fun v => decide (nm v = (v : Int))) (i := (nm 0).toNat) (m := m) (by omega) (decide_eq_true (by rw [e]; exact g.2.2))
  unfold cnt
  omega
theorem un_ok {m : Nat} {E : Int → Int → Int → Prop} {nm : Nat → Int} {a b : Int} (h : fo_nm m E nm) (a0 : 0 ≤ a) (a1 : a < m) (ha : nm a.toNat = a) (b0 : 0 ≤ b) (b1 : b < m) (hb : nm b.toNat = b) (hab : a ≠ b) (hR : ∀ R, fo_cong E R → R b a) : fo_nm m E (unm m nm a b) ∧ cnt m (unm m nm a b) < cnt m nm := by
  have ua : unm m nm a b a.toNat = a := by
    unfold unm
    rw [ha, if_neg (fun z => hab z.2)]
  refine ⟨⟨fun v hv => ?_, fun R hc v hv => ?_⟩, ?_⟩
  · have g := h.1 v hv
    by_cases q : nm v = b
    · have e : unm m nm a b v = a := if_pos ⟨hv, q⟩
      rw [e, ua]
      exact ⟨a0, a1, rfl⟩
    · have e : unm m nm a b v = nm v := if_neg (fun z => q z.2)
      rw [e]
      refine ⟨g.1, g.2.1, ?_⟩
      unfold unm
      rw [g.2.2, if_neg (fun z => q z.2)]
  · by_cases q : nm v = b
    · have e : unm m nm a b v = a := if_pos ⟨hv, q⟩
      rw [e]
      have r := h.2 R hc v hv
      rw [q] at r
      exact hc.2.2.1 _ _ _ r (hR R hc)
    · have e : unm m nm a b v = nm v := if_neg (fun z => q z.2)
      rw [e]
      exact h.2 R hc v hv
  · have eb : ((b.toNat : Nat) : Int) = b := by omega
    refine pg_less (b := b.toNat) (fun i hi p => ?_) (by omega) (decide_eq_true (by rw [eb]; exact hb)) (decide_eq_false ?_)
    · have p : unm m nm a b i = (i : Int) := of_decide_eq_true p
      apply decide_eq_true
      by_cases q : nm i = b
      · have e : unm m nm a b i = a := if_pos ⟨hi, q⟩
        rw [e] at p
        have e2 : i = a.toNat := by omega
        rw [e2, ha] at q
        exact absurd q hab
      · have e : unm m nm a b i = nm i := if_neg (fun z => q z.2)
        rw [e] at p
        exact p
    · have e : unm m nm a b b.toNat = a := if_pos ⟨by omega, hb⟩
      rw [e, eb]
      exact hab
/-- the table while names may still change; while they don't -/
def fo_pw (m : Nat) (E : Int → Int → Int → Prop) (W : Int → Int → Int) : Prop := ∀ x c, W x c ≠ -1 → (0 ≤ x ∧ x < m) ∧ (0 ≤ W x c ∧ W x c < m) ∧ ∃ u v, E u c v ∧ ∀ R, fo_cong E R → R u x ∧ R v (W x c)
def fo_ps (E : Int → Int → Int → Prop) (nm : Nat → Int) (W : Int → Int → Int) : Prop := ∀ x c, W x c ≠ -1 → ∃ u v, E u c v ∧ nm u.toNat = x ∧ W x c = nm v.toNat
theorem fo_pw0 (m : Nat) (E : Int → Int → Int → Prop) {W : Int → Int → Int} (h : ∀ x c, W x c = -1) : fo_pw m E W := fun x c q => absurd (h x c) q
theorem fo_ps0 (E : Int → Int → Int → Prop) (nm : Nat → Int) {W : Int → Int → Int} (h : ∀ x c, W x c = -1) : fo_ps E nm W := fun x c q => absurd (h x c) q
section
variable {m : Nat} {E : Int → Int → Int → Prop} {nm : Nat → Int} {W : Int → Int → Int} {u c v : Int}
theorem fo_pw_up (hE : fo_in m E) (hn : fo_nm m E nm) (hw : fo_pw m E W) (he : E u c v) : fo_pw m E (up2 W (nm u.toNat) c (nm v.toNat)) := by
  obtain ⟨i1, i2, i3, i4⟩ := hE u c v he
  intro x d
  by_cases q : x = nm u.toNat ∧ d = c
  · obtain ⟨rfl, rfl⟩ := q
    intro _
    rw [up2_s]
    have g1 := hn.1 u.toNat (by omega)
    have g2 := hn.1 v.toNat (by omega)
    refine ⟨⟨g1.1, g1.2.1⟩, ⟨g2.1, g2.2.1⟩, u, v, he, fun R hR => ?_⟩
    have r1 := hn.2 R hR u.toNat (by omega)
    have r2 := hn.2 R hR v.toNat (by omega)
    have e1 : ((u.toNat : Nat) : Int) = u := by omega
    have e2 : ((v.toNat : Nat) : Int) = v := by omega
    rw [e1] at r1
    rw [e2] at r2
    exact ⟨r1, r2⟩
  · rw [up2_n W _ q]
    exact hw x d
theorem fo_ps_up (hs : fo_ps E nm W) (he : E u c v) : fo_ps E nm (up2 W (nm u.toNat) c (nm v.toNat)) := by
  intro x d
  by_cases q : x = nm u.toNat ∧ d = c
  · obtain ⟨rfl, rfl⟩ := q
    intro _
    rw [up2_s]
    exact ⟨u, v, he, rfl, rfl⟩
  · rw [up2_n W _ q]
    exact hs x d
/-- another way is there: the two vertices must become one -/
theorem fo_meet (hE : fo_in m E) (hn : fo_nm m E nm) (hw : fo_pw m E W) (he : E u c v) (hq : W (nm u.toNat) c ≠ -1) : ∀ R, fo_cong E R → R (nm v.toNat) (nm (W (nm u.toNat) c).toNat) := by
  intro R hR
  obtain ⟨i1, i2, i3, i4⟩ := hE u c v he
  obtain ⟨w1, w2, a, b, w3, w4⟩ := hw _ _ hq
  obtain ⟨r1, r2⟩ := w4 R hR
  have e1 : ((u.toNat : Nat) : Int) = u := by omega
  have e2 : ((v.toNat : Nat) : Int) = v := by omega
  have e3 : (((W (nm u.toNat) c).toNat : Nat) : Int) = W (nm u.toNat) c := by omega
  have s1 := hn.2 R hR u.toNat (by omega)
  have s2 := hn.2 R hR v.toNat (by omega)
  have s3 := hn.2 R hR (W (nm u.toNat) c).toNat (by omega)
  rw [e1] at s1
  rw [e2] at s2
  rw [e3] at s3
  have t1 : R a u := hR.2.2.1 _ _ _ r1 (hR.2.1 _ _ s1)
  have t2 : R b v := hR.2.2.2 a u c b v w3 he t1
  exact hR.2.2.1 _ _ _ (hR.2.1 _ _ s2) (hR.2.2.1 _ _ _ (hR.2.1 _ _ t2) (hR.2.2.1 _ _ _ r2 s3))
/-- under fixed names what is there is a name -/
theorem fo_ps_nm (hE : fo_in m E) (hn : fo_nm m E nm) (hs : fo_ps E nm W) {x d : Int} (h : W x d ≠ -1) : nm (W x d).toNat = W x d ∧ 0 ≤ W x d := by
  obtain ⟨a, b, h1, h2, h3⟩ := hs x d h
  obtain ⟨i1, i2, i3, i4⟩ := hE a d b h1
  have g := hn.1 b.toNat (by omega)
  rw [h3]
  exact ⟨g.2.2, g.1⟩
/-- what was laid stays laid -/
theorem fo_keep (hE : fo_in m E) (hn : fo_nm m E nm) {a b d : Int} (he : E u c v) (he2 : E a d b) (h : W (nm a.toNat) d = nm b.toNat) (hq : W (nm u.toNat) c = -1) : up2 W (nm u.toNat) c (nm v.toNat) (nm a.toNat) d = nm b.toNat := by
  by_cases q : nm a.toNat = nm u.toNat ∧ d = c
  · rw [q.1, q.2, hq] at h
    have i := hE a d b he2
    have g := hn.1 b.toNat (by omega)
    omega
  · rw [up2_n W _ q]
    exact h
end
theorem fo_end {m : Nat} {E : Int → Int → Int → Prop} {nm : Nat → Int} {W : Int → Int → Int} (hn : fo_nm m E nm) (hs : fo_ps E nm W) (hl : ∀ u c v, E u c v → W (nm u.toNat) c = nm v.toNat) : fo_spec m E nm W := ⟨hn.1, hn.2, hl, hs⟩
/-- the ends of edges, both ways -/
def er (k : Nat) (fr cd to : Nat → Int) (u c v : Int) : Prop := ∃ e, e < k ∧ ((fr e = u ∧ cd e = c ∧ to e = v) ∨ (to e = u ∧ cx (cd e) = c ∧ fr e = v))
theorem er_sym {k : Nat} {fr cd to : Nat → Int} {u c v : Int} (h : er k fr cd to u c v) : er k fr cd to v (cx c) u := by
  obtain ⟨e, he, ⟨h1, h2, h3⟩ | ⟨h1, h2, h3⟩⟩ := h
  · exact ⟨e, he, Or.inr ⟨h3, by rw [h2], h1⟩⟩
  · exact ⟨e, he, Or.inl ⟨h3, by rw [← h2, cx_cx], h1⟩⟩
/-- trimming under way -/
def one (T : Int → Int → Int) (x c : Int) : Prop := T x c ≠ -1 ∧ ∀ c', T x c' ≠ -1 → c' = c
def tr_inv (b : Int) (W T : Int → Int → Int) : Prop :=
  (∀ x c, T x c ≠ -1 → T x c = W x c ∧ T (T x c) (cx c) = x) ∧
  ∀ S : Int → Int → Prop, (∀ x c, S x c → 0 ≤ x ∧ 0 ≤ c ∧ c < 6 ∧ W x c ≠ -1 ∧ S (W x c) (cx c)) → (∀ x c, S x c → x ≠ b → ∃ c', c' ≠ c ∧ S x c') → ∀ x c, S x c → T x c ≠ -1
/-- a table that goes back -/
def inv2 (m : Nat) (W : Int → Int → Int) : Prop := ∀ x c, W x c ≠ -1 → (0 ≤ x ∧ x < m) ∧ (0 ≤ c ∧ c < 6) ∧ (0 ≤ W x c ∧ W x c < m) ∧ W (W x c) (cx c) = x
theorem tr_start {b : Int} {m : Nat} {W : Int → Int → Int} (hW : inv2 m W) : tr_inv b W W :=
  ⟨fun x c h => ⟨rfl, (hW x c h).2.2.2⟩, fun S h1 _ x c hs => (h1 x c hs).2.2.2.1⟩
/-- one way is taken away -/
def cut (T : Int → Int → Int) (x c : Int) : Int → Int → Int := up2 (up2 T x c (-1)) (T x c) (cx c) (-1)
theorem cut_le {T : Int → Int → Int} {x c y d : Int} (h : cut T x c y d ≠ -1) : T y d ≠ -1 ∧ cut T x c y d = T y d ∧ ¬ (y = x ∧ d = c) ∧ ¬ (y = T x c ∧ d = cx c) := by
  unfold cut at h ⊢
  by_cases q : y = T x c ∧ d = cx c
  · rw [q.1, q.2, up2_s] at h
    exact absurd rfl h
  · rw [up2_n _ _ q] at h ⊢
    by_cases r : y = x ∧ d = c
    · rw [r.1, r.2, up2_s] at h
      exact absurd rfl h
    · rw [up2_n _ _ r] at h ⊢
      exact ⟨h, rfl, r, q⟩
theorem cut_eq {T : Int → Int → Int} {x c y d : Int} (h1 : ¬ (y = x ∧ d = c)) (h2 : ¬ (y = T x c ∧ d = cx c)) : cut T x c y d = T y d := by
  unfold cut
  rw [up2_n _ _ h2, up2_n _ _ h1]
theorem tr_step {b x c : Int} {m : Nat} {W T : Int → Int → Int} (hW : inv2 m W) (h : tr_inv b W T) (hx : x ≠ b) (ho : one T x c) : tr_inv b W (cut T x c) := by
  obtain ⟨o1, o2⟩ := ho
  obtain ⟨t1, t2⟩ := h.1 x c o1
  refine ⟨fun y d hy => ?_, fun S h1 h2 y d hs => ?_⟩
  · obtain ⟨k1, k2, k3, k4⟩ := cut_le hy
    obtain ⟨s1, s2⟩ := h.1 y d k1
    refine ⟨k2.trans s1, ?_⟩
    rw [k2]
    have e := cut_eq (T := T) (x := x) (c := c) (y := T y d) (d := cx d) (fun z => ?_) (fun z => ?_)
    · rw [e]
      exact s2
    · refine k4 ⟨?_, ?_⟩
      · rw [← s2, z.1, z.2]
      · rw [← z.2, cx_cx]
    · refine k3 ⟨?_, ?_⟩
      · rw [← s2, z.1, z.2, t2]
      · have := congrArg cx z.2
        rw [cx_cx, cx_cx] at this
        exact this
  · have g := h.2 S h1 h2 y d hs
    have nx : ¬ S x c := by
      intro z
      obtain ⟨c', n1, n2⟩ := h2 x c z hx
      exact n1 (o2 c' (h.2 S h1 h2 x c' n2))
    have nt' : ¬ S (T x c) (cx c) := by
      intro z
      have q := (h1 _ _ z).2.2.2.2
      rw [t1, (hW x c (by rw [← t1]; exact o1)).2.2.2, cx_cx] at q
      exact nx q
    rw [cut_eq (fun z => nx (by rw [z.1, z.2] at hs; exact hs)) (fun z => nt' (by rw [z.1, z.2] at hs; exact hs))]
    exact g
theorem tr_end {b : Int} {m : Nat} {W T : Int → Int → Int} (hW : inv2 m W) (h : tr_inv b W T) (hd : ∀ x c, x ≠ b → ¬ one T x c) : tr_spec b W T := by
  refine ⟨fun x c hx => ?_, fun x c hx hb => ?_, h.2⟩
  · obtain ⟨t1, t2⟩ := h.1 x c hx
    obtain ⟨w1, w2, w3, w4⟩ := hW x c (by rw [← t1]; exact hx)
    exact ⟨w1.1, w2.1, w2.2, t1, t2⟩
  · apply Classical.byContradiction
    intro q
    refine hd x c hb ⟨hx, fun c' hc' => ?_⟩
    apply Classical.byContradiction
    intro r
    exact q ⟨c', r, hc'⟩
/-- how many vertices have a way -/
noncomputable def cvw (m : Nat) (T : Int → Int → Int) : Nat := pg_n (fun v => @decide (∃ c, T (v : Int) c ≠ -1) (Classical.propDecidable _)) m
theorem cvw_cut {b x c : Int} {m : Nat} {W T : Int → Int → Int} (hW : inv2 m W) (h : tr_inv b W T) (ho : one T x c) : cvw m (cut T x c) < cvw m T := by
  obtain ⟨o1, o2⟩ := ho
  obtain ⟨t1, t2⟩ := h.1 x c o1
  obtain ⟨w1, w2, w3, w4⟩ := hW x c (by rw [← t1]; exact o1)
  have ex : ((x.toNat : Nat) : Int) = x := by omega
  refine pg_less (b := x.toNat) (fun i hi p => ?_) (by omega) ?_ ?_
  · have p := @of_decide_eq_true _ (Classical.propDecidable _) p
    obtain ⟨d, hd⟩ := p
    exact @decide_eq_true _ (Classical.propDecidable _) ⟨d, (cut_le hd).1⟩
  · refine @decide_eq_true _ (Classical.propDecidable _) ⟨c, ?_⟩
    rw [ex]
    exact o1
  · refine @decide_eq_false _ (Classical.propDecidable _) ?_
    rintro ⟨d, hd⟩
    rw [ex] at hd
    obtain ⟨k1, k2, k3, k4⟩ := cut_le hd
    exact k3 ⟨rfl, o2 d k1⟩
theorem cvw_zero {m : Nat} {T : Int → Int → Int} (h : cvw m T = 0) {x c : Int} (x0 : 0 ≤ x) (x1 : x < m) : T x c = -1 := by
  have g := pg_zero h x.toNat (by omega)
  have g := @of_decide_eq_false _ (Classical.propDecidable _) g
  have ex : ((x.toNat : Nat) : Int) = x := by omega
  rw [ex] at g
  apply Classical.byContradiction
  intro q
  exact g ⟨c, q⟩
