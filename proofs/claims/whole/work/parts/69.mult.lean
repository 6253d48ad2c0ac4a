/-! Polynomials to be read; steps of a computation that may open a Box. -/
theorem Ext.tr2 {S S1 S2 : HS} {W V W' V' : Nat → Nat → Prop} (h : Ext S S1 W V) (g : Ext S1 S2 W' V') (hw : ∀ b k, b < hX S → W' b k → W b k) (hv : ∀ b k, b < hX S → V' b k → V b k) : Ext S S2 W V := ⟨Nat.le_trans h.1 g.1, Nat.le_trans h.2.1 g.2.1, fun b hb => by
  obtain ⟨a1, a2, a3, a4⟩ := h.2.2.1 b hb
  obtain ⟨b1, b2, b3, b4⟩ := g.2.2.1 b (Nat.lt_of_lt_of_le hb h.1)
  exact ⟨b1.trans a1, b2.trans a2, fun k w => (b3 k (fun c => w (hw b k hb c))).trans (a3 k w), fun k w => (b4 k (fun c => w (hv b k hb c))).trans (a4 k w)⟩, fun q => g.2.2.2 (h.2.2.2 q)⟩
def Rd (S : HS) (a : Nat) (L : Po) : Prop := a + 2 < hX S ∧ hT S a = 7 ∧ hP S a 0 = some (a + 1) ∧ hP S a 1 = some (a + 2) ∧ hT S (a + 1) = 21 ∧ hT S (a + 2) = 21 ∧ L.length ≤ hN S (a + 1) ∧ L.length ≤ hN S (a + 2) ∧ hN S (a + 1) ≤ 300 ∧ hN S (a + 2) ≤ 300 ∧ hI S a 2 = ι L.length ∧ ∀ i, i < L.length → hI S (a + 1) i = ι (k6 (rt L i)) ∧ hI S (a + 2) i = ι (rt L i).n
theorem PolyAt.rd {S : HS} {a p : Nat} {L : Po} (h : PolyAt S a L) (hw : wf p L) : Rd S a L := by
  obtain ⟨p1, p2, p3, p4, p5, p6, p7, p8, p9, p10, p11⟩ := h
  have := hw.1
  exact ⟨p1, p2, p3, p4, p5, p6, by omega, by omega, by omega, by omega, p9, p11⟩
theorem rt_rev {D : Po} {i : Nat} (h : i < D.length) : rt D.reverse i = tm D i := by
  unfold rt
  rw [List.length_reverse, tm_rev h]
theorem Dr.rd {S : HS} {h0 d : Nat} {D : Po} {ov : Bool} (h : Dr h0 S d D ov) (hd : DL h0 S d) (hx : h0 + d + 2 < hX S) : Rd S (h0 + d) D.reverse := by
  obtain ⟨l1, l2, l3, l4, l5, l6, l7⟩ := hd
  obtain ⟨g1, g2, g3, g4⟩ := h
  refine ⟨hx, l1, l2, l3, l4, l5, by rw [List.length_reverse]; omega, by rw [List.length_reverse]; omega, by omega, by omega, by rw [List.length_reverse]; exact g2, fun i hi => ?_⟩
  rw [List.length_reverse] at hi
  rw [rt_rev hi]
  exact g4 i hi
theorem Rd.go {S S' : HS} {W V : Nat → Nat → Prop} {a : Nat} {L : Po} (h : Rd S a L) (e : Ext S S' W V) (w : ∀ k, ¬ W a k ∧ ¬ W (a + 1) k ∧ ¬ W (a + 2) k ∧ ¬ V a k) : Rd S' a L := by
  obtain ⟨h1, h2, h3, h4, h5, h6, h7, h8, h9, h10, h11, h12⟩ := h
  obtain ⟨x1, x2, x3, -⟩ := e
  obtain ⟨p1, p2, p3, p4⟩ := x3 a (by omega)
  obtain ⟨q1, q2, q3, -⟩ := x3 (a + 1) (by omega)
  obtain ⟨r1, r2, r3, -⟩ := x3 (a + 2) (by omega)
  refine ⟨by omega, by rw [p1]; exact h2, by rw [p4 0 (w 0).2.2.2]; exact h3, by rw [p4 1 (w 1).2.2.2]; exact h4, by rw [q1]; exact h5, by rw [r1]; exact h6, by rw [q2]; exact h7, by rw [r2]; exact h8, by rw [q2]; exact h9, by rw [r2]; exact h10, by rw [p3 2 (w 2).1]; exact h11, fun i hi => ?_⟩
  rw [q3 i (w i).2.1, r3 i (w i).2.2.1]
  exact h12 i hi
/-- it lies apart from Boxes and rows -/
def Rs (h0 : Nat) (S : HS) (a : Nat) : Prop := a + 2 < hX S ∧ ∀ j, j ≤ 2 → ¬ (h0 + 12 ≤ a + j ∧ a + j ≤ h0 + 24) ∧ ¬ (h0 + 33 ≤ a + j ∧ a + j ≤ h0 + 49) ∧ a + j ≠ bxC h0 S 12 ∧ a + j ≠ bxC h0 S 15 ∧ a + j ≠ bxC h0 S 39 ∧ a + j ≠ bxC h0 S 42
theorem Rs.n {h0 a : Nat} {S : HS} (h : Rs h0 S a) {o : Nat} (ho : (12 ≤ o ∧ o ≤ 24) ∨ (33 ≤ o ∧ o ≤ 49)) : a ≠ h0 + o ∧ a + 1 ≠ h0 + o ∧ a + 2 ≠ h0 + o := by
  have s0 := h.2 0 (by omega)
  have s1 := h.2 1 (by omega)
  have s2 := h.2 2 (by omega)
  have t0 := s0.1
  have u0 := s0.2.1
  have t1 := s1.1
  have u1 := s1.2.1
  have t2 := s2.1
  have u2 := s2.2.1
  clear s0 s1 s2
  refine ⟨by clear t1 u1 t2 u2; omega, by clear t0 u0 t2 u2; omega, by clear t0 u0 t1 u1; omega⟩
theorem Rs.b {h0 a : Nat} {S : HS} (h : Rs h0 S a) {o : Nat} (ho : o = 12 ∨ o = 15 ∨ o = 39 ∨ o = 42) : a ≠ bxC h0 S o ∧ a + 1 ≠ bxC h0 S o ∧ a + 2 ≠ bxC h0 S o := by
  have s0 := (h.2 0 (by omega)).2.2
  have s1 := (h.2 1 (by omega)).2.2
  have s2 := (h.2 2 (by omega)).2.2
  rcases ho with rfl | rfl | rfl | rfl
  · exact ⟨s0.1, s1.1, s2.1⟩
  · exact ⟨s0.2.1, s1.2.1, s2.2.1⟩
  · exact ⟨s0.2.2.1, s1.2.2.1, s2.2.2.1⟩
  · exact ⟨s0.2.2.2, s1.2.2.2, s2.2.2.2⟩
theorem rs_ka {h0 a : Nat} {S : HS} {L : Po} (ka : Ka h0 a) (pa : PolyAt S a L) (hb : CBx h0 S) : Rs h0 S a := by
  have q1 := bx_ka ka pa hb.1.1 (by omega)
  have q2 := bx_ka ka pa hb.1.2.1 (by omega)
  have q3 := bx_ka ka pa hb.1.2.2.1 (by omega)
  have q4 := bx_ka ka pa hb.1.2.2.2 (by omega)
  unfold Ka at ka
  refine ⟨pa.1, fun j hj => ?_⟩
  have : j = 0 ∨ j = 1 ∨ j = 2 := by omega
  rcases this with rfl | rfl | rfl <;> omega
theorem rs_d {h0 d : Nat} {S : HS} (hd : d = 6 ∨ d = 9 ∨ d = 30) (hx : h0 + 60 ≤ hX S) (hb : CBx h0 S) : Rs h0 S (h0 + d) := by
  have b12 := hb.1.1.2.2.2.2.1
  have b15 := hb.1.2.1.2.2.2.2.1
  have b39 := hb.1.2.2.1.2.2.2.2.1
  have b42 := hb.1.2.2.2.2.2.2.2.1
  refine ⟨by omega, fun j hj => ?_⟩
  omega
theorem c_degR {M : Nat × Nat} {a p v : Nat} {y : Int32} {L : Po} {S : HS} {K : Int32 → HS → Prop} (hw : wf p L) (pa : Rd S a L) (hy : y = ι v) (hv : v < 3) (h : K (ιm (mx L (fun t => exv t v) L.length)) S) : wp_X6_degreeIn M a y S K := by
  subst hy
  have hle := hw.1
  obtain ⟨p1, p2, p3, p4, p5, p6, p7, p8, p7', p8', p9, p11⟩ := pa
  have key : ∀ (k i : Nat), i + k = L.length → wl_X6_degreeIn_4 M K (k + 1) a (ι v) (ιm (mxr L (fun t => exv t v) i)) (ι i) S := by
    intro k
    induction k with
    | zero =>
      intro i hi
      show wb_X6_degreeIn_4 _ _ _ _ _ _ _ _
      unfold wb_X6_degreeIn_4
      rw [p9]
      simp (disch := omega) only [ι_lit, ι_of, ι_add, ι_mul, ι_lt, ι_le, ι_eq, ι_cl, ι_rem, ι_div, ι_vin, ι_ne1', ι_1ne', ι_1lt', ι_lt1', ι_1le', ι_le1', ι_sub', ι_sub, upN, upE, Nat.reduceEqDiff, ne_eq, not_true_eq_false, not_false_eq_true, false_imp_iff, true_imp_iff, true_and, and_true, imp_self, forall_eq, reduceIte, Nat.reduceMul, Nat.reduceAdd, Nat.reduceSub]
      refine ⟨p2, fun _ => ?_, fun q => absurd (by omega) q⟩
      rw [show i = L.length by omega, mxr_mx]; exact h
    | succ k ih =>
      intro i hi
      have hs := rt_sm hw (i := i) (by omega)
      have hb : mxr L (fun t => exv t v) i ≤ 41 := by
        by_cases e : i = 0
        · rw [e]; exact Nat.zero_le _
        · obtain ⟨j, hj, h1⟩ := mxr_ex (L := L) (g := fun t => exv t v) (n := i) (by omega)
          rw [h1]
          have := exv_le (rt_sm hw (i := j) (by omega)) v
          show exv (rt L j) v + 1 ≤ 41
          omega
      have hc := exv_le hs v
      show wb_X6_degreeIn_4 _ _ _ _ _ _ _ _
      unfold wb_X6_degreeIn_4
      rw [p9]
      simp (disch := omega) only [ι_lit, ι_of, ι_add, ι_mul, ι_lt, ι_le, ι_eq, ι_cl, ι_rem, ι_div, ι_vin, ι_ne1', ι_1ne', ι_1lt', ι_lt1', ι_1le', ι_le1', ι_sub', ι_sub, upN, upE, Nat.reduceEqDiff, ne_eq, not_true_eq_false, not_false_eq_true, false_imp_iff, true_imp_iff, true_and, and_true, imp_self, forall_eq, reduceIte, Nat.reduceMul, Nat.reduceAdd, Nat.reduceSub]
      refine ⟨p2, fun q => absurd q (by omega), fun _ => ⟨p2, a + 1, p3, p5, ι_in (by omega) (by omega), ?_⟩⟩
      refine c_exp hs (p11 i (by omega)).1 rfl hv ?_
      rw [ιm_next (by omega) (by omega)]
      exact ih (i + 1) (by omega)
  unfold wp_X6_degreeIn
  exact ⟨L.length + 1, key L.length 0 (by omega)⟩
/-- what a Box needs of its places -/
def BL (h0 : Nat) (S : HS) (o : Nat) : Prop := hT S (h0 + o) = 2 ∧ hP S (h0 + o) 2 = some (h0 + o + 2) ∧ hT S (h0 + o + 2) = 21 ∧ hN S (h0 + o + 2) = 3 ∧ Bx h0 S o
theorem BL.b12 {h0 : Nat} {S : HS} (h : Lay h0 S) (hb : CBx h0 S) : BL h0 S 12 := ⟨h.t12, h.p12_2, h.t14, h.n14, hb.1.1⟩
theorem BL.b15 {h0 : Nat} {S : HS} (h : Lay h0 S) (hb : CBx h0 S) : BL h0 S 15 := ⟨h.t15, h.p15_2, h.t17, h.n17, hb.1.2.1⟩
theorem BL.b39 {h0 : Nat} {S : HS} (h : Lay h0 S) (hb : CBx h0 S) : BL h0 S 39 := ⟨h.t39, h.p39_2, h.t41, h.n41, hb.1.2.2.1⟩
theorem BL.b42 {h0 : Nat} {S : HS} (h : Lay h0 S) (hb : CBx h0 S) : BL h0 S 42 := ⟨h.t42, h.p42_2, h.t44, h.n44, hb.1.2.2.2⟩
theorem BL.go {h0 o : Nat} {S S' : HS} {W V : Nat → Nat → Prop} (h : BL h0 S o) (ho : o = 12 ∨ o = 15 ∨ o = 39 ∨ o = 42) (hx : h0 + 60 ≤ hX S) (e : Ext S S' W V) (v0 : ¬ V (h0 + o) 0) (v2 : ¬ V (h0 + o) 2) : BL h0 S' o := by
  obtain ⟨a1, a2, a3, a4, a5⟩ := h
  have ee := e.2.2.1
  exact ⟨by rw [(ee _ (by omega)).1]; exact a1, by rw [(ee _ (by omega)).2.2.2 _ v2]; exact a2, by rw [(ee _ (by omega)).1]; exact a3, by rw [(ee _ (by omega)).2.1]; exact a4, a5.go e ((ee _ (by omega)).2.2.2 0 v0)⟩
theorem Bu.go2 {h0 o X Y Z u : Nat} {G : Nat → Nat → Nat → Nat} {S S' : HS} {W V : Nat → Nat → Prop} (h : Bu h0 S o X Y Z u G) (hb : Bx h0 S o) (ho : o = 12 ∨ o = 15 ∨ o = 39 ∨ o = 42) (hx : h0 + 60 ≤ hX S) (e : Ext S S' W V) (v0 : ¬ V (h0 + o) 0) (w : ∀ k, ¬ W (h0 + o) k ∧ ¬ W (h0 + o + 2) k ∧ ¬ W (bxC h0 S o) k) : Bu h0 S' o X Y Z u G := by
  obtain ⟨b1, b2, b3, b4, b5, b6⟩ := h
  have ee := e.2.2.1
  have hc := hb.2.1
  have hbc := bxC.go (S := S) (S' := S') ((ee _ (by omega)).2.2.2 0 v0)
  refine ⟨by rw [(ee _ (by omega)).2.2.1 _ (w 1).2.1]; exact b1, by rw [(ee _ (by omega)).2.2.1 _ (w 0).2.1]; exact b2, by rw [(ee _ (by omega)).2.2.1 _ (w 1).1]; exact b3, by rw [hbc, (ee _ hc).2.1]; exact b4, b5, fun x y z hx hy hz => ?_⟩
  rw [hbc, (ee _ hc).2.2.1 _ (w _).2.2]
  exact b6 x y z hx hy hz
def W18 (h0 b _k : Nat) : Prop := b = h0 + 18
theorem c_findOffsets {M : Nat × Nat} {h0 o X Y Z a p : Nat} {G : Nat → Nat → Nat → Nat} {L : Po} {S : HS} {K : Int32 → HS → Prop} (hL : Lay h0 S) (hX0 : h0 + 60 ≤ hX S) (ho : o = 12 ∨ o = 15) (hbl : BL h0 S o) (hbo : Bo h0 S o X Y Z G) (hw : wf p L) (ra : Rd S a L) (hs : Rs h0 S a) (h : ∀ S', Ext S S' (W18 h0) V0 → hX S' = hX S → hS S' = hS S → (∀ i, i < L.length → hI S' (h0 + 18) i = ι (cx Y Z (rt L i).x (rt L i).y (rt L i).z)) → K 0 S') : wp_X9_findOffsets M (h0 + 5) a (h0 + o) S K := by
  have hle := hw.1
  have n18 := hs.n (o := 18) (by omega)
  have key : ∀ (k i : Nat) (S1 : HS), i + k = L.length → Ext S S1 (W18 h0) V0 → hX S1 = hX S → hS S1 = hS S → (∀ j, j < i → hI S1 (h0 + 18) j = ι (cx Y Z (rt L j).x (rt L j).y (rt L j).z)) → wl_X9_findOffsets_2 M K (k + 1) (h0 + 5) a (h0 + o) (ι i) S1 := by
    intro k
    induction k with
    | zero =>
      intro i S1 hi e1 x1 y1 f1
      obtain ⟨p1, p2, p3, p4, p5, p6, p7, p8, p7', p8', p9, p11⟩ := ra.go e1 (fun k => ⟨n18.1, n18.2.1, n18.2.2, fun c => c⟩)
      show wb_X9_findOffsets_2 _ _ _ _ _ _ _ _
      unfold wb_X9_findOffsets_2
      rw [p9]
      simp (disch := omega) only [ι_lit, ι_of, ι_add, ι_mul, ι_lt, ι_le, ι_eq, ι_cl, ι_rem, ι_div, ι_vin, ι_ne1', ι_1ne', ι_1lt', ι_lt1', ι_1le', ι_le1', ι_sub', ι_sub, upN, upE, Nat.reduceEqDiff, ne_eq, not_true_eq_false, not_false_eq_true, false_imp_iff, true_imp_iff, true_and, and_true, imp_self, forall_eq, reduceIte, Nat.reduceMul, Nat.reduceAdd, Nat.reduceSub]
      exact ⟨p2, fun _ => h S1 e1 x1 y1 (fun j hj => f1 j (by omega)), fun q => absurd (by omega) q⟩
    | succ k ih =>
      intro i S1 hi e1 x1 y1 f1
      obtain ⟨p1, p2, p3, p4, p5, p6, p7, p8, p7', p8', p9, p11⟩ := ra.go e1 (fun k => ⟨n18.1, n18.2.1, n18.2.2, fun c => c⟩)
      have hL1 := hL.go hX0 e1 (fun q hq c => c)
      have bl1 := hbl.go (by omega) hX0 e1 (fun c => c) (fun c => c)
      have hbb := hbl.2.2.2.2.2.2.2.2.1
      have bo1 := hbo.go2 hbl.2.2.2.2 (by omega) hX0 e1 (fun c => c) (fun k => by unfold W18; omega)
      show wb_X9_findOffsets_2 _ _ _ _ _ _ _ _
      unfold wb_X9_findOffsets_2
      rw [p9]
      simp (disch := omega) only [ι_lit, ι_of, ι_add, ι_mul, ι_lt, ι_le, ι_eq, ι_cl, ι_rem, ι_div, ι_vin, ι_ne1', ι_1ne', ι_1lt', ι_lt1', ι_1le', ι_le1', ι_sub', ι_sub, upN, upE, Nat.reduceEqDiff, ne_eq, not_true_eq_false, not_false_eq_true, false_imp_iff, true_imp_iff, true_and, and_true, imp_self, forall_eq, reduceIte, Nat.reduceMul, Nat.reduceAdd, Nat.reduceSub]
      refine ⟨p2, fun q => absurd q (by omega), fun _ => ⟨hL1.t5, h0 + 18, hL1.p5_5, p2, a + 1, p3, p5, ι_in (by omega) (by omega), bl1.1, ?_⟩⟩
      refine c_cellOf bo1 bl1.1 bl1.2.1 bl1.2.2.1 bl1.2.2.2.1 (rt_sm hw (i := i) (by omega)) (p11 i (by omega)).1 ⟨hL1.t18, by rw [hL1.n18]; exact ι_in (by omega) (by omega), ?_⟩
      refine ih (i + 1) _ (by omega) (e1.sI rfl) x1 y1 (fun j hj => ?_)
      rw [sI_eq]
      by_cases q : j = i
      · rw [if_pos q, q]
      · rw [if_neg q]; exact f1 j (by omega)
  unfold wp_X9_findOffsets
  exact ⟨L.length + 1, key L.length 0 S (by omega) (Ext.rf _ _ _) rfl rfl (fun j hj => by omega)⟩
/-- a term times what is read -/
def qR (u : Tm) (L : Po) (i x y z : Nat) : Nat := sumTo i (fun j => if u.x + (rt L j).x = x ∧ u.y + (rt L j).y = y ∧ u.z + (rt L j).z = z then u.n * (rt L j).n else 0)
theorem qR_qS (u : Tm) (L : Po) (x y z : Nat) : qR u L L.length x y z = qS u L L.length x y z := by
  unfold qR qS rt
  exact sumTo_rev L.length (fun j => if u.x + (tm L j).x = x ∧ u.y + (tm L j).y = y ∧ u.z + (tm L j).z = z then u.n * (tm L j).n else 0)
theorem cx_add (Y Z x y z a b c : Nat) : cx Y Z x y z + cx Y Z a b c = cx Y Z (x + a) (y + b) (z + c) := by
  unfold cx
  generalize (Y + 1) * (Z + 1) = s
  rw [Nat.add_mul x a s, Nat.add_mul y b (Z + 1)]
  omega
theorem c_addTimes {M : Nat × Nat} {h0 o X Y Z a p : Nat} {x2 x3 : Int32} {u : Tm} {G : Nat → Nat → Nat → Nat} {L : Po} {S : HS} {K : Int32 → HS → Prop} (hL : Lay h0 S) (hX0 : h0 + 60 ≤ hX S) (ho : o = 12 ∨ o = 15) (hbl : BL h0 S o) (hbo : Bo h0 S o X Y Z G) (hw : wf p L) (ra : Rd S a L) (hs : Rs h0 S a) (hof : ∀ i, i < L.length → hI S (h0 + 18) i = ι (cx Y Z (rt L i).x (rt L i).y (rt L i).z)) (hin : ∀ i, i < L.length → u.x + (rt L i).x ≤ X ∧ u.y + (rt L i).y ≤ Y ∧ u.z + (rt L i).z ≤ Z) (h2 : x2 = ι (cx Y Z u.x u.y u.z)) (h3 : x3 = ι u.n) (h : ∀ S', Ext S S' (fun b _ => b = bxC h0 S o) V0 → hX S' = hX S → hS S' = hS S → Bo h0 S' o X Y Z (fun x y z => G x y z + qS u L L.length x y z) → K 0 S') : wp_X9_addTimes M (h0 + 5) (h0 + o) x2 x3 a S K := by
  subst h2 h3
  have hle := hw.1
  have hbb := hbl.2.2.2.2.2.2.2.2.1
  have hcb := hs.b (o := o) (by omega)
  have key : ∀ (k i : Nat) (S1 : HS), i + k = L.length → Ext S S1 (fun b _ => b = bxC h0 S o) V0 → hX S1 = hX S → hS S1 = hS S → (∀ x y z, x ≤ X → y ≤ Y → z ≤ Z → hI S1 (bxC h0 S o) (cx Y Z x y z) = ι (G x y z + qR u L i x y z)) → wl_X9_addTimes_9 M K (k + 1) (h0 + 5) (ι (cx Y Z u.x u.y u.z)) (ι u.n) a (bxC h0 S o) (ι i) S1 := by
    intro k
    induction k with
    | zero =>
      intro i S1 hi e1 x1 y1 f1
      obtain ⟨p1, p2, p3, p4, p5, p6, p7, p8, p7', p8', p9, p11⟩ := ra.go e1 (fun k => ⟨hcb.1, hcb.2.1, hcb.2.2, fun c => c⟩)
      show wb_X9_addTimes_9 _ _ _ _ _ _ _ _ _ _
      unfold wb_X9_addTimes_9
      rw [p9]
      simp (disch := omega) only [ι_lit, ι_of, ι_add, ι_mul, ι_lt, ι_le, ι_eq, ι_cl, ι_rem, ι_div, ι_vin, ι_ne1', ι_1ne', ι_1lt', ι_lt1', ι_1le', ι_le1', ι_sub', ι_sub, upN, upE, Nat.reduceEqDiff, ne_eq, not_true_eq_false, not_false_eq_true, false_imp_iff, true_imp_iff, true_and, and_true, imp_self, forall_eq, reduceIte, Nat.reduceMul, Nat.reduceAdd, Nat.reduceSub]
      refine ⟨p2, fun _ => h S1 e1 x1 y1 ?_, fun q => absurd (by omega) q⟩
      have ee := e1.2.2.1
      have hc := hbl.2.2.2.2.2.1
      have hbc := bxC.go (S := S) (S' := S1) ((ee (h0 + o) (by omega)).2.2.2 0 (fun c => c))
      obtain ⟨b1, b2, b3, b4, b5, b6⟩ := hbo
      refine ⟨by rw [(ee _ (by omega)).2.2.1 _ (by omega)]; exact b1, by rw [(ee _ (by omega)).2.2.1 _ (by omega)]; exact b2, by rw [(ee _ (by omega)).2.2.1 _ (by omega)]; exact b3, by rw [hbc, (ee _ hc).2.1]; exact b4, b5, fun x y z hx hy hz => ?_⟩
      rw [hbc, f1 x y z hx hy hz, show i = L.length by omega, qR_qS]
    | succ k ih =>
      intro i S1 hi e1 x1 y1 f1
      obtain ⟨p1, p2, p3, p4, p5, p6, p7, p8, p7', p8', p9, p11⟩ := ra.go e1 (fun k => ⟨hcb.1, hcb.2.1, hcb.2.2, fun c => c⟩)
      have hL1 := hL.go hX0 e1 (fun q hq c => c)
      have ee := e1.2.2.1
      have hc := hbl.2.2.2.2.2.1
      have hof1 : hI S1 (h0 + 18) i = ι (cx Y Z (rt L i).x (rt L i).y (rt L i).z) := by
        rw [(ee _ (by omega)).2.2.1 i (by omega)]; exact hof i (by omega)
      have hi3 := hin i (by omega)
      have hlt := cx_lt hi3.1 hi3.2.1 hi3.2.2
      have hus := hbo.2.2.2.2.1
      have hun := hbo.2.2.2.1
      have hT1 : hT S1 (bxC h0 S o) = 21 := by rw [(ee _ hc).1]; exact hbl.2.2.2.2.2.2.1
      have hN1 : hN S1 (bxC h0 S o) = hN S (bxC h0 S o) := (ee _ hc).2.1
      have hN9 := hbl.2.2.2.2.2.2.2.1
      show wb_X9_addTimes_9 _ _ _ _ _ _ _ _ _ _
      unfold wb_X9_addTimes_9
      rw [p9]
      have hv : vp_in (ι (cx Y Z (u.x + (rt L i).x) (u.y + (rt L i).y) (u.z + (rt L i).z))) (hN S1 (bxC h0 S o)) := by rw [hN1]; exact ι_in (by omega) (by omega)
      refine ⟨p2, fun q => ?_, fun _ => ⟨hL1.t5, h0 + 18, hL1.p5_5, hL1.t18, by rw [hL1.n18]; exact ι_in (by omega) (by omega), hT1, ?_, p2, a + 2, p4, p6, ι_in (by omega) (by omega), hT1, ?_, ?_⟩⟩
      · rw [ι_le (by omega) (by omega)] at q; omega
      · rw [ι_cl (by omega), hof1, ι_add, cx_add]; exact hv
      · rw [ι_cl (by omega), hof1, ι_add, cx_add]; exact hv
      rw [ι_cl (a := i) (by omega), hof1, ι_add, cx_add, ι_cl (by omega), (p11 i (by omega)).2, f1 _ _ _ hi3.1 hi3.2.1 hi3.2.2, ι_mul, ι_add, show (1 : Int32) = ι 1 from rfl, ι_add]
      refine ih (i + 1) _ (by omega) (e1.sI rfl) x1 y1 (fun x y z hx hy hz => ?_)
      rw [sI_eq]
      unfold qR
      rw [sumTo]
      by_cases q : u.x + (rt L i).x = x ∧ u.y + (rt L i).y = y ∧ u.z + (rt L i).z = z
      · obtain ⟨rfl, rfl, rfl⟩ := q
        rw [if_pos rfl, if_pos ⟨rfl, rfl, rfl⟩, Nat.add_assoc]
      · rw [if_neg (fun c => ?_), if_neg q, Nat.add_zero]
        · exact f1 x y z hx hy hz
        · have := cx_inj hy hz hi3.2.1 hi3.2.2 c
          omega
  unfold wp_X9_addTimes
  refine ⟨hbl.1, bxC h0 S o, hbl.2.2.2.2.1, L.length + 1, key L.length 0 S (by omega) (Ext.rf _ _ _) rfl rfl (fun x y z hx hy hz => ?_)⟩
  show _ = ι (G x y z + 0)
  rw [Nat.add_zero]
  exact hbo.2.2.2.2.2 x y z hx hy hz
/-! Products of the class. -/
def Go (h0 a b : Nat) (S S' : HS) : Prop := PK h0 S S' ∧ hX S ≤ hX S' ∧ (∀ X0 S0 g, CIr h0 X0 S0 S g → CIr h0 (X0 + a) (S0 + b) S' g) ∧ Frz h0 S S'
theorem PK.rf (h0 : Nat) (S : HS) : PK h0 S S := fun _ _ _ h => h
theorem PK.tr {h0 : Nat} {S S1 S2 : HS} (h : PK h0 S S1) (g : PK h0 S1 S2) : PK h0 S S2 := fun a L k q => g a L k (h a L k q)
theorem CIr.mo {h0 X0 S0 a b : Nat} {S : HS} {g : Gh} (h : CIr h0 X0 S0 S g) (ha : X0 ≤ a) (hb : S0 ≤ b) : CIr h0 a b S g := by
  obtain ⟨p, P, A, T, Tx, ft, Q, B⟩ := g
  obtain ⟨c1, c2, c3, c4, c5, c6, c7, c8, c9, c10, c11, q0, b1, b2, b3, b4, q1, q2⟩ := h
  exact ⟨c1, c2, c3, c4, c5, c6, c7, c8, c9, c10, c11, by omega, b1, b2, b3, b4, by omega, q2⟩
theorem Go.rf (h0 : Nat) (S : HS) : Go h0 0 0 S S := ⟨PK.rf h0 S, Nat.le_refl _, fun _ _ _ h => h, Frz.rf h0 S⟩
theorem Go.tr {h0 a b c d : Nat} {S S1 S2 : HS} (h : Go h0 a b S S1) (g : Go h0 c d S1 S2) : Go h0 (a + c) (b + d) S S2 := ⟨h.1.tr g.1, Nat.le_trans h.2.1 g.2.1, fun X0 S0 q hq => by
  have := g.2.2.1 _ _ _ (h.2.2.1 X0 S0 q hq)
  exact this.mo (by omega) (by omega), h.2.2.2.tr g.2.2.2 h.2.1⟩
theorem Go.mo {h0 a b c d : Nat} {S S1 : HS} (h : Go h0 a b S S1) (h1 : a ≤ c) (h2 : b ≤ d) : Go h0 c d S S1 := ⟨h.1, h.2.1, fun X0 S0 q hq => (h.2.2.1 X0 S0 q hq).mo (by omega) (by omega), h.2.2.2⟩
theorem Go.scr {h0 : Nat} {S S' : HS} (hb : CBx h0 S) (ht : CTop h0 S) (e : Ext S S' (Wz h0 S) V0) (hx : hX S' = hX S) (hs : hS S' = hS S) : Go h0 0 0 S S' := ⟨PK.of e (ka_z hb), by omega, fun X0 S0 q hq => hq.scr (a := 0) (b := 0) e (ht.tp e hx) (by omega) (by omega), Frz.of e⟩
theorem Go.stp {h0 : Nat} {S S' : HS} (h : StpC h0 S S') : Go h0 4 604 S S' := h
theorem CIr.bs {h0 X0 S0 : Nat} {S : HS} {g : Gh} (h : CIr h0 X0 S0 S g) (hp : PrP g.1) : Bs h0 S g.1 := by
  obtain ⟨p, P, A, T, Tx, ft, Q, B⟩ := g
  exact ⟨h.1, h.2.1, h.2.2.2.2.2.2.2.2.2.1, h.2.2.1, hp⟩
theorem CIr.room {h0 X0 S0 : Nat} {S : HS} {g : Gh} (h : CIr h0 X0 S0 S g) : hX S ≤ X0 ∧ hS S ≤ S0 + 1634055 := by
  obtain ⟨p, P, A, T, Tx, ft, Q, B⟩ := g
  obtain ⟨-, -, -, -, -, -, -, -, -, hb, -, q0, b1, b2, b3, b4, q1, q2, q3, q4, q5, q6, q7, q8⟩ := h
  have hb := hb.1.2.1.2.2.2.1
  refine ⟨q0, ?_⟩
  rcases q4 with q4 | q4
  · omega
  · omega
theorem Rs.go {h0 a : Nat} {S S' : HS} {W V : Nat → Nat → Prop} (h : Rs h0 S a) (hx : h0 + 60 ≤ hX S) (e : Ext S S' W V) (hv : ∀ o, o = 12 ∨ o = 15 ∨ o = 39 ∨ o = 42 → hP S' (h0 + o) 0 = hP S (h0 + o) 0 ∨ hX S ≤ bxC h0 S' o) : Rs h0 S' a := by
  have h2 := h.1
  have e1 := e.1
  refine ⟨by omega, fun j hj => ?_⟩
  have hq := h.2 j hj
  have hb : ∀ o, o = 12 ∨ o = 15 ∨ o = 39 ∨ o = 42 → a + j ≠ bxC h0 S o → a + j ≠ bxC h0 S' o := fun o ho q => by
    rcases hv o ho with c | c
    · rw [bxC.go c]; exact q
    · omega
  exact ⟨hq.1, hq.2.1, hb 12 (by omega) hq.2.2.1, hb 15 (by omega) hq.2.2.2.1, hb 39 (by omega) hq.2.2.2.2.1, hb 42 (by omega) hq.2.2.2.2.2⟩
theorem Op.ptr {h0 o X Y Z : Nat} {S S' : HS} (h : Op h0 S S' o X Y Z) (hx : h0 + 60 ≤ hX S) : ∀ o2, o2 = 12 ∨ o2 = 15 ∨ o2 = 39 ∨ o2 = 42 → hP S' (h0 + o2) 0 = hP S (h0 + o2) 0 ∨ hX S ≤ bxC h0 S' o2 := fun o2 ho2 => by
  by_cases q : o2 = o
  · subst q
    rcases h.2.2 with ⟨-, c, -⟩ | ⟨c, -⟩
    · exact Or.inl c
    · exact Or.inr (by unfold bxC; rw [c]; exact Nat.le_refl _)
  · exact Or.inl ((h.1.2.2.1 _ (by omega)).2.2.2 _ (by unfold Vg; omega))
theorem Op.rs {h0 o X Y Z a : Nat} {S S' : HS} (h : Op h0 S S' o X Y Z) (hx : h0 + 60 ≤ hX S) (hs : Rs h0 S a) : Rs h0 S' a := hs.go hx h.1 (h.ptr hx)
theorem Op.rd {h0 o X Y Z a : Nat} {S S' : HS} {L : Po} (h : Op h0 S S' o X Y Z) (ho : o = 12 ∨ o = 15 ∨ o = 39 ∨ o = 42) (hs : Rs h0 S a) (ra : Rd S a L) : Rd S' a L := by
  have n1 := hs.n (o := o) (by omega)
  have n2 := hs.n (o := o + 2) (by omega)
  have n3 := hs.b (o := o) (by omega)
  refine ra.go h.1 (fun k => ?_)
  unfold Wo Vg
  omega
theorem Op.c {h0 o X Y Z : Nat} {S S' : HS} (h : Op h0 S S' o X Y Z) : bxC h0 S' o = bxC h0 S o ∨ bxC h0 S' o = hX S := by
  rcases h.2.2 with ⟨c, -⟩ | ⟨c, -⟩
  · exact Or.inl c
  · exact Or.inr (by unfold bxC; rw [c]; rfl)
theorem Go.op {h0 o X Y Z : Nat} {S S' : HS} (h : Op h0 S S' o X Y Z) (hu : (o = 12 ∧ usd X Y Z ≤ 68921) ∨ o = 15) (hb : CBx h0 S) : Go h0 1 0 S S' := ⟨h.pk (by omega) hb, h.1.1, fun X0 S0 g hc => h.cir hu hc, Frz.ext h.1 (fun q k h1 h2 h3 => by
  unfold nBx at h3
  unfold Wo Vg
  rcases hu with ⟨rfl, -⟩ | rfl <;> omega) (by unfold Vg; omega) (fun o2 hx ho2 => by
  by_cases q : o2 = o
  · subst q
    rcases h.2.2 with ⟨-, c, -⟩ | ⟨c, -⟩
    · exact Or.inl c
    · exact Or.inr (by unfold bxC; rw [c]; exact Nat.le_refl _)
  · exact Or.inl ((h.1.2.2.1 _ (by omega)).2.2.2 _ (by unfold Vg; omega)))⟩
def mA (L : Po) (v : Nat) : Nat := mx L (fun t => exv t v) L.length
theorem mA_rt {L : Po} {v i : Nat} (hi : i < L.length) : exv (rt L i) v + 1 ≤ mA L v := mx_ge (g := fun t => exv t v) (by omega)
theorem mA_tm {L : Po} {v i : Nat} (hi : i < L.length) : exv (tm L i) v + 1 ≤ mA L v := mx_ge (g := fun t => exv t v) hi
theorem mA_le {p v : Nat} {L : Po} (hw : wf p L) : mA L v ≤ 41 := mx_le (fun i hi => exv_le (hw.sm hi) v)
theorem prS_ne {A B : Po} {x y z : Nat} (h : prS A B A.length x y z ≠ 0) : ∃ i j, i < A.length ∧ j < B.length ∧ (tm A i).x + (tm B j).x = x ∧ (tm A i).y + (tm B j).y = y ∧ (tm A i).z + (tm B j).z = z := Classical.byContradiction fun q => h (sumTo_zero (fun i hi => sumTo_zero (fun j hj => if_neg (fun w => q ⟨i, j, hi, hj, w⟩))))
theorem prS_le {p : Nat} {A B : Po} (hp : p ≤ 13) (wa : wf p A) (wb : wf p B) (x y z : Nat) : prS A B A.length x y z ≤ 300 * (300 * 144) := by
  have h1 : ∀ i, i < A.length → qS (tm A i) B B.length x y z ≤ 300 * 144 := fun i hi => by
    have h2 : qS (tm A i) B B.length x y z ≤ B.length * 144 := sumTo_le (fun j hj => by
      have na := wa.2.1 i hi
      have nb := wb.2.1 j hj
      split
      · exact Nat.mul_le_mul (show (tm A i).n ≤ 12 by omega) (show (tm B j).n ≤ 12 by omega)
      · omega)
    have h3 := Nat.mul_le_mul_right 144 wb.1
    omega
  exact Nat.le_trans (sumTo_le h1) (Nat.mul_le_mul_right (300 * 144) wa.1)
def Wmu (h0 : Nat) (S : HS) (d b _k : Nat) : Prop := b = h0 + 12 ∨ b = h0 + 14 ∨ b = h0 + 18 ∨ b = bxC h0 S 12 ∨ b = h0 + d ∨ b = h0 + d + 1 ∨ b = h0 + d + 2
theorem sm_le {p X Y Z : Nat} {A B : Po} (hin : ∀ i j, i < A.length → j < B.length → (rt A i).x + (rt B j).x ≤ X ∧ (rt A i).y + (rt B j).y ≤ Y ∧ (rt A i).z + (rt B j).z ≤ Z) : bF p X Y Z (fun x y z => sumTo A.length (fun j => qS (rt A j) B B.length x y z)) = prF p A B := by
  funext x y z
  unfold bF prF
  show (if _ then sumTo A.length (fun j => qS (rt A j) B B.length x y z) % p else 0) = _
  rw [show sumTo A.length (fun j => qS (rt A j) B B.length x y z) = prS A B A.length x y z from sumTo_rev A.length (fun j => qS (tm A j) B B.length x y z)]
  by_cases c : x ≤ X ∧ y ≤ Y ∧ z ≤ Z
  · rw [if_pos c]
  · rw [if_neg c]
    have : prS A B A.length x y z = 0 := Classical.byContradiction fun q => by
      obtain ⟨i, j, hi, hj, w1, w2, w3⟩ := prS_ne q
      have := hin (A.length - 1 - i) (B.length - 1 - j) (by omega) (by omega)
      unfold rt at this
      rw [show A.length - 1 - (A.length - 1 - i) = i by omega, show B.length - 1 - (B.length - 1 - j) = j by omega] at this
      omega
    rw [this, Nat.zero_mod]
def Wml (h0 c d b k : Nat) : Prop := b = c ∨ W3 h0 d b k
theorem c_mul_l {M : Nat × Nat} {h0 a b d p X Y Z : Nat} {A B : Po} {S : HS} {K : Int32 → HS → Prop} (bs2 : Bs h0 S p) (hd : d = 6 ∨ d = 9) (wa : wf p A) (wb : wf p B) (ra2 : Rd S a A) (sa2 : Rs h0 S a) (rb2 : Rd S b B) (sb2 : Rs h0 S b) (hY4 : Y ≤ 40) (hZ4 : Z ≤ 40) (hin : ∀ i j, i < A.length → j < B.length → (rt A i).x + (rt B j).x ≤ X ∧ (rt A i).y + (rt B j).y ≤ Y ∧ (rt A i).z + (rt B j).z ≤ Z) (of2 : ∀ i, i < B.length → hI S (h0 + 18) i = ι (cx Y Z (rt B i).x (rt B i).y (rt B i).z)) (bo2 : Bo h0 S 12 X Y Z (fun _ _ _ => 0))
    (h : ∀ S' D ov, Ext S S' (Wml h0 (bxC h0 S 12) d) V0 → hX S' = hX S → hS S' = hS S → Dr h0 S' d D ov → (ov = false → Can p (prF p A B) D.reverse) → (ov = true → ¬ ∃ L, Can p (prF p A B) L) → K (ιb (!ov)) S') : wl_X9_multiply_107 M K (A.length + 1) (h0 + 5) a b (h0 + d) (ι 0) S := by
  obtain ⟨hL2, ht2, hb2, hp2, hpp⟩ := id bs2
  have h602 := ht2.1
  have hple := hpp.le
  have hla := wa.1
  have hDL : ∀ {S1 : HS}, Lay h0 S1 → DL h0 S1 d := fun hL1 => by rcases hd with rfl | rfl; exact DL.d6 hL1; exact DL.d9 hL1
  have c3 := sa2.b (o := 12) (by omega)
  have c3b := sb2.b (o := 12) (by omega)
  have key : ∀ (k i : Nat) (S3 : HS), i + k = A.length → Ext S S3 (fun b _ => b = bxC h0 S 12) V0 → hX S3 = hX S → hS S3 = hS S → Bo h0 S3 12 X Y Z (fun x y z => sumTo i (fun j => qS (rt A j) B B.length x y z)) → wl_X9_multiply_107 M K (k + 1) (h0 + 5) a b (h0 + d) (ι i) S3 := by
    intro k
    induction k with
    | zero =>
      intro i S3 hi e3 x3 s3 bo3
      have e3z : Ext S S3 (Wz h0 S) V0 := e3.mo (fun b k q => Or.inr (Or.inr (Or.inr (Or.inl q)))) (fun _ _ c => c)
      have bs3 := bs2.go e3z x3
      obtain ⟨hL3, ht3, hb3, hp3, -⟩ := id bs3
      obtain ⟨-, p2, p3, p4, p5, p6, p7, p8, p7', p8', p9, p11⟩ := ra2.go e3 (fun k => ⟨c3.1, c3.2.1, c3.2.2, fun c => c⟩)
      have hi' : i = A.length := by omega
      subst hi'
      have hGl : ∀ x y z, sumTo A.length (fun j => qS (rt A j) B B.length x y z) < 2147483648 := fun x y z => by
        have := prS_le (by omega) wa wb x y z
        rw [show sumTo A.length (fun j => qS (rt A j) B B.length x y z) = prS A B A.length x y z from sumTo_rev A.length (fun j => qS (tm A j) B B.length x y z)]
        exact Nat.lt_of_le_of_lt this (by decide)
      have hBD : BD h0 S3 12 d := ⟨hL3.t12, hL3.p12_2, hL3.t14, hL3.n14, hb3.1.1, hDL hL3, Or.inl rfl, by omega, ht3.1⟩
      show wb_X9_multiply_107 _ _ _ _ _ _ _ _ _
      unfold wb_X9_multiply_107
      rw [p9]
      refine ⟨p2, fun _ => ⟨hL3.t5, h0 + 12, hL3.p5_3, hL3.t5, hL3.t12, ?_⟩, fun q => absurd (by rw [ι_le (by omega) (by omega)]; omega) q⟩
      refine c_readInto bo3 hBD hGl (by omega) (by omega) hpp hp3 (fun S4 D ov e4 x4 s4 d4 y4 n4 => ?_)
      rw [sm_le hin] at y4 n4
      have hh := h S4 D ov ((e3.mo (fun b k q => Or.inl q) (fun _ _ c => c)).tr (e4.mo (fun b k q => Or.inr q) (fun _ _ c => c))) (by omega) (by omega) d4 y4 n4
      refine ⟨(hDL (bs3.go (e4.mo (W3.z (by omega)) (fun _ _ c => c)) x4).1).1, fun q => ?_, fun q => ?_⟩
      · cases ov with
        | false => exact absurd (by rw [d4.2.2.1]; rfl) q
        | true => exact hh
      · cases ov with
        | false => exact hh
        | true => rw [d4.2.2.1] at q; exact absurd q (by decide)
    | succ k ih =>
      intro i S3 hi e3 x3 s3 bo3
      have e3z : Ext S S3 (Wz h0 S) V0 := e3.mo (fun b k q => Or.inr (Or.inr (Or.inr (Or.inl q)))) (fun _ _ c => c)
      have bs3 := bs2.go e3z x3
      obtain ⟨hL3, ht3, hb3, hp3, -⟩ := id bs3
      obtain ⟨-, p2, p3, p4, p5, p6, p7, p8, p7', p8', p9, p11⟩ := ra2.go e3 (fun k => ⟨c3.1, c3.2.1, c3.2.2, fun c => c⟩)
      have rb3 := rb2.go e3 (fun k => ⟨c3b.1, c3b.2.1, c3b.2.2, fun c => c⟩)
      have pt3 : ∀ o, o = 12 ∨ o = 15 ∨ o = 39 ∨ o = 42 → hP S3 (h0 + o) 0 = hP S (h0 + o) 0 ∨ hX S ≤ bxC h0 S3 o := fun o ho => Or.inl ((e3.2.2.1 _ (by omega)).2.2.2 0 (fun c => c))
      have sb3 := sb2.go h602 e3 pt3
      have c33 : bxC h0 S3 12 = bxC h0 S 12 := bxC.go ((e3.2.2.1 _ (by omega)).2.2.2 0 (fun c => c))
      have n18 : h0 + 18 ≠ bxC h0 S 12 := by have := hb2.1.1.2.2.2.2.1; omega
      have of3 : ∀ i, i < B.length → hI S3 (h0 + 18) i = ι (cx Y Z (rt B i).x (rt B i).y (rt B i).z) := fun i hi => by
        rw [(e3.2.2.1 _ (by omega)).2.2.1 i n18]; exact of2 i hi
      show wb_X9_multiply_107 _ _ _ _ _ _ _ _ _
      unfold wb_X9_multiply_107
      rw [p9]
      refine ⟨p2, fun q => absurd q (by rw [ι_le (by omega) (by omega)]; omega), fun _ => ⟨hL3.t5, h0 + 12, hL3.p5_3, hL3.t5, h0 + 12, hL3.p5_3, p2, a + 1, p3, p5, ι_in (by omega) (by omega), hL3.t12, ?_⟩⟩
      rw [ι_cl (by omega), show (1 : Int32) = ι 1 from rfl, ι_add]
      refine c_cellOf bo3 hL3.t12 hL3.p12_2 hL3.t14 hL3.n14 (rt_sm wa (i := i) (by omega)) (p11 i (by omega)).1 ⟨p2, a + 2, p4, p6, ι_in (by omega) (by omega), hL3.t5, ?_⟩
      rw [(p11 i (by omega)).2]
      refine c_addTimes (o := 12) (u := rt A i) hL3 ht3.1 (Or.inl rfl) (BL.b12 hL3 hb3) bo3 wb rb3 sb3 of3 (fun j hj => hin i j (by omega) hj) rfl rfl (fun S4 e4 x4 s4 bo4 => ?_)
      exact ih (i + 1) S4 (by omega) (e3.tr (e4.mo (fun b k q => by rw [← c33]; exact q) (fun _ _ c => c))) (by omega) (by omega) bo4
  exact key A.length 0 S (by omega) (Ext.rf _ _ _) rfl rfl bo2
theorem c_multiply {M : Nat × Nat} {h0 a b d X0 S0 : Nat} {g : Gh} {A B : Po} {S : HS} {K : Int32 → HS → Prop} (hc : CIr h0 X0 S0 S g) (hpp : PrP g.1) (hd : d = 6 ∨ d = 9) (wa : wf g.1 A) (wb : wf g.1 B) (ra : Rd S a A) (sa : Rs h0 S a) (rb : Rd S b B) (sb : Rs h0 S b) (r1 : X0 + 1 ≤ M.1) (r2 : S0 + 2000000 ≤ M.2)
    (h : ∀ S', Go h0 1 0 S S' → Ext S S' (Wmu h0 S d) (Vg h0 12) → (∀ D, Dr h0 S' d D false → Can g.1 (prF g.1 A B) D.reverse → K 1 S') ∧ ((¬ ∃ L, Can g.1 (prF g.1 A B) L) → K 0 S')) : wp_X9_multiply M (h0 + 5) a b (h0 + d) S K := by
  have hbs := hc.bs hpp
  have hroom := hc.room
  generalize g.1 = p at *
  obtain ⟨hL, ht, hb, hp1, -⟩ := id hbs
  have h60 := ht.1
  have hple := hpp.le
  have hla := wa.1
  have hlb := wb.1
  obtain ⟨-, a2, a3, a4, a5, a6, a7, a8, a9, a10, a11, a12⟩ := id ra
  obtain ⟨-, b2, b3, b4, b5, b6, b7, b8, b9, b10, b11, b12⟩ := id rb
  have hDL : ∀ {S1 : HS}, Lay h0 S1 → DL h0 S1 d := fun hL1 => by rcases hd with rfl | rfl; exact DL.d6 hL1; exact DL.d9 hL1
  have zero : (A.length = 0 ∨ B.length = 0) → w_X9_multiply_14 M K (h0 + d) S := by
    intro hz
    have dl := hDL hL
    unfold w_X9_multiply_14
    refine ⟨dl.1, c_clear dl (fun S1 e1 x1 s1 d1 => ?_)⟩
    have e1' : Ext S S1 (Wz h0 S) V0 := e1.mo (W3.z (by omega)) (fun _ _ c => c)
    refine (h S1 ((Go.scr hb ht e1' x1 s1).mo (by omega) (by omega)) (e1.mo (fun b k q => by unfold W3 at q; unfold Wmu; omega) (fun _ _ c => absurd c (fun c => c)))).1 [] d1 ⟨wf_nil p, fun x y z => ?_⟩
    rw [show ([] : Po).reverse = [] from rfl, cf_nil]
    unfold prF
    have : prS A B A.length x y z = 0 := Classical.byContradiction fun q => by
      obtain ⟨i, j, hi, hj, -⟩ := prS_ne q
      omega
    rw [this, Nat.zero_mod]
  unfold wp_X9_multiply
  rw [a11, b11]
  refine ⟨a2, fun q => zero (Or.inl ?_), fun q => ⟨b2, fun q2 => ⟨a2, ?_⟩, fun q2 => zero (Or.inr ?_)⟩⟩
  · rw [show (0 : Int32) = ι 0 from rfl, ι_eq (by omega) (by omega)] at q; exact q
  · have la0 : 0 < A.length := Nat.pos_of_ne_zero (fun e => q (by rw [e]; rfl))
    have lb0 : 0 < B.length := Nat.pos_of_ne_zero (fun e => q2 (by rw [e]; rfl))
    have ma : ∀ v, 1 ≤ mA A v := fun v => by have := mA_tm (L := A) (v := v) la0; omega
    have mb : ∀ v, 1 ≤ mA B v := fun v => by have := mA_tm (L := B) (v := v) lb0; omega
    have ma' : ∀ v, mA A v ≤ 41 := fun v => mA_le wa
    have mb' : ∀ v, mA B v ≤ 41 := fun v => mA_le wb
    have im : ∀ {L : Po} {v : Nat}, 1 ≤ mA L v → ιm (mx L (fun t => exv t v) L.length) = ι (mA L v - 1) := fun {L v} hm => by
      show ιm (mA L v) = _
      unfold ιm
      rw [if_neg (by omega)]
    have far : ∀ v, 42 < mA A v + mA B v → K 0 S := fun v hv => (h S ((Go.rf h0 S).mo (by omega) (by omega)) (Ext.rf _ _ _)).2 (pr_far (v := v) hpp wa wb la0 lb0 hv)
    refine c_degR wa ra (v := 0) rfl (by omega) ⟨b2, c_degR wb rb (v := 0) rfl (by omega) ⟨a2, c_degR wa ra (v := 1) rfl (by omega) ⟨b2, c_degR wb rb (v := 1) rfl (by omega) ⟨a2, c_degR wa ra (v := 2) rfl (by omega) ⟨b2, c_degR wb rb (v := 2) rfl (by omega) ?_⟩⟩⟩⟩⟩
    rw [im (ma 0), im (ma 1), im (ma 2), im (mb 0), im (mb 1), im (mb 2)]
    have A0 := ma 0
    have A1 := ma 1
    have A2 := ma 2
    have A0' := ma' 0
    have A1' := ma' 1
    have A2' := ma' 2
    have B0 := mb 0
    have B1 := mb 1
    have B2 := mb 2
    have B0' := mb' 0
    have B1' := mb' 1
    have B2' := mb' 2
    simp (disch := omega) only [ι_lit, ι_of, ι_add, ι_mul, ι_lt, ι_le, ι_eq, ι_cl, ι_rem, ι_div, ι_vin, ι_ne1', ι_1ne', ι_1lt', ι_lt1', ι_1le', ι_le1', ι_sub', ι_sub, upN, upE, Nat.reduceEqDiff, ne_eq, not_true_eq_false, not_false_eq_true, false_imp_iff, true_imp_iff, true_and, and_true, imp_self, forall_eq, reduceIte, Nat.reduceMul, Nat.reduceAdd, Nat.reduceSub]
    refine ⟨fun q => far 0 (by omega), fun q => ⟨fun q => far 1 (by omega), fun q1 => ⟨fun q2 => ⟨hL.t5, h0 + 12, hL.p5_3, hL.t12, ?_⟩, fun q => far 2 (by omega)⟩⟩⟩
    generalize eX : mA A 0 - 1 + (mA B 0 - 1) = X
    generalize eY : mA A 1 - 1 + (mA B 1 - 1) = Y
    generalize eZ : mA A 2 - 1 + (mA B 2 - 1) = Z
    have hX4 : X ≤ 40 := by omega
    have hY4 : Y ≤ 40 := by omega
    have hZ4 : Z ≤ 40 := by omega
    have hus : usd X Y Z ≤ 68921 := by
      unfold usd
      have := Nat.mul_le_mul (show X + 1 ≤ 41 by omega) (Nat.mul_le_mul (show Y + 1 ≤ 41 by omega) (show Z + 1 ≤ 41 by omega))
      omega
    have hbb := hb.1.1.2.2.2.2.1
    have hin : ∀ i j, i < A.length → j < B.length → (rt A i).x + (rt B j).x ≤ X ∧ (rt A i).y + (rt B j).y ≤ Y ∧ (rt A i).z + (rt B j).z ≤ Z := fun i j hi hj => by
      have u0 : (rt A i).x + 1 ≤ mA A 0 := mA_rt (v := 0) hi
      have u1 : (rt A i).y + 1 ≤ mA A 1 := mA_rt (v := 1) hi
      have u2 : (rt A i).z + 1 ≤ mA A 2 := mA_rt (v := 2) hi
      have w0 : (rt B j).x + 1 ≤ mA B 0 := mA_rt (v := 0) hj
      have w1 : (rt B j).y + 1 ≤ mA B 1 := mA_rt (v := 1) hj
      have w2 : (rt B j).z + 1 ≤ mA B 2 := mA_rt (v := 2) hj
      omega
    refine c_open (o := 12) rfl rfl rfl (by omega) (by omega) (by omega) (by omega) hL.t12 hL.p12_2 hL.t14 hL.n14 hb.1.1 (by omega) (by omega) (by omega) (by omega) (by omega) (fun S1 op => ?_)
    have bs1 := op.bs (Or.inl rfl) hbs
    obtain ⟨hL1, ht1, hb1, hp1', -⟩ := id bs1
    have h601 := ht1.1
    have ra1 := op.rd (by omega) sa ra
    have rb1 := op.rd (by omega) sb rb
    have sa1 := op.rs h60 sa
    have sb1 := op.rs h60 sb
    have hbc1 := hb1.1.1.2.2.2.2.1
    refine ⟨hL1.t5, h0 + 12, hL1.p5_3, hL1.t5, ?_⟩
    refine c_findOffsets (o := 12) hL1 h601 (Or.inl rfl) (BL.b12 hL1 hb1) op.2.1 wb rb1 sb1 (fun S2 e2 x2 s2 of2 => ⟨A.length + 1, ?_⟩)
    have e2z : Ext S1 S2 (Wz h0 S1) V0 := e2.mo (fun b k q => by unfold W18 at q; unfold Wz; omega) (fun _ _ c => c)
    have bs2 := bs1.go e2z x2
    obtain ⟨hL2, ht2, hb2, hp2, -⟩ := id bs2
    have h602 := ht2.1
    have n18a := sa1.n (o := 18) (by omega)
    have n18b := sb1.n (o := 18) (by omega)
    have ra2 := ra1.go e2 (fun k => ⟨n18a.1, n18a.2.1, n18a.2.2, fun c => c⟩)
    have rb2 := rb1.go e2 (fun k => ⟨n18b.1, n18b.2.1, n18b.2.2, fun c => c⟩)
    have pt2 : ∀ o, o = 12 ∨ o = 15 ∨ o = 39 ∨ o = 42 → hP S2 (h0 + o) 0 = hP S1 (h0 + o) 0 ∨ hX S1 ≤ bxC h0 S2 o := fun o ho => Or.inl ((e2.2.2.1 _ (by omega)).2.2.2 0 (fun c => c))
    have sa2 := sa1.go h601 e2 pt2
    have sb2 := sb1.go h601 e2 pt2
    have hn14 : ¬ (h0 + 12 = h0 + 18) ∧ ¬ (h0 + 12 + 2 = h0 + 18) ∧ ¬ (bxC h0 S1 12 = h0 + 18) := by omega
    have bo2 := op.2.1.go2 hb1.1.1 (by omega) h601 e2 (fun c => c) (fun k => hn14)
    have c12 : bxC h0 S2 12 = bxC h0 S1 12 := bxC.go ((e2.2.2.1 _ (by omega)).2.2.2 0 (fun c => c))
    have opc := op.c
    refine c_mul_l bs2 hd wa wb ra2 sa2 rb2 sb2 hY4 hZ4 hin of2 bo2 (fun S4 D ov e4 x4 s4 d4 y4 n4 => ?_)
    rw [c12] at e4
    have e14 : Ext S1 S4 (Wz h0 S1) V0 := e2z.tr (e4.mo (fun b k q => by
      rcases q with q | q
      · exact Or.inr (Or.inr (Or.inr (Or.inl q)))
      · exact W3.z (by omega) b k q) (fun _ _ c => c))
    have go4 : Go h0 1 0 S S4 := ((Go.op op (Or.inl ⟨rfl, hus⟩) hb).tr (Go.scr hb1 ht1 e14 (by omega) (by omega))).mo (by omega) (by omega)
    have ext4 : Ext S S4 (Wmu h0 S d) (Vg h0 12) := by
      refine (Ext.mo op.1 (fun b k q => ?_) (fun _ _ c => c)).tr2 (W' := fun b k => b = h0 + 18 ∨ Wml h0 (bxC h0 S1 12) d b k) (V' := V0) ?_ (fun b k hb q => ?_) (fun _ _ _ c => absurd c (fun c => c))
      · rcases q with q | q | q
        · exact Or.inl q
        · exact Or.inr (Or.inl q.1)
        · exact Or.inr (Or.inr (Or.inr (Or.inl q)))
      · exact (e2.mo (fun b k q => Or.inl q) (fun _ _ c => c)).tr (e4.mo (fun b k q => Or.inr q) (fun _ _ c => c))
      · rcases q with q | q | q
        · exact Or.inr (Or.inr (Or.inl q))
        · rcases opc with c | c
          · exact Or.inr (Or.inr (Or.inr (Or.inl (by rw [← c]; exact q))))
          · exact absurd hb (by rw [q, c]; exact Nat.lt_irrefl _)
        · exact Or.inr (Or.inr (Or.inr (Or.inr q)))
    have hh := h S4 go4 ext4
    cases ov with
    | false => exact hh.1 D d4 (y4 rfl)
    | true => exact hh.2 (n4 rfl)
  · rw [show (0 : Int32) = ι 0 from rfl, ι_eq (by omega) (by omega)] at q2; exact q2
