/-! part, derivative of the class. -/
def nm (p : Nat) (t : Tm) : Tm := (t.x, t.y, t.z, t.n % p)
/-- the terms of A from the last one on, changed by g -/
def fg (p : Nat) (g : Tm → Tm) (A : Po) (i : Nat) : Tm := nm p (g (tm A (A.length - 1 - i)))
theorem k6_fall {p : Nat} {A : Po} (hw : wf p A) {i j : Nat} (hij : i < j) (hj : j < A.length) : k6 (tm A (A.length - 1 - j)) < k6 (tm A (A.length - 1 - i)) := (k41_lt_k6 (hw.sm (by omega)) (hw.sm (by omega))).mp (hw.2.2 _ _ (by omega) (by omega))
theorem sumTo_cong_mod {p n : Nat} {f g : Nat → Nat} (h : ∀ i, i < n → f i % p = g i % p) : sumTo n f % p = sumTo n g % p := by
  rw [← sumTo_mod, ← sumTo_mod n p g]
  rw [sumTo_congr h]
theorem fg_mF {p : Nat} {g : Tm → Tm} {A : Po} (hl : ∀ x y z, fF (fg p g A) A.length x y z < p) (x y z : Nat) : fF (fg p g A) A.length x y z = mF p g A x y z := by
  rw [← Nat.mod_eq_of_lt (hl x y z)]
  unfold fF mF mS
  rw [← sumTo_rev A.length (fun i => if isAt (g (tm A i)) x y z then (g (tm A i)).n else 0)]
  refine sumTo_cong_mod (fun i hi => ?_)
  show (if isAt (g (tm A (A.length - 1 - i))) x y z then (g (tm A (A.length - 1 - i))).n % p else 0) % p = (if isAt (g (tm A (A.length - 1 - i))) x y z then (g (tm A (A.length - 1 - i))).n else 0) % p
  split
  · exact Nat.mod_mod _ _
  · rfl
theorem c_degreeOf {M : Nat × Nat} {t : Tm} {x : Int32} {S : HS} {K : Int32 → HS → Prop} (ht : sm t) (hx : x = ι (k6 t)) (h : K (ι (dgt t)) S) : wp_X6_degreeOf M x S K := by
  unfold wp_X6_degreeOf
  refine c_exp ht hx (v := 0) rfl (by omega) (c_exp ht hx (v := 1) rfl (by omega) (c_exp ht hx (v := 2) rfl (by omega) ?_))
  simp (disch := omega) only [ι_lit, ι_of, ι_add, ι_mul, ι_lt, ι_le, ι_eq, ι_cl, ι_rem, ι_div, ι_vin, ι_ne1', ι_1ne', ι_1lt', ι_lt1', ι_1le', ι_le1', ι_sub', ι_sub, upN, upE, Nat.reduceEqDiff, ne_eq, not_true_eq_false, not_false_eq_true, false_imp_iff, true_imp_iff, true_and, and_true, imp_self, forall_eq, reduceIte, Nat.reduceMul, Nat.reduceAdd, Nat.reduceSub]
  exact h
theorem psD_0 {D : Po} {ov : Bool} {t : Tm} (h : t.n = 0) : psD D ov t = (D, ov) := by unfold psD; rw [if_pos h]
theorem pf_skip {t : Nat → Tm} {i : Nat} (h : (t i).n = 0) : pf t (i + 1) = pf t i := by rw [pf, psD_0 h]
section CWALK
variable {M : Nat × Nat} {h0 p a : Nat} {A : Po} {S : HS} {K : Option Nat → HS → Prop}
theorem c_part {e : Nat} {x2 : Int32} (hb : Bs h0 S p) (hw : wf p A) (ka : Ka h0 a) (pa : PolyAt S a A) (hx : x2 = ι e) (he : e ≤ 120) (r1 : hX S + 3 ≤ M.1) (r2 : hS S + 604 ≤ M.2) (h : Mk h0 S p (mF p (gPt e) A) K) : wp_X9_part M (h0 + 5) a x2 S K := by
  subst hx
  have hpp := hb.2.2.2.2.le
  have hle := hw.1
  have hs : ∀ i, i < A.length → (fg p (gPt e) A i).n ≠ 0 → sm (fg p (gPt e) A i) ∧ (fg p (gPt e) A i).n < p := fun i hi _ => ⟨hw.sm (i := A.length - 1 - i) (by omega), Nat.mod_lt _ (by omega)⟩
  have ho : ∀ i j, i < j → j < A.length → (fg p (gPt e) A i).n ≠ 0 → (fg p (gPt e) A j).n ≠ 0 → k6 (fg p (gPt e) A j) < k6 (fg p (gPt e) A i) := fun i j hij hj _ _ => k6_fall hw hij hj
  have hF := fg_mF (g := gPt e) (A := A) (fF_lt (by omega) hs ho)
  have key : ∀ (k i : Nat) (S1 : HS), i + k = A.length → Ext S S1 (Wz h0 S) V0 → hX S1 = hX S → hS S1 = hS S → Dr h0 S1 6 (pf (fg p (gPt e) A) i).1 (pf (fg p (gPt e) A) i).2 → wl_X9_part_9 M K (k + 1) (h0 + 5) a (ι e) (ι i) S1 := by
    intro k
    induction k with
    | zero =>
      intro i S1 hi e1 x1 s1 d1
      obtain ⟨p1, p2, p3, p4, p5, p6, p7, p8, p9, p10, p11⟩ := pa.go e1 (ka_z hb.2.2.1 a A ka pa)
      have hL1 := (hb.go e1 x1).1
      show wb_X9_part_9 _ _ _ _ _ _ _ _
      unfold wb_X9_part_9
      rw [p9]
      simp (disch := omega) only [ι_lit, ι_of, ι_add, ι_mul, ι_lt, ι_le, ι_eq, ι_cl, ι_rem, ι_div, ι_vin, ι_ne1', ι_1ne', ι_1lt', ι_lt1', ι_1le', ι_le1', ι_sub', ι_sub, upN, upE, Nat.reduceEqDiff, ne_eq, not_true_eq_false, not_false_eq_true, false_imp_iff, true_imp_iff, true_and, and_true, imp_self, forall_eq, reduceIte, Nat.reduceMul, Nat.reduceAdd, Nat.reduceSub]
      refine ⟨p2, fun _ => ⟨hL1.t5, h0 + 6, hL1.p5_1, hL1.t6, ?_⟩, fun c => absurd (by omega) c⟩
      rw [show i = A.length by omega] at d1
      exact c_end hb e1 x1 s1 d1 hs ho hF r1 r2 h
    | succ k ih =>
      intro i S1 hi e1 x1 s1 d1
      obtain ⟨p1, p2, p3, p4, p5, p6, p7, p8, p9, p10, p11⟩ := pa.go e1 (ka_z hb.2.2.1 a A ka pa)
      have b1 := hb.go e1 x1
      have hL1 := b1.1
      have hsm := hw.sm (i := A.length - 1 - i) (by omega)
      have hn := hw.2.1 (A.length - 1 - i) (by omega)
      have hdg : dgt (tm A (A.length - 1 - i)) ≤ 120 := by unfold dgt; omega
      show wb_X9_part_9 _ _ _ _ _ _ _ _
      unfold wb_X9_part_9
      rw [p9]
      simp (disch := omega) only [ι_lit, ι_of, ι_add, ι_mul, ι_lt, ι_le, ι_eq, ι_cl, ι_rem, ι_div, ι_vin, ι_ne1', ι_1ne', ι_1lt', ι_lt1', ι_1le', ι_le1', ι_sub', ι_sub, upN, upE, Nat.reduceEqDiff, ne_eq, not_true_eq_false, not_false_eq_true, false_imp_iff, true_imp_iff, true_and, and_true, imp_self, forall_eq, reduceIte, Nat.reduceMul, Nat.reduceAdd, Nat.reduceSub]
      refine ⟨p2, fun c => absurd c (by omega), fun _ => ⟨p2, a + 1, p3, p5, by rw [p7]; exact ι_in (by omega) (by omega), ?_⟩⟩
      refine c_degreeOf hsm (p11 i (by omega)).1 ?_
      simp (disch := omega) only [ι_lit, ι_of, ι_add, ι_mul, ι_lt, ι_le, ι_eq, ι_cl, ι_rem, ι_div, ι_vin, ι_ne1', ι_1ne', ι_1lt', ι_lt1', ι_1le', ι_le1', ι_sub', ι_sub, upN, upE, Nat.reduceEqDiff, ne_eq, not_true_eq_false, not_false_eq_true, false_imp_iff, true_imp_iff, true_and, and_true, imp_self, forall_eq, reduceIte, Nat.reduceMul, Nat.reduceAdd, Nat.reduceSub]
      refine ⟨fun c => ?_, fun c => ?_⟩
      · refine ih (i + 1) S1 (by omega) e1 x1 s1 ?_
        rw [pf_skip (t := fg p (gPt e) A) (i := i) (show (if dgt (tm A (A.length - 1 - i)) = e then (tm A (A.length - 1 - i)).n else 0) % p = 0 by rw [if_neg c]; exact Nat.zero_mod _)]
        exact d1
      · refine ⟨hL1.t5, h0 + 6, hL1.p5_1, p2, a + 1, p3, p5, by rw [p7]; exact ι_in (by omega) (by omega), p2, a + 2, p4, p6, by rw [p8]; exact ι_in (by omega) (by omega), hL1.t6, ?_⟩
        have en : (fg p (gPt e) A i).n = (tm A (A.length - 1 - i)).n := by
          show (if dgt (tm A (A.length - 1 - i)) = e then (tm A (A.length - 1 - i)).n else 0) % p = _
          rw [if_pos c, Nat.mod_eq_of_lt (by omega)]
        refine c_psh (t := fg p (gPt e) A i) (DL.d6 hL1) d1 (p11 i (by omega)).1 (by rw [en]; exact (p11 i (by omega)).2) (by rw [en]; omega) (fun S2 e2 x2 s2 d2 => ?_)
        exact ih (i + 1) S2 (by omega) (e1.tr (e2.mo (W3.z (Or.inl rfl)) (fun _ _ c => c))) (by omega) (by omega) d2
  unfold wp_X9_part
  have hL := hb.1
  refine ⟨hL.t5, h0 + 6, hL.p5_1, hL.t6, c_clear (DL.d6 hL) (fun S1 e1 x1 s1 d1 => ⟨A.length + 1, ?_⟩)⟩
  exact key A.length 0 S1 (by omega) (e1.mo (W3.z (Or.inl rfl)) (fun _ _ c => c)) x1 s1 d1
def un (v : Nat) : Nat := if v = 0 then 4096 else if v = 1 then 64 else 1
theorem c_unit {v : Nat} {x : Int32} {S : HS} {K : Int32 → HS → Prop} (hx : x = ι v) (hv : v < 3) (h : K (ι (un v)) S) : wp_X6_unit M x S K := by
  subst hx
  unfold wp_X6_unit
  have hv3 : v = 0 ∨ v = 1 ∨ v = 2 := by omega
  rcases hv3 with rfl | rfl | rfl <;> exact h
theorem k6_gD3 {v : Nat} (hv : v < 3) {t : Tm} (h : exv t v ≠ 0) : k6 (gD3 v t) + un v = k6 t := by
  have hv3 : v = 0 ∨ v = 1 ∨ v = 2 := by omega
  rcases hv3 with rfl | rfl | rfl
  · have h : t.x ≠ 0 := h
    show ((t.x - 1) * 4096 + (t.y - 0) * 64 + (t.z - 0)) + 4096 = t.x * 4096 + t.y * 64 + t.z
    omega
  · have h : t.y ≠ 0 := h
    show ((t.x - 0) * 4096 + (t.y - 1) * 64 + (t.z - 0)) + 64 = t.x * 4096 + t.y * 64 + t.z
    omega
  · have h : t.z ≠ 0 := h
    show ((t.x - 0) * 4096 + (t.y - 0) * 64 + (t.z - 1)) + 1 = t.x * 4096 + t.y * 64 + t.z
    omega
theorem c_derivative {v : Nat} {x2 : Int32} (hb : Bs h0 S p) (hw : wf p A) (ka : Ka h0 a) (pa : PolyAt S a A) (hx : x2 = ι v) (hv : v < 3) (r1 : hX S + 3 ≤ M.1) (r2 : hS S + 604 ≤ M.2) (h : Mk h0 S p (mF p (gD3 v) A) K) : wp_X9_derivative M (h0 + 5) a x2 S K := by
  subst hx
  have hpp := hb.2.2.2.2.le
  have hle := hw.1
  have ne0 : ∀ i, (fg p (gD3 v) A i).n ≠ 0 → exv (tm A (A.length - 1 - i)) v ≠ 0 := fun i hn e0 => hn (by
    show exv (tm A (A.length - 1 - i)) v * _ % p = 0
    rw [e0, Nat.zero_mul, Nat.zero_mod])
  have hs : ∀ i, i < A.length → (fg p (gD3 v) A i).n ≠ 0 → sm (fg p (gD3 v) A i) ∧ (fg p (gD3 v) A i).n < p := fun i hi _ => by
    have := hw.sm (i := A.length - 1 - i) (by omega)
    exact ⟨⟨Nat.le_trans (Nat.sub_le _ _) this.1, Nat.le_trans (Nat.sub_le _ _) this.2.1, Nat.le_trans (Nat.sub_le _ _) this.2.2⟩, Nat.mod_lt _ (by omega)⟩
  have ho : ∀ i j, i < j → j < A.length → (fg p (gD3 v) A i).n ≠ 0 → (fg p (gD3 v) A j).n ≠ 0 → k6 (fg p (gD3 v) A j) < k6 (fg p (gD3 v) A i) := fun i j hij hj ni nj => by
    have h1 := k6_gD3 hv (ne0 i ni)
    have h2 := k6_gD3 hv (ne0 j nj)
    have h3 := k6_fall hw hij hj
    show k6 (gD3 v (tm A (A.length - 1 - j))) < k6 (gD3 v (tm A (A.length - 1 - i)))
    omega
  have hF := fg_mF (g := gD3 v) (A := A) (fF_lt (by omega) hs ho)
  have key : ∀ (k i : Nat) (S1 : HS), i + k = A.length → Ext S S1 (Wz h0 S) V0 → hX S1 = hX S → hS S1 = hS S → Dr h0 S1 6 (pf (fg p (gD3 v) A) i).1 (pf (fg p (gD3 v) A) i).2 → wl_X9_derivative_9 M K (k + 1) (h0 + 5) a (ι v) (ι i) S1 := by
    intro k
    induction k with
    | zero =>
      intro i S1 hi e1 x1 s1 d1
      obtain ⟨p1, p2, p3, p4, p5, p6, p7, p8, p9, p10, p11⟩ := pa.go e1 (ka_z hb.2.2.1 a A ka pa)
      have hL1 := (hb.go e1 x1).1
      show wb_X9_derivative_9 _ _ _ _ _ _ _ _
      unfold wb_X9_derivative_9
      rw [p9]
      simp (disch := omega) only [ι_lit, ι_of, ι_add, ι_mul, ι_lt, ι_le, ι_eq, ι_cl, ι_rem, ι_div, ι_vin, ι_ne1', ι_1ne', ι_1lt', ι_lt1', ι_1le', ι_le1', ι_sub', ι_sub, upN, upE, Nat.reduceEqDiff, ne_eq, not_true_eq_false, not_false_eq_true, false_imp_iff, true_imp_iff, true_and, and_true, imp_self, forall_eq, reduceIte, Nat.reduceMul, Nat.reduceAdd, Nat.reduceSub]
      refine ⟨p2, fun _ => ⟨hL1.t5, h0 + 6, hL1.p5_1, hL1.t6, ?_⟩, fun c => absurd (by omega) c⟩
      rw [show i = A.length by omega] at d1
      exact c_end hb e1 x1 s1 d1 hs ho hF r1 r2 h
    | succ k ih =>
      intro i S1 hi e1 x1 s1 d1
      obtain ⟨p1, p2, p3, p4, p5, p6, p7, p8, p9, p10, p11⟩ := pa.go e1 (ka_z hb.2.2.1 a A ka pa)
      have b1 := hb.go e1 x1
      have hL1 := b1.1
      have hsm := hw.sm (i := A.length - 1 - i) (by omega)
      have hn := hw.2.1 (A.length - 1 - i) (by omega)
      have hel := exv_le hsm v
      have hkl := k6_lt hsm
      show wb_X9_derivative_9 _ _ _ _ _ _ _ _
      unfold wb_X9_derivative_9
      rw [p9]
      simp (disch := omega) only [ι_lit, ι_of, ι_add, ι_mul, ι_lt, ι_le, ι_eq, ι_cl, ι_rem, ι_div, ι_vin, ι_ne1', ι_1ne', ι_1lt', ι_lt1', ι_1le', ι_le1', ι_sub', ι_sub, upN, upE, Nat.reduceEqDiff, ne_eq, not_true_eq_false, not_false_eq_true, false_imp_iff, true_imp_iff, true_and, and_true, imp_self, forall_eq, reduceIte, Nat.reduceMul, Nat.reduceAdd, Nat.reduceSub]
      refine ⟨p2, fun c => absurd c (by omega), fun _ => ⟨p2, a + 1, p3, p5, by rw [p7]; exact ι_in (by omega) (by omega), ?_⟩⟩
      refine c_exp hsm (p11 i (by omega)).1 rfl hv ?_
      simp (disch := omega) only [ι_lit, ι_of, ι_add, ι_mul, ι_lt, ι_le, ι_eq, ι_cl, ι_rem, ι_div, ι_vin, ι_ne1', ι_1ne', ι_1lt', ι_lt1', ι_1le', ι_le1', ι_sub', ι_sub, upN, upE, Nat.reduceEqDiff, ne_eq, not_true_eq_false, not_false_eq_true, false_imp_iff, true_imp_iff, true_and, and_true, imp_self, forall_eq, reduceIte, Nat.reduceMul, Nat.reduceAdd, Nat.reduceSub]
      refine ⟨fun c => ?_, fun c => ?_⟩
      · refine ih (i + 1) S1 (by omega) e1 x1 s1 ?_
        rw [pf_skip (t := fg p (gD3 v) A) (i := i) (show exv (tm A (A.length - 1 - i)) v * _ % p = 0 by rw [show exv (tm A (A.length - 1 - i)) v = 0 by omega, Nat.zero_mul, Nat.zero_mod])]
        exact d1
      · refine ⟨hL1.t5, h0 + 6, hL1.p5_1, p2, a + 1, p3, p5, by rw [p7]; exact ι_in (by omega) (by omega), c_unit rfl hv ⟨p2, a + 2, p4, p6, by rw [p8]; exact ι_in (by omega) (by omega), hL1.t5, ?_, hL1.t6, ?_⟩⟩
        · rw [b1.2.2.2.1]
          simp (disch := omega) only [ι_lit, ι_of, ι_add, ι_mul, ι_lt, ι_le, ι_eq, ι_cl, ι_rem, ι_div, ι_vin, ι_ne1', ι_1ne', ι_1lt', ι_lt1', ι_1le', ι_le1', ι_sub', ι_sub, upN, upE, Nat.reduceEqDiff, ne_eq, not_true_eq_false, not_false_eq_true, false_imp_iff, true_imp_iff, true_and, and_true, imp_self, forall_eq, reduceIte, Nat.reduceMul, Nat.reduceAdd, Nat.reduceSub]
          omega
        · rw [(p11 i (by omega)).1, (p11 i (by omega)).2, b1.2.2.2.1]
          have hk := k6_gD3 hv (t := tm A (A.length - 1 - i)) (by omega)
          have hm : (tm A (A.length - 1 - i)).n * exv (tm A (A.length - 1 - i)) v ≤ 13 * 40 := Nat.mul_le_mul (by omega) hel
          simp (disch := omega) only [ι_lit, ι_of, ι_add, ι_mul, ι_lt, ι_le, ι_eq, ι_cl, ι_rem, ι_div, ι_vin, ι_ne1', ι_1ne', ι_1lt', ι_lt1', ι_1le', ι_le1', ι_sub', ι_sub, upN, upE, Nat.reduceEqDiff, ne_eq, not_true_eq_false, not_false_eq_true, false_imp_iff, true_imp_iff, true_and, and_true, imp_self, forall_eq, reduceIte, Nat.reduceMul, Nat.reduceAdd, Nat.reduceSub]
          refine c_psh (t := fg p (gD3 v) A i) (DL.d6 hL1) d1 ?_ ?_ (Nat.lt_of_lt_of_le (Nat.mod_lt _ (by omega)) (by omega : p ≤ 2147483648)) (fun S2 e2 x2 s2 d2 => ?_)
          · congr 1
            show k6 (tm A (A.length - 1 - i)) - un v = k6 (gD3 v (tm A (A.length - 1 - i)))
            omega
          · congr 1
            show _ = exv (tm A (A.length - 1 - i)) v * (tm A (A.length - 1 - i)).n % p
            rw [Nat.mul_comm]
          · exact ih (i + 1) S2 (by omega) (e1.tr (e2.mo (W3.z (Or.inl rfl)) (fun _ _ c => c))) (by omega) (by omega) d2
  unfold wp_X9_derivative
  have hL := hb.1
  refine ⟨hL.t5, h0 + 6, hL.p5_1, hL.t6, c_clear (DL.d6 hL) (fun S1 e1 x1 s1 d1 => ⟨A.length + 1, ?_⟩)⟩
  exact key A.length 0 S1 (by omega) (e1.mo (W3.z (Or.inl rfl)) (fun _ _ c => c)) x1 s1 d1
end CWALK
/-! Two falling rows merged. -/
def rt (A : Po) (i : Nat) : Tm := tm A (A.length - 1 - i)
theorem rt_sm {p : Nat} {A : Po} (hw : wf p A) {i : Nat} (hi : i < A.length) : sm (rt A i) := hw.sm (by omega)
theorem rt_n {p : Nat} {A : Po} (hw : wf p A) {i : Nat} (hi : i < A.length) : 0 < (rt A i).n ∧ (rt A i).n < p := ⟨(hw.2.1 (A.length - 1 - i) (by omega)).2.2.2.1, (hw.2.1 (A.length - 1 - i) (by omega)).2.2.2.2⟩
theorem rt_cf {p : Nat} {A : Po} (hw : wf p A) {i : Nat} (hi : i < A.length) : cf A (rt A i).x (rt A i).y (rt A i).z = (rt A i).n := cf_at hw (by omega)
def cov (C T : Po) (i : Nat) : Prop := ∀ i', i' < i → ∃ a, a < T.length ∧ isAt (tm T a) (rt C i').x (rt C i').y (rt C i').z
theorem cov_no {p : Nat} {C T : Po} {i : Nat} {u : Tm} (hw : wf p C) (hc : cov C T i) (hT : ∀ a, a < T.length → k6 u < k6 (tm T a)) (hn : i < C.length → k6 (rt C i) < k6 u) : cf C u.x u.y u.z = 0 := by
  apply cf_none
  intro q hq w
  have e : rt C (C.length - 1 - q) = tm C q := by unfold rt; rw [show C.length - 1 - (C.length - 1 - q) = q by omega]
  have ek : k6 (tm C q) = k6 u := k6_eq w
  by_cases c : C.length - 1 - q < i
  · obtain ⟨a, ha, w2⟩ := hc _ c
    rw [e] at w2
    have := hT a ha
    have h2 : k6 (tm T a) = k6 (tm C q) := k6_eq w2
    omega
  · have h1 := hn (by omega)
    by_cases c2 : C.length - 1 - q = i
    · rw [← c2, e] at h1; omega
    · have := k6_fall hw (i := i) (j := C.length - 1 - q) (by omega) (by omega)
      have e1 : tm C (C.length - 1 - (C.length - 1 - q)) = tm C q := e
      rw [e1] at this
      have e2 : k6 (tm C (C.length - 1 - i)) < k6 u := h1
      omega
def Mg (p m : Nat) (A B : Po) (i j : Nat) (T : Po) : Prop := (∀ a b, a < b → b < T.length → k6 (tm T b) < k6 (tm T a)) ∧ (∀ a, a < T.length → sm (tm T a) ∧ (tm T a).n = sumF p m A B (tm T a).x (tm T a).y (tm T a).z) ∧ cov A T i ∧ cov B T j ∧ ∀ a, a < T.length → (i < A.length → k6 (rt A i) < k6 (tm T a)) ∧ (j < B.length → k6 (rt B j) < k6 (tm T a))
theorem cov_app {C T : Po} {i : Nat} {u : Tm} (h : cov C T i) : cov C (T ++ [u]) i := fun i' hi' => by
  obtain ⟨a, ha, w⟩ := h i' hi'
  exact ⟨a, by rw [List.length_append]; omega, by rw [tm_app_l ha]; exact w⟩
theorem cov_new {C T : Po} {i : Nat} {u : Tm} (h : cov C T i) (hu : isAt u (rt C i).x (rt C i).y (rt C i).z) : cov C (T ++ [u]) (i + 1) := fun i' hi' => by
  by_cases e : i' = i
  · subst e
    exact ⟨T.length, by rw [List.length_append, List.length_singleton]; omega, by rw [tm_app_r]; exact hu⟩
  · exact cov_app h i' (by omega)
theorem mg_push {p m : Nat} {A B T : Po} {i j i2 j2 : Nat} {u : Tm} (h : Mg p m A B i j T) (hs : sm u) (hn : u.n = sumF p m A B u.x u.y u.z) (hT : ∀ a, a < T.length → k6 u < k6 (tm T a)) (c1 : cov A (T ++ [u]) i2) (c2 : cov B (T ++ [u]) j2) (n1 : i2 < A.length → k6 (rt A i2) < k6 u) (n2 : j2 < B.length → k6 (rt B j2) < k6 u) : Mg p m A B i2 j2 (T ++ [u]) := by
  obtain ⟨h1, h2, -, -, -⟩ := h
  refine ⟨fun a b hab hb => ?_, fun a ha => ?_, c1, c2, fun a ha => ?_⟩
  · rw [List.length_append, List.length_singleton] at hb
    rw [tm_app_l (i := a) (by omega)]
    by_cases e : b < T.length
    · rw [tm_app_l e]; exact h1 a b hab e
    · rw [show b = T.length by omega, tm_app_r]; exact hT a (by omega)
  · rw [List.length_append, List.length_singleton] at ha
    by_cases e : a < T.length
    · rw [tm_app_l e]; exact h2 a e
    · rw [show a = T.length by omega, tm_app_r]; exact ⟨hs, hn⟩
  · rw [List.length_append, List.length_singleton] at ha
    by_cases e : a < T.length
    · rw [tm_app_l e]
      have := hT a e
      exact ⟨fun q => by have := n1 q; omega, fun q => by have := n2 q; omega⟩
    · rw [show a = T.length by omega, tm_app_r]; exact ⟨n1, n2⟩
theorem mg_0 (p m : Nat) (A B : Po) : Mg p m A B 0 0 [] := ⟨fun a b _ hb => by simp at hb, fun a ha => by simp at ha, fun i hi => by omega, fun i hi => by omega, fun a ha => by simp at ha⟩
/-- a term of the second row alone -/
theorem mg_g {p m : Nat} {A B T : Po} {i j : Nat} (wa : wf p A) (wb : wf p B) (h : Mg p m A B i j T) (hj : j < B.length) (hlt : i < A.length → k6 (rt A i) < k6 (rt B j)) : Mg p m A B i (j + 1) (T ++ [((rt B j).x, (rt B j).y, (rt B j).z, m * (rt B j).n % p)]) := by
  have hT : ∀ a, a < T.length → k6 (rt B j) < k6 (tm T a) := fun a ha => (h.2.2.2.2 a ha).2 hj
  have h0 := cov_no wa h.2.2.1 hT hlt
  refine mg_push h (rt_sm wb hj) ?_ hT (cov_app h.2.2.1) (cov_new h.2.2.2.1 ⟨rfl, rfl, rfl⟩) hlt (fun q => k6_fall wb (by omega) q)
  show m * (rt B j).n % p = (cf A (rt B j).x (rt B j).y (rt B j).z + m * cf B (rt B j).x (rt B j).y (rt B j).z) % p
  rw [h0, rt_cf wb hj, Nat.zero_add]
/-- a term of the first row alone -/
theorem mg_f {p m : Nat} {A B T : Po} {i j : Nat} (wa : wf p A) (wb : wf p B) (h : Mg p m A B i j T) (hi : i < A.length) (hlt : j < B.length → k6 (rt B j) < k6 (rt A i)) : Mg p m A B (i + 1) j (T ++ [((rt A i).x, (rt A i).y, (rt A i).z, (rt A i).n % p)]) := by
  have hT : ∀ a, a < T.length → k6 (rt A i) < k6 (tm T a) := fun a ha => (h.2.2.2.2 a ha).1 hi
  have h0 := cov_no wb h.2.2.2.1 hT hlt
  refine mg_push h (rt_sm wa hi) ?_ hT (cov_new h.2.2.1 ⟨rfl, rfl, rfl⟩) (cov_app h.2.2.2.1) (fun q => k6_fall wa (by omega) q) hlt
  show (rt A i).n % p = (cf A (rt A i).x (rt A i).y (rt A i).z + m * cf B (rt A i).x (rt A i).y (rt A i).z) % p
  rw [h0, rt_cf wa hi, Nat.mul_zero, Nat.add_zero]
/-- terms of both -/
theorem mg_b {p m : Nat} {A B T : Po} {i j : Nat} (wa : wf p A) (wb : wf p B) (h : Mg p m A B i j T) (hi : i < A.length) (hj : j < B.length) (he : k6 (rt B j) = k6 (rt A i)) : Mg p m A B (i + 1) (j + 1) (T ++ [((rt A i).x, (rt A i).y, (rt A i).z, ((rt A i).n + m * (rt B j).n) % p)]) := by
  have hT : ∀ a, a < T.length → k6 (rt A i) < k6 (tm T a) := fun a ha => (h.2.2.2.2 a ha).1 hi
  have w := k6_inj (rt_sm wb hj) (rt_sm wa hi) he
  refine mg_push h (rt_sm wa hi) ?_ hT (cov_new h.2.2.1 ⟨rfl, rfl, rfl⟩) (cov_new h.2.2.2.1 ⟨w.1.symm, w.2.1.symm, w.2.2.symm⟩) (fun q => k6_fall wa (by omega) q) (fun q => by
    have := k6_fall wb (i := j) (j := j + 1) (by omega) q
    have e2 : k6 (rt B (j + 1)) < k6 (rt B j) := this
    show k6 (rt B (j + 1)) < k6 (rt A i)
    omega)
  show ((rt A i).n + m * (rt B j).n) % p = (cf A (rt A i).x (rt A i).y (rt A i).z + m * cf B (rt A i).x (rt A i).y (rt A i).z) % p
  have eb := rt_cf wb hj
  rw [w.1, w.2.1, w.2.2] at eb
  rw [rt_cf wa hi, eb]
theorem mg_end {p m : Nat} {A B T : Po} (wa : wf p A) (wb : wf p B) (h : Mg p m A B A.length B.length T) (x y z : Nat) : fF (tm T) T.length x y z = sumF p m A B x y z := by
  obtain ⟨h1, h2, h3, h4, -⟩ := h
  have ho : ∀ i j, i < j → j < T.length → (tm T i).n ≠ 0 → (tm T j).n ≠ 0 → k6 (tm T j) < k6 (tm T i) := fun i j a b _ _ => h1 i j a b
  by_cases e : ∃ a, a < T.length ∧ isAt (tm T a) x y z
  · obtain ⟨a, ha, w⟩ := e
    have hn := (h2 a ha).2
    rw [w.1, w.2.1, w.2.2] at hn
    rw [← hn]
    unfold fF
    rw [sumTo_single a ha (fun j hj ne => ?_), if_pos w]
    rw [if_neg]
    intro w2
    have ek : k6 (tm T j) = k6 (tm T a) := by unfold k6; rw [w.1, w.2.1, w.2.2, w2.1, w2.2.1, w2.2.2]
    rcases Nat.lt_or_gt_of_ne ne with q | q
    · have := h1 j a q ha; omega
    · have := h1 a j q hj; omega
  · have hA : cf A x y z = 0 := Classical.byContradiction fun c => by
      obtain ⟨i, hi, w⟩ := cf_ne c
      obtain ⟨a, ha, w2⟩ := h3 (A.length - 1 - i) (by omega)
      unfold rt at w2
      rw [show A.length - 1 - (A.length - 1 - i) = i by omega, w.1, w.2.1, w.2.2] at w2
      exact e ⟨a, ha, w2⟩
    have hB : cf B x y z = 0 := Classical.byContradiction fun c => by
      obtain ⟨i, hi, w⟩ := cf_ne c
      obtain ⟨a, ha, w2⟩ := h4 (B.length - 1 - i) (by omega)
      unfold rt at w2
      rw [show B.length - 1 - (B.length - 1 - i) = i by omega, w.1, w.2.1, w.2.2] at w2
      exact e ⟨a, ha, w2⟩
    unfold sumF
    rw [hA, hB, Nat.mul_zero, Nat.add_zero, Nat.zero_mod]
    exact sumTo_zero (fun i hi => if_neg (fun w => e ⟨i, hi, w⟩))
theorem pf_congr {s t : Nat → Tm} : ∀ {n : Nat}, (∀ i, i < n → s i = t i) → pf s n = pf t n := by
  intro n
  induction n with
  | zero => intro _; rfl
  | succ n ih => intro h; rw [pf, pf, ih (fun i hi => h i (by omega)), h n (by omega)]
theorem pf_app (T : Po) (u : Tm) : pf (tm (T ++ [u])) (T ++ [u]).length = psD (pf (tm T) T.length).1 (pf (tm T) T.length).2 u := by
  rw [List.length_append, List.length_singleton, pf, tm_app_r, pf_congr (t := tm T) (fun i hi => tm_app_l hi)]
/-! sum of the class. -/
section CSUM
variable {M : Nat × Nat} {h0 p a b m : Nat} {A B : Po} {S : HS} {K : Option Nat → HS → Prop}
/-- where a sum stands -/
def Sm (h0 p m : Nat) (A B : Po) (S : HS) (i j : Nat) (S1 : HS) (T : Po) : Prop := Ext S S1 (Wz h0 S) V0 ∧ hX S1 = hX S ∧ hS S1 = hS S ∧ Dr h0 S1 6 (pf (tm T) T.length).1 (pf (tm T) T.length).2 ∧ Mg p m A B i j T
theorem sm_push {i j i2 j2 : Nat} {S1 : HS} {T : Po} {u : Tm} {x1 x2 : Int32} {K' : Int32 → HS → Prop} (hb : Bs h0 S p) (hs : Sm h0 p m A B S i j S1 T) (h1 : x1 = ι (k6 u)) (h2 : x2 = ι u.n) (hu : u.n < 2147483648) (hg : Mg p m A B i2 j2 (T ++ [u])) (h : ∀ S2, Sm h0 p m A B S i2 j2 S2 (T ++ [u]) → K' 0 S2) : wp_X6_push M (h0 + 6) x1 x2 S1 K' := by
  obtain ⟨e1, g1, g2, d1, -⟩ := hs
  refine c_psh (t := u) (DL.d6 (hb.go e1 g1).1) d1 h1 h2 hu (fun S2 e2 q1 q2 d2 => h S2 ⟨e1.tr (e2.mo (W3.z (Or.inl rfl)) (fun _ _ c => c)), by omega, by omega, ?_, hg⟩)
  rw [pf_app]; exact d2
theorem c_sum {x3 : Int32} (hb : Bs h0 S p) (wa : wf p A) (wb : wf p B) (kaa : Ka h0 a) (pa : PolyAt S a A) (kab : Ka h0 b) (pb : PolyAt S b B) (hx : x3 = ι m) (hm : m ≤ 12) (r1 : hX S + 3 ≤ M.1) (r2 : hS S + 604 ≤ M.2) (h : Mk h0 S p (sumF p m A B) K) : wp_X9_sum M (h0 + 5) a b x3 S K := by
  subst hx
  have hpp := hb.2.2.2.2.le
  have la := wa.1
  have lb := wb.1
  have key3 : ∀ (k j : Nat) (S1 : HS) (T : Po), j + k = B.length → Sm h0 p m A B S A.length j S1 T → wl_X9_sum_161 M K (k + 1) (h0 + 5) b (ι m) (ι j) S1 := by
    intro k
    induction k with
    | zero =>
      intro j S1 T hj hs
      obtain ⟨e1, g1, g2, d1, mg⟩ := id hs
      obtain ⟨q1, q2, q3, q4, q5, q6, q7, q8, q9, q10, q11⟩ := pb.go e1 (ka_z hb.2.2.1 b B kab pb)
      have hL1 := (hb.go e1 g1).1
      show wb_X9_sum_161 _ _ _ _ _ _ _ _
      unfold wb_X9_sum_161
      rw [q9]
      simp (disch := omega) only [ι_lit, ι_of, ι_add, ι_mul, ι_lt, ι_le, ι_eq, ι_cl, ι_rem, ι_div, ι_vin, ι_ne1', ι_1ne', ι_1lt', ι_lt1', ι_1le', ι_le1', ι_sub', ι_sub, upN, upE, Nat.reduceEqDiff, ne_eq, not_true_eq_false, not_false_eq_true, false_imp_iff, true_imp_iff, true_and, and_true, imp_self, forall_eq, reduceIte, Nat.reduceMul, Nat.reduceAdd, Nat.reduceSub]
      refine ⟨q2, fun _ => ⟨hL1.t5, h0 + 6, hL1.p5_1, hL1.t6, ?_⟩, fun c => absurd (by omega) c⟩
      rw [show j = B.length by omega] at mg
      refine c_end (t := tm T) (m := T.length) hb e1 g1 g2 d1 (fun i hi _ => ⟨(mg.2.1 i hi).1, ?_⟩) (fun i j hij hj _ _ => mg.1 i j hij hj) (mg_end wa wb mg) r1 r2 h
      rw [(mg.2.1 i hi).2]
      exact Nat.mod_lt _ (by omega)
    | succ k ih =>
      intro j S1 T hj hs
      obtain ⟨e1, g1, g2, d1, mg⟩ := id hs
      obtain ⟨q1, q2, q3, q4, q5, q6, q7, q8, q9, q10, q11⟩ := pb.go e1 (ka_z hb.2.2.1 b B kab pb)
      have b1 := hb.go e1 g1
      have hL1 := b1.1
      have nb := rt_n wb (i := j) (by omega)
      have hmul : m * (rt B j).n ≤ 12 * 12 := Nat.mul_le_mul hm (by omega)
      show wb_X9_sum_161 _ _ _ _ _ _ _ _
      unfold wb_X9_sum_161
      rw [q9]
      simp (disch := omega) only [ι_lit, ι_of, ι_add, ι_mul, ι_lt, ι_le, ι_eq, ι_cl, ι_rem, ι_div, ι_vin, ι_ne1', ι_1ne', ι_1lt', ι_lt1', ι_1le', ι_le1', ι_sub', ι_sub, upN, upE, Nat.reduceEqDiff, ne_eq, not_true_eq_false, not_false_eq_true, false_imp_iff, true_imp_iff, true_and, and_true, imp_self, forall_eq, reduceIte, Nat.reduceMul, Nat.reduceAdd, Nat.reduceSub]
      refine ⟨q2, fun c => absurd c (by omega), fun _ => ⟨hL1.t5, h0 + 6, hL1.p5_1, q2, b + 1, q3, q5, by rw [q7]; exact ι_in (by omega) (by omega), q2, b + 2, q4, q6, by rw [q8]; exact ι_in (by omega) (by omega), hL1.t5, ?_, hL1.t6, ?_⟩⟩
      · rw [b1.2.2.2.1]
        simp (disch := omega) only [ι_lit, ι_of, ι_add, ι_mul, ι_lt, ι_le, ι_eq, ι_cl, ι_rem, ι_div, ι_vin, ι_ne1', ι_1ne', ι_1lt', ι_lt1', ι_1le', ι_le1', ι_sub', ι_sub, upN, upE, Nat.reduceEqDiff, ne_eq, not_true_eq_false, not_false_eq_true, false_imp_iff, true_imp_iff, true_and, and_true, imp_self, forall_eq, reduceIte, Nat.reduceMul, Nat.reduceAdd, Nat.reduceSub]
        omega
      · rw [(q11 j (by omega)).1, (q11 j (by omega)).2, b1.2.2.2.1]
        rw [show tm B (B.length - 1 - j) = rt B j from rfl]
        simp (disch := omega) only [ι_lit, ι_of, ι_add, ι_mul, ι_lt, ι_le, ι_eq, ι_cl, ι_rem, ι_div, ι_vin, ι_ne1', ι_1ne', ι_1lt', ι_lt1', ι_1le', ι_le1', ι_sub', ι_sub, upN, upE, Nat.reduceEqDiff, ne_eq, not_true_eq_false, not_false_eq_true, false_imp_iff, true_imp_iff, true_and, and_true, imp_self, forall_eq, reduceIte, Nat.reduceMul, Nat.reduceAdd, Nat.reduceSub]
        have hmod := Nat.mod_lt (m * (rt B j).n) (show 0 < p by omega)
        refine sm_push (u := ((rt B j).x, (rt B j).y, (rt B j).z, m * (rt B j).n % p)) hb hs rfl rfl (by show m * (rt B j).n % p < 2147483648; omega) (mg_g wa wb mg (by omega) (fun q => absurd q (by omega))) (fun S2 hs2 => ih (j + 1) S2 _ (by omega) hs2)
  have key1 : ∀ (k i j : Nat) (S1 : HS) (T : Po), i + k = A.length → j ≤ B.length → Sm h0 p m A B S i j S1 T → wl_X9_sum_13 M K (k + 1) (h0 + 5) a b (ι m) (ι j) (ι i) S1 := by
    intro k
    induction k with
    | zero =>
      intro i j S1 T hi hj hs
      obtain ⟨e1, g1, g2, d1, mg⟩ := id hs
      obtain ⟨p1, p2, p3, p4, p5, p6, p7, p8, p9, p10, p11⟩ := pa.go e1 (ka_z hb.2.2.1 a A kaa pa)
      show wb_X9_sum_13 _ _ _ _ _ _ _ _ _ _
      unfold wb_X9_sum_13
      rw [p9]
      simp (disch := omega) only [ι_lit, ι_of, ι_add, ι_mul, ι_lt, ι_le, ι_eq, ι_cl, ι_rem, ι_div, ι_vin, ι_ne1', ι_1ne', ι_1lt', ι_lt1', ι_1le', ι_le1', ι_sub', ι_sub, upN, upE, Nat.reduceEqDiff, ne_eq, not_true_eq_false, not_false_eq_true, false_imp_iff, true_imp_iff, true_and, and_true, imp_self, forall_eq, reduceIte, Nat.reduceMul, Nat.reduceAdd, Nat.reduceSub]
      refine ⟨p2, fun _ => ⟨B.length - j + 1, key3 _ j S1 T (by omega) ?_⟩, fun c => absurd (by omega) c⟩
      rw [show A.length = i by omega]; exact hs
    | succ k ih =>
      intro i j S1 T hi hj hs
      obtain ⟨e1, g1, g2, d1, mg⟩ := id hs
      obtain ⟨p1, p2, p3, p4, p5, p6, p7, p8, p9, p10, p11⟩ := pa.go e1 (ka_z hb.2.2.1 a A kaa pa)
      have na := rt_n wa (i := i) (by omega)
      have ska := k6_lt (rt_sm wa (i := i) (by omega))
      show wb_X9_sum_13 _ _ _ _ _ _ _ _ _ _
      unfold wb_X9_sum_13
      rw [p9]
      simp (disch := omega) only [ι_lit, ι_of, ι_add, ι_mul, ι_lt, ι_le, ι_eq, ι_cl, ι_rem, ι_div, ι_vin, ι_ne1', ι_1ne', ι_1lt', ι_lt1', ι_1le', ι_le1', ι_sub', ι_sub, upN, upE, Nat.reduceEqDiff, ne_eq, not_true_eq_false, not_false_eq_true, false_imp_iff, true_imp_iff, true_and, and_true, imp_self, forall_eq, reduceIte, Nat.reduceMul, Nat.reduceAdd, Nat.reduceSub]
      refine ⟨p2, fun c => absurd c (by omega), fun _ => ?_⟩
      -- the rest of one round
      have go134 : ∀ (j' j2 : Nat) (S2 : HS) (T2 : Po) (w : Nat), w ≤ 1000 → Sm h0 p m A B S i j' S2 T2 → j2 ≤ B.length → Mg p m A B (i + 1) j2 (T2 ++ [((rt A i).x, (rt A i).y, (rt A i).z, w % p)]) → w_X9_sum_134 M (wl_X9_sum_13 M K (k + 1)) K (h0 + 5) a b (ι m) (ι j2) (ι i) (ι w) S2 := by
        intro j' j2 S2 T2 w hw hs2 hj2 hg
        obtain ⟨e2, x2, -, -, -⟩ := id hs2
        obtain ⟨p1, p2, p3, p4, p5, p6, p7, p8, p9, p10, p11⟩ := pa.go e2 (ka_z hb.2.2.1 a A kaa pa)
        have b2 := hb.go e2 x2
        have hL2 := b2.1
        unfold w_X9_sum_134
        refine ⟨hL2.t5, h0 + 6, hL2.p5_1, p2, a + 1, p3, p5, by rw [p7]; exact ι_in (by omega) (by omega), hL2.t5, ?_, hL2.t6, ?_⟩
        · rw [b2.2.2.2.1]
          simp (disch := omega) only [ι_lit, ι_of, ι_add, ι_mul, ι_lt, ι_le, ι_eq, ι_cl, ι_rem, ι_div, ι_vin, ι_ne1', ι_1ne', ι_1lt', ι_lt1', ι_1le', ι_le1', ι_sub', ι_sub, upN, upE, Nat.reduceEqDiff, ne_eq, not_true_eq_false, not_false_eq_true, false_imp_iff, true_imp_iff, true_and, and_true, imp_self, forall_eq, reduceIte, Nat.reduceMul, Nat.reduceAdd, Nat.reduceSub]
          omega
        · rw [ι_cl (by omega), (p11 i (by omega)).1, b2.2.2.2.1]
          simp (disch := omega) only [ι_lit, ι_of, ι_add, ι_mul, ι_lt, ι_le, ι_eq, ι_cl, ι_rem, ι_div, ι_vin, ι_ne1', ι_1ne', ι_1lt', ι_lt1', ι_1le', ι_le1', ι_sub', ι_sub, upN, upE, Nat.reduceEqDiff, ne_eq, not_true_eq_false, not_false_eq_true, false_imp_iff, true_imp_iff, true_and, and_true, imp_self, forall_eq, reduceIte, Nat.reduceMul, Nat.reduceAdd, Nat.reduceSub]
          have hmod := Nat.mod_lt w (show 0 < p by omega)
          refine sm_push (u := ((rt A i).x, (rt A i).y, (rt A i).z, w % p)) hb hs2 rfl rfl (by show w % p < 2147483648; omega) hg (fun S3 hs3 => ih (i + 1) j2 S3 _ (by omega) hj2 hs3)
      have go82 : ∀ (j' : Nat) (S2 : HS) (T2 : Po), j' ≤ B.length → Sm h0 p m A B S i j' S2 T2 → (j' < B.length → k6 (rt B j') ≤ k6 (rt A i)) → w_X9_sum_82 M (wl_X9_sum_13 M K (k + 1)) K (h0 + 5) a b (ι m) (ι j') (ι i) S2 := by
        intro j' S2 T2 hj' hs2 hle
        obtain ⟨e2, x2, -, -, mg2⟩ := id hs2
        obtain ⟨p1, p2, p3, p4, p5, p6, p7, p8, p9, p10, p11⟩ := pa.go e2 (ka_z hb.2.2.1 a A kaa pa)
        obtain ⟨q1, q2, q3, q4, q5, q6, q7, q8, q9, q10, q11⟩ := pb.go e2 (ka_z hb.2.2.1 b B kab pb)
        unfold w_X9_sum_82
        refine ⟨p2, a + 2, p4, p6, by rw [p8]; exact ι_in (by omega) (by omega), ?_⟩
        rw [ι_cl (by omega), (p11 i (by omega)).2, q9]
        intro v2 ev2
        subst ev2
        rw [show tm A (A.length - 1 - i) = rt A i from rfl]
        simp (disch := omega) only [ι_lit, ι_of, ι_add, ι_mul, ι_lt, ι_le, ι_eq, ι_cl, ι_rem, ι_div, ι_vin, ι_ne1', ι_1ne', ι_1lt', ι_lt1', ι_1le', ι_le1', ι_sub', ι_sub, upN, upE, Nat.reduceEqDiff, ne_eq, not_true_eq_false, not_false_eq_true, false_imp_iff, true_imp_iff, true_and, and_true, imp_self, forall_eq, reduceIte, Nat.reduceMul, Nat.reduceAdd, Nat.reduceSub]
        refine ⟨q2, fun c => go134 j' j' S2 T2 (rt A i).n (by omega) hs2 hj' (mg_f wa wb mg2 (by omega) (fun q => absurd q (by omega))), fun c => ⟨q2, b + 1, q3, q5, by rw [q7]; exact ι_in (by omega) (by omega), p2, a + 1, p3, p5, by rw [p7]; exact ι_in (by omega) (by omega), ?_⟩⟩
        have skb := k6_lt (rt_sm wb (i := j') (by omega))
        have nb := rt_n wb (i := j') (by omega)
        have hmul : m * (rt B j').n ≤ 12 * 12 := Nat.mul_le_mul hm (by omega)
        have hle' := hle (by omega)
        rw [(q11 j' (by omega)).1, (p11 i (by omega)).1, show tm A (A.length - 1 - i) = rt A i from rfl, show tm B (B.length - 1 - j') = rt B j' from rfl]
        simp (disch := omega) only [ι_lit, ι_of, ι_add, ι_mul, ι_lt, ι_le, ι_eq, ι_cl, ι_rem, ι_div, ι_vin, ι_ne1', ι_1ne', ι_1lt', ι_lt1', ι_1le', ι_le1', ι_sub', ι_sub, upN, upE, Nat.reduceEqDiff, ne_eq, not_true_eq_false, not_false_eq_true, false_imp_iff, true_imp_iff, true_and, and_true, imp_self, forall_eq, reduceIte, Nat.reduceMul, Nat.reduceAdd, Nat.reduceSub]
        refine ⟨fun c2 => go134 j' j' S2 T2 (rt A i).n (by omega) hs2 hj' (mg_f wa wb mg2 (by omega) (fun _ => by omega)), fun c2 => ⟨q2, b + 2, q4, q6, by rw [q8]; exact ι_in (by omega) (by omega), ?_⟩⟩
        rw [(q11 j' (by omega)).2, show tm B (B.length - 1 - j') = rt B j' from rfl]
        simp (disch := omega) only [ι_lit, ι_of, ι_add, ι_mul, ι_lt, ι_le, ι_eq, ι_cl, ι_rem, ι_div, ι_vin, ι_ne1', ι_1ne', ι_1lt', ι_lt1', ι_1le', ι_le1', ι_sub', ι_sub, upN, upE, Nat.reduceEqDiff, ne_eq, not_true_eq_false, not_false_eq_true, false_imp_iff, true_imp_iff, true_and, and_true, imp_self, forall_eq, reduceIte, Nat.reduceMul, Nat.reduceAdd, Nat.reduceSub]
        exact go134 j' (j' + 1) S2 T2 ((rt A i).n + m * (rt B j').n) (by omega) hs2 (by omega) (mg_b wa wb mg2 (by omega) (by omega) c2)
      have key2 : ∀ (k2 j' : Nat) (S2 : HS) (T2 : Po), j' + k2 = B.length → Sm h0 p m A B S i j' S2 T2 → wl_X9_sum_22 M (wl_X9_sum_13 M K (k + 1)) K (k2 + 1) (h0 + 5) a b (ι m) (ι j') (ι i) S2 := by
        intro k2
        induction k2 with
        | zero =>
          intro j' S2 T2 hj' hs2
          obtain ⟨e2, x2, -, -, mg2⟩ := id hs2
          obtain ⟨q1, q2, q3, q4, q5, q6, q7, q8, q9, q10, q11⟩ := pb.go e2 (ka_z hb.2.2.1 b B kab pb)
          show wb_X9_sum_22 _ _ _ _ _ _ _ _ _ _ _
          unfold wb_X9_sum_22
          rw [q9]
          simp (disch := omega) only [ι_lit, ι_of, ι_add, ι_mul, ι_lt, ι_le, ι_eq, ι_cl, ι_rem, ι_div, ι_vin, ι_ne1', ι_1ne', ι_1lt', ι_lt1', ι_1le', ι_le1', ι_sub', ι_sub, upN, upE, Nat.reduceEqDiff, ne_eq, not_true_eq_false, not_false_eq_true, false_imp_iff, true_imp_iff, true_and, and_true, imp_self, forall_eq, reduceIte, Nat.reduceMul, Nat.reduceAdd, Nat.reduceSub]
          exact ⟨q2, fun _ => go82 j' S2 T2 (by omega) hs2 (fun q => absurd q (by omega)), fun c => absurd (by omega) c⟩
        | succ k2 ih2 =>
          intro j' S2 T2 hj' hs2
          obtain ⟨e2, x2, -, -, mg2⟩ := id hs2
          obtain ⟨p1, p2, p3, p4, p5, p6, p7, p8, p9, p10, p11⟩ := pa.go e2 (ka_z hb.2.2.1 a A kaa pa)
          obtain ⟨q1, q2, q3, q4, q5, q6, q7, q8, q9, q10, q11⟩ := pb.go e2 (ka_z hb.2.2.1 b B kab pb)
          have b2 := hb.go e2 x2
          have hL2 := b2.1
          have skb := k6_lt (rt_sm wb (i := j') (by omega))
          have nb := rt_n wb (i := j') (by omega)
          have hmul : m * (rt B j').n ≤ 12 * 12 := Nat.mul_le_mul hm (by omega)
          show wb_X9_sum_22 _ _ _ _ _ _ _ _ _ _ _
          unfold wb_X9_sum_22
          rw [q9]
          simp (disch := omega) only [ι_lit, ι_of, ι_add, ι_mul, ι_lt, ι_le, ι_eq, ι_cl, ι_rem, ι_div, ι_vin, ι_ne1', ι_1ne', ι_1lt', ι_lt1', ι_1le', ι_le1', ι_sub', ι_sub, upN, upE, Nat.reduceEqDiff, ne_eq, not_true_eq_false, not_false_eq_true, false_imp_iff, true_imp_iff, true_and, and_true, imp_self, forall_eq, reduceIte, Nat.reduceMul, Nat.reduceAdd, Nat.reduceSub]
          refine ⟨q2, fun c => absurd c (by omega), fun _ => ⟨q2, b + 1, q3, q5, by rw [q7]; exact ι_in (by omega) (by omega), p2, a + 1, p3, p5, by rw [p7]; exact ι_in (by omega) (by omega), ?_⟩⟩
          rw [(q11 j' (by omega)).1, (p11 i (by omega)).1, show tm A (A.length - 1 - i) = rt A i from rfl, show tm B (B.length - 1 - j') = rt B j' from rfl]
          simp (disch := omega) only [ι_lit, ι_of, ι_add, ι_mul, ι_lt, ι_le, ι_eq, ι_cl, ι_rem, ι_div, ι_vin, ι_ne1', ι_1ne', ι_1lt', ι_lt1', ι_1le', ι_le1', ι_sub', ι_sub, upN, upE, Nat.reduceEqDiff, ne_eq, not_true_eq_false, not_false_eq_true, false_imp_iff, true_imp_iff, true_and, and_true, imp_self, forall_eq, reduceIte, Nat.reduceMul, Nat.reduceAdd, Nat.reduceSub]
          refine ⟨fun c => go82 j' S2 T2 (by omega) hs2 (fun _ => c), fun c => ⟨hL2.t5, h0 + 6, hL2.p5_1, q2, b + 1, q3, q5, by rw [q7]; exact ι_in (by omega) (by omega), q2, b + 2, q4, q6, by rw [q8]; exact ι_in (by omega) (by omega), hL2.t5, ?_, hL2.t6, ?_⟩⟩
          · rw [b2.2.2.2.1]
            simp (disch := omega) only [ι_lit, ι_of, ι_add, ι_mul, ι_lt, ι_le, ι_eq, ι_cl, ι_rem, ι_div, ι_vin, ι_ne1', ι_1ne', ι_1lt', ι_lt1', ι_1le', ι_le1', ι_sub', ι_sub, upN, upE, Nat.reduceEqDiff, ne_eq, not_true_eq_false, not_false_eq_true, false_imp_iff, true_imp_iff, true_and, and_true, imp_self, forall_eq, reduceIte, Nat.reduceMul, Nat.reduceAdd, Nat.reduceSub]
            omega
          · rw [(q11 j' (by omega)).1, (q11 j' (by omega)).2, b2.2.2.2.1, show tm B (B.length - 1 - j') = rt B j' from rfl]
            simp (disch := omega) only [ι_lit, ι_of, ι_add, ι_mul, ι_lt, ι_le, ι_eq, ι_cl, ι_rem, ι_div, ι_vin, ι_ne1', ι_1ne', ι_1lt', ι_lt1', ι_1le', ι_le1', ι_sub', ι_sub, upN, upE, Nat.reduceEqDiff, ne_eq, not_true_eq_false, not_false_eq_true, false_imp_iff, true_imp_iff, true_and, and_true, imp_self, forall_eq, reduceIte, Nat.reduceMul, Nat.reduceAdd, Nat.reduceSub]
            have hmod := Nat.mod_lt (m * (rt B j').n) (show 0 < p by omega)
            refine sm_push (u := ((rt B j').x, (rt B j').y, (rt B j').z, m * (rt B j').n % p)) hb hs2 rfl rfl (by show m * (rt B j').n % p < 2147483648; omega) (mg_g wa wb mg2 (by omega) (fun _ => by omega)) (fun S3 hs3 => ih2 (j' + 1) S3 _ (by omega) hs3)
      exact ⟨B.length - j + 1, key2 _ j S1 T (by omega) hs⟩
  unfold wp_X9_sum
  have hL := hb.1
  refine ⟨hL.t5, h0 + 6, hL.p5_1, hL.t6, c_clear (DL.d6 hL) (fun S1 e1 x1 s1 d1 => ⟨A.length + 1, ?_⟩)⟩
  exact key1 A.length 0 0 S1 [] (by omega) (by omega) ⟨e1.mo (W3.z (Or.inl rfl)) (fun _ _ c => c), x1, s1, d1, mg_0 p m A B⟩
end CSUM
