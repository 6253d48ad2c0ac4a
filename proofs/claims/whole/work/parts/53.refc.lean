/-! Sums and products in the reference. -/
def pS (L : Po) (m i x y z : Nat) : Nat := sumTo i (fun j => if isAt (tm L j) x y z then m * (tm L j).n else 0)
theorem pS_all (L : Po) (m x y z : Nat) : pS L m L.length x y z = m * cf L x y z := by
  unfold pS cf
  rw [← sumTo_mul]
  exact sumTo_congr (fun i _ => by split <;> simp)
theorem Gt.ext {R : RS} {p t : Nat} {F F' : Nat → Nat → Nat → Nat} (h : Gt R p F t) (e : ∀ x y z, F x y z = F' x y z) : Gt R p F' t := by
  have : F = F' := by funext x y z; exact e x y z
  rw [← this]; exact h
theorem Gt.fr {R R' : RS} {p t : Nat} {F : Nat → Nat → Nat → Nat} {fs ks : List Nat} (h : Gt R p F t) (hr : Fr R R' fs ks) (h1 : 5 ∉ fs) (h2 : 6 ∉ fs) (h3 : 1 ∉ ks) (h4 : 7 ∉ ks) : Gt R' p F t := by
  obtain ⟨g1, g2, g3, g4, g5, g6⟩ := h
  have e5 := hr.1 5 (by omega) h1
  have e6 := hr.1 6 (by omega) h2
  refine ⟨(hr.2 1 h3).trans g1, (hr.2 7 h4).trans g2, fun x y z a b c => by rw [e5]; exact g3 x y z a b c, g4, fun i hi => by rw [e6]; exact g5 i hi, fun x y z q => by rw [e6]; exact g6 x y z q⟩
theorem s_gathersAll {s p t m : Nat} {x1 x2 : Int32} {L : Po} {F : Nat → Nat → Nat → Nat} {R : RS} {K : Int32 → RS → Prop} (h1 : x1 = ι s) (hs : s < 56) (hpp : PrP p) (hw : wf p L) (hl : Sl R s L) (ht : t + L.length ≤ 90600) (hby : ∀ n, n < p → Cg p (x2 * ι n).toInt (m * n) ∧ -1000000000 ≤ (x2 * ι n).toInt ∧ (x2 * ι n).toInt ≤ 1000000000) (hG : Gt R p F t)
    (h : ∀ R', Fr R R' [5, 6] [7] → Gt R' p (fun x y z => (F x y z + m * cf L x y z) % p) (t + L.length) → K 0 R') : wp_gathersAll x1 x2 R K := by
  subst h1
  have hle := hw.1
  have key : ∀ (k i : Nat) (R1 : RS), i + k = L.length → Fr R R1 [5, 6] [7] → Gt R1 p (fun x y z => (F x y z + pS L m i x y z) % p) (t + i) → wl_gathersAll_2 K (k + 1) (ι s) x2 (ι i) R1 := by
    intro k
    induction k with
    | zero =>
      intro i R1 hi r1 r2
      have e2 : R1 2 s = ι L.length := by rw [r1.1 2 (by omega) (by simp)]; exact hl.1
      show wb_gathersAll_2 _ _ _ _ _ _
      unfold wb_gathersAll_2
      simp (disch := omega) only [ι_lit, ι_of, ι_add, ι_mul, ι_lt, ι_le, ι_eq, ι_cl, ι_rem, ι_div, ι_vin, ι_ne1', ι_1ne', ι_1lt', ι_lt1', ι_1le', ι_le1', ι_sub', ι_sub, upN, upE, Nat.reduceEqDiff, ne_eq, not_true_eq_false, not_false_eq_true, false_imp_iff, true_imp_iff, true_and, and_true, imp_self, forall_eq, reduceIte, Nat.reduceMul, Nat.reduceAdd, Nat.reduceSub, e2]
      refine ⟨fun _ => h R1 r1 ?_, fun q => absurd (by omega) q⟩
      rw [show i = L.length by omega] at r2
      exact r2.ext (fun x y z => by rw [pS_all])
    | succ k ih =>
      intro i R1 hi r1 r2
      have e2 : R1 2 s = ι L.length := by rw [r1.1 2 (by omega) (by simp)]; exact hl.1
      have e3 : R1 3 (300 * s + i) = ι (k41 (tm L i)) := by rw [r1.1 3 (by omega) (by simp)]; exact (hl.2 i (by omega)).1
      have e4 : R1 4 (300 * s + i) = ι (tm L i).n := by rw [r1.1 4 (by omega) (by simp)]; exact (hl.2 i (by omega)).2
      have ht := hw.sm (i := i) (by omega)
      have hn := hw.2.1 i (by omega)
      show wb_gathersAll_2 _ _ _ _ _ _
      unfold wb_gathersAll_2
      simp (disch := omega) only [ι_lit, ι_of, ι_add, ι_mul, ι_lt, ι_le, ι_eq, ι_cl, ι_rem, ι_div, ι_vin, ι_ne1', ι_1ne', ι_1lt', ι_lt1', ι_1le', ι_le1', ι_sub', ι_sub, upN, upE, Nat.reduceEqDiff, ne_eq, not_true_eq_false, not_false_eq_true, false_imp_iff, true_imp_iff, true_and, and_true, imp_self, forall_eq, reduceIte, Nat.reduceMul, Nat.reduceAdd, Nat.reduceSub, e2]
      refine ⟨fun q => absurd q (by omega), fun _ => ?_⟩
      refine s_keyAt rfl rfl hs (by omega) (s_ex ht e3 (v := 0) rfl (by omega) ?_)
      refine s_keyAt rfl rfl hs (by omega) (s_ex ht e3 (v := 1) rfl (by omega) ?_)
      refine s_keyAt rfl rfl hs (by omega) (s_ex ht e3 (v := 2) rfl (by omega) ?_)
      refine s_numAt rfl rfl hs (by omega) ?_
      rw [e4]
      have hb := hby (tm L i).n hn.2.2.2.2
      refine s_gathers (x := (tm L i).x) (y := (tm L i).y) (z := (tm L i).z) (m := m * (tm L i).n) rfl rfl rfl hpp (by omega) (by omega) (by omega) (by omega) hb.1 hb.2.1 hb.2.2 r2 (fun R2 r3 r4 => ?_)
      refine ih (i + 1) R2 (by omega) (r1.tr r3) ?_
      refine r4.ext (fun x y z => ?_)
      unfold adF
      by_cases c : x = (tm L i).x ∧ y = (tm L i).y ∧ z = (tm L i).z
      · obtain ⟨rfl, rfl, rfl⟩ := c
        rw [if_pos ⟨rfl, rfl, rfl⟩, Nat.mod_add_mod]
        unfold pS
        rw [sumTo, if_pos ⟨rfl, rfl, rfl⟩, Nat.add_assoc]
      · rw [if_neg c]
        unfold pS
        rw [sumTo, if_neg (fun w => c ⟨w.1.symm, w.2.1.symm, w.2.2.symm⟩), Nat.add_zero]
  unfold wp_gathersAll
  refine ⟨L.length + 1, key L.length 0 R (by omega) (Fr.rf _ _ _) (hG.ext (fun x y z => ?_))⟩
  show F x y z = (F x y z + 0) % p
  rw [Nat.add_zero, Nat.mod_eq_of_lt (hG.2.2.2.1 x y z)]
theorem by_1 {p : Nat} (hpp : PrP p) : ∀ n, n < p → Cg p ((1 : Int32) * ι n).toInt (1 * n) ∧ -1000000000 ≤ ((1 : Int32) * ι n).toInt ∧ ((1 : Int32) * ι n).toInt ≤ 1000000000 := by
  intro n hn
  have := hpp.le
  have e : ((1 : Int32) * ι n) = ι n := by rw [show (1 : Int32) = ι 1 from rfl, ι_mul, Nat.one_mul]
  rw [e, ι_int (by omega), Nat.one_mul]
  exact ⟨Cg.nat p n, by omega, by omega⟩
theorem neg_int {n : Nat} (h : n < 2147483648) : (-ι n).toInt = -(n : Int) := by
  rw [Int32.toInt_neg, ι_int h, Int.bmod_eq_of_le (by omega) (by omega)]
theorem by_m {p : Nat} (hpp : PrP p) : ∀ n, n < p → Cg p ((-1 : Int32) * ι n).toInt ((p - 1) * n) ∧ -1000000000 ≤ ((-1 : Int32) * ι n).toInt ∧ ((-1 : Int32) * ι n).toInt ≤ 1000000000 := by
  intro n hn
  have := hpp.le
  have e : ((-1 : Int32) * ι n) = -ι n := by rw [Int32.neg_mul, Int32.one_mul]
  rw [e, neg_int (by omega)]
  exact ⟨Cg.neg (by omega), by omega, by omega⟩
abbrev G0 (R : RS) (p : Nat) : Prop := Gt R p (fun _ _ _ => 0) 0
def sumF (p m : Nat) (A B : Po) : Nat → Nat → Nat → Nat := fun x y z => (cf A x y z + m * cf B x y z) % p
theorem s_sum {d a b p m : Nat} {x1 x2 x3 x4 : Int32} {A B : Po} {R : RS} {K : Int32 → RS → Prop} (h1 : x1 = ι d) (h2 : x2 = ι a) (h3 : x3 = ι b) (hd : d < 56) (ha : a < 56) (hb : b < 56) (hpp : PrP p) (wa : wf p A) (wb : wf p B) (la : Sl R a A) (lb : Sl R b B) (hby : ∀ n, n < p → Cg p (x4 * ι n).toInt (m * n) ∧ -1000000000 ≤ (x4 * ι n).toInt ∧ (x4 * ι n).toInt ≤ 1000000000) (hG : G0 R p)
    (h : ∀ R', Fr R R' [2, 3, 4, 5, 6] [7] → Fs R R' [d] → G0 R' p → (∀ L, Can p (sumF p m A B) L → Sl R' d L → K 1 R') ∧ ((¬ ∃ L, Can p (sumF p m A B) L) → K 0 R')) : wp_sum x1 x2 x3 x4 R K := by
  have l1 := wa.1
  have l2 := wb.1
  have hp := hpp.le
  unfold wp_sum
  refine s_gathersAll (m := 1) h2 ha hpp wa la (by omega) (by_1 hpp) hG (fun R1 r1 g1 => ?_)
  refine s_gathersAll (m := m) h3 hb hpp wb (lb.go l2 (r1.fs [] (by simp)) (by simp)) (by omega) hby g1 (fun R2 r2 g2 => ?_)
  refine s_gathered h1 hd (by omega) hpp (g2.ext (F' := sumF p m A B) (fun x y z => ?_)) (fun R3 r3 f3 g3 => ?_)
  · unfold sumF
    rw [Nat.zero_add, Nat.one_mul, Nat.mod_add_mod]
  · have hh := h R3 (((r1.tr r2).mo (by decide) (by decide)).tr (r3.mo (by decide) (by decide))) ((r1.tr r2).fs [d] (by simp) |>.tr f3) g3
    exact ⟨fun L c l => ⟨Or.inr rfl, hh.1 L c l⟩, fun c => ⟨Or.inl rfl, hh.2 c⟩⟩
/-- a term times a polynomial -/
def qS (u : Tm) (L : Po) (i x y z : Nat) : Nat := sumTo i (fun j => if u.x + (tm L j).x = x ∧ u.y + (tm L j).y = y ∧ u.z + (tm L j).z = z then u.n * (tm L j).n else 0)
def prS (A B : Po) (i x y z : Nat) : Nat := sumTo i (fun j => qS (tm A j) B B.length x y z)
def prF (p : Nat) (A B : Po) : Nat → Nat → Nat → Nat := fun x y z => prS A B A.length x y z % p
theorem s_gathersTerm {s p t : Nat} {x1 x2 x3 : Int32} {u : Tm} {L : Po} {F : Nat → Nat → Nat → Nat} {R : RS} {K : Int32 → RS → Prop} (h1 : x1 = ι (k41 u)) (h2 : x2 = ι u.n) (h3 : x3 = ι s) (hu : sm u) (hun : u.n < p) (hs : s < 56) (hpp : PrP p) (hw : wf p L) (hl : Sl R s L) (ht : t + L.length ≤ 90600) (hG : Gt R p F t)
    (h : ∀ R', Fr R R' [5, 6] [7] → Gt R' p (fun x y z => (F x y z + qS u L L.length x y z) % p) (t + L.length) → K 0 R') : wp_gathersTerm x1 x2 x3 R K := by
  subst h1 h2 h3
  have hle := hw.1
  have hp := hpp.le
  have key : ∀ (k i : Nat) (R1 : RS), i + k = L.length → Fr R R1 [5, 6] [7] → Gt R1 p (fun x y z => (F x y z + qS u L i x y z) % p) (t + i) → wl_gathersTerm_3 K (k + 1) (ι (k41 u)) (ι u.n) (ι s) (ι i) R1 := by
    intro k
    induction k with
    | zero =>
      intro i R1 hi r1 r2
      have e2 : R1 2 s = ι L.length := by rw [r1.1 2 (by omega) (by simp)]; exact hl.1
      show wb_gathersTerm_3 _ _ _ _ _ _ _
      unfold wb_gathersTerm_3
      simp (disch := omega) only [ι_lit, ι_of, ι_add, ι_mul, ι_lt, ι_le, ι_eq, ι_cl, ι_rem, ι_div, ι_vin, ι_ne1', ι_1ne', ι_1lt', ι_lt1', ι_1le', ι_le1', ι_sub', ι_sub, upN, upE, Nat.reduceEqDiff, ne_eq, not_true_eq_false, not_false_eq_true, false_imp_iff, true_imp_iff, true_and, and_true, imp_self, forall_eq, reduceIte, Nat.reduceMul, Nat.reduceAdd, Nat.reduceSub, e2]
      refine ⟨fun _ => h R1 r1 ?_, fun q => absurd (by omega) q⟩
      rw [show i = L.length by omega] at r2
      exact r2
    | succ k ih =>
      intro i R1 hi r1 r2
      have e2 : R1 2 s = ι L.length := by rw [r1.1 2 (by omega) (by simp)]; exact hl.1
      have e3 : R1 3 (300 * s + i) = ι (k41 (tm L i)) := by rw [r1.1 3 (by omega) (by simp)]; exact (hl.2 i (by omega)).1
      have e4 : R1 4 (300 * s + i) = ι (tm L i).n := by rw [r1.1 4 (by omega) (by simp)]; exact (hl.2 i (by omega)).2
      have ht := hw.sm (i := i) (by omega)
      have hn := hw.2.1 i (by omega)
      show wb_gathersTerm_3 _ _ _ _ _ _ _
      unfold wb_gathersTerm_3
      simp (disch := omega) only [ι_lit, ι_of, ι_add, ι_mul, ι_lt, ι_le, ι_eq, ι_cl, ι_rem, ι_div, ι_vin, ι_ne1', ι_1ne', ι_1lt', ι_lt1', ι_1le', ι_le1', ι_sub', ι_sub, upN, upE, Nat.reduceEqDiff, ne_eq, not_true_eq_false, not_false_eq_true, false_imp_iff, true_imp_iff, true_and, and_true, imp_self, forall_eq, reduceIte, Nat.reduceMul, Nat.reduceAdd, Nat.reduceSub, e2]
      refine ⟨fun q => absurd q (by omega), fun _ => ?_⟩
      refine s_keyAt rfl rfl hs (by omega) ?_
      refine s_ex hu rfl (v := 0) rfl (by omega) (s_ex ht e3 (v := 0) rfl (by omega) ?_)
      refine s_ex hu rfl (v := 1) rfl (by omega) (s_ex ht e3 (v := 1) rfl (by omega) ?_)
      refine s_ex hu rfl (v := 2) rfl (by omega) (s_ex ht e3 (v := 2) rfl (by omega) ?_)
      refine s_numAt rfl rfl hs (by omega) ?_
      rw [e4]
      simp (disch := omega) only [ι_lit, ι_of, ι_add, ι_mul, ι_lt, ι_le, ι_eq, ι_cl, ι_rem, ι_div, ι_vin, ι_ne1', ι_1ne', ι_1lt', ι_lt1', ι_1le', ι_le1', ι_sub', ι_sub, upN, upE, Nat.reduceEqDiff, ne_eq, not_true_eq_false, not_false_eq_true, false_imp_iff, true_imp_iff, true_and, and_true, imp_self, forall_eq, reduceIte, Nat.reduceMul, Nat.reduceAdd, Nat.reduceSub]
      have hmul : u.n * (tm L i).n ≤ 13 * 13 := Nat.mul_le_mul (by omega) (by omega)
      refine s_gathers (x := u.x + (tm L i).x) (y := u.y + (tm L i).y) (z := u.z + (tm L i).z) (m := u.n * (tm L i).n) rfl rfl rfl hpp (by omega) (by omega) (by omega) (by omega) (by rw [ι_int (by omega)]; exact Cg.nat _ _) (by rw [ι_int (by omega)]; omega) (by rw [ι_int (by omega)]; omega) r2 (fun R2 r3 r4 => ?_)
      refine ih (i + 1) R2 (by omega) (r1.tr r3) ?_
      refine r4.ext (fun x y z => ?_)
      unfold adF
      by_cases c : x = u.x + (tm L i).x ∧ y = u.y + (tm L i).y ∧ z = u.z + (tm L i).z
      · obtain ⟨rfl, rfl, rfl⟩ := c
        rw [if_pos ⟨rfl, rfl, rfl⟩, Nat.mod_add_mod]
        unfold qS
        rw [sumTo, if_pos ⟨rfl, rfl, rfl⟩, Nat.add_assoc]
      · rw [if_neg c]
        unfold qS
        rw [sumTo, if_neg (fun w => c ⟨w.1.symm, w.2.1.symm, w.2.2.symm⟩), Nat.add_zero]
  unfold wp_gathersTerm
  refine ⟨L.length + 1, key L.length 0 R (by omega) (Fr.rf _ _ _) (hG.ext (fun x y z => ?_))⟩
  show F x y z = (F x y z + 0) % p
  rw [Nat.add_zero, Nat.mod_eq_of_lt (hG.2.2.2.1 x y z)]
theorem s_product {d a b p : Nat} {x1 x2 x3 : Int32} {A B : Po} {R : RS} {K : Int32 → RS → Prop} (h1 : x1 = ι d) (h2 : x2 = ι a) (h3 : x3 = ι b) (hd : d < 56) (ha : a < 56) (hb : b < 56) (hpp : PrP p) (wa : wf p A) (wb : wf p B) (la : Sl R a A) (lb : Sl R b B) (hG : G0 R p)
    (h : ∀ R', Fr R R' [2, 3, 4, 5, 6] [7] → Fs R R' [d] → G0 R' p → (∀ L, Can p (prF p A B) L → Sl R' d L → K 1 R') ∧ ((¬ ∃ L, Can p (prF p A B) L) → K 0 R')) : wp_product x1 x2 x3 R K := by
  subst h1 h2 h3
  have l1 := wa.1
  have l2 := wb.1
  have hp := hpp.le
  have key : ∀ (k i : Nat) (R1 : RS), i + k = A.length → Fr R R1 [5, 6] [7] → Gt R1 p (fun x y z => prS A B i x y z % p) (i * B.length) → wl_product_3 K (k + 1) (ι d) (ι a) (ι b) (ι i) R1 := by
    intro k
    induction k with
    | zero =>
      intro i R1 hi r1 r2
      have e2 : R1 2 a = ι A.length := by rw [r1.1 2 (by omega) (by simp)]; exact la.1
      show wb_product_3 _ _ _ _ _ _ _
      unfold wb_product_3
      simp (disch := omega) only [ι_lit, ι_of, ι_add, ι_mul, ι_lt, ι_le, ι_eq, ι_cl, ι_rem, ι_div, ι_vin, ι_ne1', ι_1ne', ι_1lt', ι_lt1', ι_1le', ι_le1', ι_sub', ι_sub, upN, upE, Nat.reduceEqDiff, ne_eq, not_true_eq_false, not_false_eq_true, false_imp_iff, true_imp_iff, true_and, and_true, imp_self, forall_eq, reduceIte, Nat.reduceMul, Nat.reduceAdd, Nat.reduceSub, e2]
      refine ⟨fun _ => ?_, fun q => absurd (by omega) q⟩
      have hm : i * B.length ≤ 300 * 300 := Nat.mul_le_mul (by omega) l2
      rw [show i = A.length by omega] at r2 hm
      refine s_gathered rfl hd (by omega) hpp (r2.ext (F' := prF p A B) (fun x y z => rfl)) (fun R3 r3 f3 g3 => ?_)
      have hh := h R3 ((r1.mo (by decide) (by decide)).tr (r3.mo (by decide) (by decide))) (r1.fs [d] (by simp) |>.tr f3) g3
      exact ⟨fun L c l => ⟨Or.inr rfl, hh.1 L c l⟩, fun c => ⟨Or.inl rfl, hh.2 c⟩⟩
    | succ k ih =>
      intro i R1 hi r1 r2
      have e2 : R1 2 a = ι A.length := by rw [r1.1 2 (by omega) (by simp)]; exact la.1
      have e3 : R1 3 (300 * a + i) = ι (k41 (tm A i)) := by rw [r1.1 3 (by omega) (by simp)]; exact (la.2 i (by omega)).1
      have e4 : R1 4 (300 * a + i) = ι (tm A i).n := by rw [r1.1 4 (by omega) (by simp)]; exact (la.2 i (by omega)).2
      show wb_product_3 _ _ _ _ _ _ _
      unfold wb_product_3
      simp (disch := omega) only [ι_lit, ι_of, ι_add, ι_mul, ι_lt, ι_le, ι_eq, ι_cl, ι_rem, ι_div, ι_vin, ι_ne1', ι_1ne', ι_1lt', ι_lt1', ι_1le', ι_le1', ι_sub', ι_sub, upN, upE, Nat.reduceEqDiff, ne_eq, not_true_eq_false, not_false_eq_true, false_imp_iff, true_imp_iff, true_and, and_true, imp_self, forall_eq, reduceIte, Nat.reduceMul, Nat.reduceAdd, Nat.reduceSub, e2]
      refine ⟨fun q => absurd q (by omega), fun _ => ?_⟩
      refine s_keyAt rfl rfl ha (by omega) (s_numAt rfl rfl ha (by omega) ?_)
      have hm : (i + 1) * B.length ≤ 300 * 300 := Nat.mul_le_mul (by omega) l2
      rw [Nat.succ_mul] at hm
      refine s_gathersTerm e3 e4 rfl (wa.sm (by omega)) (wa.2.1 i (by omega)).2.2.2.2 hb hpp wb (lb.go l2 (r1.fs [] (by simp)) (by simp)) (by omega) r2 (fun R2 r3 r4 => ?_)
      rw [← Nat.succ_mul] at r4
      refine ih (i + 1) R2 (by omega) (r1.tr r3) (r4.ext (fun x y z => ?_))
      rw [Nat.mod_add_mod]
      rfl
  unfold wp_product
  refine ⟨A.length + 1, key A.length 0 R (by omega) (Fr.rf _ _ _) ?_⟩
  rw [Nat.zero_mul]
  exact hG.ext (fun x y z => (Nat.zero_mod p).symm)
/-! What numbers make, as a value; the reference's making of polynomials. -/
noncomputable def cn (p : Nat) (F : Nat → Nat → Nat → Nat) : Option Po := @dite _ (∃ L, Can p F L) (Classical.propDecidable _) (fun h => some (Classical.choose h)) (fun _ => none)
theorem cn_some {p : Nat} {F : Nat → Nat → Nat → Nat} {L : Po} (h : Can p F L) : cn p F = some L := by
  unfold cn
  rw [dif_pos ⟨L, h⟩]
  exact congrArg some ((Classical.choose_spec (⟨L, h⟩ : ∃ L, Can p F L)).eq h)
theorem cn_none {p : Nat} {F : Nat → Nat → Nat → Nat} (h : ¬ ∃ L, Can p F L) : cn p F = none := by
  unfold cn
  rw [dif_neg h]
theorem cn_can {p : Nat} {F : Nat → Nat → Nat → Nat} {L : Po} (h : cn p F = some L) : Can p F L := by
  by_cases e : ∃ L, Can p F L
  · obtain ⟨M, hM⟩ := e
    rw [cn_some hM] at h
    cases h
    exact hM
  · rw [cn_none e] at h
    cases h
theorem cn_no {p : Nat} {F : Nat → Nat → Nat → Nat} (h : cn p F = none) : ¬ ∃ L, Can p F L := by
  rintro ⟨M, hM⟩
  rw [cn_some hM] at h
  cases h
/-- a number as a polynomial -/
def cst (c : Nat) : Po := if c = 0 then [] else [(0, 0, 0, c)]
theorem cf_nil (x y z : Nat) : cf [] x y z = 0 := rfl
theorem cf_one (t : Tm) (x y z : Nat) : cf [t] x y z = if isAt t x y z then t.n else 0 := by
  show 0 + (if isAt (tm [t] 0) x y z then (tm [t] 0).n else 0) = _
  rw [Nat.zero_add]
  rfl
theorem wf_nil (p : Nat) : wf p [] := ⟨Nat.zero_le _, fun i hi => by simp at hi, fun i j _ hj => by simp at hj⟩
theorem wf_one {p : Nat} {t : Tm} (h : sm t) (h1 : 0 < t.n) (h2 : t.n < p) : wf p [t] := ⟨by simp, fun i hi => by
  rw [List.length_singleton] at hi
  rw [show i = 0 by omega]
  exact ⟨h.1, h.2.1, h.2.2, h1, h2⟩, fun i j h3 hj => by rw [List.length_singleton] at hj; omega⟩
theorem cst_wf {p c : Nat} (h : c < p) : wf p (cst c) := by
  unfold cst
  split
  · exact wf_nil p
  · exact wf_one ⟨Nat.zero_le _, Nat.zero_le _, Nat.zero_le _⟩ (by show 0 < c; omega) h
theorem cst_cf (c x y z : Nat) : cf (cst c) x y z = if x = 0 ∧ y = 0 ∧ z = 0 then c else 0 := by
  unfold cst
  split
  · rename_i e
    rw [e, cf_nil]
    exact (ite_self _).symm
  · rw [cf_one]
    by_cases q : x = 0 ∧ y = 0 ∧ z = 0
    · obtain ⟨rfl, rfl, rfl⟩ := q
      rw [if_pos ⟨rfl, rfl, rfl⟩, if_pos ⟨rfl, rfl, rfl⟩]
      rfl
    · rw [if_neg q, if_neg (fun w => q ⟨w.1.symm, w.2.1.symm, w.2.2.symm⟩)]
theorem s_number {d a p : Nat} {x1 x2 : Int32} {R : RS} {K : Int32 → RS → Prop} (h1 : x1 = ι d) (h2 : x2 = ι a) (hd : d < 56) (ha : a < 1000000) (hpp : PrP p) (hG : G0 R p) (h : ∀ R', Fr R R' [2, 3, 4, 5, 6] [7] → Fs R R' [d] → G0 R' p → Sl R' d (cst (a % p)) → K 0 R') : wp_number x1 x2 R K := by
  have hp := hpp.le
  have hm := Nat.mod_lt a (show 0 < p by omega)
  unfold wp_number
  have fin : ∀ (R1 : RS) (t : Nat), t ≤ 1 → Fr R R1 [5, 6] [7] → Gt R1 p (fun x y z => if x = 0 ∧ y = 0 ∧ z = 0 then a % p else 0) t → w_number_20 K x1 R1 := by
    intro R1 t ht r1 g1
    unfold w_number_20
    have hc : Can p (fun x y z => if x = 0 ∧ y = 0 ∧ z = 0 then a % p else 0) (cst (a % p)) := ⟨cst_wf hm, fun x y z => cst_cf _ _ _ _⟩
    refine s_gathered h1 hd (by omega) hpp g1 (fun R2 r2 f2 g2 => ⟨fun L c l => ?_, fun c => absurd ⟨_, hc⟩ c⟩)
    rw [c.eq hc] at l
    exact h R2 ((r1.mo (by decide) (by decide)).tr (r2.mo (by decide) (by decide))) ((r1.fs [d] (by simp)).tr f2) g2 l
  refine s_mod hG.1 hpp h2 (by omega) ?_
  simp (disch := omega) only [ι_lit, ι_of, ι_add, ι_mul, ι_lt, ι_le, ι_eq, ι_cl, ι_rem, ι_div, ι_vin, ι_ne1', ι_1ne', ι_1lt', ι_lt1', ι_1le', ι_le1', ι_sub', ι_sub, upN, upE, Nat.reduceEqDiff, ne_eq, not_true_eq_false, not_false_eq_true, false_imp_iff, true_imp_iff, true_and, and_true, imp_self, forall_eq, reduceIte, Nat.reduceMul, Nat.reduceAdd, Nat.reduceSub]
  refine ⟨fun q => fin R 0 (by omega) (Fr.rf _ _ _) (hG.ext (fun x y z => by rw [q]; exact (ite_self _).symm)), fun q => ?_⟩
  refine s_mod hG.1 hpp h2 (by omega) ?_
  refine s_gathers (x := 0) (y := 0) (z := 0) (m := a % p) rfl rfl rfl hpp (by omega) (by omega) (by omega) (by omega) (by rw [ι_int (by omega)]; exact Cg.nat _ _) (by rw [ι_int (by omega)]; omega) (by rw [ι_int (by omega)]; omega) hG (fun R2 r2 g2 => fin R2 _ (by omega) r2 (g2.ext (fun x y z => ?_)))
  unfold adF
  by_cases c : x = 0 ∧ y = 0 ∧ z = 0
  · rw [if_pos c, if_pos c, Nat.zero_add, Nat.mod_mod]
  · rw [if_neg c, if_neg c]
/-- each term becomes another one -/
def mS (g : Tm → Tm) (L : Po) (i x y z : Nat) : Nat := sumTo i (fun j => if isAt (g (tm L j)) x y z then (g (tm L j)).n else 0)
def mF (p : Nat) (g : Tm → Tm) (L : Po) : Nat → Nat → Nat → Nat := fun x y z => mS g L L.length x y z % p
theorem mS_add (p : Nat) (g : Tm → Tm) (L : Po) (i x y z : Nat) : adF p (fun x y z => mS g L i x y z % p) (g (tm L i)).x (g (tm L i)).y (g (tm L i)).z (g (tm L i)).n x y z = mS g L (i + 1) x y z % p := by
  unfold adF
  by_cases c : x = (g (tm L i)).x ∧ y = (g (tm L i)).y ∧ z = (g (tm L i)).z
  · obtain ⟨rfl, rfl, rfl⟩ := c
    rw [if_pos ⟨rfl, rfl, rfl⟩, Nat.mod_add_mod]
    unfold mS
    rw [sumTo, if_pos ⟨rfl, rfl, rfl⟩]
  · rw [if_neg c]
    unfold mS
    rw [sumTo, if_neg (fun w => c ⟨w.1.symm, w.2.1.symm, w.2.2.symm⟩), Nat.add_zero]
theorem mS_skip {g : Tm → Tm} {L : Po} {i : Nat} (h : (g (tm L i)).n = 0) (x y z : Nat) : mS g L (i + 1) x y z = mS g L i x y z := by
  unfold mS
  rw [sumTo, h, ite_self, Nat.add_zero]
def gD3 (v : Nat) (t : Tm) : Tm := (t.x - (if v = 0 then 1 else 0), t.y - (if v = 1 then 1 else 0), t.z - (if v = 2 then 1 else 0), exv t v * t.n)
def gPt (d : Nat) (t : Tm) : Tm := (t.x, t.y, t.z, if dgt t = d then t.n else 0)
def red (p e : Nat) : Nat := if e < p then e else (e - 1) % (p - 1) + 1
def gRd (p : Nat) (t : Tm) : Tm := (red p t.x, red p t.y, red p t.z, t.n)
