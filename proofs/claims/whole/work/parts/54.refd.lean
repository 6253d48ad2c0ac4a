theorem gt_mS {R : RS} {p t : Nat} {g : Tm → Tm} {L : Po} {i : Nat} (h : Gt R p (adF p (fun x y z => mS g L i x y z % p) (g (tm L i)).x (g (tm L i)).y (g (tm L i)).z (g (tm L i)).n) t) : Gt R p (fun x y z => mS g L (i + 1) x y z % p) t := h.ext (fun x y z => mS_add p g L i x y z)
theorem gt_mS0 {R : RS} {p : Nat} {g : Tm → Tm} {L : Po} (h : G0 R p) : Gt R p (fun x y z => mS g L 0 x y z % p) 0 := h.ext (fun x y z => (Nat.zero_mod p).symm)
theorem gt_skip {R : RS} {p t : Nat} {g : Tm → Tm} {L : Po} {i : Nat} (h : Gt R p (fun x y z => mS g L i x y z % p) t) (h0 : (g (tm L i)).n = 0) : Gt R p (fun x y z => mS g L (i + 1) x y z % p) t := h.ext (fun x y z => by rw [mS_skip h0])
/-- what each method that goes over a slot's terms and gathers them shows at its end -/
def Ge (R : RS) (d p : Nat) (F : Nat → Nat → Nat → Nat) (K : Int32 → RS → Prop) : Prop := ∀ R', Fr R R' [2, 3, 4, 5, 6, 14] [7] → Fs R R' [d] → G0 R' p → (∀ L, Can p F L → Sl R' d L → K 1 R') ∧ ((¬ ∃ L, Can p F L) → K 0 R')
theorem s_end {d p t : Nat} {F : Nat → Nat → Nat → Nat} {R R1 : RS} {K : Int32 → RS → Prop} (hd : d < 56) (hpp : PrP p) (h : Ge R d p F K) (r1 : Fr R R1 [5, 6, 14] [7]) (g1 : Gt R1 p F t) (ht : t ≤ 90600) : wp_gathered (ι d) R1 (fun r1 R1 => (r1 = 0 ∨ r1 = 1) ∧ K r1 R1) := by
  refine s_gathered rfl hd ht hpp g1 (fun R3 r3 f3 g3 => ?_)
  have hh := h R3 ((r1.mo (by decide) (by decide)).tr (r3.mo (by decide) (by decide))) (r1.fs [d] (by simp) |>.tr f3) g3
  exact ⟨fun L c l => ⟨Or.inr rfl, hh.1 L c l⟩, fun c => ⟨Or.inl rfl, hh.2 c⟩⟩
theorem sl_fr {R R1 : RS} {s : Nat} {L : Po} (hl : Sl R s L) (r1 : Fr R R1 [5, 6, 14] [7]) : Sl R1 s L := ⟨by rw [r1.1 2 (by omega) (by simp)]; exact hl.1, fun i hi => by rw [r1.1 3 (by omega) (by simp), r1.1 4 (by omega) (by simp)]; exact hl.2 i hi⟩
theorem cg_n {p n : Nat} (h : n ≤ 1000000) : Cg p (ι n).toInt n ∧ -1000000000 ≤ (ι n).toInt ∧ (ι n).toInt ≤ 1000000000 := by
  rw [ι_int (by omega)]
  exact ⟨Cg.nat _ _, by omega, by omega⟩
theorem s_part {d a p e : Nat} {x1 x2 x3 : Int32} {A : Po} {R : RS} {K : Int32 → RS → Prop} (h1 : x1 = ι d) (h2 : x2 = ι a) (h3 : x3 = ι e) (hd : d < 56) (ha : a < 56) (he : e ≤ 120) (hpp : PrP p) (wa : wf p A) (la : Sl R a A) (hG : G0 R p) (h : Ge R d p (mF p (gPt e) A) K) : wp_part x1 x2 x3 R K := by
  subst h1 h2 h3
  have l1 := wa.1
  have hp := hpp.le
  have key : ∀ (k i t : Nat) (R1 : RS), i + k = A.length → t ≤ i → Fr R R1 [5, 6, 14] [7] → Gt R1 p (fun x y z => mS (gPt e) A i x y z % p) t → wl_part_3 K (k + 1) (ι d) (ι a) (ι e) (ι i) R1 := by
    intro k
    induction k with
    | zero =>
      intro i t R1 hi ht r1 g1
      have l := sl_fr la r1
      show wb_part_3 _ _ _ _ _ _ _
      unfold wb_part_3
      simp (disch := omega) only [ι_lit, ι_of, ι_add, ι_mul, ι_lt, ι_le, ι_eq, ι_cl, ι_rem, ι_div, ι_vin, ι_ne1', ι_1ne', ι_1lt', ι_lt1', ι_1le', ι_le1', ι_sub', ι_sub, upN, upE, Nat.reduceEqDiff, ne_eq, not_true_eq_false, not_false_eq_true, false_imp_iff, true_imp_iff, true_and, and_true, imp_self, forall_eq, reduceIte, Nat.reduceMul, Nat.reduceAdd, Nat.reduceSub, l.1]
      refine ⟨fun _ => ?_, fun q => absurd (by omega) q⟩
      rw [show i = A.length by omega] at g1
      exact s_end hd hpp h r1 g1 (by omega)
    | succ k ih =>
      intro i t R1 hi ht r1 g1
      have l := sl_fr la r1
      have hs := wa.sm (i := i) (by omega)
      have hn := wa.2.1 i (by omega)
      have e3 := (l.2 i (by omega)).1
      show wb_part_3 _ _ _ _ _ _ _
      unfold wb_part_3
      simp (disch := omega) only [ι_lit, ι_of, ι_add, ι_mul, ι_lt, ι_le, ι_eq, ι_cl, ι_rem, ι_div, ι_vin, ι_ne1', ι_1ne', ι_1lt', ι_lt1', ι_1le', ι_le1', ι_sub', ι_sub, upN, upE, Nat.reduceEqDiff, ne_eq, not_true_eq_false, not_false_eq_true, false_imp_iff, true_imp_iff, true_and, and_true, imp_self, forall_eq, reduceIte, Nat.reduceMul, Nat.reduceAdd, Nat.reduceSub, l.1]
      refine ⟨fun q => absurd q (by omega), fun _ => ?_⟩
      refine s_keyAt rfl rfl ha (by omega) (s_degreeOfKey hs e3 ?_)
      have hdg : dgt (tm A i) ≤ 120 := by unfold dgt; omega
      simp (disch := omega) only [ι_lit, ι_of, ι_add, ι_mul, ι_lt, ι_le, ι_eq, ι_cl, ι_rem, ι_div, ι_vin, ι_ne1', ι_1ne', ι_1lt', ι_lt1', ι_1le', ι_le1', ι_sub', ι_sub, upN, upE, Nat.reduceEqDiff, ne_eq, not_true_eq_false, not_false_eq_true, false_imp_iff, true_imp_iff, true_and, and_true, imp_self, forall_eq, reduceIte, Nat.reduceMul, Nat.reduceAdd, Nat.reduceSub]
      refine ⟨fun q => ?_, fun q => ?_⟩
      · exact ih (i + 1) t R1 (by omega) (by omega) r1 (gt_skip g1 (if_neg q))
      · refine s_keyAt rfl rfl ha (by omega) (s_ex hs e3 (v := 0) rfl (by omega) ?_)
        refine s_keyAt rfl rfl ha (by omega) (s_ex hs e3 (v := 1) rfl (by omega) ?_)
        refine s_keyAt rfl rfl ha (by omega) (s_ex hs e3 (v := 2) rfl (by omega) ?_)
        refine s_numAt rfl rfl ha (by omega) ?_
        rw [(l.2 i (by omega)).2]
        have en : (gPt e (tm A i)).n = (tm A i).n := if_pos q
        have cg := cg_n (p := p) (n := (tm A i).n) (by omega)
        refine s_gathers (x := (gPt e (tm A i)).x) (y := (gPt e (tm A i)).y) (z := (gPt e (tm A i)).z) (m := (gPt e (tm A i)).n) rfl rfl rfl hpp (by show (tm A i).x ≤ 80; omega) (by show (tm A i).y ≤ 80; omega) (by show (tm A i).z ≤ 80; omega) (by omega) (by rw [en]; exact cg.1) cg.2.1 cg.2.2 g1 (fun R2 r2 g2 => ?_)
        exact ih (i + 1) (t + 1) R2 (by omega) (by omega) (r1.tr (r2.mo (by decide) (by decide))) (gt_mS g2)
  unfold wp_part
  exact ⟨A.length + 1, key A.length 0 0 R (by omega) (by omega) (Fr.rf _ _ _) (gt_mS0 hG)⟩
theorem s_redE {p e : Nat} {x1 : Int32} {R : RS} {K : Int32 → RS → Prop} (h1 : x1 = ι e) (he : e ≤ 40) (hpp : PrP p) (hp1 : R 0 1 = ι p) (h : K (ι (red p e)) R) : wp_reducedExponent x1 R K := by
  subst h1
  have hp := hpp.le
  have key : ∀ (k e : Nat), e ≤ k → e ≤ 40 → K (ι (red p e)) R → wl_reducedExponent_2 K (k + 1) (ι e) R := by
    intro k
    induction k with
    | zero =>
      intro e he _ hk
      show wb_reducedExponent_2 _ _ _ _
      unfold wb_reducedExponent_2
      simp (disch := omega) only [ι_lit, ι_of, ι_add, ι_mul, ι_lt, ι_le, ι_eq, ι_cl, ι_rem, ι_div, ι_vin, ι_ne1', ι_1ne', ι_1lt', ι_lt1', ι_1le', ι_le1', ι_sub', ι_sub, upN, upE, Nat.reduceEqDiff, ne_eq, not_true_eq_false, not_false_eq_true, false_imp_iff, true_imp_iff, true_and, and_true, imp_self, forall_eq, reduceIte, Nat.reduceMul, Nat.reduceAdd, Nat.reduceSub, hp1]
      refine ⟨fun q => ?_, fun q => absurd (by omega) q⟩
      unfold red at hk
      rwa [if_pos q] at hk
    | succ k ih =>
      intro e he h40 hk
      show wb_reducedExponent_2 _ _ _ _
      unfold wb_reducedExponent_2
      simp (disch := omega) only [ι_lit, ι_of, ι_add, ι_mul, ι_lt, ι_le, ι_eq, ι_cl, ι_rem, ι_div, ι_vin, ι_ne1', ι_1ne', ι_1lt', ι_lt1', ι_1le', ι_le1', ι_sub', ι_sub, upN, upE, Nat.reduceEqDiff, ne_eq, not_true_eq_false, not_false_eq_true, false_imp_iff, true_imp_iff, true_and, and_true, imp_self, forall_eq, reduceIte, Nat.reduceMul, Nat.reduceAdd, Nat.reduceSub, hp1]
      refine ⟨fun q => ?_, fun q => ?_⟩
      · unfold red at hk
        rwa [if_pos q] at hk
      · rw [ι_sub (show p - 1 ≤ e by omega)]
        refine ih (e - (p - 1)) (by omega) (by omega) ?_
        have : red p (e - (p - 1)) = red p e := by
          unfold red
          rw [if_neg q]
          split
          · rename_i c
            have : (e - 1) % (p - 1) = e - 1 - (p - 1) := by
              rw [Nat.mod_eq_sub_mod (by omega), Nat.mod_eq_of_lt (by omega)]
            omega
          · rename_i c
            rw [Nat.mod_eq_sub_mod (a := e - 1) (b := p - 1) (by omega)]
            congr 2
            omega
        rw [this]; exact hk
  unfold wp_reducedExponent
  exact ⟨e + 1, key e e (Nat.le_refl _) he h⟩
theorem red_le {p e : Nat} (hpp : PrP p) (he : e ≤ 40) : red p e ≤ 40 := by
  have hp := hpp.le
  unfold red
  split
  · omega
  · have := Nat.mod_lt (e - 1) (show 0 < p - 1 by omega)
    omega
theorem s_reduced {d a p : Nat} {x1 x2 : Int32} {A : Po} {R : RS} {K : Int32 → RS → Prop} (h1 : x1 = ι d) (h2 : x2 = ι a) (hd : d < 56) (ha : a < 56) (hpp : PrP p) (wa : wf p A) (la : Sl R a A) (hG : G0 R p) (h : Ge R d p (mF p (gRd p) A) K) : wp_reduced x1 x2 R K := by
  subst h1 h2
  have l1 := wa.1
  have hp := hpp.le
  have key : ∀ (k i : Nat) (R1 : RS), i + k = A.length → Fr R R1 [5, 6, 14] [7] → Gt R1 p (fun x y z => mS (gRd p) A i x y z % p) i → wl_reduced_2 K (k + 1) (ι d) (ι a) (ι i) R1 := by
    intro k
    induction k with
    | zero =>
      intro i R1 hi r1 g1
      have l := sl_fr la r1
      show wb_reduced_2 _ _ _ _ _ _
      unfold wb_reduced_2
      simp (disch := omega) only [ι_lit, ι_of, ι_add, ι_mul, ι_lt, ι_le, ι_eq, ι_cl, ι_rem, ι_div, ι_vin, ι_ne1', ι_1ne', ι_1lt', ι_lt1', ι_1le', ι_le1', ι_sub', ι_sub, upN, upE, Nat.reduceEqDiff, ne_eq, not_true_eq_false, not_false_eq_true, false_imp_iff, true_imp_iff, true_and, and_true, imp_self, forall_eq, reduceIte, Nat.reduceMul, Nat.reduceAdd, Nat.reduceSub, l.1]
      refine ⟨fun _ => ?_, fun q => absurd (by omega) q⟩
      rw [show i = A.length by omega] at g1
      exact s_end hd hpp h r1 g1 (by omega)
    | succ k ih =>
      intro i R1 hi r1 g1
      have l := sl_fr la r1
      have hs := wa.sm (i := i) (by omega)
      have hn := wa.2.1 i (by omega)
      have e3 := (l.2 i (by omega)).1
      have hr := g1.1
      show wb_reduced_2 _ _ _ _ _ _
      unfold wb_reduced_2
      simp (disch := omega) only [ι_lit, ι_of, ι_add, ι_mul, ι_lt, ι_le, ι_eq, ι_cl, ι_rem, ι_div, ι_vin, ι_ne1', ι_1ne', ι_1lt', ι_lt1', ι_1le', ι_le1', ι_sub', ι_sub, upN, upE, Nat.reduceEqDiff, ne_eq, not_true_eq_false, not_false_eq_true, false_imp_iff, true_imp_iff, true_and, and_true, imp_self, forall_eq, reduceIte, Nat.reduceMul, Nat.reduceAdd, Nat.reduceSub, l.1]
      refine ⟨fun q => absurd q (by omega), fun _ => ?_⟩
      refine s_keyAt rfl rfl ha (by omega) ?_
      refine s_ex hs e3 (v := 0) rfl (by omega) (s_redE rfl (exv_le hs 0) hpp hr ?_)
      refine s_ex hs e3 (v := 1) rfl (by omega) (s_redE rfl (exv_le hs 1) hpp hr ?_)
      refine s_ex hs e3 (v := 2) rfl (by omega) (s_redE rfl (exv_le hs 2) hpp hr ?_)
      refine s_numAt rfl rfl ha (by omega) ?_
      rw [(l.2 i (by omega)).2]
      have cg := cg_n (p := p) (n := (tm A i).n) (by omega)
      have q1 := red_le hpp hs.1
      have q2 := red_le hpp hs.2.1
      have q3 := red_le hpp hs.2.2
      refine s_gathers (x := (gRd p (tm A i)).x) (y := (gRd p (tm A i)).y) (z := (gRd p (tm A i)).z) (m := (gRd p (tm A i)).n) rfl rfl rfl hpp (by show red p (tm A i).x ≤ 80; omega) (by show red p (tm A i).y ≤ 80; omega) (by show red p (tm A i).z ≤ 80; omega) (by omega) cg.1 cg.2.1 cg.2.2 g1 (fun R2 r2 g2 => ?_)
      exact ih (i + 1) R2 (by omega) (r1.tr (r2.mo (by decide) (by decide))) (gt_mS g2)
  unfold wp_reduced
  exact ⟨A.length + 1, key A.length 0 R (by omega) (Fr.rf _ _ _) (gt_mS0 hG)⟩
theorem s_derivative {d a p v : Nat} {x1 x2 x3 : Int32} {A : Po} {R : RS} {K : Int32 → RS → Prop} (h1 : x1 = ι d) (h2 : x2 = ι a) (h3 : x3 = ι v) (hd : d < 56) (ha : a < 56) (hv : v < 3) (hpp : PrP p) (wa : wf p A) (la : Sl R a A) (hG : G0 R p) (h : Ge R d p (mF p (gD3 v) A) K) : wp_derivative x1 x2 x3 R K := by
  subst h1 h2 h3
  have l1 := wa.1
  have hp := hpp.le
  have key : ∀ (k i t : Nat) (R1 : RS), i + k = A.length → t ≤ i → Fr R R1 [5, 6, 14] [7] → Gt R1 p (fun x y z => mS (gD3 v) A i x y z % p) t → wl_derivative_3 K (k + 1) (ι d) (ι a) (ι v) (ι i) R1 := by
    intro k
    induction k with
    | zero =>
      intro i t R1 hi ht r1 g1
      have l := sl_fr la r1
      show wb_derivative_3 _ _ _ _ _ _ _
      unfold wb_derivative_3
      simp (disch := omega) only [ι_lit, ι_of, ι_add, ι_mul, ι_lt, ι_le, ι_eq, ι_cl, ι_rem, ι_div, ι_vin, ι_ne1', ι_1ne', ι_1lt', ι_lt1', ι_1le', ι_le1', ι_sub', ι_sub, upN, upE, Nat.reduceEqDiff, ne_eq, not_true_eq_false, not_false_eq_true, false_imp_iff, true_imp_iff, true_and, and_true, imp_self, forall_eq, reduceIte, Nat.reduceMul, Nat.reduceAdd, Nat.reduceSub, l.1]
      refine ⟨fun _ => ?_, fun q => absurd (by omega) q⟩
      rw [show i = A.length by omega] at g1
      exact s_end hd hpp h r1 g1 (by omega)
    | succ k ih =>
      intro i t R1 hi ht r1 g1
      have l := sl_fr la r1
      have hs := wa.sm (i := i) (by omega)
      have hn := wa.2.1 i (by omega)
      have e3 := (l.2 i (by omega)).1
      have he := exv_le hs v
      show wb_derivative_3 _ _ _ _ _ _ _
      unfold wb_derivative_3
      simp (disch := omega) only [ι_lit, ι_of, ι_add, ι_mul, ι_lt, ι_le, ι_eq, ι_cl, ι_rem, ι_div, ι_vin, ι_ne1', ι_1ne', ι_1lt', ι_lt1', ι_1le', ι_le1', ι_sub', ι_sub, upN, upE, Nat.reduceEqDiff, ne_eq, not_true_eq_false, not_false_eq_true, false_imp_iff, true_imp_iff, true_and, and_true, imp_self, forall_eq, reduceIte, Nat.reduceMul, Nat.reduceAdd, Nat.reduceSub, l.1]
      refine ⟨fun q => absurd q (by omega), fun _ => ?_⟩
      refine s_keyAt rfl rfl ha (by omega) (s_ex hs e3 rfl hv ?_)
      simp (disch := omega) only [ι_lit, ι_of, ι_add, ι_mul, ι_lt, ι_le, ι_eq, ι_cl, ι_rem, ι_div, ι_vin, ι_ne1', ι_1ne', ι_1lt', ι_lt1', ι_1le', ι_le1', ι_sub', ι_sub, upN, upE, Nat.reduceEqDiff, ne_eq, not_true_eq_false, not_false_eq_true, false_imp_iff, true_imp_iff, true_and, and_true, imp_self, forall_eq, reduceIte, Nat.reduceMul, Nat.reduceAdd, Nat.reduceSub]
      refine ⟨fun q => ?_, fun q => ?_⟩
      · have hpos : (v = 0 → 0 < (tm A i).x) ∧ (v = 1 → 0 < (tm A i).y) ∧ (v = 2 → 0 < (tm A i).z) := by
          unfold exv at q
          refine ⟨fun e => ?_, fun e => ?_, fun e => ?_⟩ <;> subst e <;> simp at q <;> omega
        have fin : ∀ s0 s2 s1 s3 : Nat, s3 = (gD3 v (tm A i)).x → s2 = (gD3 v (tm A i)).y → s1 - s0 = (gD3 v (tm A i)).z → s0 ≤ s1 → w_derivative_89 (wl_derivative_3 K (k + 1)) K (ι d) (ι a) (ι v) (ι i) (ι (exv (tm A i) v)) (ι s0) (ι s1) (ι s2) (ι s3) R1 := by
          intro s0 s2 s1 s3 q3 q2 q1 q0
          unfold w_derivative_89
          refine s_numAt rfl rfl ha (by omega) ?_
          rw [(l.2 i (by omega)).2]
          have hm : exv (tm A i) v * (tm A i).n ≤ 40 * 13 := Nat.mul_le_mul he (by omega)
          have cg := cg_n (p := p) (n := exv (tm A i) v * (tm A i).n) (by omega)
          simp (disch := omega) only [ι_lit, ι_of, ι_add, ι_mul, ι_lt, ι_le, ι_eq, ι_cl, ι_rem, ι_div, ι_vin, ι_ne1', ι_1ne', ι_1lt', ι_lt1', ι_1le', ι_le1', ι_sub', ι_sub, upN, upE, Nat.reduceEqDiff, ne_eq, not_true_eq_false, not_false_eq_true, false_imp_iff, true_imp_iff, true_and, and_true, imp_self, forall_eq, reduceIte, Nat.reduceMul, Nat.reduceAdd, Nat.reduceSub]
          refine s_gathers (x := (gD3 v (tm A i)).x) (y := (gD3 v (tm A i)).y) (z := (gD3 v (tm A i)).z) (m := (gD3 v (tm A i)).n) (by rw [q3]) (by rw [q2]) (by rw [q1]) hpp (by show (tm A i).x - _ ≤ 80; omega) (by show (tm A i).y - _ ≤ 80; omega) (by show (tm A i).z - _ ≤ 80; omega) (by omega) cg.1 cg.2.1 cg.2.2 g1 (fun R2 r2 g2 => ?_)
          exact ih (i + 1) (t + 1) R2 (by omega) (by omega) (r1.tr (r2.mo (by decide) (by decide))) (gt_mS g2)
        have hv3 : v = 0 ∨ v = 1 ∨ v = 2 := by omega
        refine s_ex hs e3 (v := 0) rfl (by omega) ?_
        rcases hv3 with rfl | rfl | rfl
        · refine ⟨fun c0 => absurd rfl c0, fun _ => ?_⟩
          unfold w_derivative_55
          refine s_ex hs e3 (v := 1) rfl (by omega) ⟨fun _ => ?_, fun c => absurd c (by decide)⟩
          unfold w_derivative_72
          refine s_ex hs e3 (v := 2) rfl (by omega) ⟨fun _ => ?_, fun c => absurd c (by decide)⟩
          have hx : exv (tm A i) 0 = (tm A i).x := rfl
          have := hpos.1 rfl
          simp (disch := omega) only [ι_lit, ι_of, ι_add, ι_mul, ι_lt, ι_le, ι_eq, ι_cl, ι_rem, ι_div, ι_vin, ι_ne1', ι_1ne', ι_1lt', ι_lt1', ι_1le', ι_le1', ι_sub', ι_sub, upN, upE, Nat.reduceEqDiff, ne_eq, not_true_eq_false, not_false_eq_true, false_imp_iff, true_imp_iff, true_and, and_true, imp_self, forall_eq, reduceIte, Nat.reduceMul, Nat.reduceAdd, Nat.reduceSub]
          exact fin 0 _ _ _ rfl rfl rfl (by omega)
        · refine ⟨fun c0 => ?_, fun c => absurd c (by decide)⟩
          unfold w_derivative_55
          refine s_ex hs e3 (v := 1) rfl (by omega) ⟨fun c => absurd rfl c, fun _ => ?_⟩
          unfold w_derivative_72
          refine s_ex hs e3 (v := 2) rfl (by omega) ⟨fun _ => ?_, fun c => absurd c (by decide)⟩
          have hx : exv (tm A i) 1 = (tm A i).y := rfl
          have := hpos.2.1 rfl
          simp (disch := omega) only [ι_lit, ι_of, ι_add, ι_mul, ι_lt, ι_le, ι_eq, ι_cl, ι_rem, ι_div, ι_vin, ι_ne1', ι_1ne', ι_1lt', ι_lt1', ι_1le', ι_le1', ι_sub', ι_sub, upN, upE, Nat.reduceEqDiff, ne_eq, not_true_eq_false, not_false_eq_true, false_imp_iff, true_imp_iff, true_and, and_true, imp_self, forall_eq, reduceIte, Nat.reduceMul, Nat.reduceAdd, Nat.reduceSub]
          exact fin 0 _ _ _ rfl rfl rfl (by omega)
        · refine ⟨fun c0 => ?_, fun c => absurd c (by decide)⟩
          unfold w_derivative_55
          refine s_ex hs e3 (v := 1) rfl (by omega) ⟨fun _ => ?_, fun c => absurd c (by decide)⟩
          unfold w_derivative_72
          refine s_ex hs e3 (v := 2) rfl (by omega) ⟨fun c => absurd rfl c, fun _ => ?_⟩
          have hx : exv (tm A i) 2 = (tm A i).z := rfl
          have := hpos.2.2 rfl
          simp (disch := omega) only [ι_lit, ι_of, ι_add, ι_mul, ι_lt, ι_le, ι_eq, ι_cl, ι_rem, ι_div, ι_vin, ι_ne1', ι_1ne', ι_1lt', ι_lt1', ι_1le', ι_le1', ι_sub', ι_sub, upN, upE, Nat.reduceEqDiff, ne_eq, not_true_eq_false, not_false_eq_true, false_imp_iff, true_imp_iff, true_and, and_true, imp_self, forall_eq, reduceIte, Nat.reduceMul, Nat.reduceAdd, Nat.reduceSub]
          exact fin 1 _ _ _ rfl rfl rfl (by omega)
      · exact ih (i + 1) t R1 (by omega) (by omega) r1 (gt_skip g1 (by show exv (tm A i) v * _ = 0; rw [q, Nat.zero_mul]))
  unfold wp_derivative
  exact ⟨A.length + 1, key A.length 0 0 R (by omega) (by omega) (Fr.rf _ _ _) (gt_mS0 hG)⟩
/-! Turning, powers, acts. -/
def tb (h v : Nat) : Nat := if h = 0 then v else if h = 1 then (if v = 0 then 0 else 3 - v) else if h = 2 then (if v = 2 then 2 else 1 - v) else if h = 3 then (v + 1) % 3 else if h = 4 then (v + 2) % 3 else 2 - v
theorem tb_lt {h v : Nat} (hv : v < 3) : tb h v < 3 := by
  unfold tb
  (repeat' split) <;> omega
theorem s_becomes {h v : Nat} {x1 x2 : Int32} {R : RS} {K : Int32 → RS → Prop} (h1 : x1 = ι v) (h2 : x2 = ι h) (hv : v < 3) (hh : h < 6) (k : K (ι (tb h v)) R) : wp_becomes x1 x2 R K := by
  subst h1 h2
  unfold wp_becomes
  rw [ι_int (by omega)]
  unfold tb at k
  simp (disch := omega) only [ι_lit, ι_of, ι_add, ι_mul, ι_lt, ι_le, ι_eq, ι_cl, ι_rem, ι_div, ι_vin, ι_ne1', ι_1ne', ι_1lt', ι_lt1', ι_1le', ι_le1', ι_sub', ι_sub, upN, upE, Nat.reduceEqDiff, ne_eq, not_true_eq_false, not_false_eq_true, false_imp_iff, true_imp_iff, true_and, and_true, imp_self, forall_eq, reduceIte, Nat.reduceMul, Nat.reduceAdd, Nat.reduceSub]
  refine ⟨fun q => ?_, fun q => ?_, fun q => ⟨fun q2 => ?_, fun q2 => ?_⟩, fun q => ⟨fun q2 => ?_, fun q2 => ?_⟩, fun q => ?_, fun q => ?_⟩
  · rwa [if_neg (by omega), if_neg (by omega), if_neg (by omega), if_neg (by omega), if_neg (by omega)] at k
  · rwa [if_pos q] at k
  · rwa [if_neg (by omega), if_pos q, if_neg q2] at k
  · rwa [if_neg (by omega), if_pos q, if_pos q2] at k
  · rw [ι_sub (by omega)]
    rwa [if_neg (by omega), if_neg (by omega), if_pos q, if_neg q2] at k
  · rwa [if_neg (by omega), if_neg (by omega), if_pos q, if_pos q2] at k
  · rwa [if_neg (by omega), if_neg (by omega), if_neg (by omega), if_pos q] at k
  · rwa [if_neg (by omega), if_neg (by omega), if_neg (by omega), if_neg (by omega), if_pos q] at k
/-- where the exponent at place k comes from -/
def tk (h : Nat) (t : Tm) (k : Nat) : Nat := if tb h 0 = k then exv t 0 else if tb h 1 = k then exv t 1 else exv t 2
def gTn (h : Nat) (t : Tm) : Tm := (tk h t 0, tk h t 1, tk h t 2, t.n)
theorem tb_inj : ∀ h, h < 6 → ∀ k, k < 3 → (if tb h 2 = k then 2 else if tb h 1 = k then 1 else if tb h 0 = k then 0 else 3) = (if tb h 0 = k then 0 else if tb h 1 = k then 1 else 2) := by decide
theorem tk_le {h k : Nat} {t : Tm} (hs : sm t) : tk h t k ≤ 40 := by
  unfold tk
  (repeat' split) <;> exact exv_le hs _
theorem s_turned {d a p h : Nat} {x1 x2 x3 : Int32} {A : Po} {R : RS} {K : Int32 → RS → Prop} (h1 : x1 = ι d) (h2 : x2 = ι a) (h3 : x3 = ι h) (hd : d < 56) (ha : a < 56) (hh : h < 6) (hpp : PrP p) (wa : wf p A) (la : Sl R a A) (hG : G0 R p) (hk : Ge R d p (mF p (gTn h) A) K) : wp_turned x1 x2 x3 R K := by
  subst h1 h2 h3
  have l1 := wa.1
  have hp := hpp.le
  have key : ∀ (k i : Nat) (R1 : RS), i + k = A.length → Fr R R1 [5, 6, 14] [7] → Gt R1 p (fun x y z => mS (gTn h) A i x y z % p) i → wl_turned_3 K (k + 1) (ι d) (ι a) (ι h) (ι i) R1 := by
    intro k
    induction k with
    | zero =>
      intro i R1 hi r1 g1
      have l := sl_fr la r1
      show wb_turned_3 _ _ _ _ _ _ _
      unfold wb_turned_3
      simp (disch := omega) only [ι_lit, ι_of, ι_add, ι_mul, ι_lt, ι_le, ι_eq, ι_cl, ι_rem, ι_div, ι_vin, ι_ne1', ι_1ne', ι_1lt', ι_lt1', ι_1le', ι_le1', ι_sub', ι_sub, upN, upE, Nat.reduceEqDiff, ne_eq, not_true_eq_false, not_false_eq_true, false_imp_iff, true_imp_iff, true_and, and_true, imp_self, forall_eq, reduceIte, Nat.reduceMul, Nat.reduceAdd, Nat.reduceSub, l.1]
      refine ⟨fun _ => ?_, fun q => absurd (by omega) q⟩
      rw [show i = A.length by omega] at g1
      exact s_end hd hpp hk r1 g1 (by omega)
    | succ k ih =>
      intro i R1 hi r1 g1
      have l := sl_fr la r1
      have hs := wa.sm (i := i) (by omega)
      have hn := wa.2.1 i (by omega)
      have e3 := (l.2 i (by omega)).1
      have b0 := tb_lt (h := h) (v := 0) (by omega)
      have b1 := tb_lt (h := h) (v := 1) (by omega)
      have b2 := tb_lt (h := h) (v := 2) (by omega)
      show wb_turned_3 _ _ _ _ _ _ _
      unfold wb_turned_3
      simp (disch := omega) only [ι_lit, ι_of, ι_add, ι_mul, ι_lt, ι_le, ι_eq, ι_cl, ι_rem, ι_div, ι_vin, ι_ne1', ι_1ne', ι_1lt', ι_lt1', ι_1le', ι_le1', ι_sub', ι_sub, upN, upE, Nat.reduceEqDiff, ne_eq, not_true_eq_false, not_false_eq_true, false_imp_iff, true_imp_iff, true_and, and_true, imp_self, forall_eq, reduceIte, Nat.reduceMul, Nat.reduceAdd, Nat.reduceSub, l.1]
      refine ⟨fun q => absurd q (by omega), fun _ => ⟨4, ?_⟩⟩
      -- 0
      show wb_turned_17 _ _ _ _ _ _ _ _ _
      unfold wb_turned_17
      refine ⟨fun q => absurd q (by decide), fun _ => ?_⟩
      refine s_becomes (v := 0) rfl rfl (by omega) hh (s_keyAt rfl rfl ha (by omega) (s_ex hs e3 (v := 0) rfl (by omega) ?_))
      simp (disch := omega) only [ι_lit, ι_of, ι_add, ι_mul, ι_lt, ι_le, ι_eq, ι_cl, ι_rem, ι_div, ι_vin, ι_ne1', ι_1ne', ι_1lt', ι_lt1', ι_1le', ι_le1', ι_sub', ι_sub, upN, upE, Nat.reduceEqDiff, ne_eq, not_true_eq_false, not_false_eq_true, false_imp_iff, true_imp_iff, true_and, and_true, imp_self, forall_eq, reduceIte, Nat.reduceMul, Nat.reduceAdd, Nat.reduceSub]
      -- 1
      show wb_turned_17 _ _ _ _ _ _ _ _ _
      unfold wb_turned_17
      refine ⟨fun q => absurd q (by decide), fun _ => ?_⟩
      refine s_becomes (v := 1) rfl rfl (by omega) hh (s_keyAt rfl rfl ha (by omega) ?_)
      simp (disch := omega) only [ι_lit, ι_of, ι_add, ι_mul, ι_lt, ι_le, ι_eq, ι_cl, ι_rem, ι_div, ι_vin, ι_ne1', ι_1ne', ι_1lt', ι_lt1', ι_1le', ι_le1', ι_sub', ι_sub, upN, upE, Nat.reduceEqDiff, ne_eq, not_true_eq_false, not_false_eq_true, false_imp_iff, true_imp_iff, true_and, and_true, imp_self, forall_eq, reduceIte, Nat.reduceMul, Nat.reduceAdd, Nat.reduceSub]
      refine s_ex hs e3 (v := 1) rfl (by omega) ?_
      -- 2
      show wb_turned_17 _ _ _ _ _ _ _ _ _
      unfold wb_turned_17
      refine ⟨fun q => absurd q (by decide), fun _ => ?_⟩
      refine s_becomes (v := 2) rfl rfl (by omega) hh (s_keyAt rfl rfl ha (by omega) ?_)
      simp (disch := omega) only [ι_lit, ι_of, ι_add, ι_mul, ι_lt, ι_le, ι_eq, ι_cl, ι_rem, ι_div, ι_vin, ι_ne1', ι_1ne', ι_1lt', ι_lt1', ι_1le', ι_le1', ι_sub', ι_sub, upN, upE, Nat.reduceEqDiff, ne_eq, not_true_eq_false, not_false_eq_true, false_imp_iff, true_imp_iff, true_and, and_true, imp_self, forall_eq, reduceIte, Nat.reduceMul, Nat.reduceAdd, Nat.reduceSub]
      refine s_ex hs e3 (v := 2) rfl (by omega) ?_
      -- the end
      show wb_turned_17 _ _ _ _ _ _ _ _ _
      unfold wb_turned_17
      refine ⟨fun _ => ?_, fun q => absurd (by decide) q⟩
      simp (disch := omega) only [ι_lit, ι_of, ι_add, ι_mul, ι_lt, ι_le, ι_eq, ι_cl, ι_rem, ι_div, ι_vin, ι_ne1', ι_1ne', ι_1lt', ι_lt1', ι_1le', ι_le1', ι_sub', ι_sub, upN, upE, Nat.reduceEqDiff, ne_eq, not_true_eq_false, not_false_eq_true, false_imp_iff, true_imp_iff, true_and, and_true, imp_self, forall_eq, reduceIte, Nat.reduceMul, Nat.reduceAdd, Nat.reduceSub]
      refine s_numAt rfl rfl ha (by omega) ?_
      simp (disch := omega) only [ι_lit, ι_of, ι_add, ι_mul, ι_lt, ι_le, ι_eq, ι_cl, ι_rem, ι_div, ι_vin, ι_ne1', ι_1ne', ι_1lt', ι_lt1', ι_1le', ι_le1', ι_sub', ι_sub, upN, upE, Nat.reduceEqDiff, ne_eq, not_true_eq_false, not_false_eq_true, false_imp_iff, true_imp_iff, true_and, and_true, imp_self, forall_eq, reduceIte, Nat.reduceMul, Nat.reduceAdd, Nat.reduceSub]
      rw [(l.2 i (by omega)).2]
      have ev : ∀ k', k' < 3 → (if k' = tb h 2 then ι (exv (tm A i) 2) else if k' = tb h 1 then ι (exv (tm A i) 1) else if k' = tb h 0 then ι (exv (tm A i) 0) else R1 14 k') = ι (tk h (tm A i) k') := by
        intro k' hk'
        have q := tb_inj h hh k' hk'
        unfold tk
        by_cases c2 : tb h 2 = k'
        · rw [if_pos c2] at q
          rw [if_pos c2.symm]
          split at q
          · omega
          · split at q
            · omega
            · rename_i u1 u2
              rw [if_neg u1, if_neg u2]
        · rw [if_neg c2] at q
          rw [if_neg (fun e => c2 e.symm)]
          by_cases c1 : tb h 1 = k'
          · rw [if_pos c1] at q
            rw [if_pos c1.symm]
            split at q
            · omega
            · rename_i u1
              rw [if_neg u1, if_pos c1]
          · rw [if_neg c1] at q
            rw [if_neg (fun e => c1 e.symm)]
            by_cases c0 : tb h 0 = k'
            · rw [if_pos c0.symm, if_pos c0]
            · rw [if_neg c0, if_neg c0, if_neg c1] at q
              omega
      rw [ev 0 (by omega), ev 1 (by omega), ev 2 (by omega)]
      have cg := cg_n (p := p) (n := (tm A i).n) (by omega)
      have q1 := tk_le (h := h) (k := 0) hs
      have q2 := tk_le (h := h) (k := 1) hs
      have q3 := tk_le (h := h) (k := 2) hs
      have hr : Fr R1 (up (up (up R1 14 (tb h 0) (ι (exv (tm A i) 0))) 14 (tb h 1) (ι (exv (tm A i) 1))) 14 (tb h 2) (ι (exv (tm A i) 2))) [5, 6, 14] [7] := (((Fr.rf R1 _ _).w (by simp) (by omega)).w (by simp) (by omega)).w (by simp) (by omega)
      have hg : Gt (up (up (up R1 14 (tb h 0) (ι (exv (tm A i) 0))) 14 (tb h 1) (ι (exv (tm A i) 1))) 14 (tb h 2) (ι (exv (tm A i) 2))) p (fun x y z => mS (gTn h) A i x y z % p) i := g1.fr (fs := [14]) (ks := []) ((((Fr.rf R1 _ _).w (by simp) (by omega)).w (by simp) (by omega)).w (by simp) (by omega)) (by simp) (by simp) (by simp) (by simp)
      refine s_gathers (x := (gTn h (tm A i)).x) (y := (gTn h (tm A i)).y) (z := (gTn h (tm A i)).z) (m := (gTn h (tm A i)).n) rfl rfl rfl hpp (by show tk h (tm A i) 0 ≤ 80; omega) (by show tk h (tm A i) 1 ≤ 80; omega) (by show tk h (tm A i) 2 ≤ 80; omega) (by omega) cg.1 cg.2.1 cg.2.2 hg (fun R2 r2 g2 => ?_)
      exact ih (i + 1) R2 (by omega) ((r1.tr hr).tr (r2.mo (by decide) (by decide))) (gt_mS g2)
  unfold wp_turned
  exact ⟨A.length + 1, key A.length 0 R (by omega) (Fr.rf _ _ _) (gt_mS0 hG)⟩
/-! Powers; whether two slots are the same. -/
noncomputable def pw (p : Nat) (A : Po) : Nat → Option Po
  | 0 => some (cst 1)
  | k + 1 => (pw p A k).bind (fun L => cn p (prF p L A))
theorem qS_cst {p : Nat} (B : Po) (x y z : Nat) : qS (0, 0, 0, 1) B B.length x y z = cf B x y z := by
  unfold qS cf
  refine sumTo_congr (fun j hj => ?_)
  show (if 0 + (tm B j).x = x ∧ 0 + (tm B j).y = y ∧ 0 + (tm B j).z = z then 1 * (tm B j).n else 0) = _
  rw [Nat.zero_add, Nat.zero_add, Nat.zero_add, Nat.one_mul]
theorem prF_one {p : Nat} {A : Po} (hw : wf p A) (hp : 0 < p) (x y z : Nat) : prF p (cst 1) A x y z = cf A x y z := by
  show (0 + qS (0, 0, 0, 1) A A.length x y z) % p = _
  rw [Nat.zero_add, qS_cst (p := p), Nat.mod_eq_of_lt (cf_lt hp hw x y z)]
theorem pw_1 {p : Nat} {A : Po} (hw : wf p A) (hp : 0 < p) : pw p A 1 = some A := by
  show (some (cst 1)).bind _ = _
  exact cn_some ⟨hw, fun x y z => (prF_one hw hp x y z).symm⟩
theorem pw_wf {p : Nat} {A : Po} (hp : 1 < p) : ∀ {k : Nat} {L : Po}, pw p A k = some L → wf p L := by
  intro k
  cases k with
  | zero => intro L h; cases h; exact cst_wf hp
  | succ k =>
    intro L h
    cases e : pw p A k with
    | none => rw [pw, e] at h; cases h
    | some M => rw [pw, e] at h; exact (cn_can h).1
theorem pw_none {p : Nat} {A : Po} {k : Nat} (h : pw p A k = none) : ∀ n, k ≤ n → pw p A n = none := by
  intro n
  induction n with
  | zero => intro hk; rw [show k = 0 by omega] at h; exact h
  | succ n ih =>
    intro hk
    by_cases e : k = n + 1
    · rw [← e]; exact h
    · rw [pw, ih (by omega)]; rfl
theorem s_power {d a p n : Nat} {x1 x2 x3 : Int32} {A : Po} {R : RS} {K : Int32 → RS → Prop} (h1 : x1 = ι d) (h2 : x2 = ι a) (h3 : x3 = ι n) (hd : d < 52 ∨ d = 54 ∨ d = 55) (ha : a < 52 ∨ a = 54 ∨ a = 55) (hda : a ≠ d) (hn : n ≤ 1000) (hpp : PrP p) (wa : wf p A) (la : Sl R a A) (hG : G0 R p)
    (h : ∀ R', Fr R R' [2, 3, 4, 5, 6] [7] → Fs R R' [d, 52, 53] → G0 R' p → (∀ L, pw p A n = some L → Sl R' d L → K 1 R') ∧ (pw p A n = none → K 0 R')) : wp_power x1 x2 x3 R K := by
  subst h1 h2 h3
  have l1 := wa.1
  have hp := hpp.le
  have key : ∀ (k i : Nat) (R1 : RS), i + k = n → Fr R R1 [2, 3, 4, 5, 6] [7] → Fs R R1 [d, 52, 53] → G0 R1 p → Sl R1 52 A → (∃ L, pw p A i = some L ∧ Sl R1 d L) → wl_power_19 K (k + 1) (ι d) (ι n) 1 (ι i) R1 := by
    intro k
    induction k with
    | zero =>
      intro i R1 hi r1 f1 g1 l52 hL
      obtain ⟨L, hL, sL⟩ := hL
      show wb_power_19 _ _ _ _ _ _ _
      unfold wb_power_19
      simp (disch := omega) only [ι_lit, ι_of, ι_add, ι_mul, ι_lt, ι_le, ι_eq, ι_cl, ι_rem, ι_div, ι_vin, ι_ne1', ι_1ne', ι_1lt', ι_lt1', ι_1le', ι_le1', ι_sub', ι_sub, upN, upE, Nat.reduceEqDiff, ne_eq, not_true_eq_false, not_false_eq_true, false_imp_iff, true_imp_iff, true_and, and_true, imp_self, forall_eq, reduceIte, Nat.reduceMul, Nat.reduceAdd, Nat.reduceSub]
      refine ⟨fun _ => ⟨by simp, (h R1 r1 f1 g1).1 L (by rw [show n = i by omega]; exact hL) sL⟩, fun q => absurd (by omega) q⟩
    | succ k ih =>
      intro i R1 hi r1 f1 g1 l52 hL
      obtain ⟨L, hL, sL⟩ := hL
      have wL := pw_wf (by omega) hL
      show wb_power_19 _ _ _ _ _ _ _
      unfold wb_power_19
      simp (disch := omega) only [ι_lit, ι_of, ι_add, ι_mul, ι_lt, ι_le, ι_eq, ι_cl, ι_rem, ι_div, ι_vin, ι_ne1', ι_1ne', ι_1lt', ι_lt1', ι_1le', ι_le1', ι_sub', ι_sub, upN, upE, Nat.reduceEqDiff, ne_eq, not_true_eq_false, not_false_eq_true, false_imp_iff, true_imp_iff, true_and, and_true, imp_self, forall_eq, reduceIte, Nat.reduceMul, Nat.reduceAdd, Nat.reduceSub]
      refine ⟨fun q => absurd q (by omega), fun _ => ⟨fun c => ?_, fun c => ?_⟩⟩
      · refine s_copy (a := 53) (b := d) rfl rfl (by omega) (by omega) (by omega) wL.1 sL (fun R2 r2 f2 l2 => ?_)
        have sd := sL.go wL.1 f2 (by simp; omega)
        have s52 := l52.go l1 f2 (by simp)
        refine s_product (d := d) (a := 53) (b := 52) rfl rfl rfl (by omega) (by omega) (by omega) hpp wL wa l2 s52 (g1.fr r2 (by simp) (by simp) (by simp) (by simp)) (fun R3 r3 f3 g3 => ?_)
        have r13 : Fr R R3 [2, 3, 4, 5, 6] [7] := (r1.tr (r2.mo (by decide) (by decide))).tr r3
        have f13 : Fs R R3 [d, 52, 53] := (f1.tr (f2.mo (by simp))).tr (f3.mo (by simp))
        refine ⟨fun M c l => ?_, fun c => ?_⟩
        · refine ih (i + 1) R3 (by omega) r13 f13 g3 (s52.go l1 f3 (by simp; omega)) ⟨M, ?_, l⟩
          rw [pw, hL]
          exact cn_some c
        · -- too much: the loop ends
          have e : pw p A (i + 1) = none := by
            rw [pw, hL]
            exact cn_none c
          cases k with
          | zero =>
            show wb_power_19 _ _ _ _ _ _ _
            unfold wb_power_19
            simp (disch := omega) only [ι_lit, ι_of, ι_add, ι_mul, ι_lt, ι_le, ι_eq, ι_cl, ι_rem, ι_div, ι_vin, ι_ne1', ι_1ne', ι_1lt', ι_lt1', ι_1le', ι_le1', ι_sub', ι_sub, upN, upE, Nat.reduceEqDiff, ne_eq, not_true_eq_false, not_false_eq_true, false_imp_iff, true_imp_iff, true_and, and_true, imp_self, forall_eq, reduceIte, Nat.reduceMul, Nat.reduceAdd, Nat.reduceSub]
            refine ⟨fun _ => ⟨by simp, (h R3 r13 f13 g3).2 (pw_none e n (by omega))⟩, fun q => absurd (by omega) q⟩
          | succ k =>
            show wb_power_19 _ _ _ _ _ _ _
            unfold wb_power_19
            refine ⟨fun _ => ⟨Or.inl rfl, (h R3 r13 f13 g3).2 (pw_none e n (by omega))⟩, fun _ => ⟨fun _ => ⟨Or.inl rfl, (h R3 r13 f13 g3).2 (pw_none e n (by omega))⟩, fun q => absurd rfl q⟩⟩
      · subst c
        refine s_copy (a := d) (b := 52) rfl rfl (by omega) (by omega) (by omega) l1 l52 (fun R2 r2 f2 l2 => ?_)
        refine ih 1 R2 (by omega) (r1.tr (r2.mo (by decide) (by decide))) (f1.tr (f2.mo (by simp))) (g1.fr r2 (by simp) (by simp) (by simp) (by simp)) (l52.go l1 f2 (by simp; omega)) ⟨A, pw_1 wa (by omega), l2⟩
  unfold wp_power
  refine s_copy (a := 52) (b := a) rfl rfl (by omega) (by omega) (by omega) l1 la (fun R1 r1 f1 lA => ?_)
  refine s_number (d := d) (a := 1) rfl rfl (by omega) (by omega) hpp (hG.fr r1 (by simp) (by simp) (by simp) (by simp)) (fun R2 r2 f2 g2 l2 => ?_)
  rw [Nat.mod_eq_of_lt (by omega)] at l2
  exact ⟨n + 1, key n 0 R2 (by omega) ((r1.mo (by decide) (by decide)).tr r2) ((f1.mo (by simp)).tr (f2.mo (by simp))) g2 (lA.go l1 f2 (by simp; omega)) ⟨cst 1, rfl, l2⟩⟩
/-- equal rows -/
theorem tm_out {L : Po} {i : Nat} (h : L.length ≤ i) : tm L i = (0, 0, 0, 0) := by
  unfold tm
  rw [List.getD_eq_getElem?_getD, List.getElem?_eq_none h]
  rfl
theorem s_areSame {a b p q : Nat} {x1 x2 : Int32} {A B : Po} {R : RS} {K : Int32 → RS → Prop} (h1 : x1 = ι a) (h2 : x2 = ι b) (ha : a < 56) (hb : b < 56) (wa : wf p A) (wb : wf q B) (hp : p ≤ 13) (hq : q ≤ 13) (la : Sl R a A) (lb : Sl R b B) (h : (A = B → K 1 R) ∧ (A ≠ B → K 0 R)) : wp_areSame x1 x2 R K := by
  subst h1 h2
  have l1 := wa.1
  have l2 := wb.1
  have no : A ≠ B → ∀ (k i : Nat), wl_areSame_24 K (k + 1) (ι a) (ι b) 0 (ι i) R := fun ne k i => by
    show wb_areSame_24 _ _ _ _ _ _ _
    unfold wb_areSame_24
    exact ⟨fun _ => ⟨Or.inl rfl, h.2 ne⟩, fun c => absurd rfl c⟩
  have key : A.length = B.length → ∀ (k i : Nat), i + k = A.length → (∀ j, j < i → tm A j = tm B j) → wl_areSame_24 K (k + 1) (ι a) (ι b) 1 (ι i) R := by
    intro hl k
    induction k with
    | zero =>
      intro i hi he
      show wb_areSame_24 _ _ _ _ _ _ _
      unfold wb_areSame_24
      refine ⟨fun c => absurd c (by decide), fun _ => ?_⟩
      simp (disch := omega) only [ι_lit, ι_of, ι_add, ι_mul, ι_lt, ι_le, ι_eq, ι_cl, ι_rem, ι_div, ι_vin, ι_ne1', ι_1ne', ι_1lt', ι_lt1', ι_1le', ι_le1', ι_sub', ι_sub, upN, upE, Nat.reduceEqDiff, ne_eq, not_true_eq_false, not_false_eq_true, false_imp_iff, true_imp_iff, true_and, and_true, imp_self, forall_eq, reduceIte, Nat.reduceMul, Nat.reduceAdd, Nat.reduceSub, la.1]
      exact ⟨fun _ => ⟨by simp, h.1 (tm_ext hl (fun j hj => he j (by omega)))⟩, fun c => absurd (by omega) c⟩
    | succ k ih =>
      intro i hi he
      have sa := wa.sm (i := i) (by omega)
      have sb := wb.sm (i := i) (by omega)
      have na := wa.2.1 i (by omega)
      have nb := wb.2.1 i (by omega)
      have ka := k41_lt sa
      have kb := k41_lt sb
      show wb_areSame_24 _ _ _ _ _ _ _
      unfold wb_areSame_24
      refine ⟨fun c => absurd c (by decide), fun _ => ?_⟩
      simp (disch := omega) only [ι_lit, ι_of, ι_add, ι_mul, ι_lt, ι_le, ι_eq, ι_cl, ι_rem, ι_div, ι_vin, ι_ne1', ι_1ne', ι_1lt', ι_lt1', ι_1le', ι_le1', ι_sub', ι_sub, upN, upE, Nat.reduceEqDiff, ne_eq, not_true_eq_false, not_false_eq_true, false_imp_iff, true_imp_iff, true_and, and_true, imp_self, forall_eq, reduceIte, Nat.reduceMul, Nat.reduceAdd, Nat.reduceSub, la.1]
      refine ⟨fun c => absurd c (by omega), fun _ => ?_⟩
      refine s_keyAt rfl rfl ha (by omega) (s_keyAt rfl rfl hb (by omega) ?_)
      rw [(la.2 i (by omega)).1, (lb.2 i (by omega)).1]
      simp (disch := omega) only [ι_lit, ι_of, ι_add, ι_mul, ι_lt, ι_le, ι_eq, ι_cl, ι_rem, ι_div, ι_vin, ι_ne1', ι_1ne', ι_1lt', ι_lt1', ι_1le', ι_le1', ι_sub', ι_sub, upN, upE, Nat.reduceEqDiff, ne_eq, not_true_eq_false, not_false_eq_true, false_imp_iff, true_imp_iff, true_and, and_true, imp_self, forall_eq, reduceIte, Nat.reduceMul, Nat.reduceAdd, Nat.reduceSub]
      refine ⟨fun c => no (fun e => c (by rw [e])) k (i + 1), fun c => ?_⟩
      refine s_numAt rfl rfl ha (by omega) (s_numAt rfl rfl hb (by omega) ?_)
      rw [(la.2 i (by omega)).2, (lb.2 i (by omega)).2]
      simp (disch := omega) only [ι_lit, ι_of, ι_add, ι_mul, ι_lt, ι_le, ι_eq, ι_cl, ι_rem, ι_div, ι_vin, ι_ne1', ι_1ne', ι_1lt', ι_lt1', ι_1le', ι_le1', ι_sub', ι_sub, upN, upE, Nat.reduceEqDiff, ne_eq, not_true_eq_false, not_false_eq_true, false_imp_iff, true_imp_iff, true_and, and_true, imp_self, forall_eq, reduceIte, Nat.reduceMul, Nat.reduceAdd, Nat.reduceSub]
      refine ⟨fun c2 => no (fun e => c2 (by rw [e])) k (i + 1), fun c2 => ih (i + 1) (by omega) (fun j hj => ?_)⟩
      by_cases e : j = i
      · subst e
        have w := k41_inj sa sb c
        exact Tm.ext4 w.1 w.2.1 w.2.2 c2
      · exact he j (by omega)
  unfold wp_areSame
  simp (disch := omega) only [ι_lit, ι_of, ι_add, ι_mul, ι_lt, ι_le, ι_eq, ι_cl, ι_rem, ι_div, ι_vin, ι_ne1', ι_1ne', ι_1lt', ι_lt1', ι_1le', ι_le1', ι_sub', ι_sub, upN, upE, Nat.reduceEqDiff, ne_eq, not_true_eq_false, not_false_eq_true, false_imp_iff, true_imp_iff, true_and, and_true, imp_self, forall_eq, reduceIte, Nat.reduceMul, Nat.reduceAdd, Nat.reduceSub, la.1, lb.1]
  refine ⟨fun c => ⟨1, no (fun e => c (by rw [e])) 0 0⟩, fun c => ⟨A.length + 1, key c A.length 0 (by omega) (fun j hj => by omega)⟩⟩
theorem s_oneDegree {a p : Nat} {x1 : Int32} {A : Po} {R : RS} {K : Int32 → RS → Prop} (h1 : x1 = ι a) (ha : a < 56) (wa : wf p A) (la : Sl R a A) (h : ((∀ i, i < A.length → dgt (tm A i) = dgt (tm A 0)) → K 1 R) ∧ ((¬ ∀ i, i < A.length → dgt (tm A i) = dgt (tm A 0)) → K 0 R)) : wp_isOfOneDegree x1 R K := by
  subst h1
  have l1 := wa.1
  have key : ∀ (k i : Nat), i + k = A.length + 1 → 1 ≤ i → (∀ j, j < i → j < A.length → dgt (tm A j) = dgt (tm A 0)) → wl_isOfOneDegree_2 K (k + 1) (ι a) (ι i) R := by
    intro k
    induction k with
    | zero =>
      intro i hi h1 he
      show wb_isOfOneDegree_2 _ _ _ _ _
      unfold wb_isOfOneDegree_2
      simp (disch := omega) only [ι_lit, ι_of, ι_add, ι_mul, ι_lt, ι_le, ι_eq, ι_cl, ι_rem, ι_div, ι_vin, ι_ne1', ι_1ne', ι_1lt', ι_lt1', ι_1le', ι_le1', ι_sub', ι_sub, upN, upE, Nat.reduceEqDiff, ne_eq, not_true_eq_false, not_false_eq_true, false_imp_iff, true_imp_iff, true_and, and_true, imp_self, forall_eq, reduceIte, Nat.reduceMul, Nat.reduceAdd, Nat.reduceSub, la.1]
      exact ⟨fun _ => h.1 (fun j hj => he j (by omega) hj), fun c => absurd (by omega) c⟩
    | succ k ih =>
      intro i hi h1 he
      show wb_isOfOneDegree_2 _ _ _ _ _
      unfold wb_isOfOneDegree_2
      simp (disch := omega) only [ι_lit, ι_of, ι_add, ι_mul, ι_lt, ι_le, ι_eq, ι_cl, ι_rem, ι_div, ι_vin, ι_ne1', ι_1ne', ι_1lt', ι_lt1', ι_1le', ι_le1', ι_sub', ι_sub, upN, upE, Nat.reduceEqDiff, ne_eq, not_true_eq_false, not_false_eq_true, false_imp_iff, true_imp_iff, true_and, and_true, imp_self, forall_eq, reduceIte, Nat.reduceMul, Nat.reduceAdd, Nat.reduceSub, la.1]
      refine ⟨fun c => h.1 (fun j hj => he j (by omega) hj), fun c => ?_⟩
      have s1 := wa.sm (i := i) (by omega)
      have s0 := wa.sm (i := 0) (by omega)
      refine s_keyAt rfl rfl ha (by omega) (s_degreeOfKey s1 (la.2 i (by omega)).1 ?_)
      refine s_keyAt (i := 0) rfl rfl ha (by omega) (s_degreeOfKey s0 (la.2 0 (by omega)).1 ?_)
      have d1 : dgt (tm A i) ≤ 120 := by unfold dgt; omega
      have d0 : dgt (tm A 0) ≤ 120 := by unfold dgt; omega
      simp (disch := omega) only [ι_lit, ι_of, ι_add, ι_mul, ι_lt, ι_le, ι_eq, ι_cl, ι_rem, ι_div, ι_vin, ι_ne1', ι_1ne', ι_1lt', ι_lt1', ι_1le', ι_le1', ι_sub', ι_sub, upN, upE, Nat.reduceEqDiff, ne_eq, not_true_eq_false, not_false_eq_true, false_imp_iff, true_imp_iff, true_and, and_true, imp_self, forall_eq, reduceIte, Nat.reduceMul, Nat.reduceAdd, Nat.reduceSub]
      refine ⟨fun c2 => ih (i + 1) (by omega) (by omega) (fun j hj hl => ?_), fun c2 => h.2 (fun q => c2 (q i (by omega)))⟩
      by_cases e : j = i
      · rw [e]; exact c2
      · exact he j (by omega) hl
  unfold wp_isOfOneDegree
  exact ⟨A.length + 1, key A.length 1 (by omega) (by omega) (fun j hj hl => by rw [show j = 0 by omega])⟩
