/-! Keeping: acts on both sides. -/
def shA (A : List (Nat × Po)) : List (Nat × Po) := if A.length = 20 then A.tail else A
def psA (A : List (Nat × Po)) (q : Nat) (L : Po) : List (Nat × Po) := shA A ++ [(q, L)]
theorem acA_tail (A : List (Nat × Po)) (k : Nat) : acA A.tail k = acA A (k + 1) := by
  unfold acA
  rw [List.getD_eq_getElem?_getD, List.getD_eq_getElem?_getD, List.getElem?_tail]
theorem acA_l {A : List (Nat × Po)} {x : Nat × Po} {k : Nat} (h : k < A.length) : acA (A ++ [x]) k = acA A k := by
  unfold acA
  rw [List.getD_eq_getElem?_getD, List.getD_eq_getElem?_getD, List.getElem?_append_left h]
theorem acA_r {A : List (Nat × Po)} {x : Nat × Po} : acA (A ++ [x]) A.length = x := by
  unfold acA
  rw [List.getD_eq_getElem?_getD, List.getElem?_append_right (Nat.le_refl _)]
  simp
theorem shA_len {A : List (Nat × Po)} (h : A.length ≤ 20) : (shA A).length < 20 ∧ ((A.length = 20 ∧ (shA A).length = 19 ∧ ∀ k, acA (shA A) k = acA A (k + 1)) ∨ (A.length < 20 ∧ shA A = A)) := by
  unfold shA
  by_cases e : A.length = 20
  · rw [if_pos e, List.length_tail]
    exact ⟨by omega, Or.inl ⟨e, by omega, fun k => acA_tail A k⟩⟩
  · rw [if_neg e]
    exact ⟨by omega, Or.inr ⟨by omega, rfl⟩⟩
/-- the last act's row is laid -/
theorem s_keep_e {a q p : Nat} {L : Po} {B : List (Nat × Po)} {R0 R : RS} {K : Int32 → RS → Prop} (hB : B.length = a) (ha : a < 20) (hq : q < 6) (hw : wf p L) (hl : Sl R0 q L) (hr : Fr R0 R [9, 10, 11, 12] [13]) (hA : RAc R B) (hBl : ∀ k, k < B.length → (acA B k).2.length ≤ 300) (h : ∀ R', Fr R0 R' [9, 10, 11, 12] [13] → RAc R' (B ++ [(q, L)]) → K 0 R') : w_keep_110 K (ι q) R := by
  have hL := hw.1
  have l2 : ∀ R1 : RS, Fr R0 R1 [9, 10, 11, 12] [13] → R1 2 q = ι L.length := fun R1 r1 => by rw [r1.1 2 (by omega) (by simp)]; exact hl.1
  have key : ∀ (k i : Nat) (R1 : RS), i + k = L.length → Fr R0 R1 [9, 10, 11, 12] [13] → R1 0 13 = ι a → R1 9 a = ι q → R1 10 a = ι L.length → (∀ j, j < a → R1 9 j = R 9 j ∧ R1 10 j = R 10 j) → (∀ j, j < 300 * a → R1 11 j = R 11 j ∧ R1 12 j = R 12 j) → (∀ j, j < i → R1 11 (300 * a + j) = ι (k41 (tm L j)) ∧ R1 12 (300 * a + j) = ι (tm L j).n) → wl_keep_137 K (k + 1) (ι q) (ι i) R1 := by
    intro k
    induction k with
    | zero =>
      intro i R1 hi r1 r2 r3 r4 r5 r6 r7
      show wb_keep_137 _ _ _ _ _
      unfold wb_keep_137
      simp (disch := omega) only [ι_lit, ι_of, ι_add, ι_mul, ι_lt, ι_le, ι_eq, ι_cl, ι_rem, ι_div, ι_vin, ι_ne1', ι_1ne', ι_1lt', ι_lt1', ι_1le', ι_le1', ι_sub', ι_sub, upN, upE, Nat.reduceEqDiff, ne_eq, not_true_eq_false, not_false_eq_true, false_imp_iff, true_imp_iff, true_and, and_true, imp_self, forall_eq, reduceIte, Nat.reduceMul, Nat.reduceAdd, Nat.reduceSub, l2 R1 r1, r2]
      refine ⟨fun _ => h _ (r1.w0 (by simp)) ⟨?_, fun k hk => ?_⟩, fun c => absurd (by omega) c⟩
      · rw [upE, if_pos rfl, List.length_append, List.length_singleton, hB]
      · rw [upN (by omega), upN (by omega), upN (by omega), upN (by omega)]
        rw [List.length_append, List.length_singleton, hB] at hk
        by_cases e : k < a
        · rw [acA_l (by omega), (r5 k e).1, (r5 k e).2]
          have q := hA.2 k (by omega)
          refine ⟨q.1, q.2.1, fun i hi => ?_⟩
          have := hBl k (by omega)
          rw [(r6 (300 * k + i) (by omega)).1, (r6 (300 * k + i) (by omega)).2]
          exact q.2.2 i hi
        · have ek : k = a := by omega
          rw [ek, show a = B.length from hB.symm, acA_r, hB]
          exact ⟨r3, r4, fun i' hi' => r7 i' (by have : i' < L.length := hi'; omega)⟩
    | succ k ih =>
      intro i R1 hi r1 r2 r3 r4 r5 r6 r7
      show wb_keep_137 _ _ _ _ _
      unfold wb_keep_137
      simp (disch := omega) only [ι_lit, ι_of, ι_add, ι_mul, ι_lt, ι_le, ι_eq, ι_cl, ι_rem, ι_div, ι_vin, ι_ne1', ι_1ne', ι_1lt', ι_lt1', ι_1le', ι_le1', ι_sub', ι_sub, upN, upE, Nat.reduceEqDiff, ne_eq, not_true_eq_false, not_false_eq_true, false_imp_iff, true_imp_iff, true_and, and_true, imp_self, forall_eq, reduceIte, Nat.reduceMul, Nat.reduceAdd, Nat.reduceSub, l2 R1 r1, r2]
      refine ⟨fun c => absurd c (by omega), fun _ => ?_⟩
      refine s_keyAt rfl rfl (by omega) (by omega) ?_
      have e3 : R1 3 (300 * q + i) = ι (k41 (tm L i)) := by rw [r1.1 3 (by omega) (by simp)]; exact (hl.2 i (by omega)).1
      have e4 : R1 4 (300 * q + i) = ι (tm L i).n := by rw [r1.1 4 (by omega) (by simp)]; exact (hl.2 i (by omega)).2
      rw [e3]
      refine s_numAt rfl rfl (by omega) (by omega) ?_
      simp (disch := omega) only [ι_lit, ι_of, ι_add, ι_mul, ι_lt, ι_le, ι_eq, ι_cl, ι_rem, ι_div, ι_vin, ι_ne1', ι_1ne', ι_1lt', ι_lt1', ι_1le', ι_le1', ι_sub', ι_sub, upN, upE, Nat.reduceEqDiff, ne_eq, not_true_eq_false, not_false_eq_true, false_imp_iff, true_imp_iff, true_and, and_true, imp_self, forall_eq, reduceIte, Nat.reduceMul, Nat.reduceAdd, Nat.reduceSub, r2, e4]
      refine ih (i + 1) _ (by omega) ((r1.w (by simp) (by omega)).w (by simp) (by omega)) (by rw [upN (by omega), upN (by omega)]; exact r2) (by rw [upN (by omega), upN (by omega)]; exact r3) (by rw [upN (by omega), upN (by omega)]; exact r4) (fun j hj => by rw [upN (by omega), upN (by omega), upN (by omega), upN (by omega)]; exact r5 j hj) (fun j hj => ?_) (fun j hj => ?_)
      · rw [upN (by omega), upE, if_neg (by omega), upE, if_neg (by omega), upN (by omega)]; exact r6 j hj
      · rw [upN (by omega), upE, upE, upN (by omega)]
        by_cases e : j = i
        · rw [if_pos (by omega), if_pos (by omega), e]; exact ⟨rfl, rfl⟩
        · rw [if_neg (by omega), if_neg (by omega)]; exact r7 j (by omega)
  unfold w_keep_110
  have h13 : R 0 13 = ι a := by rw [hA.1, hB]
  rw [h13, upN (by omega), h13]
  simp (disch := omega) only [ι_lit, ι_of, ι_add, ι_mul, ι_lt, ι_le, ι_eq, ι_cl, ι_rem, ι_div, ι_vin, ι_ne1', ι_1ne', ι_1lt', ι_lt1', ι_1le', ι_le1', ι_sub', ι_sub, upN, upE, Nat.reduceEqDiff, ne_eq, not_true_eq_false, not_false_eq_true, false_imp_iff, true_imp_iff, true_and, and_true, imp_self, forall_eq, reduceIte, Nat.reduceMul, Nat.reduceAdd, Nat.reduceSub]
  refine ⟨L.length + 1, ?_⟩
  rw [l2 R hr]
  refine key L.length 0 _ (by omega) ((hr.w (by simp) (by omega)).w (by simp) (by omega)) (by rw [upN (by omega), upN (by omega)]; exact h13) (by rw [upN (by omega), upE, if_pos rfl]) (by rw [upE, if_pos rfl]) (fun j hj => ?_) (fun j hj => ?_) (fun j hj => by omega)
  · rw [upN (by omega), upE, if_neg (by omega), upE, if_neg (by omega), upN (by omega)]; exact ⟨rfl, rfl⟩
  · rw [upN (by omega), upN (by omega), upN (by omega), upN (by omega)]; exact ⟨rfl, rfl⟩
theorem s_keep {q p : Nat} {x : Int32} {L : Po} {A : List (Nat × Po)} {R : RS} {K : Int32 → RS → Prop} (hx : x = ι q) (hq : q < 6) (hw : wf p L) (hl : Sl R q L) (hA : RAc R A) (hA20 : A.length ≤ 20) (hAl : ∀ k, k < A.length → (acA A k).2.length ≤ 300) (h : ∀ R', Fr R R' [9, 10, 11, 12] [13] → RAc R' (psA A q L) → K 0 R') : wp_keep x R K := by
  subst hx
  unfold wp_keep
  rw [hA.1]
  obtain ⟨s1, s2⟩ := shA_len hA20
  simp (disch := omega) only [ι_lit, ι_of, ι_add, ι_mul, ι_lt, ι_le, ι_eq, ι_cl, ι_rem, ι_div, ι_vin, ι_ne1', ι_1ne', ι_1lt', ι_lt1', ι_1le', ι_le1', ι_sub', ι_sub, upN, upE, Nat.reduceEqDiff, ne_eq, not_true_eq_false, not_false_eq_true, false_imp_iff, true_imp_iff, true_and, and_true, imp_self, forall_eq, reduceIte, Nat.reduceMul, Nat.reduceAdd, Nat.reduceSub]
  rcases s2 with ⟨e, s3, s4⟩ | ⟨e, s3⟩
  · refine ⟨fun c => absurd e c, fun _ => ⟨20, ?_⟩⟩
    -- rows are moved down
    have key2 : ∀ (k i : Nat) (R1 : RS), i + k = 6000 → 300 ≤ i → Fr R R1 [9, 10, 11, 12] [13] → R1 0 13 = ι 20 → (∀ j, j < 19 → R1 9 j = R 9 (j + 1) ∧ R1 10 j = R 10 (j + 1)) → (∀ j, (j + 300 < i → R1 11 j = R 11 (j + 300) ∧ R1 12 j = R 12 (j + 300)) ∧ (¬ j + 300 < i → R1 11 j = R 11 j ∧ R1 12 j = R 12 j)) → wl_keep_55 K (k + 1) (ι q) (ι i) R1 := by
      intro k
      induction k with
      | zero =>
        intro i R1 hi hi3 r1 r2 r3 r4
        show wb_keep_55 _ _ _ _ _
        unfold wb_keep_55
        refine ⟨fun _ => ?_, fun c => absurd ?_ c⟩
        · rw [r2, show (1 : Int32) = ι 1 from rfl, ι_sub (by omega)]
          refine s_keep_e (B := shA A) (a := 19) s3 (by omega) hq hw hl (r1.w0 (by simp)) ⟨?_, fun k hk => ?_⟩ (fun k hk => by rw [s4 k]; exact hAl (k + 1) (by omega)) h
          · rw [upE, if_pos rfl, s3]
          · rw [upN (by omega), upN (by omega), upN (by omega), upN (by omega), s4 k, (r3 k (by omega)).1, (r3 k (by omega)).2]
            have q := hA.2 (k + 1) (by omega)
            refine ⟨q.1, q.2.1, fun i hi => ?_⟩
            have := hAl (k + 1) (by omega)
            rw [((r4 (300 * k + i)).1 (by omega)).1, ((r4 (300 * k + i)).1 (by omega)).2, show 300 * k + i + 300 = 300 * (k + 1) + i by omega]
            exact q.2.2 i hi
        · simp (disch := omega) only [ι_lit, ι_of, ι_add, ι_mul, ι_lt, ι_le, ι_eq, ι_cl, ι_rem, ι_div, ι_vin, ι_ne1', ι_1ne', ι_1lt', ι_lt1', ι_1le', ι_le1', ι_sub', ι_sub, upN, upE, Nat.reduceEqDiff, ne_eq, not_true_eq_false, not_false_eq_true, false_imp_iff, true_imp_iff, true_and, and_true, imp_self, forall_eq, reduceIte, Nat.reduceMul, Nat.reduceAdd, Nat.reduceSub]
          omega
      | succ k ih =>
        intro i R1 hi hi3 r1 r2 r3 r4
        show wb_keep_55 _ _ _ _ _
        unfold wb_keep_55
        simp (disch := omega) only [ι_lit, ι_of, ι_add, ι_mul, ι_lt, ι_le, ι_eq, ι_cl, ι_rem, ι_div, ι_vin, ι_ne1', ι_1ne', ι_1lt', ι_lt1', ι_1le', ι_le1', ι_sub', ι_sub, upN, upE, Nat.reduceEqDiff, ne_eq, not_true_eq_false, not_false_eq_true, false_imp_iff, true_imp_iff, true_and, and_true, imp_self, forall_eq, reduceIte, Nat.reduceMul, Nat.reduceAdd, Nat.reduceSub]
        refine ⟨fun c => absurd c (by omega), fun _ => ?_⟩
        refine ih (i + 1) _ (by omega) (by omega) ((r1.w (by simp) (by omega)).w (by simp) (by omega)) (by rw [upN (by omega), upN (by omega)]; exact r2) (fun j hj => by rw [upN (by omega), upN (by omega), upN (by omega), upN (by omega)]; exact r3 j hj) (fun j => ?_)
        rw [upN (by omega), upE, upE, upN (by omega)]
        have q1 := (r4 i).2 (by omega)
        by_cases e2 : j = i - 300
        · rw [if_pos e2, if_pos e2, q1.1, q1.2]
          exact ⟨fun _ => by rw [e2, show i - 300 + 300 = i by omega]; exact ⟨rfl, rfl⟩, fun c => absurd (by omega) c⟩
        · rw [if_neg e2, if_neg e2]
          exact ⟨fun c => (r4 j).1 (by omega), fun c => (r4 j).2 (by omega)⟩
    have key1 : ∀ (k i : Nat) (R1 : RS), i + k = 20 → 1 ≤ i → Fr R R1 [9, 10, 11, 12] [13] → R1 0 13 = ι 20 → R1 11 = R 11 → R1 12 = R 12 → (∀ j, (j + 1 < i → R1 9 j = R 9 (j + 1) ∧ R1 10 j = R 10 (j + 1)) ∧ (¬ j + 1 < i → R1 9 j = R 9 j ∧ R1 10 j = R 10 j)) → wl_keep_11 K (k + 1) (ι q) (ι i) R1 := by
      intro k
      induction k with
      | zero =>
        intro i R1 hi hi1 r1 r2 r5 r6 r3
        show wb_keep_11 _ _ _ _ _
        unfold wb_keep_11
        refine ⟨fun _ => ⟨5701, ?_⟩, fun c => absurd ?_ c⟩
        · exact key2 5700 300 R1 (by omega) (by omega) r1 r2 (fun j hj => (r3 j).1 (by omega)) (fun j => ⟨fun c => by omega, fun _ => by rw [r5, r6]; exact ⟨rfl, rfl⟩⟩)
        · simp (disch := omega) only [ι_lit, ι_of, ι_add, ι_mul, ι_lt, ι_le, ι_eq, ι_cl, ι_rem, ι_div, ι_vin, ι_ne1', ι_1ne', ι_1lt', ι_lt1', ι_1le', ι_le1', ι_sub', ι_sub, upN, upE, Nat.reduceEqDiff, ne_eq, not_true_eq_false, not_false_eq_true, false_imp_iff, true_imp_iff, true_and, and_true, imp_self, forall_eq, reduceIte, Nat.reduceMul, Nat.reduceAdd, Nat.reduceSub]
          omega
      | succ k ih =>
        intro i R1 hi hi1 r1 r2 r5 r6 r3
        show wb_keep_11 _ _ _ _ _
        unfold wb_keep_11
        simp (disch := omega) only [ι_lit, ι_of, ι_add, ι_mul, ι_lt, ι_le, ι_eq, ι_cl, ι_rem, ι_div, ι_vin, ι_ne1', ι_1ne', ι_1lt', ι_lt1', ι_1le', ι_le1', ι_sub', ι_sub, upN, upE, Nat.reduceEqDiff, ne_eq, not_true_eq_false, not_false_eq_true, false_imp_iff, true_imp_iff, true_and, and_true, imp_self, forall_eq, reduceIte, Nat.reduceMul, Nat.reduceAdd, Nat.reduceSub]
        refine ⟨fun c => absurd c (by omega), fun _ => ?_⟩
        refine ih (i + 1) _ (by omega) (by omega) ((r1.w (by simp) (by omega)).w (by simp) (by omega)) (by rw [upN (by omega), upN (by omega)]; exact r2) (by rw [upN (by omega), upN (by omega)]; exact r5) (by rw [upN (by omega), upN (by omega)]; exact r6) (fun j => ?_)
        rw [upN (by omega), upE, upE, upN (by omega)]
        have q1 := (r3 i).2 (by omega)
        by_cases e2 : j = i - 1
        · rw [if_pos e2, if_pos e2, q1.1, q1.2]
          exact ⟨fun _ => by rw [e2, show i - 1 + 1 = i by omega]; exact ⟨rfl, rfl⟩, fun c => absurd (by omega) c⟩
        · rw [if_neg e2, if_neg e2]
          exact ⟨fun c => (r3 j).1 (by omega), fun c => (r3 j).2 (by omega)⟩
    exact key1 19 1 R (by omega) (by omega) (Fr.rf _ _ _) (by rw [hA.1, e]) rfl rfl (fun j => ⟨fun c => by omega, fun _ => ⟨rfl, rfl⟩⟩)
  · refine ⟨fun _ => ?_, fun c => absurd c (by omega)⟩
    unfold psA at h
    rw [s3] at h
    exact s_keep_e (B := A) rfl e hq hw hl (Fr.rf _ _ _) hA hAl h
/-- a slot's polynomial becomes a place's -/
theorem s_become {q s p p2 : Nat} {x y : Int32} {L M : Po} {A : List (Nat × Po)} {R : RS} {K : Int32 → RS → Prop} (hx : x = ι q) (hy : y = ι s) (hq : q < 6) (hs : s < 56) (hs6 : 6 ≤ s) (hw : wf p L) (hl : Sl R q L) (hM : wf p2 M) (lM : Sl R s M) (hA : RAc R A) (hA20 : A.length ≤ 20) (hAl : ∀ k, k < A.length → (acA A k).2.length ≤ 300) (h : ∀ R', Fr R R' [2, 3, 4, 9, 10, 11, 12] [13] → Fs R R' [q] → Sl R' q M → RAc R' (psA A q L) → K (ι M.length) R') : wp_become x y R K := by
  unfold wp_become
  refine s_keep hx hq hw hl hA hA20 hAl (fun R1 r1 a1 => ?_)
  refine s_copy hx hy (by omega) hs (by omega) hM.1 (lM.go hM.1 (r1.fs [] (by simp)) (by simp)) (fun R2 r2 f2 l2 => ?_)
  subst hx
  simp (disch := omega) only [ι_lit, ι_of, ι_add, ι_mul, ι_lt, ι_le, ι_eq, ι_cl, ι_rem, ι_div, ι_vin, ι_ne1', ι_1ne', ι_1lt', ι_lt1', ι_1le', ι_le1', ι_sub', ι_sub, upN, upE, Nat.reduceEqDiff, ne_eq, not_true_eq_false, not_false_eq_true, false_imp_iff, true_imp_iff, true_and, and_true, imp_self, forall_eq, reduceIte, Nat.reduceMul, Nat.reduceAdd, Nat.reduceSub]
  rw [l2.1]
  refine h R2 ((r1.mo (by decide) (by decide)).tr (r2.mo (by decide) (by decide))) ((r1.fs [q] (by simp)).tr f2) l2 ⟨by rw [r2.2 13 (by simp)]; exact a1.1, fun k hk => ?_⟩
  rw [r2.1 9 (by omega) (by simp), r2.1 10 (by omega) (by simp), r2.1 11 (by omega) (by simp), r2.1 12 (by omega) (by simp)]
  exact a1.2 k hk
/-! The class keeps a polynomial. -/
def Wn (h0 b _k : Nat) : Prop := b = h0 + 52 ∨ b = h0 + 53
def Vn (h0 b _k : Nat) : Prop := b = h0 + 4 ∨ b = h0 + 54
theorem vn_ptr {h0 : Nat} : ∀ q ∈ ptrL, ¬ Vn h0 (h0 + q.1) q.2.1 := by
  have h : ∀ q ∈ ptrL, q.1 ≠ 4 ∧ q.1 ≠ 54 := by decide
  intro q hq
  have := h q hq
  unfold Vn
  omega
theorem ka_n {h0 : Nat} {S : HS} : ∀ a L, Ka h0 a → PolyAt S a L → ∀ k, ¬ Wn h0 a k ∧ ¬ Wn h0 (a + 1) k ∧ ¬ Wn h0 (a + 2) k ∧ ¬ Vn h0 a k := by
  intro a L hk _ k
  unfold Ka at hk
  unfold Wn Vn
  omega
theorem CRo.same {h0 s0 n : Nat} {S S' : HS} {W V : Nat → Nat → Prop} {T : List Nat} (h : CRo h0 s0 S n T) (e : Ext S S' W V) (hb : CBx h0 S) (ho : ∀ o, o = 12 ∨ o = 15 ∨ o = 39 ∨ o = 42 → hP S' (h0 + o) 0 = hP S (h0 + o) 0) (hx : hX S' = hX S) (hs : hS S' = hS S) : CRo h0 s0 S' n T := by
  obtain ⟨q0, b1, b2, b3, b4, q1, q2⟩ := h
  obtain ⟨⟨c1, c2, c3, c4⟩, -⟩ := hb
  refine ⟨by omega, b1, b2, b3, b4, by omega, ?_⟩
  rw [bxC.go (ho 12 (by omega)), bxC.go (ho 15 (by omega)), bxC.go (ho 39 (by omega)), bxC.go (ho 42 (by omega)), (e.2.2.1 _ c1.2.1).2.1, (e.2.2.1 _ c2.2.1).2.1, (e.2.2.1 _ c3.2.1).2.1, (e.2.2.1 _ c4.2.1).2.1]
  exact q2
/-- the state behind note -/
def ntS (h0 : Nat) (S : HS) (nx a q b : Nat) : HS := sI (sI (sP (sI S (h0 + 53) nx (ι q)) (h0 + 54) nx (some b)) (h0 + 52) 1 (ι ((nx + 1) % 20))) (h0 + 52) 0 (ι (if a < 20 then a + 1 else 20))
theorem c_note {M : Nat × Nat} {h0 nx a q b : Nat} {x : Int32} {S : HS} {K : Int32 → HS → Prop} (hL : Lay h0 S) (hnx : nx < 20) (ha : a ≤ 20) (h1 : hI S (h0 + 52) 0 = ι a) (h2 : hI S (h0 + 52) 1 = ι nx) (hx : x = ι q) (hb : hT S b = 7) (h : K 0 (ntS h0 S nx a q b)) : wp_X0_note M (h0 + 52) x b S K := by
  subst hx
  unfold wp_X0_note
  have e1 : hI (sI S (h0 + 53) nx (ι q)) (h0 + 52) 1 = ι nx := by rw [sI_ne (by omega)]; exact h2
  refine ⟨hL.t52, h0 + 53, hL.p52_2, hL.t52, hL.t53, ?_, ?_⟩
  · rw [h2, hL.n53]; exact ι_in (by omega) (by omega)
  rw [h2, ι_cl (by omega), e1, ι_cl (by omega)]
  have e2 : hI (sP (sI S (h0 + 53) nx (ι q)) (h0 + 54) nx (some b)) (h0 + 52) 1 = ι nx := e1
  have e3 : ∀ w, hI (sI (sP (sI S (h0 + 53) nx (ι q)) (h0 + 54) nx (some b)) (h0 + 52) 1 w) (h0 + 52) 0 = ι a := fun w => by rw [sI_eq, if_neg (by omega), sP_I, sI_ne (by omega)]; exact h1
  have e4 : (if (20 : Int32) < ι a + 1 then (20 : Int32) else ι a + 1) = ι (if a < 20 then a + 1 else 20) := by
    rw [show (20 : Int32) = ι 20 from rfl, show (1 : Int32) = ι 1 from rfl, ι_add]
    by_cases c : a < 20
    · rw [if_neg (by rw [ι_lt (by omega) (by omega)]; omega), if_pos c]
    · rw [if_pos (by rw [ι_lt (by omega) (by omega)]; omega), if_neg c]
  have fin : ∀ w : Int32, w = ι ((nx + 1) % 20) → w_X0_note_40 M K (h0 + 52) w (h0 + 52) (sP (sI S (h0 + 53) nx (ι q)) (h0 + 54) nx (some b)) := by
    intro w hw
    subst hw
    unfold w_X0_note_40
    refine ⟨hL.t52, hL.t52, hL.t52, ?_⟩
    rw [e3, e4]; exact h
  refine ⟨hL.t52, h0 + 54, hL.p52_3, hL.t52, hL.t54, ?_, hb, hL.t52, fun c => ⟨hL.t52, ?_⟩, fun c => ?_⟩
  · show vp_in (ι nx) (hN S (h0 + 54))
    rw [hL.n54]; exact ι_in (by omega) (by omega)
  · rw [e2] at c ⊢
    have : nx ≠ 19 := fun e => c (by rw [e]; rfl)
    exact fin _ (by rw [show (1 : Int32) = ι 1 from rfl, ι_add, show (nx + 1) % 20 = nx + 1 by omega])
  · rw [e2, show (19 : Int32) = ι 19 from rfl, ι_eq (by omega) (by omega)] at c
    exact fin _ (by rw [c]; rfl)
theorem c_keep0 {M : Nat × Nat} {h0 : Nat} {x : Int32} {S : HS} {K : Int32 → HS → Prop} (h : K (-2) S) : wp_X11_keep M h0 x none S K := ⟨fun b e => (by cases e), fun _ => h⟩
theorem c_keep {M : Nat × Nat} {h0 s0 n q b p : Nat} {x : Int32} {L : Po} {P : Nat → Po} {A : List (Nat × Po)} {T Tx : List Nat} {ft : Int32} {Q : List Sp} {B : Nat → Nat} {S : HS} {K : Int32 → HS → Prop} (hc : CI h0 s0 n S (p, P, A, T, Tx, ft, Q, B)) (hA : A.length ≤ 20) (hx : x = ι q) (hq : q < 6) (ka : Ka h0 b) (pb : PolyAt S b L) (h : ∀ S', CI h0 s0 n S' (p, upP P q L, psA A q (P q), T, Tx, ft, Q, B) → K (ι L.length) S') : wp_X11_keep M h0 x (some b) S K := by
  have hL := hc.1
  obtain ⟨-, c2, c3, c4, c5, c6, c7, c8, c9, c10, c11, c12⟩ := hc
  obtain ⟨a, w1, w2, w3⟩ := c4 q hq
  obtain ⟨nx, q1, q2, q3, q4⟩ := c5
  refine ⟨fun b1 eb => ?_, fun e => (by cases e)⟩
  cases eb
  refine ⟨hL.t0, h0 + 52, hL.p0_7, hL.t0, h0 + 4, hL.p0_1, hL.t4, ?_, a, ?_, hL.t52, ?_⟩
  · rw [hx, hL.n4]; exact ι_in (by omega) (by omega)
  · rw [hx, ι_cl (by omega)]; exact w1
  refine c_note (q := q) hL q1 hA q2 q3 hx w3.2.1 ?_
  have en : Ext S (ntS h0 S nx A.length q a) (Wn h0) (Vn h0) := ((((Ext.rf S (Wn h0) (Vn h0)).sI (Or.inr rfl)).sP (Or.inr rfl)).sI (Or.inl rfl)).sI (Or.inl rfl)
  have hLn := hL.go c2.1 en vn_ptr
  have pkn : PK h0 S (ntS h0 S nx A.length q a) := PK.of en ka_n
  have pbn := pkn b L ka pb
  refine ⟨hLn.t0, h0 + 4, hLn.p0_1, b, rfl, hLn.t4, ?_, pbn.2.1, b, rfl, pbn.2.1, ?_⟩
  · rw [hx, hLn.n4]; exact ι_in (by omega) (by omega)
  rw [hx, ι_cl (by omega), sP_I, pbn.2.2.2.2.2.2.2.2.1]
  refine h _ ?_
  have ef : Ext S (sP (ntS h0 S nx A.length q a) (h0 + 4) q (some b)) (Wn h0) (Vn h0) := en.sP (Or.inl rfl)
  have pk : PK h0 S (sP (ntS h0 S nx A.length q a) (h0 + 4) q (some b)) := PK.of ef ka_n
  have hx0 := c2.1
  have nI : ∀ b' k, b' < hX S → ¬ Wn h0 b' k → hI (sP (ntS h0 S nx A.length q a) (h0 + 4) q (some b)) b' k = hI S b' k := fun b' k hb w => (ef.2.2.1 b' hb).2.2.1 k w
  have nP : ∀ b' k, b' < hX S → ¬ Vn h0 b' k → hP (sP (ntS h0 S nx A.length q a) (h0 + 4) q (some b)) b' k = hP S b' k := fun b' k hb w => (ef.2.2.1 b' hb).2.2.2 k w
  have ho : ∀ o, o = 12 ∨ o = 15 ∨ o = 39 ∨ o = 42 → hP (sP (ntS h0 S nx A.length q a) (h0 + 4) q (some b)) (h0 + o) 0 = hP S (h0 + o) 0 := fun o ho => nP _ _ (by omega) (by unfold Vn; omega)
  obtain ⟨t1, t2⟩ := shA_len hA
  have i51 : ∀ k, hI (sP (ntS h0 S nx A.length q a) (h0 + 4) q (some b)) (h0 + 52) k = if k = 0 then ι (if A.length < 20 then A.length + 1 else 20) else if k = 1 then ι ((nx + 1) % 20) else hI S (h0 + 52) k := fun k => by
    rw [sP_I]
    unfold ntS
    rw [sI_eq, sI_eq, sP_I, sI_ne (by omega)]
  have i52 : ∀ k, hI (sP (ntS h0 S nx A.length q a) (h0 + 4) q (some b)) (h0 + 53) k = if k = nx then ι q else hI S (h0 + 53) k := fun k => by
    rw [sP_I]
    unfold ntS
    rw [sI_ne (by omega), sI_ne (by omega), sP_I, sI_eq]
  have p53 : ∀ k, hP (sP (ntS h0 S nx A.length q a) (h0 + 4) q (some b)) (h0 + 54) k = if k = nx then some a else hP S (h0 + 54) k := fun k => by
    rw [sP_ne (by omega)]
    unfold ntS
    rw [sI_P, sI_P, sP_eq, sI_P]
  have pl : (psA A q (P q)).length = (shA A).length + 1 := by unfold psA; rw [List.length_append, List.length_singleton]
  have hmx : (nx + 1) % 20 < 20 := Nat.mod_lt _ (by omega)
  refine ⟨hL.go c2.1 ef vn_ptr, c2.go ef pk (c2.tp ef rfl), by rw [nI _ _ (by omega) (by unfold Wn; omega)]; exact c3, fun k hk => ?_, ⟨(nx + 1) % 20, hmx, ?_, ?_, fun k hk => ?_⟩, c6.go (nI _ _ (by omega) (by unfold Wn; omega)) (fun i => nI _ _ (by omega) (by unfold Wn; omega)), c7.go (nI _ _ (by omega) (by unfold Wn; omega)) (fun i => nI _ _ (by omega) (by unfold Wn; omega)), by rw [nI _ _ (by omega) (by unfold Wn; omega)]; exact c8, c9.go pk ef (nP _ _ (by omega) (by unfold Vn; omega)) (fun o h => Or.inl (ho o h)) (fun g hg _ f k hf => ⟨by unfold Wn; omega, by unfold Vn; omega⟩), c10.go ef ho, c11.go (ef.2.2.1 _ c10.1.2.2.1.2.1).2.1 pk (nP _ _ (by omega) (by unfold Vn; omega)) (ho 39 (by omega)) (fun k => nI _ _ (by omega) (by unfold Wn; omega)) (fun k => nI _ _ (by omega) (by unfold Wn; omega)) (fun k => nI _ _ (by omega) (by unfold Wn; omega)) (nI _ _ (by omega) (by unfold Wn; omega)) (nI _ _ (by omega) (by unfold Wn; omega)) (fun k => nI _ _ c10.1.2.2.1.2.1 (by have := c10.1.2.2.1.2.2.2.2.1; unfold Wn; omega)), c12.same ef c10 ho rfl rfl⟩
  · unfold upP
    by_cases e : k = q
    · rw [if_pos e]
      exact ⟨b, by rw [sP_eq, if_pos e], ka, pk _ _ ka pb⟩
    · rw [if_neg e]
      obtain ⟨a', u1, u2, u3⟩ := c4 k hk
      refine ⟨a', ?_, u2, pk _ _ u2 u3⟩
      rw [sP_eq, if_neg e]
      unfold ntS
      rw [sI_P, sI_P, sP_ne (by omega), sI_P]; exact u1
  · rw [i51, if_pos rfl, pl]
    rcases t2 with ⟨e, e2, -⟩ | ⟨e, e2⟩
    · rw [if_neg (by omega), e2]
    · rw [if_pos e, e2]
  · rw [i51, if_neg (by omega), if_pos rfl]
  · rw [pl] at hk
    rw [i52, p53, pl]
    by_cases e : k < (shA A).length
    · have ea : acA (psA A q (P q)) k = acA (shA A) k := acA_l e
      rw [ea]
      rcases t2 with ⟨e1, e2, e3⟩ | ⟨e1, e2⟩
      · rw [e3 k, e2]
        obtain ⟨u1, a', u2, u3, u4⟩ := q4 (k + 1) (by omega)
        rw [e1] at u1 u2
        rw [show (nx + 20 - 20 + (k + 1)) % 20 = ((nx + 1) % 20 + 20 - (19 + 1) + k) % 20 by omega] at u1 u2
        rw [if_neg (by omega), if_neg (by omega)]
        exact ⟨u1, a', u2, u3, pk _ _ u3 u4⟩
      · rw [e2]
        obtain ⟨u1, a', u2, u3, u4⟩ := q4 k (by rw [e2] at e; omega)
        have hk2 : k < A.length := by rw [e2] at e; exact e
        rw [show (nx + 20 - A.length + k) % 20 = ((nx + 1) % 20 + 20 - (A.length + 1) + k) % 20 by omega] at u1 u2
        rw [if_neg (by omega), if_neg (by omega)]
        exact ⟨u1, a', u2, u3, pk _ _ u3 u4⟩
    · have ek : k = (shA A).length := by omega
      have ea : acA (psA A q (P q)) k = (q, P q) := by rw [ek]; exact acA_r
      rw [ea, if_pos (by omega), if_pos (by omega)]
      exact ⟨rfl, a, rfl, w2, pk _ _ w2 w3⟩
