/-! Sorting a slot. -/
theorem tm_ins_lt {L : Po} {t : Tm} {j k : Nat} (hj : j ≤ L.length) (h : k < j) : tm (L.insertIdx j t) k = tm L k := by
  unfold tm
  have h1 : k < (L.insertIdx j t).length := by rw [List.length_insertIdx_of_le_length hj]; omega
  have h2 : k < L.length := by omega
  simp [List.getD, h1, h2, List.getElem_insertIdx_of_lt h]
theorem tm_ins_eq {L : Po} {t : Tm} {j : Nat} (hj : j ≤ L.length) : tm (L.insertIdx j t) j = t := by
  unfold tm
  have h1 : j < (L.insertIdx j t).length := by rw [List.length_insertIdx_of_le_length hj]; omega
  simp [List.getD, h1]
theorem tm_ins_gt {L : Po} {t : Tm} {j k : Nat} (hj : j ≤ L.length) (h : j < k) (hk : k ≤ L.length) : tm (L.insertIdx j t) k = tm L (k - 1) := by
  unfold tm
  have h1 : k < (L.insertIdx j t).length := by rw [List.length_insertIdx_of_le_length hj]; omega
  have h2 : k - 1 < L.length := by omega
  simp [List.getD, h1, h2, List.getElem_insertIdx_of_gt h]
/-- the terms of a row from some place on stand in the slot -/
def Ro (R : RS) (s : Nat) (g : Nat → Tm) (a b : Nat) : Prop := ∀ i, a ≤ i → i < b → R 3 (300 * s + i) = ι (k41 (g i)) ∧ R 4 (300 * s + i) = ι (g i).n
theorem Sl.ro {R : RS} {s : Nat} {L : Po} (h : Sl R s L) : Ro R s (tm L) 0 L.length := fun i _ hi => h.2 i hi
theorem ro_up {R : RS} {s j : Nat} {g : Nat → Tm} {a b : Nat} {u v : Int32} (h : Ro R s g a b) (hj : j < a ∨ b ≤ j) : Ro (up (up R 3 (300 * s + j) u) 4 (300 * s + j) v) s g a b := by
  intro i h1 h2
  simp (disch := omega) only [ι_lit, ι_of, ι_add, ι_mul, ι_lt, ι_le, ι_eq, ι_cl, ι_rem, ι_div, ι_vin, ι_ne1', ι_1ne', ι_1lt', ι_lt1', ι_1le', ι_le1', ι_sub', ι_sub, upN, upE, Nat.reduceEqDiff, ne_eq, not_true_eq_false, not_false_eq_true, false_imp_iff, true_imp_iff, true_and, and_true, imp_self, forall_eq, reduceIte, Nat.reduceMul, Nat.reduceAdd, Nat.reduceSub]
  rw [if_neg (by omega), if_neg (by omega)]
  exact h i h1 h2
theorem fr_up2 {R R1 : RS} {a b : Nat} {u v : Int32} (h : Fr R R1 [3, 4] []) : Fr R (up (up R1 3 a u) 4 b v) [3, 4] [] := (h.w (by simp) (by omega)).w (by simp) (by omega)
theorem fs_up2 {R R1 : RS} {s j : Nat} {u v : Int32} (h : Fs R R1 [s]) (hj : j < 300) : Fs R (up (up R1 3 (300 * s + j) u) 4 (300 * s + j) v) [s] := by
  intro q hq
  have : q ≠ s := fun e => hq (by simp [e])
  refine ⟨?_, fun i hi => ?_⟩
  · simp (disch := omega) only [ι_lit, ι_of, ι_add, ι_mul, ι_lt, ι_le, ι_eq, ι_cl, ι_rem, ι_div, ι_vin, ι_ne1', ι_1ne', ι_1lt', ι_lt1', ι_1le', ι_le1', ι_sub', ι_sub, upN, upE, Nat.reduceEqDiff, ne_eq, not_true_eq_false, not_false_eq_true, false_imp_iff, true_imp_iff, true_and, and_true, imp_self, forall_eq, reduceIte, Nat.reduceMul, Nat.reduceAdd, Nat.reduceSub]; exact (h q hq).1
  · simp (disch := omega) only [ι_lit, ι_of, ι_add, ι_mul, ι_lt, ι_le, ι_eq, ι_cl, ι_rem, ι_div, ι_vin, ι_ne1', ι_1ne', ι_1lt', ι_lt1', ι_1le', ι_le1', ι_sub', ι_sub, upN, upE, Nat.reduceEqDiff, ne_eq, not_true_eq_false, not_false_eq_true, false_imp_iff, true_imp_iff, true_and, and_true, imp_self, forall_eq, reduceIte, Nat.reduceMul, Nat.reduceAdd, Nat.reduceSub]
    rw [if_neg (by omega), if_neg (by omega)]
    exact (h q hq).2 i hi
/-- one insertion: P sorted, t goes to its place -/
theorem s_sort_in {s i n : Nat} {t : Tm} {P : Po} {C : Nat → Tm} {R0 : RS} {K2 : Int32 → Int32 → RS → Prop} {K : Int32 → RS → Prop} (hs : s < 56) (hn : n ≤ 300) (hi : i < n) (hP : P.length = i) (ht : sm t) (hsm : ∀ j, j < i → sm (tm P j)) (hso : ∀ a b, a < b → b < i → k41 (tm P a) < k41 (tm P b)) (hne : ∀ j, j < i → k41 (tm P j) ≠ k41 t)
    (h : ∀ j R', j ≤ i → (∀ a, a < j → k41 (tm P a) < k41 t) → (∀ a, j ≤ a → a < i → k41 t < k41 (tm P a)) → Fr R0 R' [3, 4] [] → Fs R0 R' [s] → Ro R' s (tm (P.insertIdx j t)) 0 (i + 1) → Ro R' s C (i + 1) n → K2 (ι s) (ι (i + 1)) R') :
    ∀ (j : Nat) (R : RS), j ≤ i → (∀ a, j ≤ a → a < i → k41 t < k41 (tm P a)) → Fr R0 R [3, 4] [] → Fs R0 R [s] → Ro R s (tm P) 0 j → Ro R s (fun a => tm P (a - 1)) (j + 1) (i + 1) → Ro R s C (i + 1) n → wl_sort_30 K2 K (j + 1) (ι s) (ι i) (ι (k41 t)) (ι t.n) (ι j) R := by
  have ht1 := k41_lt ht
  intro j
  have fin : ∀ (j : Nat) (R : RS), j ≤ i → (∀ a, a < j → k41 (tm P a) < k41 t) → (∀ a, j ≤ a → a < i → k41 t < k41 (tm P a)) → Fr R0 R [3, 4] [] → Fs R0 R [s] → Ro R s (tm P) 0 j → Ro R s (fun a => tm P (a - 1)) (j + 1) (i + 1) → Ro R s C (i + 1) n → w_sort_98 K2 K (ι s) (ι i) (ι (k41 t)) (ι t.n) (ι j) R := by
    intro j R hj h0 h1 h2 h3 h4 h5 h6
    unfold w_sort_98
    simp (disch := omega) only [ι_lit, ι_of, ι_add, ι_mul, ι_lt, ι_le, ι_eq, ι_cl, ι_rem, ι_div, ι_vin, ι_ne1', ι_1ne', ι_1lt', ι_lt1', ι_1le', ι_le1', ι_sub', ι_sub, upN, upE, Nat.reduceEqDiff, ne_eq, not_true_eq_false, not_false_eq_true, false_imp_iff, true_imp_iff, true_and, and_true, imp_self, forall_eq, reduceIte, Nat.reduceMul, Nat.reduceAdd, Nat.reduceSub]
    refine h j _ hj h0 h1 (fr_up2 h2) (fs_up2 (j := j) h3 (by omega)) (fun a _ ha => ?_) (ro_up h6 (by omega))
    simp (disch := omega) only [ι_lit, ι_of, ι_add, ι_mul, ι_lt, ι_le, ι_eq, ι_cl, ι_rem, ι_div, ι_vin, ι_ne1', ι_1ne', ι_1lt', ι_lt1', ι_1le', ι_le1', ι_sub', ι_sub, upN, upE, Nat.reduceEqDiff, ne_eq, not_true_eq_false, not_false_eq_true, false_imp_iff, true_imp_iff, true_and, and_true, imp_self, forall_eq, reduceIte, Nat.reduceMul, Nat.reduceAdd, Nat.reduceSub]
    by_cases e : a = j
    · subst e
      rw [if_pos rfl, if_pos rfl, tm_ins_eq (by omega)]
      exact ⟨rfl, rfl⟩
    · rw [if_neg (by omega), if_neg (by omega)]
      rcases Nat.lt_or_gt_of_ne e with g | g
      · rw [tm_ins_lt (by omega) g]; exact h4 a (by omega) g
      · rw [tm_ins_gt (by omega) g (by omega)]; exact h5 a (by omega) (by omega)
  induction j with
  | zero =>
    intro R hj h1 h2 h3 h4 h5 h6
    show wb_sort_30 _ _ _ _ _ _ _ _ _
    unfold wb_sort_30
    refine ⟨fun _ => fin 0 R (by omega) (fun a ha => by omega) h1 h2 h3 h4 h5 h6, fun q => absurd ?_ q⟩
    simp (disch := omega) only [ι_lit, ι_of, ι_add, ι_mul, ι_lt, ι_le, ι_eq, ι_cl, ι_rem, ι_div, ι_vin, ι_ne1', ι_1ne', ι_1lt', ι_lt1', ι_1le', ι_le1', ι_sub', ι_sub, upN, upE, Nat.reduceEqDiff, ne_eq, not_true_eq_false, not_false_eq_true, false_imp_iff, true_imp_iff, true_and, and_true, imp_self, forall_eq, reduceIte, Nat.reduceMul, Nat.reduceAdd, Nat.reduceSub]
    omega
  | succ j ih =>
    intro R hj h1 h2 h3 h4 h5 h6
    show wb_sort_30 _ _ _ _ _ _ _ _ _
    unfold wb_sort_30
    have hk := k41_lt (hsm j (by omega))
    refine ⟨fun q => absurd q ?_, fun _ => ?_⟩
    · simp (disch := omega) only [ι_lit, ι_of, ι_add, ι_mul, ι_lt, ι_le, ι_eq, ι_cl, ι_rem, ι_div, ι_vin, ι_ne1', ι_1ne', ι_1lt', ι_lt1', ι_1le', ι_le1', ι_sub', ι_sub, upN, upE, Nat.reduceEqDiff, ne_eq, not_true_eq_false, not_false_eq_true, false_imp_iff, true_imp_iff, true_and, and_true, imp_self, forall_eq, reduceIte, Nat.reduceMul, Nat.reduceAdd, Nat.reduceSub]
      omega
    simp (disch := omega) only [ι_lit, ι_of, ι_add, ι_mul, ι_lt, ι_le, ι_eq, ι_cl, ι_rem, ι_div, ι_vin, ι_ne1', ι_1ne', ι_1lt', ι_lt1', ι_1le', ι_le1', ι_sub', ι_sub, upN, upE, Nat.reduceEqDiff, ne_eq, not_true_eq_false, not_false_eq_true, false_imp_iff, true_imp_iff, true_and, and_true, imp_self, forall_eq, reduceIte, Nat.reduceMul, Nat.reduceAdd, Nat.reduceSub]
    rw [show j + 1 - 1 = j by omega]
    refine s_keyAt rfl rfl hs (by omega) ?_
    rw [(h4 j (by omega) (by omega)).1]
    simp (disch := omega) only [ι_lit, ι_of, ι_add, ι_mul, ι_lt, ι_le, ι_eq, ι_cl, ι_rem, ι_div, ι_vin, ι_ne1', ι_1ne', ι_1lt', ι_lt1', ι_1le', ι_le1', ι_sub', ι_sub, upN, upE, Nat.reduceEqDiff, ne_eq, not_true_eq_false, not_false_eq_true, false_imp_iff, true_imp_iff, true_and, and_true, imp_self, forall_eq, reduceIte, Nat.reduceMul, Nat.reduceAdd, Nat.reduceSub]
    refine ⟨fun q => ?_, fun q => ?_⟩
    · refine fin (j + 1) R hj (fun a ha => ?_) h1 h2 h3 h4 h5 h6
      have := hne j (by omega)
      by_cases e : a = j
      · subst e; omega
      · have := hso a j (by omega) (by omega); omega
    · refine s_keyAt rfl rfl hs (by omega) ?_
      rw [(h4 j (by omega) (by omega)).1]
      refine s_numAt rfl rfl hs (by omega) ?_
      simp (disch := omega) only [ι_lit, ι_of, ι_add, ι_mul, ι_lt, ι_le, ι_eq, ι_cl, ι_rem, ι_div, ι_vin, ι_ne1', ι_1ne', ι_1lt', ι_lt1', ι_1le', ι_le1', ι_sub', ι_sub, upN, upE, Nat.reduceEqDiff, ne_eq, not_true_eq_false, not_false_eq_true, false_imp_iff, true_imp_iff, true_and, and_true, imp_self, forall_eq, reduceIte, Nat.reduceMul, Nat.reduceAdd, Nat.reduceSub]
      rw [(h4 j (by omega) (by omega)).2]
      refine ih _ (by omega) (fun a g1 g2 => ?_) (fr_up2 h2) (fs_up2 (j := j + 1) h3 (by omega)) (fun a g1 g2 => ?_) (fun a g1 g2 => ?_) (ro_up h6 (by omega))
      · by_cases e : a = j
        · subst e; omega
        · exact h1 a (by omega) g2
      · simp (disch := omega) only [ι_lit, ι_of, ι_add, ι_mul, ι_lt, ι_le, ι_eq, ι_cl, ι_rem, ι_div, ι_vin, ι_ne1', ι_1ne', ι_1lt', ι_lt1', ι_1le', ι_le1', ι_sub', ι_sub, upN, upE, Nat.reduceEqDiff, ne_eq, not_true_eq_false, not_false_eq_true, false_imp_iff, true_imp_iff, true_and, and_true, imp_self, forall_eq, reduceIte, Nat.reduceMul, Nat.reduceAdd, Nat.reduceSub]
        rw [if_neg (by omega), if_neg (by omega)]
        exact h4 a g1 (by omega)
      · simp (disch := omega) only [ι_lit, ι_of, ι_add, ι_mul, ι_lt, ι_le, ι_eq, ι_cl, ι_rem, ι_div, ι_vin, ι_ne1', ι_1ne', ι_1lt', ι_lt1', ι_1le', ι_le1', ι_sub', ι_sub, upN, upE, Nat.reduceEqDiff, ne_eq, not_true_eq_false, not_false_eq_true, false_imp_iff, true_imp_iff, true_and, and_true, imp_self, forall_eq, reduceIte, Nat.reduceMul, Nat.reduceAdd, Nat.reduceSub]
        by_cases e : a = j + 1
        · subst e
          rw [if_pos rfl, if_pos rfl]
          exact ⟨rfl, rfl⟩
        · rw [if_neg (by omega), if_neg (by omega)]
          exact h5 a (by omega) g2
/-- a row with different keys is put in order -/
theorem s_sort {s : Nat} {x : Int32} {C : Po} {R : RS} {K : Int32 → RS → Prop} (hx : x = ι s) (hs : s < 56) (hn : C.length ≤ 300) (hsm : ∀ j, j < C.length → sm (tm C j)) (hne : ∀ i j, i < j → j < C.length → k41 (tm C i) ≠ k41 (tm C j)) (hl : Sl R s C)
    (h : ∀ (L : Po) (R' : RS), L.length = C.length → (∀ t, t ∈ L ↔ t ∈ C) → (∀ a b, a < b → b < L.length → k41 (tm L a) < k41 (tm L b)) → Fr R R' [3, 4] [] → Fs R R' [s] → Sl R' s L → K 0 R') : wp_sort x R K := by
  subst hx
  have tmem : ∀ {L : Po} {i : Nat}, i < L.length → tm L i ∈ L := fun {L i} hi => by
    unfold tm; simp [List.getD, hi]
  have memt : ∀ {L : Po} {t : Tm}, t ∈ L → ∃ i, i < L.length ∧ tm L i = t := fun {L t} ht => by
    obtain ⟨i, hi, e⟩ := List.mem_iff_getElem.mp ht
    exact ⟨i, hi, by unfold tm; simp [List.getD, hi, e]⟩
  have key : ∀ (k i : Nat) (P : Po) (R1 : RS), i + k = C.length → P.length = i → (∀ t, t ∈ P ↔ ∃ j, j < i ∧ tm C j = t) → (∀ a b, a < b → b < i → k41 (tm P a) < k41 (tm P b)) → Fr R R1 [3, 4] [] → Fs R R1 [s] → R1 2 s = ι C.length → Ro R1 s (tm P) 0 i → Ro R1 s (tm C) i C.length → wl_sort_2 K (k + 1) (ι s) (ι i) R1 := by
    intro k
    induction k with
    | zero =>
      intro i P R1 hi hP hm hso h1 h2 h3 h4 h5
      show wb_sort_2 _ _ _ _ _
      unfold wb_sort_2
      simp (disch := omega) only [ι_lit, ι_of, ι_add, ι_mul, ι_lt, ι_le, ι_eq, ι_cl, ι_rem, ι_div, ι_vin, ι_ne1', ι_1ne', ι_1lt', ι_lt1', ι_1le', ι_le1', ι_sub', ι_sub, upN, upE, Nat.reduceEqDiff, ne_eq, not_true_eq_false, not_false_eq_true, false_imp_iff, true_imp_iff, true_and, and_true, imp_self, forall_eq, reduceIte, Nat.reduceMul, Nat.reduceAdd, Nat.reduceSub, h3]
      refine ⟨fun _ => h P R1 (by omega) (fun t => ⟨fun q => ?_, fun q => ?_⟩) (fun a b c d => hso a b c (by omega)) h1 h2 ⟨by rw [hP, show i = C.length by omega]; exact h3, fun j hj => h4 j (by omega) (by omega)⟩, fun q => absurd (by omega) q⟩
      · obtain ⟨j, hj, e⟩ := (hm t).mp q
        rw [← e]; exact tmem (by omega)
      · obtain ⟨j, hj, e⟩ := memt q
        exact (hm t).mpr ⟨j, by omega, e⟩
    | succ k ih =>
      intro i P R1 hi hP hm hso h1 h2 h3 h4 h5
      show wb_sort_2 _ _ _ _ _
      unfold wb_sort_2
      simp (disch := omega) only [ι_lit, ι_of, ι_add, ι_mul, ι_lt, ι_le, ι_eq, ι_cl, ι_rem, ι_div, ι_vin, ι_ne1', ι_1ne', ι_1lt', ι_lt1', ι_1le', ι_le1', ι_sub', ι_sub, upN, upE, Nat.reduceEqDiff, ne_eq, not_true_eq_false, not_false_eq_true, false_imp_iff, true_imp_iff, true_and, and_true, imp_self, forall_eq, reduceIte, Nat.reduceMul, Nat.reduceAdd, Nat.reduceSub, h3]
      refine ⟨fun q => by omega, fun _ => ?_⟩
      refine s_keyAt rfl rfl hs (by omega) ?_
      rw [(h5 i (by omega) (by omega)).1]
      refine s_numAt rfl rfl hs (by omega) ?_
      rw [(h5 i (by omega) (by omega)).2]
      refine ⟨i + 1, ?_⟩
      have hPm : ∀ j, j < i → ∃ a, a < i ∧ tm C a = tm P j := fun j hj => (hm _).mp (tmem (by omega))
      refine s_sort_in (C := tm C) (n := C.length) (R0 := R) hs hn (by omega) hP (hsm i (by omega)) (fun j hj => ?_) hso (fun j hj => ?_) (fun j R' hj l1 l2 g1 g2 g3 g4 => ?_) i R1 (by omega) (fun a g1 g2 => by omega) h1 h2 h4 (fun a g1 g2 => by omega) (fun a g1 g2 => h5 a (by omega) g2)
      · obtain ⟨a, ha, e⟩ := hPm j hj
        rw [← e]; exact hsm a (by omega)
      · obtain ⟨a, ha, e⟩ := hPm j hj
        rw [← e]; exact hne a i (by omega) (by omega)
      · refine ih (i + 1) (P.insertIdx j (tm C i)) R' (by omega) (by rw [List.length_insertIdx_of_le_length (by omega)]; omega) (fun t => ?_) (fun a b c d => ?_) g1 g2 ?_ g3 g4
        · rw [List.mem_insertIdx (by omega), hm]
          constructor
          · rintro (rfl | ⟨a, ha, e⟩)
            · exact ⟨i, by omega, rfl⟩
            · exact ⟨a, by omega, e⟩
          · rintro ⟨a, ha, e⟩
            by_cases q : a = i
            · subst q; exact Or.inl e.symm
            · exact Or.inr ⟨a, by omega, e⟩
        · by_cases q1 : b < j
          · rw [tm_ins_lt (by omega) (by omega), tm_ins_lt (by omega) q1]
            exact hso a b c (by omega)
          · by_cases q2 : b = j
            · subst q2
              rw [tm_ins_eq (by omega), tm_ins_lt (by omega) c]
              exact l1 a c
            · rw [tm_ins_gt (by omega) (by omega : j < b) (by omega)]
              by_cases q3 : a < j
              · rw [tm_ins_lt (by omega) q3]; exact hso a (b - 1) (by omega) (by omega)
              · by_cases q4 : a = j
                · subst q4
                  rw [tm_ins_eq (by omega)]
                  exact l2 (b - 1) (by omega) (by omega)
                · rw [tm_ins_gt (by omega) (by omega : j < a) (by omega)]
                  exact hso (a - 1) (b - 1) (by omega) (by omega)
        · rw [g1.1 2 (by omega) (by simp)]; exact hl.1
  unfold wp_sort
  by_cases e : C.length = 0
  · refine ⟨1, ?_⟩
    show wb_sort_2 _ _ _ _ _
    unfold wb_sort_2
    simp (disch := omega) only [ι_lit, ι_of, ι_add, ι_mul, ι_lt, ι_le, ι_eq, ι_cl, ι_rem, ι_div, ι_vin, ι_ne1', ι_1ne', ι_1lt', ι_lt1', ι_1le', ι_le1', ι_sub', ι_sub, upN, upE, Nat.reduceEqDiff, ne_eq, not_true_eq_false, not_false_eq_true, false_imp_iff, true_imp_iff, true_and, and_true, imp_self, forall_eq, reduceIte, Nat.reduceMul, Nat.reduceAdd, Nat.reduceSub, hl.1]
    exact ⟨fun _ => h C R rfl (fun t => Iff.rfl) (fun a b c d => by omega) (Fr.rf _ _ _) (Fs.rf _ _) hl, fun q => absurd (by omega) q⟩
  · refine ⟨C.length - 1 + 1, ?_⟩
    refine key (C.length - 1) 1 [tm C 0] R (by omega) rfl (fun t => ?_) (fun a b c d => by omega) (Fr.rf _ _ _) (Fs.rf _ _) hl.1 (fun i g1 g2 => ?_) (fun i g1 g2 => hl.2 i g2)
    · constructor
      · intro q
        rw [List.mem_singleton] at q
        exact ⟨0, by omega, q.symm⟩
      · rintro ⟨j, hj, e⟩
        rw [show j = 0 by omega] at e
        rw [← e]; exact List.mem_singleton.mpr rfl
    · rw [show i = 0 by omega]
      exact hl.2 0 (by omega)
/-! What was gathered is put in a slot. -/
theorem pigeon : ∀ (m n : Nat) (g : Nat → Nat), (∀ i, i < n → g i < m) → (∀ i j, i < n → j < n → g i = g j → i = j) → n ≤ m := by
  intro m
  induction m with
  | zero =>
    intro n g h1 _
    apply Classical.byContradiction
    intro q
    have := h1 0 (by omega)
    omega
  | succ m ih =>
    intro n g h1 h2
    by_cases e : ∃ i, i < n ∧ g i = m
    · obtain ⟨i, hi, hg⟩ := e
      have : n - 1 ≤ m := by
        refine ih (n - 1) (fun j => if j = i then g (n - 1) else g j) (fun j hj => ?_) (fun a b ha hb hab => ?_)
        · show (if j = i then g (n - 1) else g j) < m
          split
          · rename_i c
            have h3 := h1 (n - 1) (by omega)
            have h4 : g (n - 1) ≠ m := fun c2 => by
              have := h2 (n - 1) i (by omega) hi (by omega)
              omega
            omega
          · rename_i c
            have h3 := h1 j (by omega)
            have h4 : g j ≠ m := fun c2 => c (h2 j i (by omega) hi (by omega))
            omega
        · have hab : (if a = i then g (n - 1) else g a) = (if b = i then g (n - 1) else g b) := hab
          split at hab
          · split at hab
            · omega
            · have := h2 (n - 1) b (by omega) (by omega) hab; omega
          · split at hab
            · have := h2 a (n - 1) (by omega) (by omega) hab; omega
            · exact h2 a b (by omega) (by omega) hab
      omega
    · have := ih n g (fun i hi => by
        have h3 := h1 i hi
        have : g i ≠ m := fun c => e ⟨i, hi, c⟩
        omega) h2
      omega
theorem tmem {L : Po} {i : Nat} (hi : i < L.length) : tm L i ∈ L := by unfold tm; simp [List.getD, hi]
theorem memt {L : Po} {t : Tm} (ht : t ∈ L) : ∃ i, i < L.length ∧ tm L i = t := by
  obtain ⟨i, hi, e⟩ := List.mem_iff_getElem.mp ht
  exact ⟨i, hi, by unfold tm; simp [List.getD, hi, e]⟩
theorem tm_app_l {L : Po} {t : Tm} {i : Nat} (h : i < L.length) : tm (L ++ [t]) i = tm L i := by
  unfold tm
  have h1 : i < (L ++ [t]).length := by rw [List.length_append]; omega
  rw [List.getD_eq_getElem?_getD, List.getD_eq_getElem?_getD, List.getElem?_append_left h]
theorem tm_app_r {L : Po} {t : Tm} : tm (L ++ [t]) L.length = t := by
  unfold tm
  rw [List.getD_eq_getElem?_getD, List.getElem?_append_right (Nat.le_refl _)]
  simp
/-- the terms found so far: of places that were looked at, each once -/
def Col (F : Nat → Nat → Nat → Nat) (V : Nat → Nat → Nat → Prop) (C : Po) : Prop := (∀ j, j < C.length → sm (tm C j) ∧ F (tm C j).x (tm C j).y (tm C j).z = (tm C j).n ∧ (tm C j).n ≠ 0 ∧ V (tm C j).x (tm C j).y (tm C j).z) ∧ (∀ i j, i < j → j < C.length → k41 (tm C i) ≠ k41 (tm C j))
/-- a row of terms that has all places, in order, is what F makes -/
theorem can_of {p : Nat} {F : Nat → Nat → Nat → Nat} {V : Nat → Nat → Nat → Prop} {C L : Po} (hC : Col F V C) (hn : C.length ≤ 300) (hp : ∀ x y z, F x y z < p) (hall : ∀ x y z, F x y z ≠ 0 → ∃ j, j < C.length ∧ isAt (tm C j) x y z) (hl : L.length = C.length) (hm : ∀ t, t ∈ L ↔ t ∈ C) (hs : ∀ a b, a < b → b < L.length → k41 (tm L a) < k41 (tm L b)) : Can p F L := by
  have hL : ∀ i, i < L.length → ∃ j, j < C.length ∧ tm C j = tm L i := fun i hi => memt ((hm _).mp (tmem hi))
  have hw : wf p L := by
    refine ⟨by omega, fun i hi => ?_, hs⟩
    obtain ⟨j, hj, e⟩ := hL i hi
    have h := hC.1 j hj
    rw [e] at h
    have := hp (tm L i).x (tm L i).y (tm L i).z
    exact ⟨h.1.1, h.1.2.1, h.1.2.2, Nat.pos_of_ne_zero h.2.2.1, by omega⟩
  refine ⟨hw, fun x y z => ?_⟩
  by_cases e : ∃ i, i < L.length ∧ isAt (tm L i) x y z
  · obtain ⟨i, hi, w⟩ := e
    have c := cf_at hw hi
    rw [w.1, w.2.1, w.2.2] at c
    obtain ⟨j, hj, e⟩ := hL i hi
    have h := hC.1 j hj
    rw [e, w.1, w.2.1, w.2.2] at h
    rw [c, h.2.1]
  · have h0 : F x y z = 0 := Classical.byContradiction fun q => by
      obtain ⟨j, hj, w⟩ := hall x y z q
      obtain ⟨i, hi, e2⟩ := memt ((hm _).mpr (tmem hj))
      exact e ⟨i, hi, by rw [e2]; exact w⟩
    rw [h0]
    exact cf_none (fun i hi w => e ⟨i, hi, w⟩)
/-- a place too far out, or one too many: nothing that can be kept -/
theorem no_can_far {p : Nat} {F : Nat → Nat → Nat → Nat} {x y z : Nat} (h : F x y z ≠ 0) (hf : 40 < x ∨ 40 < y ∨ 40 < z) : ¬ ∃ L, Can p F L := by
  rintro ⟨L, hw, hc⟩
  rw [← hc] at h
  obtain ⟨i, hi, w⟩ := cf_ne h
  have := hw.sm hi
  obtain ⟨w1, w2, w3⟩ := w
  omega
theorem no_can_many {p : Nat} {F : Nat → Nat → Nat → Nat} {V : Nat → Nat → Nat → Prop} {C : Po} (hC : Col F V C) (hn : 300 < C.length) : ¬ ∃ L, Can p F L := by
  rintro ⟨L, hw, hc⟩
  have h1 : ∀ j, j < C.length → ∃ i, i < L.length ∧ isAt (tm L i) (tm C j).x (tm C j).y (tm C j).z := fun j hj => cf_ne (by rw [hc, (hC.1 j hj).2.1]; exact (hC.1 j hj).2.2.1)
  have h2 : ∀ j : Nat, ∃ i : Nat, j < C.length → i < L.length ∧ isAt (tm L i) (tm C j).x (tm C j).y (tm C j).z := fun j => by
    by_cases q : j < C.length
    · obtain ⟨i, hi⟩ := h1 j q; exact ⟨i, fun _ => hi⟩
    · exact ⟨0, fun c => absurd c q⟩
  obtain ⟨g, hg⟩ := Classical.axiomOfChoice h2
  have := pigeon L.length C.length g (fun i hi => (hg i hi).1) (fun i j hi hj e => by
    have a := (hg i hi).2
    have b := (hg j hj).2
    rw [e] at a
    have e2 : k41 (tm C i) = k41 (tm C j) := by unfold k41; rw [← a.1, ← a.2.1, ← a.2.2, ← b.1, ← b.2.1, ← b.2.2]
    rcases Nat.lt_trichotomy i j with q | q | q
    · exact absurd e2 (hC.2 i j q hj)
    · exact q
    · exact absurd e2.symm (hC.2 j i q hi))
  have := hw.1
  omega
/-- place i of those noted -/
def Vi (R : RS) (i : Nat) (x y z : Nat) : Prop := ∃ j, j < i ∧ R 6 j = ι (c81 x y z)
theorem col_mo {F : Nat → Nat → Nat → Nat} {V V' : Nat → Nat → Nat → Prop} {C : Po} (h : Col F V C) (hv : ∀ x y z, V x y z → V' x y z) : Col F V' C := ⟨fun j hj => ⟨(h.1 j hj).1, (h.1 j hj).2.1, (h.1 j hj).2.2.1, hv _ _ _ (h.1 j hj).2.2.2⟩, h.2⟩
theorem col_app {F : Nat → Nat → Nat → Nat} {V : Nat → Nat → Nat → Prop} {C : Po} {t : Tm} (h : Col F V C) (ht : sm t) (h1 : F t.x t.y t.z = t.n) (h2 : t.n ≠ 0) (h3 : V t.x t.y t.z) (h4 : ∀ j, j < C.length → k41 (tm C j) ≠ k41 t) : Col F V (C ++ [t]) := by
  refine ⟨fun j hj => ?_, fun i j hij hj => ?_⟩
  · rw [List.length_append, List.length_singleton] at hj
    by_cases e : j < C.length
    · rw [tm_app_l e]; exact h.1 j e
    · rw [show j = C.length by omega, tm_app_r]; exact ⟨ht, h1, h2, h3⟩
  · rw [List.length_append, List.length_singleton] at hj
    rw [tm_app_l (by omega)]
    by_cases e : j < C.length
    · rw [tm_app_l e]; exact h.2 i j hij e
    · rw [show j = C.length by omega, tm_app_r]; exact h4 i (by omega)
theorem c81_x {x y z : Nat} (hy : y ≤ 80) (hz : z ≤ 80) : c81 x y z / 6561 = x := by unfold c81; omega
theorem c81_y {x y z : Nat} (hy : y ≤ 80) (hz : z ≤ 80) : c81 x y z / 81 % 81 = y := by unfold c81; omega
theorem c81_z {x y z : Nat} (hz : z ≤ 80) : c81 x y z % 81 = z := by unfold c81; omega
/-- the end of gathering -/
theorem s_gathered_e {s p n : Nat} {b : Bool} {F : Nat → Nat → Nat → Nat} {C : Po} {R0 R : RS} {K : Int32 → RS → Prop} {V : Nat → Nat → Nat → Prop} (hs : s < 56) (hp : ∀ x y z, F x y z < p) (hr : Fr R0 R [3, 4, 5] []) (hf : Fs R0 R [s]) (hz : ∀ k, k < 531441 → R 5 k = ι 0) (hb : b = false → ¬ ∃ L, Can p F L) (ht : b = true → Col F V C ∧ C.length ≤ 300 ∧ n = C.length ∧ Ro R s (tm C) 0 C.length ∧ ∀ x y z, F x y z ≠ 0 → V x y z ∧ ∃ j, j < C.length ∧ isAt (tm C j) x y z)
    (h : ∀ R', Fr R0 R' [2, 3, 4, 5] [7] → Fs R0 R' [s] → R' 0 7 = ι 0 → (∀ k, k < 531441 → R' 5 k = ι 0) → (∀ L, Can p F L → Sl R' s L → K 1 R') ∧ ((¬ ∃ L, Can p F L) → K 0 R')) : w_gathered_183 K (ι s) (if b then 1 else 0) (if b then ι n else 0) (ι s) (up R 0 7 0) := by
  unfold w_gathered_183
  simp (disch := omega) only [ι_lit, ι_of, ι_add, ι_mul, ι_lt, ι_le, ι_eq, ι_cl, ι_rem, ι_div, ι_vin, ι_ne1', ι_1ne', ι_1lt', ι_lt1', ι_1le', ι_le1', ι_sub', ι_sub, upN, upE, Nat.reduceEqDiff, ne_eq, not_true_eq_false, not_false_eq_true, false_imp_iff, true_imp_iff, true_and, and_true, imp_self, forall_eq, reduceIte, Nat.reduceMul, Nat.reduceAdd, Nat.reduceSub]
  cases b with
  | false =>
    simp only [Bool.false_eq_true, if_false]
    refine s_sort (C := []) rfl hs (by simp) (fun j hj => by simp at hj) (fun i j hij hj => by simp at hj) ⟨by simp (disch := omega) only [ι_lit, ι_of, ι_add, ι_mul, ι_lt, ι_le, ι_eq, ι_cl, ι_rem, ι_div, ι_vin, ι_ne1', ι_1ne', ι_1lt', ι_lt1', ι_1le', ι_le1', ι_sub', ι_sub, upN, upE, Nat.reduceEqDiff, ne_eq, not_true_eq_false, not_false_eq_true, false_imp_iff, true_imp_iff, true_and, and_true, imp_self, forall_eq, reduceIte, Nat.reduceMul, Nat.reduceAdd, Nat.reduceSub]; rfl, fun i hi => by simp at hi⟩ (fun L R' e1 e2 e3 e4 e5 e6 => ⟨by simp, ?_⟩)
    refine (h R' ⟨fun f f0 f1 => ?_, fun k hk => ?_⟩ (fun q hq => ?_) ?_ (fun k hk => ?_)).2 (hb rfl)
    · simp only [List.mem_cons, List.not_mem_nil, or_false, not_or] at f1
      rw [e4.1 f f0 (by simp [f1]), upN f1.1, upN f0, hr.1 f f0 (by simp [f1])]
    · simp only [List.mem_cons, List.not_mem_nil, or_false] at hk
      rw [e4.2 k (by simp), upN (by omega), upE, if_neg hk, hr.2 k (by simp)]
    · have hq' : q ≠ s := fun e => hq (by simp [e])
      refine ⟨?_, fun i hi => ?_⟩
      · rw [(e5 q hq).1, upE, if_neg hq', upN (by omega)]; exact (hf q hq).1
      · rw [((e5 q hq).2 i hi).1, ((e5 q hq).2 i hi).2, upN (by omega), upN (by omega), upN (by omega), upN (by omega)]
        exact (hf q hq).2 i hi
    · rw [e4.2 7 (by simp), upN (by omega), upE, if_pos rfl]
    · rw [e4.1 5 (by omega) (by simp), upN (by omega), upN (by omega)]; exact hz k hk
  | true =>
    obtain ⟨h1, h2, rfl, h3, h4⟩ := ht rfl
    simp only [if_true]
    refine s_sort (C := C) rfl hs h2 (fun j hj => (h1.1 j hj).1) h1.2 ⟨by simp (disch := omega) only [ι_lit, ι_of, ι_add, ι_mul, ι_lt, ι_le, ι_eq, ι_cl, ι_rem, ι_div, ι_vin, ι_ne1', ι_1ne', ι_1lt', ι_lt1', ι_1le', ι_le1', ι_sub', ι_sub, upN, upE, Nat.reduceEqDiff, ne_eq, not_true_eq_false, not_false_eq_true, false_imp_iff, true_imp_iff, true_and, and_true, imp_self, forall_eq, reduceIte, Nat.reduceMul, Nat.reduceAdd, Nat.reduceSub], fun i hi => ?_⟩ (fun L R' e1 e2 e3 e4 e5 e6 => ⟨by simp, ?_⟩)
    · simp (disch := omega) only [ι_lit, ι_of, ι_add, ι_mul, ι_lt, ι_le, ι_eq, ι_cl, ι_rem, ι_div, ι_vin, ι_ne1', ι_1ne', ι_1lt', ι_lt1', ι_1le', ι_le1', ι_sub', ι_sub, upN, upE, Nat.reduceEqDiff, ne_eq, not_true_eq_false, not_false_eq_true, false_imp_iff, true_imp_iff, true_and, and_true, imp_self, forall_eq, reduceIte, Nat.reduceMul, Nat.reduceAdd, Nat.reduceSub]; exact h3 i (by omega) hi
    refine (h R' ⟨fun f f0 f1 => ?_, fun k hk => ?_⟩ (fun q hq => ?_) ?_ (fun k hk => ?_)).1 L (can_of h1 h2 hp (fun x y z q => (h4 x y z q).2) e1 e2 e3) e6
    · simp only [List.mem_cons, List.not_mem_nil, or_false, not_or] at f1
      rw [e4.1 f f0 (by simp [f1]), upN f1.1, upN f0, hr.1 f f0 (by simp [f1])]
    · simp only [List.mem_cons, List.not_mem_nil, or_false] at hk
      rw [e4.2 k (by simp), upN (by omega), upE, if_neg hk, hr.2 k (by simp)]
    · have hq' : q ≠ s := fun e => hq (by simp [e])
      refine ⟨?_, fun i hi => ?_⟩
      · rw [(e5 q hq).1, upE, if_neg hq', upN (by omega)]; exact (hf q hq).1
      · rw [((e5 q hq).2 i hi).1, ((e5 q hq).2 i hi).2, upN (by omega), upN (by omega), upN (by omega), upN (by omega)]
        exact (hf q hq).2 i hi
    · rw [e4.2 7 (by simp), upN (by omega), upE, if_pos rfl]
    · rw [e4.1 5 (by omega) (by simp), upN (by omega), upN (by omega)]; exact hz k hk
/-- b as an int -/
def ιb (b : Bool) : Int32 := if b then 1 else 0
theorem ιb_0 (b : Bool) : (ιb b = 0) ↔ b = false := by cases b <;> simp [ιb]
theorem s_gathered_l {s p t : Nat} {F : Nat → Nat → Nat → Nat} {R0 : RS} {K : Int32 → RS → Prop} (hs : s < 56) (ht : t ≤ 90600) (hG : Gt R0 p F t) (hp : p ≤ 13)
    (h : ∀ R', Fr R0 R' [2, 3, 4, 5] [7] → Fs R0 R' [s] → R' 0 7 = ι 0 → (∀ k, k < 531441 → R' 5 k = ι 0) → (∀ L, Can p F L → Sl R' s L → K 1 R') ∧ ((¬ ∃ L, Can p F L) → K 0 R')) (hz0 : ∀ k, k < 531441 → ∃ x y z, x ≤ 80 ∧ y ≤ 80 ∧ z ≤ 80 ∧ k = c81 x y z) :
    ∀ (k i : Nat) (b : Bool) (C : Po) (n : Nat) (R : RS), i + k = t → n = C.length → n ≤ 300 → Fr R0 R [3, 4, 5] [] → Fs R0 R [s] → (∀ x y z, x ≤ 80 → y ≤ 80 → z ≤ 80 → (Vi R0 i x y z → R 5 (c81 x y z) = ι 0) ∧ (¬ Vi R0 i x y z → R 5 (c81 x y z) = ι (F x y z))) → (b = false → ¬ ∃ L, Can p F L) → (b = true → Col F (Vi R0 i) C ∧ Ro R s (tm C) 0 C.length ∧ ∀ x y z, F x y z ≠ 0 → Vi R0 i x y z → ∃ j, j < C.length ∧ isAt (tm C j) x y z) → wl_gathered_7 K (k + 1) (ι s) (ι n) (ιb b) (ι i) R := by
  obtain ⟨g1, g2, g3, g4, g5, g6⟩ := id hG
  intro k
  induction k with
  | zero =>
    intro i b C n R hi hn hn3 h1 h2 h3 h4 h5
    show wb_gathered_7 _ _ _ _ _ _ _
    unfold wb_gathered_7
    have h7 : R 0 7 = ι t := (h1.2 7 (by simp)).trans g2
    simp (disch := omega) only [ι_lit, ι_of, ι_add, ι_mul, ι_lt, ι_le, ι_eq, ι_cl, ι_rem, ι_div, ι_vin, ι_ne1', ι_1ne', ι_1lt', ι_lt1', ι_1le', ι_le1', ι_sub', ι_sub, upN, upE, Nat.reduceEqDiff, ne_eq, not_true_eq_false, not_false_eq_true, false_imp_iff, true_imp_iff, true_and, and_true, imp_self, forall_eq, reduceIte, Nat.reduceMul, Nat.reduceAdd, Nat.reduceSub, h7]
    have e : w_gathered_183 K (ι s) (ιb b) (if b then ι n else 0) (ι s) (up R 0 7 0) := by
      refine s_gathered_e (C := C) (V := Vi R0 i) hs g4 h1 h2 (fun k hk => ?_) h4 (fun hb => ?_) h
      · obtain ⟨x, y, z, hx, hy, hz, rfl⟩ := hz0 k hk
        by_cases v : Vi R0 i x y z
        · exact (h3 x y z hx hy hz).1 v
        · rw [(h3 x y z hx hy hz).2 v]
          by_cases q : F x y z = 0
          · rw [q]
          · obtain ⟨-, -, -, j, hj, e⟩ := g6 x y z q
            exact absurd ⟨j, by omega, e⟩ v
      · obtain ⟨a, b, c⟩ := h5 hb
        refine ⟨a, by omega, hn, b, fun x y z q => ?_⟩
        obtain ⟨-, -, -, j, hj, e⟩ := g6 x y z q
        have v : Vi R0 i x y z := ⟨j, by omega, e⟩
        exact ⟨v, c x y z q v⟩
    refine ⟨fun _ => ⟨fun q => ?_, fun q => ?_⟩, fun q => absurd (by omega) q⟩
    · rw [show ((0 : Int32)) = ι 0 from rfl] at e
      have hb := (ιb_0 b).mp q
      subst hb
      exact e
    · cases b with
      | false => exact absurd rfl q
      | true => exact e
  | succ k ih =>
    intro i b C n R hi hn hn3 h1 h2 h3 h4 h5
    show wb_gathered_7 _ _ _ _ _ _ _
    unfold wb_gathered_7
    have h7 : R 0 7 = ι t := (h1.2 7 (by simp)).trans g2
    obtain ⟨x, y, z, hx, hy, hz, e6⟩ := g5 i (by omega)
    have e6' : R 6 i = ι (c81 x y z) := by rw [h1.1 6 (by omega) (by simp)]; exact e6
    have hc := c81_lt hx hy hz
    have hFp := g4 x y z
    simp (disch := omega) only [ι_lit, ι_of, ι_add, ι_mul, ι_lt, ι_le, ι_eq, ι_cl, ι_rem, ι_div, ι_vin, ι_ne1', ι_1ne', ι_1lt', ι_lt1', ι_1le', ι_le1', ι_sub', ι_sub, upN, upE, Nat.reduceEqDiff, ne_eq, not_true_eq_false, not_false_eq_true, false_imp_iff, true_imp_iff, true_and, and_true, imp_self, forall_eq, reduceIte, Nat.reduceMul, Nat.reduceAdd, Nat.reduceSub, h7, e6']
    rw [c81_x hy hz, c81_y hy hz, c81_z hz]
    refine ⟨fun q => absurd q (by omega), fun _ => ?_⟩
    -- the cube behind this step
    have hcube : ∀ a b' c, a ≤ 80 → b' ≤ 80 → c ≤ 80 → (Vi R0 (i + 1) a b' c → up R 5 (c81 x y z) 0 5 (c81 a b' c) = ι 0) ∧ (¬ Vi R0 (i + 1) a b' c → up R 5 (c81 x y z) 0 5 (c81 a b' c) = ι (F a b' c)) := by
      intro a b' c ha hb hcc
      rw [upE]
      by_cases e : a = x ∧ b' = y ∧ c = z
      · obtain ⟨rfl, rfl, rfl⟩ := e
        rw [if_pos rfl]
        exact ⟨fun _ => rfl, fun v => absurd ⟨i, by omega, e6⟩ v⟩
      · rw [if_neg (fun q => e (c81_inj ⟨hb, hcc⟩ ⟨hy, hz⟩ q))]
        have hv : Vi R0 (i + 1) a b' c ↔ Vi R0 i a b' c := by
          constructor
          · rintro ⟨j, hj, q⟩
            by_cases e2 : j = i
            · subst e2
              rw [e6, ι_eq (by omega) (by have := c81_lt ha hb hcc; omega)] at q
              exact absurd (c81_inj ⟨hy, hz⟩ ⟨hb, hcc⟩ q) (fun w => e ⟨w.1.symm, w.2.1.symm, w.2.2.symm⟩)
            · exact ⟨j, by omega, q⟩
          · rintro ⟨j, hj, q⟩
            exact ⟨j, by omega, q⟩
        rw [hv]
        exact h3 a b' c ha hb hcc
    have hvmo : ∀ a b' c, Vi R0 i a b' c → Vi R0 (i + 1) a b' c := fun a b' c ⟨j, hj, q⟩ => ⟨j, by omega, q⟩
    have hr5 : Fr R0 (up R 5 (c81 x y z) 0) [3, 4, 5] [] := h1.w (by simp) (by omega)
    have hf5 : Fs R0 (up R 5 (c81 x y z) 0) [s] := h2.tr (Fs.eq (upN (by omega)) (upN (by omega)) (upN (by omega)))
    have hro5 : ∀ {C : Po}, Ro R s (tm C) 0 C.length → Ro (up R 5 (c81 x y z) 0) s (tm C) 0 C.length := fun hh i a b => by rw [upN (by omega), upN (by omega)]; exact hh i a b
    -- nothing new
    have go0 : F x y z = 0 ∨ Vi R0 i x y z → wl_gathered_7 K (k + 1) (ι s) (ι n) (ιb b) (ι (i + 1)) (up R 5 (c81 x y z) 0) := by
      intro hv
      refine ih (i + 1) b C n _ (by omega) hn hn3 hr5 hf5 hcube h4 (fun hb => ?_)
      obtain ⟨a1, a2, a3⟩ := h5 hb
      refine ⟨col_mo a1 hvmo, hro5 a2, fun a b' c q v => ?_⟩
      obtain ⟨j, hj, e⟩ := v
      by_cases e2 : j = i
      · subst e2
        obtain ⟨q1, q2, q3, -⟩ := g6 a b' c q
        rw [e6, ι_eq (by omega) (by have := c81_lt q1 q2 q3; omega)] at e
        obtain ⟨rfl, rfl, rfl⟩ := c81_inj ⟨hy, hz⟩ ⟨q2, q3⟩ e
        rcases hv with hv | hv
        · exact absurd hv q
        · exact a3 _ _ _ q hv
      · exact a3 a b' c q ⟨j, by omega, e⟩
    -- too much
    have goF : (¬ ∃ L, Can p F L) → wl_gathered_7 K (k + 1) (ι s) (ι n) (ι 0) (ι (i + 1)) (up R 5 (c81 x y z) 0) := fun hno => ih (i + 1) false C n _ (by omega) hn hn3 hr5 hf5 hcube (fun _ => hno) (fun q => by cases q)
    by_cases v : Vi R0 i x y z
    · rw [(h3 x y z hx hy hz).1 v]
      exact ⟨fun q => absurd rfl q, fun _ => go0 (Or.inr v)⟩
    · rw [(h3 x y z hx hy hz).2 v]
      simp (disch := omega) only [ι_lit, ι_of, ι_add, ι_mul, ι_lt, ι_le, ι_eq, ι_cl, ι_rem, ι_div, ι_vin, ι_ne1', ι_1ne', ι_1lt', ι_lt1', ι_1le', ι_le1', ι_sub', ι_sub, upN, upE, Nat.reduceEqDiff, ne_eq, not_true_eq_false, not_false_eq_true, false_imp_iff, true_imp_iff, true_and, and_true, imp_self, forall_eq, reduceIte, Nat.reduceMul, Nat.reduceAdd, Nat.reduceSub]
      refine ⟨fun hq => ?_, fun q => go0 (Or.inl q)⟩
      have hold : ∀ {C : Po}, Col F (Vi R0 i) C → ∀ j, j < C.length → ∀ t : Tm, t.x = x → t.y = y → t.z = z → k41 (tm C j) ≠ k41 t ∨ 40 < x ∨ 40 < y ∨ 40 < z := by
        intro C hC j hj t tx ty tz
        by_cases f : 40 < x ∨ 40 < y ∨ 40 < z
        · exact Or.inr f
        · refine Or.inl (fun e => v ?_)
          have w := k41_inj (hC.1 j hj).1 (t := t) (by omega) e
          have := (hC.1 j hj).2.2.2
          rw [w.1, w.2.1, w.2.2, tx, ty, tz] at this
          exact this
      refine ⟨fun q => ?_, fun q => ⟨fun q1 => ?_, fun q1 => ⟨fun q2 => ?_, fun q2 => ⟨fun q3 => ?_, fun q3 => ⟨fun q4 => ?_, fun q4 => ?_⟩⟩⟩⟩⟩
      · have hb := (ιb_0 b).mp q
        subst hb
        unfold w_gathered_112
        simp (disch := omega) only [ι_lit, ι_of, ι_add, ι_mul, ι_lt, ι_le, ι_eq, ι_cl, ι_rem, ι_div, ι_vin, ι_ne1', ι_1ne', ι_1lt', ι_lt1', ι_1le', ι_le1', ι_sub', ι_sub, upN, upE, Nat.reduceEqDiff, ne_eq, not_true_eq_false, not_false_eq_true, false_imp_iff, true_imp_iff, true_and, and_true, imp_self, forall_eq, reduceIte, Nat.reduceMul, Nat.reduceAdd, Nat.reduceSub]
        exact goF (h4 rfl)
      · have hb : b = true := by cases b with | false => exact absurd rfl q | true => rfl
        obtain ⟨a1, a2, a3⟩ := h5 hb
        unfold w_gathered_112
        simp (disch := omega) only [ι_lit, ι_of, ι_add, ι_mul, ι_lt, ι_le, ι_eq, ι_cl, ι_rem, ι_div, ι_vin, ι_ne1', ι_1ne', ι_1lt', ι_lt1', ι_1le', ι_le1', ι_sub', ι_sub, upN, upE, Nat.reduceEqDiff, ne_eq, not_true_eq_false, not_false_eq_true, false_imp_iff, true_imp_iff, true_and, and_true, imp_self, forall_eq, reduceIte, Nat.reduceMul, Nat.reduceAdd, Nat.reduceSub]
        refine goF ?_
        by_cases f : 40 < x ∨ 40 < y ∨ 40 < z
        · exact no_can_far hq f
        · refine no_can_many (V := Vi R0 (i + 1)) (C := C ++ [(x, y, z, F x y z)]) (col_app (col_mo a1 hvmo) (t := (x, y, z, F x y z)) (by show x ≤ 40 ∧ y ≤ 40 ∧ z ≤ 40; omega) rfl hq ⟨i, by omega, e6⟩ (fun j hj => ?_)) (by rw [List.length_append, List.length_singleton]; omega)
          rcases hold a1 j hj (x, y, z, F x y z) rfl rfl rfl with w | w
          · exact w
          · exact absurd w f
      · unfold w_gathered_112
        simp (disch := omega) only [ι_lit, ι_of, ι_add, ι_mul, ι_lt, ι_le, ι_eq, ι_cl, ι_rem, ι_div, ι_vin, ι_ne1', ι_1ne', ι_1lt', ι_lt1', ι_1le', ι_le1', ι_sub', ι_sub, upN, upE, Nat.reduceEqDiff, ne_eq, not_true_eq_false, not_false_eq_true, false_imp_iff, true_imp_iff, true_and, and_true, imp_self, forall_eq, reduceIte, Nat.reduceMul, Nat.reduceAdd, Nat.reduceSub]
        exact goF (no_can_far hq (Or.inl q2))
      · unfold w_gathered_112
        simp (disch := omega) only [ι_lit, ι_of, ι_add, ι_mul, ι_lt, ι_le, ι_eq, ι_cl, ι_rem, ι_div, ι_vin, ι_ne1', ι_1ne', ι_1lt', ι_lt1', ι_1le', ι_le1', ι_sub', ι_sub, upN, upE, Nat.reduceEqDiff, ne_eq, not_true_eq_false, not_false_eq_true, false_imp_iff, true_imp_iff, true_and, and_true, imp_self, forall_eq, reduceIte, Nat.reduceMul, Nat.reduceAdd, Nat.reduceSub]
        exact goF (no_can_far hq (Or.inr (Or.inl q3)))
      · unfold w_gathered_112
        simp (disch := omega) only [ι_lit, ι_of, ι_add, ι_mul, ι_lt, ι_le, ι_eq, ι_cl, ι_rem, ι_div, ι_vin, ι_ne1', ι_1ne', ι_1lt', ι_lt1', ι_1le', ι_le1', ι_sub', ι_sub, upN, upE, Nat.reduceEqDiff, ne_eq, not_true_eq_false, not_false_eq_true, false_imp_iff, true_imp_iff, true_and, and_true, imp_self, forall_eq, reduceIte, Nat.reduceMul, Nat.reduceAdd, Nat.reduceSub]
        exact goF (no_can_far hq (Or.inr (Or.inr q4)))
      · have hb : b = true := by cases b with | false => exact absurd rfl q | true => rfl
        subst hb
        obtain ⟨a1, a2, a3⟩ := h5 rfl
        unfold w_gathered_112
        simp (disch := omega) only [ι_lit, ι_of, ι_add, ι_mul, ι_lt, ι_le, ι_eq, ι_cl, ι_rem, ι_div, ι_vin, ι_ne1', ι_1ne', ι_1lt', ι_lt1', ι_1le', ι_le1', ι_sub', ι_sub, upN, upE, Nat.reduceEqDiff, ne_eq, not_true_eq_false, not_false_eq_true, false_imp_iff, true_imp_iff, true_and, and_true, imp_self, forall_eq, reduceIte, Nat.reduceMul, Nat.reduceAdd, Nat.reduceSub]
        refine s_keyOf (t := (x, y, z, F x y z)) rfl rfl rfl ?_
        refine ih (i + 1) true (C ++ [(x, y, z, F x y z)]) (n + 1) _ (by omega) (by rw [List.length_append, List.length_singleton]; omega) (by omega) ((hr5.w (by simp) (by omega)).w (by simp) (by omega)) (fs_up2 (j := n) hf5 (by omega)) (fun a b' c ha hb hcc => ?_) (fun q => by cases q) (fun _ => ⟨?_, ?_, fun a b' c q v => ?_⟩)
        · rw [upN (by omega), upN (by omega)]; exact hcube a b' c ha hb hcc
        · refine col_app (col_mo a1 hvmo) (t := (x, y, z, F x y z)) (by show x ≤ 40 ∧ y ≤ 40 ∧ z ≤ 40; omega) rfl hq ⟨i, by omega, e6⟩ (fun j hj => ?_)
          rcases hold a1 j hj (x, y, z, F x y z) rfl rfl rfl with w | w
          · exact w
          · omega
        · intro j _ hj
          rw [List.length_append, List.length_singleton] at hj
          simp (disch := omega) only [ι_lit, ι_of, ι_add, ι_mul, ι_lt, ι_le, ι_eq, ι_cl, ι_rem, ι_div, ι_vin, ι_ne1', ι_1ne', ι_1lt', ι_lt1', ι_1le', ι_le1', ι_sub', ι_sub, upN, upE, Nat.reduceEqDiff, ne_eq, not_true_eq_false, not_false_eq_true, false_imp_iff, true_imp_iff, true_and, and_true, imp_self, forall_eq, reduceIte, Nat.reduceMul, Nat.reduceAdd, Nat.reduceSub]
          by_cases e : j = n
          · rw [if_pos (by omega), if_pos (by omega), e, hn, tm_app_r]
            exact ⟨rfl, rfl⟩
          · rw [if_neg (by omega), if_neg (by omega), tm_app_l (by omega)]
            exact a2 j (by omega) (by omega)
        · obtain ⟨j, hj, e⟩ := v
          by_cases e2 : j = i
          · subst e2
            obtain ⟨q1, q2, q3, -⟩ := g6 a b' c q
            rw [e6, ι_eq (by omega) (by have := c81_lt q1 q2 q3; omega)] at e
            obtain ⟨rfl, rfl, rfl⟩ := c81_inj ⟨hy, hz⟩ ⟨q2, q3⟩ e
            exact ⟨C.length, by rw [List.length_append, List.length_singleton]; omega, by rw [tm_app_r]; exact ⟨rfl, rfl, rfl⟩⟩
          · obtain ⟨j', hj', w⟩ := a3 a b' c q ⟨j, by omega, e⟩
            exact ⟨j', by rw [List.length_append]; omega, by rw [tm_app_l hj']; exact w⟩
theorem s_gathered {s p t : Nat} {x : Int32} {F : Nat → Nat → Nat → Nat} {R : RS} {K : Int32 → RS → Prop} (hx : x = ι s) (hs : s < 56) (ht : t ≤ 90600) (hpp : PrP p) (hG : Gt R p F t)
    (h : ∀ R', Fr R R' [2, 3, 4, 5] [7] → Fs R R' [s] → Gt R' p (fun _ _ _ => 0) 0 → (∀ L, Can p F L → Sl R' s L → K 1 R') ∧ ((¬ ∃ L, Can p F L) → K 0 R')) : wp_gathered x R K := by
  subst hx
  have hp := hpp.le
  unfold wp_gathered
  refine ⟨t + 1, ?_⟩
  refine s_gathered_l (R0 := R) hs ht hG (by omega) (fun R' h1 h2 h3 h4 => h R' h1 h2 ⟨(h1.2 1 (by simp)).trans hG.1, h3, fun x y z a b c => h4 _ (c81_lt a b c), fun _ _ _ => (by omega : 0 < p), fun i hi => by omega, fun x y z q => absurd rfl q⟩) (fun k hk => ⟨k / 6561, k / 81 % 81, k % 81, by omega, by omega, by omega, by unfold c81; omega⟩) t 0 true [] 0 R (by omega) rfl (by omega) (Fr.rf _ _ _) (Fs.rf _ _) (fun x y z a b c => ⟨fun ⟨j, hj, _⟩ => by omega, fun _ => hG.2.2.1 x y z a b c⟩) (fun q => by cases q) (fun _ => ⟨⟨fun j hj => by simp at hj, fun i j a b => by simp at b⟩, fun j a b => by simp at b, fun x y z q ⟨j, hj, _⟩ => by omega⟩)
