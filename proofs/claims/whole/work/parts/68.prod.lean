/-! Degrees of the class's polynomials; the highest exponents of a product. -/
theorem mx_ge {L : Po} {g : Tm → Nat} : ∀ {n i : Nat}, i < n → g (tm L i) + 1 ≤ mx L g n := by
  intro n
  induction n with
  | zero => intro i hi; omega
  | succ n ih =>
    intro i hi
    unfold mx
    by_cases e : i = n
    · subst e; split <;> omega
    · have := ih (i := i) (by omega)
      split <;> omega
theorem mx_ex {L : Po} {g : Tm → Nat} : ∀ {n : Nat}, 0 < n → ∃ i, i < n ∧ mx L g n = g (tm L i) + 1 := by
  intro n
  induction n with
  | zero => intro h; omega
  | succ n ih =>
    intro _
    unfold mx
    by_cases c : mx L g n < g (tm L n) + 1
    · rw [if_pos c]; exact ⟨n, by omega, rfl⟩
    · rw [if_neg c]
      by_cases e : n = 0
      · subst e
        exact absurd (by show (0 : Nat) < _; omega) c
      · obtain ⟨i, hi, h⟩ := ih (by omega)
        exact ⟨i, by omega, h⟩
/-- the same from the other end -/
def mxr (L : Po) (g : Tm → Nat) : Nat → Nat
  | 0 => 0
  | n + 1 => if mxr L g n < g (rt L n) + 1 then g (rt L n) + 1 else mxr L g n
theorem mxr_ge {L : Po} {g : Tm → Nat} : ∀ {n i : Nat}, i < n → g (rt L i) + 1 ≤ mxr L g n := by
  intro n
  induction n with
  | zero => intro i hi; omega
  | succ n ih =>
    intro i hi
    unfold mxr
    by_cases e : i = n
    · subst e; split <;> omega
    · have := ih (i := i) (by omega)
      split <;> omega
theorem mxr_ex {L : Po} {g : Tm → Nat} : ∀ {n : Nat}, 0 < n → ∃ i, i < n ∧ mxr L g n = g (rt L i) + 1 := by
  intro n
  induction n with
  | zero => intro h; omega
  | succ n ih =>
    intro _
    unfold mxr
    by_cases c : mxr L g n < g (rt L n) + 1
    · rw [if_pos c]; exact ⟨n, by omega, rfl⟩
    · rw [if_neg c]
      by_cases e : n = 0
      · subst e
        exact absurd (by show (0 : Nat) < _; omega) c
      · obtain ⟨i, hi, h⟩ := ih (by omega)
        exact ⟨i, by omega, h⟩
theorem mxr_mx (L : Po) (g : Tm → Nat) : mxr L g L.length = mx L g L.length := by
  by_cases e : L.length = 0
  · rw [e]; rfl
  · obtain ⟨i, hi, h1⟩ := mxr_ex (L := L) (g := g) (n := L.length) (by omega)
    obtain ⟨j, hj, h2⟩ := mx_ex (L := L) (g := g) (n := L.length) (by omega)
    have a := mx_ge (L := L) (g := g) (n := L.length) (i := L.length - 1 - i) (by omega)
    have b := mxr_ge (L := L) (g := g) (n := L.length) (i := L.length - 1 - j) (by omega)
    unfold rt at h1 b
    rw [show L.length - 1 - (L.length - 1 - j) = j by omega] at b
    omega
theorem c_degreeIn {M : Nat × Nat} {a p v : Nat} {y : Int32} {L : Po} {S : HS} {K : Int32 → HS → Prop} (hw : wf p L) (pa : PolyAt S a L) (hy : y = ι v) (hv : v < 3) (h : K (ιm (mx L (fun t => exv t v) L.length)) S) : wp_X6_degreeIn M a y S K := by
  subst hy
  have hle := hw.1
  obtain ⟨p1, p2, p3, p4, p5, p6, p7, p8, p9, p10, p11⟩ := pa
  have key : ∀ (k i : Nat), i + k = L.length → wl_X6_degreeIn_4 M K (k + 1) a (ι v) (ιm (mxr L (fun t => exv t v) i)) (ι i) S := by
    intro k
    induction k with
    | zero =>
      intro i hi
      show wb_X6_degreeIn_4 _ _ _ _ _ _ _ _
      unfold wb_X6_degreeIn_4
      rw [p9]
      simp (disch := omega) only [ι_lit, ι_of, ι_add, ι_mul, ι_lt, ι_le, ι_eq, ι_cl, ι_rem, ι_div, ι_vin, ι_ne1', ι_1ne', ι_1lt', ι_lt1', ι_1le', ι_le1', ι_sub', ι_sub, upN, upE, Nat.reduceEqDiff, ne_eq, not_true_eq_false, not_false_eq_true, false_imp_iff, true_imp_iff, true_and, and_true, imp_self, forall_eq, reduceIte, Nat.reduceMul, Nat.reduceAdd, Nat.reduceSub]
      refine ⟨p2, fun _ => ?_, fun q => absurd (by omega) q⟩
      rw [show i = L.length by omega, mxr_mx]; exact h
    | succ k ih =>
      intro i hi
      have hs := rt_sm hw (i := i) (by omega)
      have hb : mxr L (fun t => exv t v) i ≤ 41 := by
        by_cases e : i = 0
        · rw [e]; exact Nat.zero_le _
        · obtain ⟨j, hj, h1⟩ := mxr_ex (L := L) (g := fun t => exv t v) (n := i) (by omega)
          rw [h1]
          have := exv_le (rt_sm hw (i := j) (by omega)) v
          show exv (rt L j) v + 1 ≤ 41
          omega
      have hc := exv_le hs v
      show wb_X6_degreeIn_4 _ _ _ _ _ _ _ _
      unfold wb_X6_degreeIn_4
      rw [p9]
      simp (disch := omega) only [ι_lit, ι_of, ι_add, ι_mul, ι_lt, ι_le, ι_eq, ι_cl, ι_rem, ι_div, ι_vin, ι_ne1', ι_1ne', ι_1lt', ι_lt1', ι_1le', ι_le1', ι_sub', ι_sub, upN, upE, Nat.reduceEqDiff, ne_eq, not_true_eq_false, not_false_eq_true, false_imp_iff, true_imp_iff, true_and, and_true, imp_self, forall_eq, reduceIte, Nat.reduceMul, Nat.reduceAdd, Nat.reduceSub]
      refine ⟨p2, fun q => absurd q (by omega), fun _ => ⟨p2, a + 1, p3, p5, by rw [p7]; exact ι_in (by omega) (by omega), ?_⟩⟩
      refine c_exp hs (p11 i (by omega)).1 rfl hv ?_
      rw [ιm_next (by omega) (by omega)]
      exact ih (i + 1) (by omega)
  unfold wp_X6_degreeIn
  exact ⟨L.length + 1, key L.length 0 (by omega)⟩
/-- no number but 0 is a zero divisor -/
theorem pr_mul {p a b : Nat} (hp : PrP p) (ha : 0 < a) (ha2 : a < p) (hb : 0 < b) (hb2 : b < p) : a * b % p ≠ 0 := by
  have h2 : ∀ a, a < 2 → ∀ b, b < 2 → (a = 0 ∨ b = 0 ∨ ¬ a * b % 2 = 0) := by decide
  have h3 : ∀ a, a < 3 → ∀ b, b < 3 → (a = 0 ∨ b = 0 ∨ ¬ a * b % 3 = 0) := by decide
  have h5 : ∀ a, a < 5 → ∀ b, b < 5 → (a = 0 ∨ b = 0 ∨ ¬ a * b % 5 = 0) := by decide
  have h7 : ∀ a, a < 7 → ∀ b, b < 7 → (a = 0 ∨ b = 0 ∨ ¬ a * b % 7 = 0) := by decide
  have h11 : ∀ a, a < 11 → ∀ b, b < 11 → (a = 0 ∨ b = 0 ∨ ¬ a * b % 11 = 0) := by decide +kernel
  have h13 : ∀ a, a < 13 → ∀ b, b < 13 → (a = 0 ∨ b = 0 ∨ ¬ a * b % 13 = 0) := by decide +kernel
  have fin : (a = 0 ∨ b = 0 ∨ ¬ a * b % p = 0) → a * b % p ≠ 0 := fun q => by
    rcases q with q | q | q
    · omega
    · omega
    · exact q
  unfold PrP at hp
  rcases hp with r | r | r | r | r | r <;> subst r
  · exact fin (h2 a ha2 b hb2)
  · exact fin (h3 a ha2 b hb2)
  · exact fin (h5 a ha2 b hb2)
  · exact fin (h7 a ha2 b hb2)
  · exact fin (h11 a ha2 b hb2)
  · exact fin (h13 a ha2 b hb2)
def wt (v : Nat) (t : Tm) : Nat := exv t v * 100000 + k41 t
theorem max_ex (f : Nat → Nat) : ∀ n, 0 < n → ∃ i, i < n ∧ ∀ j, j < n → f j ≤ f i := by
  intro n
  induction n with
  | zero => intro h; omega
  | succ n ih =>
    intro _
    by_cases e : n = 0
    · subst e; exact ⟨0, by omega, fun j hj => by rw [show j = 0 by omega]; exact Nat.le_refl _⟩
    · obtain ⟨i, hi, h⟩ := ih (by omega)
      by_cases c : f i < f n
      · refine ⟨n, by omega, fun j hj => ?_⟩
        by_cases q : j = n
        · rw [q]; exact Nat.le_refl _
        · have := h j (by omega); omega
      · refine ⟨i, by omega, fun j hj => ?_⟩
        by_cases q : j = n
        · rw [q]; omega
        · exact h j (by omega)
theorem exv_add {s t : Tm} {x y z v : Nat} (hx : s.x + t.x = x) (hy : s.y + t.y = y) (hz : s.z + t.z = z) : exv s v + exv t v = if v = 0 then x else if v = 1 then y else z := by
  unfold exv
  split
  · exact hx
  · split
    · exact hy
    · exact hz
/-- the highest exponents never cancel -/
theorem pr_top {p v : Nat} {A B : Po} (hp : PrP p) (wa : wf p A) (wb : wf p B) (ha : 0 < A.length) (hb : 0 < B.length) : ∃ x y z, prF p A B x y z ≠ 0 ∧ (if v = 0 then x else if v = 1 then y else z) + 2 = mx A (fun t => exv t v) A.length + mx B (fun t => exv t v) B.length := by
  obtain ⟨i, hi, mi⟩ := max_ex (fun i => wt v (tm A i)) A.length ha
  obtain ⟨j, hj, mj⟩ := max_ex (fun i => wt v (tm B i)) B.length hb
  have ki : ∀ {C : Po} {q i : Nat}, wf p C → q < C.length → i < C.length → wt v (tm C q) = wt v (tm C i) → q = i := by
    intro C q i hw hq hi2 e
    have s1 := k41_lt (hw.sm hq)
    have s2 := k41_lt (hw.sm hi2)
    unfold wt at e
    have e2 : k41 (tm C q) = k41 (tm C i) := by omega
    rcases Nat.lt_trichotomy q i with r | r | r
    · have := hw.2.2 q i r hi2; omega
    · exact r
    · have := hw.2.2 i q r hq; omega
  have dA : mx A (fun t => exv t v) A.length = exv (tm A i) v + 1 := by
    obtain ⟨q, hq, e⟩ := mx_ex (L := A) (g := fun t => exv t v) (n := A.length) ha
    have g := mx_ge (L := A) (g := fun t => exv t v) (n := A.length) hi
    have m := mi q hq
    have s1 := k41_lt (wa.sm hq)
    have s2 := k41_lt (wa.sm hi)
    unfold wt at m
    have e : mx A (fun t => exv t v) A.length = exv (tm A q) v + 1 := e
    have g : exv (tm A i) v + 1 ≤ mx A (fun t => exv t v) A.length := g
    omega
  have dB : mx B (fun t => exv t v) B.length = exv (tm B j) v + 1 := by
    obtain ⟨q, hq, e⟩ := mx_ex (L := B) (g := fun t => exv t v) (n := B.length) hb
    have g := mx_ge (L := B) (g := fun t => exv t v) (n := B.length) hj
    have m := mj q hq
    have s1 := k41_lt (wb.sm hq)
    have s2 := k41_lt (wb.sm hj)
    unfold wt at m
    have e : mx B (fun t => exv t v) B.length = exv (tm B q) v + 1 := e
    have g : exv (tm B j) v + 1 ≤ mx B (fun t => exv t v) B.length := g
    omega
  refine ⟨(tm A i).x + (tm B j).x, (tm A i).y + (tm B j).y, (tm A i).z + (tm B j).z, ?_, ?_⟩
  · unfold prF prS
    rw [sumTo_single i hi (fun q hq ne => ?_)]
    · unfold qS
      rw [sumTo_single j hj (fun r hr ne => ?_), if_pos ⟨rfl, rfl, rfl⟩]
      · exact pr_mul hp (wa.2.1 i hi).2.2.2.1 (wa.2.1 i hi).2.2.2.2 (wb.2.1 j hj).2.2.2.1 (wb.2.1 j hj).2.2.2.2
      · rw [if_neg]
        rintro ⟨w1, w2, w3⟩
        apply ne
        have e : isAt (tm B r) (tm B j).x (tm B j).y (tm B j).z := ⟨by omega, by omega, by omega⟩
        refine ki wb hr hj ?_
        unfold wt exv k41
        rw [e.1, e.2.1, e.2.2]
    · unfold qS
      refine sumTo_zero (fun r hr => if_neg ?_)
      rintro ⟨w1, w2, w3⟩
      apply ne
      have m1 := mi q hq
      have m2 := mj r hr
      have hsum : wt v (tm A q) + wt v (tm B r) = wt v (tm A i) + wt v (tm B j) := by
        have e1 := exv_add (v := v) w1 w2 w3
        have e2 := exv_add (s := tm A i) (t := tm B j) (v := v) rfl rfl rfl
        unfold wt k41
        omega
      exact ki wa hq hi (by omega)
  · rw [dA, dB, ← exv_add (s := tm A i) (t := tm B j) (v := v) rfl rfl rfl]
    omega
/-- .. so a product that reaches too far is too much -/
theorem pr_far {p v : Nat} {A B : Po} (hp : PrP p) (wa : wf p A) (wb : wf p B) (ha : 0 < A.length) (hb : 0 < B.length) (hf : 42 < mx A (fun t => exv t v) A.length + mx B (fun t => exv t v) B.length) : ¬ ∃ L, Can p (prF p A B) L := by
  obtain ⟨x, y, z, hn, he⟩ := pr_top (v := v) hp wa wb ha hb
  refine no_can_far hn ?_
  by_cases c : v = 0
  · rw [if_pos c] at he; omega
  · rw [if_neg c] at he
    by_cases c2 : v = 1
    · rw [if_pos c2] at he; omega
    · rw [if_neg c2] at he; omega
