/-! Boxes. -/
/-- fill with zeros -/
theorem c_fill0 {M : Nat × Nat} {c n : Nat} {x : Int32} {S : HS} {K : Int32 → HS → Prop} (hc : hT S c = 21) (hn : n ≤ hN S c) (hN9 : hN S c ≤ 1000000) (hx : x = ι n) (h : ∀ S', Ext S S' (fun b _ => b = c) V0 → hX S' = hX S → hS S' = hS S → (∀ k, k < n → hI S' c k = ι 0) → (∀ k, n ≤ k → hI S' c k = hI S c k) → K 0 S') : wp_J7_fill_fda19 M c 0 x 0 S K := by
  subst hx
  have key : ∀ (k i : Nat) (S1 : HS), i + k = n → Ext S S1 (fun b _ => b = c) V0 → hX S1 = hX S → hS S1 = hS S → hT S1 c = 21 → hN S1 c = hN S c → (∀ j, j < i → hI S1 c j = ι 0) → (∀ j, i ≤ j → hI S1 c j = hI S c j) → wl_J7_fill_fda19_10 M K (k + 1) c (ι n) 0 (ι i) S1 := by
    intro k
    induction k with
    | zero =>
      intro i S1 hi e1 x1 s1 t1 n1 z1 o1
      show wb_J7_fill_fda19_10 _ _ _ _ _ _ _ _
      unfold wb_J7_fill_fda19_10
      simp (disch := omega) only [ι_lit, ι_of, ι_add, ι_mul, ι_lt, ι_le, ι_eq, ι_cl, ι_rem, ι_div, ι_vin, ι_ne1', ι_1ne', ι_1lt', ι_lt1', ι_1le', ι_le1', ι_sub', ι_sub, upN, upE, Nat.reduceEqDiff, ne_eq, not_true_eq_false, not_false_eq_true, false_imp_iff, true_imp_iff, true_and, and_true, imp_self, forall_eq, reduceIte, Nat.reduceMul, Nat.reduceAdd, Nat.reduceSub]
      exact ⟨fun _ => h S1 e1 x1 s1 (fun k hk => z1 k (by omega)) (fun k hk => o1 k (by omega)), fun q => absurd (by omega) q⟩
    | succ k ih =>
      intro i S1 hi e1 x1 s1 t1 n1 z1 o1
      show wb_J7_fill_fda19_10 _ _ _ _ _ _ _ _
      unfold wb_J7_fill_fda19_10
      refine ⟨fun q => absurd q (by simp (disch := omega) only [ι_lit, ι_of, ι_add, ι_mul, ι_lt, ι_le, ι_eq, ι_cl, ι_rem, ι_div, ι_vin, ι_ne1', ι_1ne', ι_1lt', ι_lt1', ι_1le', ι_le1', ι_sub', ι_sub, upN, upE, Nat.reduceEqDiff, ne_eq, not_true_eq_false, not_false_eq_true, false_imp_iff, true_imp_iff, true_and, and_true, imp_self, forall_eq, reduceIte, Nat.reduceMul, Nat.reduceAdd, Nat.reduceSub]; omega), fun _ => ⟨t1, by rw [n1]; exact ι_in (by omega) (by omega), ?_⟩⟩
      rw [ι_cl (by omega), show (1 : Int32) = ι 1 from rfl, ι_add]
      refine ih (i + 1) _ (by omega) (e1.sI rfl) x1 s1 t1 n1 (fun j hj => ?_) (fun j hj => ?_)
      · rw [sI_eq]
        by_cases e : j = i
        · rw [if_pos e]; rfl
        · rw [if_neg e]; exact z1 j (by omega)
      · rw [sI_eq, if_neg (by omega)]; exact o1 j (by omega)
  unfold wp_J7_fill_fda19 wp_J7_rangeCheck_23922
  refine ⟨Or.inl hc, ?_⟩
  simp (disch := omega) only [ι_lit, ι_of, ι_add, ι_mul, ι_lt, ι_le, ι_eq, ι_cl, ι_rem, ι_div, ι_vin, ι_ne1', ι_1ne', ι_1lt', ι_lt1', ι_1le', ι_le1', ι_sub', ι_sub, upN, upE, Nat.reduceEqDiff, ne_eq, not_true_eq_false, not_false_eq_true, false_imp_iff, true_imp_iff, true_and, and_true, imp_self, forall_eq, reduceIte, Nat.reduceMul, Nat.reduceAdd, Nat.reduceSub]
  refine ⟨fun _ => ⟨fun _ => ⟨fun _ => ⟨n + 1, key n 0 S (by omega) (Ext.rf _ _ _) rfl rfl hc rfl (fun j hj => by omega) (fun j _ => rfl)⟩, fun q => q hn⟩, fun q => q (Nat.zero_le _)⟩, fun q => q (Nat.zero_le _)⟩
/-- how long the cells become -/
def nl (u ln : Nat) : Nat := if u < (if 269001 < 2 * ln then 269001 else 2 * ln) then (if 269001 < 2 * ln then 269001 else 2 * ln) else u
theorem nl_ι {u ln : Nat} (hu : u ≤ 269001) : (if ι u < (if 269001 < 2 * ln then ι 269001 else ι (2 * ln)) then (if 269001 < 2 * ln then ι 269001 else ι (2 * ln)) else ι u) = ι (nl u ln) := by
  unfold nl
  by_cases c : 269001 < 2 * ln
  · rw [if_pos c, if_pos c]
    by_cases d : u < 269001
    · rw [if_pos ((ι_lt (by omega) (by omega)).mpr d), if_pos d]
    · rw [if_neg (fun q => d ((ι_lt (by omega) (by omega)).mp q)), if_neg d]
  · rw [if_neg c, if_neg c]
    by_cases d : u < 2 * ln
    · rw [if_pos ((ι_lt (by omega) (by omega)).mpr d), if_pos d]
    · rw [if_neg (fun q => d ((ι_lt (by omega) (by omega)).mp q)), if_neg d]
theorem nl_le {u ln : Nat} (hu : u ≤ 269001) : u ≤ nl u ln ∧ nl u ln ≤ 269001 ∧ (2 * ln ≤ nl u ln ∨ nl u ln = 269001) := by
  unfold nl
  split <;> split <;> omega
def Wo (h0 o c b k : Nat) : Prop := b = h0 + o ∨ (b = h0 + o + 2 ∧ k ≤ 1) ∨ b = c
def Vg (h0 o b k : Nat) : Prop := b = h0 + o ∧ k = 0
theorem cx_lt {X Y Z x y z : Nat} (hx : x ≤ X) (hy : y ≤ Y) (hz : z ≤ Z) : cx Y Z x y z < usd X Y Z := by
  unfold cx usd
  have h1 : y * (Z + 1) + z < (Y + 1) * (Z + 1) := by
    have := Nat.mul_le_mul_right (Z + 1) hy
    rw [Nat.succ_mul]; omega
  have h2 := Nat.mul_le_mul_right ((Y + 1) * (Z + 1)) hx
  rw [Nat.succ_mul (X)]
  omega
/-- a Box that is open: its exponents go up to X, Y, Z, its numbers are G; u of its cells are used -/
def Bu (h0 : Nat) (S : HS) (o X Y Z u : Nat) (G : Nat → Nat → Nat → Nat) : Prop := hI S (h0 + o + 2) 1 = ι (Z + 1) ∧ hI S (h0 + o + 2) 0 = ι ((Y + 1) * (Z + 1)) ∧ hI S (h0 + o) 1 = ι u ∧ usd X Y Z ≤ hN S (bxC h0 S o) ∧ usd X Y Z ≤ 269001 ∧ ∀ x y z, x ≤ X → y ≤ Y → z ≤ Z → hI S (bxC h0 S o) (cx Y Z x y z) = ι (G x y z)
abbrev Bo (h0 : Nat) (S : HS) (o X Y Z : Nat) (G : Nat → Nat → Nat → Nat) : Prop := Bu h0 S o X Y Z (usd X Y Z) G
/-- what opening a Box does -/
def Op (h0 : Nat) (S S' : HS) (o X Y Z : Nat) : Prop := Ext S S' (Wo h0 o (bxC h0 S o)) (Vg h0 o) ∧ Bo h0 S' o X Y Z (fun _ _ _ => 0) ∧ ((bxC h0 S' o = bxC h0 S o ∧ hP S' (h0 + o) 0 = hP S (h0 + o) 0 ∧ hX S' = hX S ∧ hS S' = hS S) ∨ (hP S' (h0 + o) 0 = some (hX S) ∧ hX S' = hX S + 1 ∧ hS S' = hS S + nl (usd X Y Z) (hN S (bxC h0 S o)) ∧ hT S' (hX S) = 21 ∧ hN S' (hX S) = nl (usd X Y Z) (hN S (bxC h0 S o)) ∧ hN S (bxC h0 S o) < usd X Y Z))
theorem c_open {M : Nat × Nat} {h0 o X Y Z : Nat} {x1 x2 x3 : Int32} {S : HS} {K : Int32 → HS → Prop} (h1 : x1 = ι X) (h2 : x2 = ι Y) (h3 : x3 = ι Z) (hX9 : X ≤ 80) (hY9 : Y ≤ 80) (hZ9 : Z ≤ 80) (hus : usd X Y Z ≤ 269001) (t0 : hT S (h0 + o) = 2) (p2 : hP S (h0 + o) 2 = some (h0 + o + 2)) (ts : hT S (h0 + o + 2) = 21) (ns : hN S (h0 + o + 2) = 3) (hb : Bx h0 S o) (hxo : h0 + o + 2 < hX S) (hc1 : bxC h0 S o ≠ h0 + o) (hc2 : bxC h0 S o ≠ h0 + o + 2) (r1 : hX S + 1 ≤ M.1) (r2 : hS S + 269001 ≤ M.2) (h : ∀ S', Op h0 S S' o X Y Z → K 0 S') : wp_X1_open M (h0 + o) x1 x2 x3 S K := by
  subst h1 h2 h3
  obtain ⟨p0, cX, tc, nc, -, -, -⟩ := hb
  unfold wp_X1_open
  have hne : ¬ h0 + o = h0 + o + 2 := by omega
  have hne2 : ¬ h0 + o + 2 = h0 + o := by omega
  generalize hcc : bxC h0 S o = c at *
  have hus' : (X + 1) * ((Y + 1) * (Z + 1)) ≤ 269001 := hus
  have hY1 : (Y + 1) * (Z + 1) ≤ 81 * 81 := Nat.mul_le_mul (by omega) (by omega)
  simp (disch := omega) only [ι_lit, ι_of, ι_add, ι_mul, ι_lt, ι_le, ι_eq, ι_cl, ι_rem, ι_div, ι_vin, ι_ne1', ι_1ne', ι_1lt', ι_lt1', ι_1le', ι_le1', ι_sub', ι_sub, upN, upE, Nat.reduceEqDiff, ne_eq, not_true_eq_false, not_false_eq_true, false_imp_iff, true_imp_iff, true_and, and_true, imp_self, forall_eq, reduceIte, Nat.reduceMul, Nat.reduceAdd, Nat.reduceSub, sI_P, sI_T, sI_N, sI_X, sI_S, sI_ne, sI_eq, sP_I, sP_T, sP_N, sP_X, sP_S, sP_ne, sP_eq, sR_P, sR_T, sR_N, sR_X, sR_S, sR_ne, sR_eq, nO_X, nO_S, nO_I1, nO_P1, nO_T1, nO_N1, nO_I2, nO_P2, nO_T2, nO_N2, Option.some.injEq, exists_eq_left', and_self, Nat.zero_add, t0, p2, ts, ns, p0, tc]
  rw [nl_ι hus', show (X + 1) * ((Y + 1) * (Z + 1)) = usd X Y Z from rfl]
  obtain ⟨n1, n2, n3⟩ := nl_le (ln := hN S c) hus
  -- the state behind the numbers
  generalize hS3 : sI (sI (sI S (h0 + o + 2) 1 (ι (Z + 1))) (h0 + o + 2) 0 (ι ((Y + 1) * (Z + 1)))) (h0 + o) 1 (ι (usd X Y Z)) = S3
  have e3 : Ext S S3 (Wo h0 o c) (Vg h0 o) := by
    rw [← hS3]
    exact (((Ext.rf S (Wo h0 o c) (Vg h0 o)).sI (Or.inr (Or.inl ⟨rfl, by omega⟩))).sI (Or.inr (Or.inl ⟨rfl, by omega⟩))).sI (Or.inl rfl)
  have a1 : hI S3 (h0 + o + 2) 1 = ι (Z + 1) := by rw [← hS3, sI_ne hne2, sI_eq, if_neg (by omega), sI_eq, if_pos rfl]
  have a2 : hI S3 (h0 + o + 2) 0 = ι ((Y + 1) * (Z + 1)) := by rw [← hS3, sI_ne hne2, sI_eq, if_pos rfl]
  have a3 : hI S3 (h0 + o) 1 = ι (usd X Y Z) := by rw [← hS3, sI_eq, if_pos rfl]
  have a4 : hX S3 = hX S := by rw [← hS3]; rfl
  have a5 : hS S3 = hS S := by rw [← hS3]; rfl
  have a6 : hT S3 = hT S := by rw [← hS3]; rfl
  have a7 : hN S3 = hN S := by rw [← hS3]; rfl
  have a8 : hP S3 = hP S := by rw [← hS3]; rfl
  refine ⟨Or.inl trivial, fun q => ?_, fun q => ⟨Or.inl trivial, ?_, ?_, r1, ?_, fun b9 S9 eb eS => ?_⟩⟩
  · refine c_fill0 (c := c) (n := usd X Y Z) (by rw [a6]; exact tc) (by rw [a7]; exact q) (by rw [a7]; omega) rfl (fun S' e4 x4 s4 z4 o4 => ?_)
    have ee := e4.2.2.1
    have hp4 : ∀ b k, b < hX S → hP S' b k = hP S b k := fun b k hb => by rw [(ee b (by omega)).2.2.2 k (fun c => c), a8]
    have hbc : bxC h0 S' o = c := by unfold bxC; rw [hp4 _ _ (by omega), p0]; rfl
    refine h S' ⟨?_, ⟨?_, ?_, ?_, ?_, hus, fun x y z hx hy hz => ?_⟩, Or.inl ⟨by rw [hbc, hcc], hp4 _ _ (by omega), by omega, by omega⟩⟩
    · rw [hcc]
      exact e3.tr (e4.mo (fun b k hb => Or.inr (Or.inr hb)) (fun b k hb => absurd hb (fun c => c)))
    · rw [(ee _ (by omega)).2.2.1 1 (fun c' => hc2 c'.symm)]; exact a1
    · rw [(ee _ (by omega)).2.2.1 0 (fun c' => hc2 c'.symm)]; exact a2
    · rw [(ee _ (by omega)).2.2.1 1 (fun c' => hc1 c'.symm)]; exact a3
    · rw [hbc, (ee c (by omega)).2.1, a7]; exact q
    · rw [hbc]; exact z4 _ (cx_lt hx hy hz)
  · exact ι_nn (by omega)
  · rw [ι_cl (by omega)]; omega
  · rw [ι_cl (by omega)]; omega
  · subst eb eS
    rw [ι_cl (by omega)]
    have g0 : ∀ b, b < hX S → ¬ b = hX S3 := fun b hb => by omega
    refine ⟨by rw [nO_T1 (g0 _ (by omega)), a6]; exact t0, ?_⟩
    have hbc : bxC h0 (sP (nO S3 21 (nl (usd X Y Z) (hN S c))) (h0 + o) 0 (some (hX S))) o = hX S := by unfold bxC; rw [sP_eq, if_pos rfl]; rfl
    refine h _ ⟨?_, ⟨?_, ?_, ?_, ?_, hus, fun x y z hx hy hz => ?_⟩, Or.inr ⟨?_, ?_, ?_, ?_, ?_, by rw [hcc]; omega⟩⟩
    · rw [hcc]
      exact (e3.nO).sP ⟨rfl, rfl⟩
    · rw [sP_I, nO_I1 (g0 _ (by omega))]; exact a1
    · rw [sP_I, nO_I1 (g0 _ (by omega))]; exact a2
    · rw [sP_I, nO_I1 (g0 _ (by omega))]; exact a3
    · rw [hbc, sP_N, ← a4, nO_N2]; exact n1
    · rw [hbc, sP_I, ← a4, nO_I2]; rfl
    · rw [sP_eq, if_pos rfl]
    · rw [sP_X, nO_X, a4]
    · rw [sP_S, nO_S, a5, hcc]
    · rw [sP_T, ← a4, nO_T2]
    · rw [sP_N, ← a4, nO_N2, hcc]
/-! Opening a Box keeps the state. -/
theorem CPg.go2 {h0 : Nat} {S S' : HS} {W V : Nat → Nat → Prop} {Q : List Sp} {B : Nat → Nat} (h : CPg h0 S Q B) (pk : PK h0 S S') (e : Ext S S' W V) (e0 : hP S' h0 11 = hP S h0 11) (hb : ∀ o, o = 12 ∨ o = 15 ∨ o = 39 ∨ o = 42 → hP S' (h0 + o) 0 = hP S (h0 + o) 0 ∨ hX S ≤ bxC h0 S' o) (hw : ∀ g, h0 + 56 ≤ g → (bxC h0 S 12 < g ∨ g + 9 < bxC h0 S 12) → (bxC h0 S 15 < g ∨ g + 9 < bxC h0 S 15) → (bxC h0 S 39 < g ∨ g + 9 < bxC h0 S 39) → (bxC h0 S 42 < g ∨ g + 9 < bxC h0 S 42) → ∀ f k, f ≤ 6 → ¬ W (g + f) k ∧ ¬ V (g + f) k) : CPg h0 S' Q B := by
  rcases h with ⟨q1, q2⟩ | ⟨g, q1, q2, q3, q4⟩
  · exact Or.inl ⟨by rw [e0]; exact q1, q2⟩
  · have hg := hw g q3.1 q4.1 q4.2.1 q4.2.2.1 q4.2.2.2
    have hx : g + 9 < hX S := q3.2.1
    have hbb : ∀ o, o = 12 ∨ o = 15 ∨ o = 39 ∨ o = 42 → (bxC h0 S o < g ∨ g + 9 < bxC h0 S o) → (bxC h0 S' o < g ∨ g + 9 < bxC h0 S' o) := fun o ho c => by
      rcases hb o ho with c2 | c2
      · rw [bxC.go c2]; exact c
      · omega
    refine Or.inr ⟨g, by rw [e0]; exact q1, q2, ?_, hbb 12 (by omega) q4.1, hbb 15 (by omega) q4.2.1, hbb 39 (by omega) q4.2.2.1, hbb 42 (by omega) q4.2.2.2⟩
    obtain ⟨w1, w2, w3, w4, w5, w6, w7⟩ := q3
    have ee := e.2.2.1
    refine ⟨w1, by have := e.1; omega, by rw [(ee g (by omega)).1]; exact w3, fun f f1 f2 => by rw [(ee g (by omega)).2.2.2 f (hg 0 f (by omega)).2]; exact w4 f f1 f2, fun f f1 f2 => by rw [(ee (g + f) (by omega)).1, (ee (g + f) (by omega)).2.1]; exact w5 f f1 f2, by rw [(ee g (by omega)).2.2.1 0 (hg 0 0 (by omega)).1]; exact w6, fun s hs => ?_⟩
    obtain ⟨u1, u2, u3, u4, u5, a, u6, u7, u8⟩ := w7 s hs
    have gi : ∀ f, f ≤ 6 → hI S' (g + f) s = hI S (g + f) s := fun f hf => (ee (g + f) (by omega)).2.2.1 s (hg f s hf).1
    rw [gi 1 (by omega), gi 2 (by omega), gi 3 (by omega), gi 4 (by omega), gi 5 (by omega)]
    exact ⟨u1, u2, u3, u4, u5, a, by rw [(ee (g + 6) (by omega)).2.2.2 s (hg 6 s (by omega)).2]; exact u6, u7, pk a _ u7 u8⟩
theorem vg_ptr {h0 o : Nat} (ho : o = 12 ∨ o = 15) : ∀ q ∈ ptrL, ¬ Vg h0 o (h0 + q.1) q.2.1 := by
  have h : ∀ q ∈ ptrL, (q.1 = 12 → q.2.1 ≠ 0) ∧ (q.1 = 15 → q.2.1 ≠ 0) := by decide
  intro q hq
  have := h q hq
  unfold Vg
  omega
section OPK
variable {h0 o X Y Z : Nat} {S S' : HS} (ho : o = 12 ∨ o = 15)
theorem Op.pk (ho : o = 12 ∨ o = 15) (h : Op h0 S S' o X Y Z) (hb : CBx h0 S) : PK h0 S S' := by
  refine PK.of h.1 (fun a L ka pa k => ?_)
  have hbo : Bx h0 S o := by rcases ho with rfl | rfl; exact hb.1.1; exact hb.1.2.1
  have q := bx_ka ka pa hbo (by omega)
  unfold Ka at ka
  unfold Wo Vg
  omega
theorem Op.tp (h : Op h0 S S' o X Y Z) (ht : CTop h0 S) : Tp S' := by
  have h60 := ht.1
  rcases h.2.2 with ⟨-, -, q, -⟩ | ⟨-, q, -, q2, -⟩
  · exact ht.tp h.1 q
  · unfold Tp
    rw [q, show hX S + 1 - 1 = hX S by omega, show hX S + 1 - 2 = hX S - 1 by omega, q2, (h.1.2.2.1 (hX S - 1) (by omega)).1]
    exact ⟨by decide, ht.2.2.2.2.1⟩
theorem Op.bx (ho : o = 12 ∨ o = 15) (h : Op h0 S S' o X Y Z) (ht : CTop h0 S) (hb : CBx h0 S) : CBx h0 S' := by
  have h60 := ht.1
  obtain ⟨e, hbo, hcase⟩ := h
  have same : ∀ o2, o2 ≠ o → o2 ≤ 42 → hP S' (h0 + o2) 0 = hP S (h0 + o2) 0 := fun o2 h1 h2 => (e.2.2.1 (h0 + o2) (by omega)).2.2.2 0 (by unfold Vg; omega)
  rcases hcase with ⟨c1, c2, -⟩ | ⟨c1, c2, c3, c4, c5, c6⟩
  · refine hb.go e (fun o2 ho2 => ?_)
    by_cases q : o2 = o
    · rw [q]; exact c2
    · exact same o2 q (by omega)
  · have hbc : bxC h0 S' o = hX S := by unfold bxC; rw [c1]; rfl
    have oth : ∀ o2, o2 ≠ o → o2 ≤ 42 → Bx h0 S o2 → Bx h0 S' o2 ∧ bxC h0 S' o2 = bxC h0 S o2 ∧ bxC h0 S o2 < hX S := fun o2 h1 h2 h3 => ⟨h3.go e (same o2 h1 h2), bxC.go (same o2 h1 h2), h3.2.1⟩
    have new : Bx h0 S' o := by
      unfold Bx
      rw [hbc, c1]
      have hlen := hbo.2.2.2.2.1
      obtain ⟨n1, n2, n3⟩ := nl_le (ln := hN S (bxC h0 S o)) hlen
      refine ⟨rfl, by omega, c4, by rw [c5]; exact n2, Or.inr (by omega), ?_, ?_⟩
      · rw [(e.2.2.1 (hX S - 1) (by omega)).1]; exact ht.2.2.2.2.1
      · rw [(e.2.2.1 (hX S - 2) (by omega)).1]; exact ht.2.2.2.2.2
    obtain ⟨⟨b1, b2, b3, b4⟩, d1, d2, d3, d4, d5, d6⟩ := hb
    rcases ho with rfl | rfl
    · obtain ⟨f2, g2, k2⟩ := oth 15 (by omega) (by omega) b2
      obtain ⟨f3, g3, k3⟩ := oth 39 (by omega) (by omega) b3
      obtain ⟨f4, g4, k4⟩ := oth 42 (by omega) (by omega) b4
      refine ⟨⟨new, f2, f3, f4⟩, ?_⟩
      rw [hbc, g2, g3, g4]
      omega
    · obtain ⟨f1, g1, k1⟩ := oth 12 (by omega) (by omega) b1
      obtain ⟨f3, g3, k3⟩ := oth 39 (by omega) (by omega) b3
      obtain ⟨f4, g4, k4⟩ := oth 42 (by omega) (by omega) b4
      refine ⟨⟨f1, new, f3, f4⟩, ?_⟩
      rw [hbc, g1, g3, g4]
      omega
theorem Op.bs {p : Nat} (ho : o = 12 ∨ o = 15) (h : Op h0 S S' o X Y Z) (hb : Bs h0 S p) : Bs h0 S' p := by
  obtain ⟨c1, c2, c3, c4, c5⟩ := hb
  have h60 := c2.1
  have hbo : bxC h0 S o = h0 + o + 1 ∨ h0 + 58 ≤ bxC h0 S o := by rcases ho with rfl | rfl; exact c3.1.1.2.2.2.2.1; exact c3.1.2.1.2.2.2.2.1
  refine ⟨c1.go c2.1 h.1 (vg_ptr ho), c2.go h.1 (h.pk ho c3) (h.tp c2), h.bx ho c2 c3, ?_, c5⟩
  rw [(h.1.2.2.1 (h0 + 5) (by omega)).2.2.1 0 (by unfold Wo; omega)]; exact c4
theorem Op.cir {X0 S0 : Nat} {g : Gh} (h : Op h0 S S' o X Y Z) (hu : (o = 12 ∧ usd X Y Z ≤ 68921) ∨ o = 15) (hc : CIr h0 X0 S0 S g) : CIr h0 (X0 + 1) S0 S' g := by
  obtain ⟨p, P, A, T, Tx, ft, Q, B⟩ := g
  obtain ⟨c1, c2, c3, c4, c5, c6, c7, c8, c9, c10, c11, c12⟩ := hc
  have ho : o = 12 ∨ o = 15 := by omega
  have h60 := c2.1
  have pk := h.pk ho c10
  have hbx := h.bx ho c2 c10
  have b12 := c10.1.1.2.2.2.2.1
  have b15 := c10.1.2.1.2.2.2.2.1
  have hbo : bxC h0 S o = h0 + o + 1 ∨ h0 + 58 ≤ bxC h0 S o := by rcases ho with rfl | rfl; exact b12; exact b15
  have hd : bxC h0 S 39 ≠ bxC h0 S o := by rcases ho with rfl | rfl; exact fun q => c10.2.2.1 q.symm; exact fun q => c10.2.2.2.2.1 q.symm
  have e := h.1
  have nI : ∀ b k, b < hX S → ¬ Wo h0 o (bxC h0 S o) b k → hI S' b k = hI S b k := fun b k hb w => (e.2.2.1 b hb).2.2.1 k w
  have nP : ∀ b k, b < hX S → ¬ Vg h0 o b k → hP S' b k = hP S b k := fun b k hb w => (e.2.2.1 b hb).2.2.2 k w
  have pb : ∀ o2, o2 = 12 ∨ o2 = 15 ∨ o2 = 39 ∨ o2 = 42 → hP S' (h0 + o2) 0 = hP S (h0 + o2) 0 ∨ hX S ≤ bxC h0 S' o2 := fun o2 ho2 => by
    by_cases q : o2 = o
    · subst q
      rcases h.2.2 with ⟨-, c, -⟩ | ⟨c, -⟩
      · exact Or.inl c
      · exact Or.inr (by unfold bxC; rw [c]; exact Nat.le_refl _)
    · exact Or.inl (nP _ _ (by omega) (by unfold Vg; omega))
  refine ⟨c1.go c2.1 e (vg_ptr ho), c2.go e pk (h.tp c2), by rw [nI _ _ (by omega) (by unfold Wo; omega)]; exact c3, c4.go pk (fun k hk => nP _ _ (by omega) (by unfold Vg; omega)), c5.go pk (fun k => nI _ _ (by omega) (by unfold Wo; omega)) (fun k => nI _ _ (by omega) (by unfold Wo; omega)) (fun k => nP _ _ (by omega) (by unfold Vg; omega)), c6.go (nI _ _ (by omega) (by unfold Wo; omega)) (fun i => nI _ _ (by omega) (by unfold Wo; omega)), c7.go (nI _ _ (by omega) (by unfold Wo; omega)) (fun i => nI _ _ (by omega) (by unfold Wo; omega)), by rw [nI _ _ (by omega) (by unfold Wo; omega)]; exact c8, c9.go2 pk e (nP _ _ (by omega) (by unfold Vg; omega)) pb (fun g hg s1 s2 s3 s4 f k hf => ?_), hbx, c11.go (e.2.2.1 _ c10.1.2.2.1.2.1).2.1 pk (nP _ _ (by omega) (by unfold Vg; omega)) (nP _ _ (by omega) (by unfold Vg; omega)) (fun k => nI _ _ (by omega) (by unfold Wo; omega)) (fun k => nI _ _ (by omega) (by unfold Wo; omega)) (fun k => nI _ _ (by omega) (by unfold Wo; omega)) (nI _ _ (by omega) (by unfold Wo; omega)) (nI _ _ (by omega) (by unfold Wo; omega)) (fun k => nI _ _ c10.1.2.2.1.2.1 (by have := c10.1.2.2.1.2.2.2.2.1; unfold Wo; omega)), ?_⟩
  · have : bxC h0 S o < g ∨ g + 9 < bxC h0 S o := by rcases ho with rfl | rfl; exact s1; exact s2
    unfold Wo Vg
    omega
  · obtain ⟨q0, b1, b2, b3, b4, q1, q2, q3, q4, q5, q6, q7, q8⟩ := c12
    have keep : ∀ o2, o2 ≠ o → (o2 = 12 ∨ o2 = 15 ∨ o2 = 39 ∨ o2 = 42) → Bx h0 S o2 → hN S' (bxC h0 S' o2) = hN S (bxC h0 S o2) := fun o2 h1 h2 h3 => by
      rw [bxC.go (nP _ _ (by omega) (by unfold Vg; omega)), (e.2.2.1 _ h3.2.1).2.1]
    have k39 := keep 39 (by omega) (by omega) c10.1.2.2.1
    have k42 := keep 42 (by omega) (by omega) c10.1.2.2.2
    rcases h.2.2 with ⟨a1, a2, a3, a4⟩ | ⟨a1, a2, a3, a4, a5, a6⟩
    · have ko : hN S' (bxC h0 S' o) = hN S (bxC h0 S o) := by
        have hbb : Bx h0 S o := by rcases ho with rfl | rfl; exact c10.1.1; exact c10.1.2.1
        rw [a1, (e.2.2.1 _ hbb.2.1).2.1]
      refine ⟨by omega, b1, b2, b3, b4, by omega, ?_⟩
      rcases ho with rfl | rfl
      · have k15 := keep 15 (by omega) (by omega) c10.1.2.1
        rw [ko, k15, k39, k42]; exact ⟨q2, q3, q4, q5, q6, q7, q8⟩
      · have k12 := keep 12 (by omega) (by omega) c10.1.1
        rw [ko, k12, k39, k42]; exact ⟨q2, q3, q4, q5, q6, q7, q8⟩
    · have hbc : bxC h0 S' o = hX S := by unfold bxC; rw [a1]; rfl
      have hlen := h.2.1.2.2.2.2.1
      obtain ⟨n1, n2, n3⟩ := nl_le (ln := hN S (bxC h0 S o)) hlen
      rcases hu with ⟨rfl, hu⟩ | rfl
      · have k15 := keep 15 (by omega) (by omega) c10.1.2.1
        have hnl : nl (usd X Y Z) (hN S (bxC h0 S 12)) ≤ 137842 ∧ 2 * hN S (bxC h0 S 12) ≤ nl (usd X Y Z) (hN S (bxC h0 S 12)) := by
          unfold nl
          split <;> split <;> omega
        refine ⟨by omega, b1 + nl (usd X Y Z) (hN S (bxC h0 S 12)), b2, b3, b4, by omega, ?_⟩
        rw [hbc, a5, k15, k39, k42]
        exact ⟨by omega, hnl.1, q4, q5, q6, q7, q8⟩
      · have k12 := keep 12 (by omega) (by omega) c10.1.1
        refine ⟨by omega, b1, b2 + nl (usd X Y Z) (hN S (bxC h0 S 15)), b3, b4, by omega, ?_⟩
        rw [hbc, a5, k12, k39, k42]
        refine ⟨q2, q3, ?_, q5, q6, q7, q8⟩
        rcases q4 with q4 | q4
        · rcases n3 with n3 | n3
          · exact Or.inl (by omega)
          · exact Or.inr ⟨n3, by omega⟩
        · omega
end OPK
