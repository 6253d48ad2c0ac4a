/-! The reference's small methods. -/
def PrP (p : Nat) : Prop := p = 2 ∨ p = 3 ∨ p = 5 ∨ p = 7 ∨ p = 11 ∨ p = 13
theorem PrP.le {p : Nat} (h : PrP p) : 2 ≤ p ∧ p ≤ 13 := by unfold PrP at h; omega
def exv (t : Tm) (v : Nat) : Nat := if v = 0 then t.x else if v = 1 then t.y else t.z
abbrev sm (t : Tm) : Prop := t.x ≤ 40 ∧ t.y ≤ 40 ∧ t.z ≤ 40
theorem k41_lt {t : Tm} (h : sm t) : k41 t < 68921 := by unfold k41; omega
theorem k6_lt {t : Tm} (h : sm t) : k6 t < 167000 := by unfold k6; omega
theorem wf.sm {p : Nat} {L : Po} (h : wf p L) {i : Nat} (hi : i < L.length) : sm (tm L i) := ⟨(h.2.1 i hi).1, (h.2.1 i hi).2.1, (h.2.1 i hi).2.2.1⟩
theorem s_isIn {a b c : Nat} {x y w : Int32} {R : RS} {K : Int32 → RS → Prop} (hx : x = ι a) (hy : y = ι b) (hw : w = ι c) (ha : a < 2147483648) (hb : b < 2147483648) (hc : c < 2147483648) (h : K (if b ≤ a ∧ a ≤ c then 1 else 0) R) : wp_isIn x y w R K := by
  subst hx hy hw
  unfold wp_isIn
  simp (disch := omega) only [ι_lit, ι_of, ι_add, ι_mul, ι_lt, ι_le, ι_eq, ι_cl, ι_rem, ι_div, ι_vin, ι_ne1', ι_1ne', ι_1lt', ι_lt1', ι_1le', ι_le1', ι_sub', ι_sub, upN, upE, Nat.reduceEqDiff, ne_eq, not_true_eq_false, not_false_eq_true, false_imp_iff, true_imp_iff, true_and, and_true, imp_self, forall_eq, reduceIte, Nat.reduceMul, Nat.reduceAdd, Nat.reduceSub]
  refine ⟨fun q => ?_, fun q => ⟨fun r => ?_, fun r => ?_⟩⟩
  · rwa [if_neg (by omega)] at h
  · rwa [if_neg (by omega)] at h
  · rwa [if_pos (by omega)] at h
/-- an int between two small numbers, or not -/
theorem s_isInB {x : Int32} {b c : Nat} {y w : Int32} {R : RS} {K : Int32 → RS → Prop} (hy : y = ι b) (hw : w = ι c) (hb : b < 2147483648) (hc : c < 2147483648) (h1 : ∀ a, b ≤ a → a ≤ c → x = ι a → K 1 R) (h0 : (∀ a, b ≤ a → a ≤ c → ¬ x = ι a) → K 0 R) : wp_isIn x y w R K := by
  subst hy hw
  unfold wp_isIn
  by_cases hn : x < 0
  · have h2 : ∀ a, b ≤ a → a ≤ c → ¬ x = ι a := fun a _ h4 e => by
      rw [e] at hn
      exact ι_nn (by omega) hn
    refine ⟨fun _ => h0 h2, fun _ => ⟨fun _ => h0 h2, fun q => ?_⟩⟩
    exfalso
    rename_i q1
    rw [Int32.lt_iff_toInt_lt, ι_int hb] at q1
    rw [Int32.lt_iff_toInt_lt, show (0 : Int32).toInt = 0 from rfl] at hn
    omega
  · obtain ⟨a, ha, rfl⟩ := ι_ex hn
    simp (disch := omega) only [ι_lit, ι_of, ι_add, ι_mul, ι_lt, ι_le, ι_eq, ι_cl, ι_rem, ι_div, ι_vin, ι_ne1', ι_1ne', ι_1lt', ι_lt1', ι_1le', ι_le1', ι_sub', ι_sub, upN, upE, Nat.reduceEqDiff, ne_eq, not_true_eq_false, not_false_eq_true, false_imp_iff, true_imp_iff, true_and, and_true, imp_self, forall_eq, reduceIte, Nat.reduceMul, Nat.reduceAdd, Nat.reduceSub]
    refine ⟨fun q => h0 (fun a' h3 h4 e => ?_), fun q => ⟨fun r => h0 (fun a' h3 h4 e => ?_), fun r => h1 a (by omega) (by omega) rfl⟩⟩
    · rw [ι_eq (by omega) (by omega)] at e; omega
    · rw [ι_eq (by omega) (by omega)] at e; omega
theorem s_mod {a p : Nat} {x : Int32} {R : RS} {K : Int32 → RS → Prop} (hp : R 0 1 = ι p) (hpp : PrP p) (hx : x = ι a) (ha : a < 2147483648) (h : K (ι (a % p)) R) : wp_mod x R K := by
  have := hpp.le
  subst hx
  unfold wp_mod
  have := Nat.mod_lt a (show 0 < p by omega)
  simp (disch := omega) only [ι_lit, ι_of, ι_add, ι_mul, ι_lt, ι_le, ι_eq, ι_cl, ι_rem, ι_div, ι_vin, ι_ne1', ι_1ne', ι_1lt', ι_lt1', ι_1le', ι_le1', ι_sub', ι_sub, upN, upE, Nat.reduceEqDiff, ne_eq, not_true_eq_false, not_false_eq_true, false_imp_iff, true_imp_iff, true_and, and_true, imp_self, forall_eq, reduceIte, Nat.reduceMul, Nat.reduceAdd, Nat.reduceSub, hp]
  exact ⟨by omega, fun _ => h, fun q => absurd (Nat.zero_le _) q⟩
theorem s_ex {t : Tm} {v : Nat} {x w : Int32} {R : RS} {K : Int32 → RS → Prop} (ht : sm t) (hx : x = ι (k41 t)) (hw : w = ι v) (hv : v < 3) (h : K (ι (exv t v)) R) : wp_ex x w R K := by
  subst hx hw
  have hk := k41_lt ht
  unfold wp_ex
  simp (disch := omega) only [ι_lit, ι_of, ι_add, ι_mul, ι_lt, ι_le, ι_eq, ι_cl, ι_rem, ι_div, ι_vin, ι_ne1', ι_1ne', ι_1lt', ι_lt1', ι_1le', ι_le1', ι_sub', ι_sub, upN, upE, Nat.reduceEqDiff, ne_eq, not_true_eq_false, not_false_eq_true, false_imp_iff, true_imp_iff, true_and, and_true, imp_self, forall_eq, reduceIte, Nat.reduceMul, Nat.reduceAdd, Nat.reduceSub]
  unfold exv at h
  have e0 : k41 t / 1681 = t.x := by unfold k41; omega
  have e1 : k41 t / 41 % 41 = t.y := by unfold k41; omega
  have e2 : k41 t % 41 = t.z := by unfold k41; omega
  rw [e0, e1, e2]
  refine ⟨fun q => ⟨fun r => ?_, fun r => ?_⟩, fun q => ?_⟩
  · rwa [if_neg q, if_neg r] at h
  · rwa [if_neg q, if_pos r] at h
  · rwa [if_pos q] at h
def dgt (t : Tm) : Nat := t.x + t.y + t.z
theorem s_degreeOfKey {t : Tm} {x : Int32} {R : RS} {K : Int32 → RS → Prop} (ht : sm t) (hx : x = ι (k41 t)) (h : K (ι (dgt t)) R) : wp_degreeOfKey x R K := by
  unfold wp_degreeOfKey
  refine s_ex ht hx (v := 0) rfl (by omega) (s_ex ht hx (v := 1) rfl (by omega) (s_ex ht hx (v := 2) rfl (by omega) ?_))
  simp (disch := omega) only [ι_lit, ι_of, ι_add, ι_mul, ι_lt, ι_le, ι_eq, ι_cl, ι_rem, ι_div, ι_vin, ι_ne1', ι_1ne', ι_1lt', ι_lt1', ι_1le', ι_le1', ι_sub', ι_sub, upN, upE, Nat.reduceEqDiff, ne_eq, not_true_eq_false, not_false_eq_true, false_imp_iff, true_imp_iff, true_and, and_true, imp_self, forall_eq, reduceIte, Nat.reduceMul, Nat.reduceAdd, Nat.reduceSub]
  exact h
theorem s_keyOf {t : Tm} {x y w : Int32} {R : RS} {K : Int32 → RS → Prop} (hx : x = ι t.x) (hy : y = ι t.y) (hw : w = ι t.z) (h : K (ι (k41 t)) R) : wp_keyOf x y w R K := by
  subst hx hy hw
  unfold wp_keyOf
  simp (disch := omega) only [ι_lit, ι_of, ι_add, ι_mul, ι_lt, ι_le, ι_eq, ι_cl, ι_rem, ι_div, ι_vin, ι_ne1', ι_1ne', ι_1lt', ι_lt1', ι_1le', ι_le1', ι_sub', ι_sub, upN, upE, Nat.reduceEqDiff, ne_eq, not_true_eq_false, not_false_eq_true, false_imp_iff, true_imp_iff, true_and, and_true, imp_self, forall_eq, reduceIte, Nat.reduceMul, Nat.reduceAdd, Nat.reduceSub]
  exact h
theorem s_keyAt {s i : Nat} {x y : Int32} {R : RS} {K : Int32 → RS → Prop} (hx : x = ι s) (hy : y = ι i) (hs : s < 56) (hi : i < 300) (h : K (R 3 (300 * s + i)) R) : wp_keyAt x y R K := by
  subst hx hy
  unfold wp_keyAt
  simp (disch := omega) only [ι_lit, ι_of, ι_add, ι_mul, ι_lt, ι_le, ι_eq, ι_cl, ι_rem, ι_div, ι_vin, ι_ne1', ι_1ne', ι_1lt', ι_lt1', ι_1le', ι_le1', ι_sub', ι_sub, upN, upE, Nat.reduceEqDiff, ne_eq, not_true_eq_false, not_false_eq_true, false_imp_iff, true_imp_iff, true_and, and_true, imp_self, forall_eq, reduceIte, Nat.reduceMul, Nat.reduceAdd, Nat.reduceSub]
  exact h
theorem s_numAt {s i : Nat} {x y : Int32} {R : RS} {K : Int32 → RS → Prop} (hx : x = ι s) (hy : y = ι i) (hs : s < 56) (hi : i < 300) (h : K (R 4 (300 * s + i)) R) : wp_numAt x y R K := by
  subst hx hy
  unfold wp_numAt
  simp (disch := omega) only [ι_lit, ι_of, ι_add, ι_mul, ι_lt, ι_le, ι_eq, ι_cl, ι_rem, ι_div, ι_vin, ι_ne1', ι_1ne', ι_1lt', ι_lt1', ι_1le', ι_le1', ι_sub', ι_sub, upN, upE, Nat.reduceEqDiff, ne_eq, not_true_eq_false, not_false_eq_true, false_imp_iff, true_imp_iff, true_and, and_true, imp_self, forall_eq, reduceIte, Nat.reduceMul, Nat.reduceAdd, Nat.reduceSub]
  exact h
/-- slot s holds the polynomial L -/
def Sl (R : RS) (s : Nat) (L : Po) : Prop := R 2 s = ι L.length ∧ ∀ i, i < L.length → R 3 (300 * s + i) = ι (k41 (tm L i)) ∧ R 4 (300 * s + i) = ι (tm L i).n
theorem s_copy_l {a b : Nat} {L : Po} {K : Int32 → RS → Prop} {R0 : RS} (ha : a < 56) (hb : b < 56) (hab : a ≠ b) (hL : L.length ≤ 300) (h : ∀ R', (∀ f, f ≠ 3 → f ≠ 4 → R' f = R0 f) → (∀ f k, (k < 300 * a ∨ 300 * a + 300 ≤ k) → R' f k = R0 f k) → Sl R' b L → (∀ i, i < L.length → R' 3 (300 * a + i) = ι (k41 (tm L i)) ∧ R' 4 (300 * a + i) = ι (tm L i).n) → K 0 R') :
    ∀ (k i : Nat) (R : RS), i + k = L.length → (∀ f, f ≠ 3 → f ≠ 4 → R f = R0 f) → (∀ f k, (k < 300 * a ∨ 300 * a + 300 ≤ k) → R f k = R0 f k) → Sl R b L → (∀ j, j < i → R 3 (300 * a + j) = ι (k41 (tm L j)) ∧ R 4 (300 * a + j) = ι (tm L j).n) → wl_copy_14 K (k + 1) (ι a) (ι b) (ι i) R := by
  intro k
  induction k with
  | zero =>
    intro i R hi h1 h2 h3 h4
    show wb_copy_14 _ _ _ _ _ _
    unfold wb_copy_14
    simp (disch := omega) only [ι_lit, ι_of, ι_add, ι_mul, ι_lt, ι_le, ι_eq, ι_cl, ι_rem, ι_div, ι_vin, ι_ne1', ι_1ne', ι_1lt', ι_lt1', ι_1le', ι_le1', ι_sub', ι_sub, upN, upE, Nat.reduceEqDiff, ne_eq, not_true_eq_false, not_false_eq_true, false_imp_iff, true_imp_iff, true_and, and_true, imp_self, forall_eq, reduceIte, Nat.reduceMul, Nat.reduceAdd, Nat.reduceSub, h3.1]
    refine ⟨fun _ => h R h1 h2 h3 (fun j hj => h4 j (by omega)), fun q => absurd (by omega) q⟩
  | succ k ih =>
    intro i R hi h1 h2 h3 h4
    show wb_copy_14 _ _ _ _ _ _
    unfold wb_copy_14
    simp (disch := omega) only [ι_lit, ι_of, ι_add, ι_mul, ι_lt, ι_le, ι_eq, ι_cl, ι_rem, ι_div, ι_vin, ι_ne1', ι_1ne', ι_1lt', ι_lt1', ι_1le', ι_le1', ι_sub', ι_sub, upN, upE, Nat.reduceEqDiff, ne_eq, not_true_eq_false, not_false_eq_true, false_imp_iff, true_imp_iff, true_and, and_true, imp_self, forall_eq, reduceIte, Nat.reduceMul, Nat.reduceAdd, Nat.reduceSub, h3.1]
    refine ⟨fun q => by omega, fun q => ?_⟩
    refine s_keyAt rfl rfl hb (by omega) ?_
    rw [(h3.2 i (by omega)).1]
    refine s_numAt rfl rfl hb (by omega) ?_
    simp (disch := omega) only [ι_lit, ι_of, ι_add, ι_mul, ι_lt, ι_le, ι_eq, ι_cl, ι_rem, ι_div, ι_vin, ι_ne1', ι_1ne', ι_1lt', ι_lt1', ι_1le', ι_le1', ι_sub', ι_sub, upN, upE, Nat.reduceEqDiff, ne_eq, not_true_eq_false, not_false_eq_true, false_imp_iff, true_imp_iff, true_and, and_true, imp_self, forall_eq, reduceIte, Nat.reduceMul, Nat.reduceAdd, Nat.reduceSub]
    rw [(h3.2 i (by omega)).2]
    refine ih (i + 1) _ (by omega) (fun f g1 g2 => ?_) (fun f k hk => ?_) ⟨?_, fun j hj => ?_⟩ (fun j hj => ?_)
    · rw [upN g2, upN g1]; exact h1 f g1 g2
    · by_cases e4 : f = 4
      · subst e4; rw [upE, if_neg (by omega), upN (by omega)]; exact h2 _ _ hk
      · rw [upN e4]
        by_cases e3 : f = 3
        · subst e3; rw [upE, if_neg (by omega)]; exact h2 _ _ hk
        · rw [upN e3]; exact h2 _ _ hk
    · simp (disch := omega) only [ι_lit, ι_of, ι_add, ι_mul, ι_lt, ι_le, ι_eq, ι_cl, ι_rem, ι_div, ι_vin, ι_ne1', ι_1ne', ι_1lt', ι_lt1', ι_1le', ι_le1', ι_sub', ι_sub, upN, upE, Nat.reduceEqDiff, ne_eq, not_true_eq_false, not_false_eq_true, false_imp_iff, true_imp_iff, true_and, and_true, imp_self, forall_eq, reduceIte, Nat.reduceMul, Nat.reduceAdd, Nat.reduceSub]; exact h3.1
    · simp (disch := omega) only [ι_lit, ι_of, ι_add, ι_mul, ι_lt, ι_le, ι_eq, ι_cl, ι_rem, ι_div, ι_vin, ι_ne1', ι_1ne', ι_1lt', ι_lt1', ι_1le', ι_le1', ι_sub', ι_sub, upN, upE, Nat.reduceEqDiff, ne_eq, not_true_eq_false, not_false_eq_true, false_imp_iff, true_imp_iff, true_and, and_true, imp_self, forall_eq, reduceIte, Nat.reduceMul, Nat.reduceAdd, Nat.reduceSub]
      rw [if_neg (by omega), if_neg (by omega)]
      exact h3.2 j hj
    · simp (disch := omega) only [ι_lit, ι_of, ι_add, ι_mul, ι_lt, ι_le, ι_eq, ι_cl, ι_rem, ι_div, ι_vin, ι_ne1', ι_1ne', ι_1lt', ι_lt1', ι_1le', ι_le1', ι_sub', ι_sub, upN, upE, Nat.reduceEqDiff, ne_eq, not_true_eq_false, not_false_eq_true, false_imp_iff, true_imp_iff, true_and, and_true, imp_self, forall_eq, reduceIte, Nat.reduceMul, Nat.reduceAdd, Nat.reduceSub]
      by_cases e : j = i
      · subst e; rw [if_pos rfl, if_pos rfl]; exact ⟨rfl, rfl⟩
      · rw [if_neg (by omega), if_neg (by omega)]; exact h4 j (by omega)
/-! What the reference changes: fields fs, single numbers ks, slots ts. -/
def Fr (R R' : RS) (fs ks : List Nat) : Prop := (∀ f, f ≠ 0 → f ∉ fs → R' f = R f) ∧ ∀ k, k ∉ ks → R' 0 k = R 0 k
theorem Fr.rf (R : RS) (fs ks : List Nat) : Fr R R fs ks := ⟨fun _ _ _ => rfl, fun _ _ => rfl⟩
theorem Fr.tr {R R1 R2 : RS} {fs ks : List Nat} (h : Fr R R1 fs ks) (h2 : Fr R1 R2 fs ks) : Fr R R2 fs ks := ⟨fun f a b => (h2.1 f a b).trans (h.1 f a b), fun k a => (h2.2 k a).trans (h.2 k a)⟩
theorem Fr.mo {R R1 : RS} {fs ks fs' ks' : List Nat} (h : Fr R R1 fs ks) (h1 : fs.all (fun f => fs'.contains f) = true) (h2 : ks.all (fun f => ks'.contains f) = true) : Fr R R1 fs' ks' :=
  ⟨fun f a b => h.1 f a (fun c => b (List.contains_iff_mem.mp (List.all_eq_true.mp h1 f c))), fun k b => h.2 k (fun c => b (List.contains_iff_mem.mp (List.all_eq_true.mp h2 k c)))⟩
theorem Fr.w {R R1 : RS} {fs ks : List Nat} {f j : Nat} {x : Int32} (h : Fr R R1 fs ks) (h1 : f ∈ fs) (h0 : f ≠ 0) : Fr R (up R1 f j x) fs ks := ⟨fun g a b => by rw [upN (fun e => b (by rw [e]; exact h1))]; exact h.1 g a b, fun k b => by rw [upN (fun e => h0 e.symm)]; exact h.2 k b⟩
theorem Fr.w0 {R R1 : RS} {fs ks : List Nat} {j : Nat} {x : Int32} (h : Fr R R1 fs ks) (h1 : j ∈ ks) : Fr R (up R1 0 j x) fs ks := ⟨fun g a b => by rw [upN a]; exact h.1 g a b, fun k b => by rw [upE, if_neg (fun e => b (by rw [e]; exact h1))]; exact h.2 k b⟩
/-- slots but ts are as they were -/
def Fs (R R' : RS) (ts : List Nat) : Prop := ∀ s, s ∉ ts → R' 2 s = R 2 s ∧ ∀ i, i < 300 → R' 3 (300 * s + i) = R 3 (300 * s + i) ∧ R' 4 (300 * s + i) = R 4 (300 * s + i)
theorem Fs.rf (R : RS) (ts : List Nat) : Fs R R ts := fun _ _ => ⟨rfl, fun _ _ => ⟨rfl, rfl⟩⟩
theorem Fs.tr {R R1 R2 : RS} {ts : List Nat} (h : Fs R R1 ts) (h2 : Fs R1 R2 ts) : Fs R R2 ts := fun s a => ⟨(h2 s a).1.trans (h s a).1, fun i b => ⟨((h2 s a).2 i b).1.trans ((h s a).2 i b).1, ((h2 s a).2 i b).2.trans ((h s a).2 i b).2⟩⟩
theorem Fs.mo {R R1 : RS} {ts ts' : List Nat} (h : Fs R R1 ts) (h1 : ∀ t, t ∈ ts → t ∈ ts') : Fs R R1 ts' := fun s a => h s (fun c => a (h1 s c))
theorem Fs.eq {R R1 : RS} {ts : List Nat} (h2 : R1 2 = R 2) (h3 : R1 3 = R 3) (h4 : R1 4 = R 4) : Fs R R1 ts := fun s _ => ⟨by rw [h2], fun i _ => ⟨by rw [h3], by rw [h4]⟩⟩
theorem Fr.fs {R R1 : RS} {fs ks : List Nat} (h : Fr R R1 fs ks) (ts : List Nat) (h1 : ¬ (2 ∈ fs ∨ 3 ∈ fs ∨ 4 ∈ fs)) : Fs R R1 ts := Fs.eq (h.1 2 (by omega) (fun c => h1 (Or.inl c))) (h.1 3 (by omega) (fun c => h1 (Or.inr (Or.inl c)))) (h.1 4 (by omega) (fun c => h1 (Or.inr (Or.inr c))))
theorem Sl.go {R R' : RS} {ts : List Nat} {s : Nat} {L : Po} (h : Sl R s L) (hL : L.length ≤ 300) (hF : Fs R R' ts) (hs : s ∉ ts) : Sl R' s L :=
  ⟨(hF s hs).1.trans h.1, fun i hi => ⟨((hF s hs).2 i (by omega)).1.trans (h.2 i hi).1, ((hF s hs).2 i (by omega)).2.trans (h.2 i hi).2⟩⟩
theorem s_copy {a b : Nat} {x y : Int32} {L : Po} {R : RS} {K : Int32 → RS → Prop} (hx : x = ι a) (hy : y = ι b) (ha : a < 56) (hb : b < 56) (hab : a ≠ b) (hL : L.length ≤ 300) (hl : Sl R b L) (h : ∀ R', Fr R R' [2, 3, 4] [] → Fs R R' [a] → Sl R' a L → K 0 R') : wp_copy x y R K := by
  subst hx hy
  unfold wp_copy
  simp (disch := omega) only [ι_lit, ι_of, ι_add, ι_mul, ι_lt, ι_le, ι_eq, ι_cl, ι_rem, ι_div, ι_vin, ι_ne1', ι_1ne', ι_1lt', ι_lt1', ι_1le', ι_le1', ι_sub', ι_sub, upN, upE, Nat.reduceEqDiff, ne_eq, not_true_eq_false, not_false_eq_true, false_imp_iff, true_imp_iff, true_and, and_true, imp_self, forall_eq, reduceIte, Nat.reduceMul, Nat.reduceAdd, Nat.reduceSub]
  refine ⟨L.length + 1, ?_⟩
  refine s_copy_l (R0 := up R 2 a (ι L.length)) ha hb hab hL (fun R' h1 h2 h3 h4 => ?_) L.length 0 _ (by omega) (fun f h3 h4 => ?_) (fun f k hk => ?_) ⟨?_, ?_⟩ (fun j hj => by omega)
  · refine h R' ⟨fun f f0 f1 => ?_, fun k _ => ?_⟩ (fun s hs => ⟨?_, fun i hi => ⟨?_, ?_⟩⟩) ⟨?_, h4⟩
    · rw [h1 f (fun e => f1 (by simp [e])) (fun e => f1 (by simp [e])), upN (fun e => f1 (by simp [e]))]
    · rw [h1 0 (by omega) (by omega), upN (by omega)]
    · rw [h1 2 (by omega) (by omega), upE, if_neg (fun e => hs (by simp [e]))]
    · have : s ≠ a := fun e => hs (by simp [e])
      rw [h2 3 _ (by omega), upN (by omega)]
    · have : s ≠ a := fun e => hs (by simp [e])
      rw [h2 4 _ (by omega), upN (by omega)]
    · rw [h1 2 (by omega) (by omega), upE, if_pos rfl]
  · rw [hl.1]
  · rw [hl.1]
  · simp (disch := omega) only [ι_lit, ι_of, ι_add, ι_mul, ι_lt, ι_le, ι_eq, ι_cl, ι_rem, ι_div, ι_vin, ι_ne1', ι_1ne', ι_1lt', ι_lt1', ι_1le', ι_le1', ι_sub', ι_sub, upN, upE, Nat.reduceEqDiff, ne_eq, not_true_eq_false, not_false_eq_true, false_imp_iff, true_imp_iff, true_and, and_true, imp_self, forall_eq, reduceIte, Nat.reduceMul, Nat.reduceAdd, Nat.reduceSub]
    rw [hl.1]
    exact ite_self _
  · intro i hi
    simp (disch := omega) only [ι_lit, ι_of, ι_add, ι_mul, ι_lt, ι_le, ι_eq, ι_cl, ι_rem, ι_div, ι_vin, ι_ne1', ι_1ne', ι_1lt', ι_lt1', ι_1le', ι_le1', ι_sub', ι_sub, upN, upE, Nat.reduceEqDiff, ne_eq, not_true_eq_false, not_false_eq_true, false_imp_iff, true_imp_iff, true_and, and_true, imp_self, forall_eq, reduceIte, Nat.reduceMul, Nat.reduceAdd, Nat.reduceSub]
    exact hl.2 i hi
/-- the highest of a number of each term; 0 for none, and one more than it is: NONE is 0 -/
def mx (L : Po) (g : Tm → Nat) : Nat → Nat
  | 0 => 0
  | n + 1 => if mx L g n < g (tm L n) + 1 then g (tm L n) + 1 else mx L g n
/-- .. as an int -/
def ιm (m : Nat) : Int32 := if m = 0 then -1 else ι (m - 1)
theorem ιm_lt {m a : Nat} (hm : m < 2147483648) (ha : a < 2147483648) : (ιm m < ι a) ↔ m < a + 1 := by
  unfold ιm
  by_cases e : m = 0
  · rw [if_pos e]
    exact iff_of_true (ι_1lt ha) (by omega)
  · rw [if_neg e, ι_lt (by omega) ha]
    omega
theorem mx_le {L : Po} {g : Tm → Nat} {B : Nat} : ∀ {n : Nat}, (∀ i, i < n → g (tm L i) ≤ B) → mx L g n ≤ B + 1 := by
  intro n
  induction n with
  | zero => intro _; exact Nat.zero_le _
  | succ n ih =>
    intro h
    have h1 := ih (fun i hi => h i (by omega))
    have h2 := h n (by omega)
    unfold mx
    split <;> omega
theorem ιm_next {m a : Nat} (hm : m < 2147483648) (ha : a < 2147483647) : (if ιm m < ι a then ι a else ιm m) = ιm (if m < a + 1 then a + 1 else m) := by
  by_cases e : m < a + 1
  · rw [if_pos ((ιm_lt hm (by omega)).mpr e), if_pos e]
    unfold ιm
    rw [if_neg (by omega)]
    rfl
  · rw [if_neg (fun q => e ((ιm_lt hm (by omega)).mp q)), if_neg e]
theorem s_degreeOf {s p : Nat} {x : Int32} {L : Po} {R : RS} {K : Int32 → RS → Prop} (hx : x = ι s) (hs : s < 56) (hw : wf p L) (hl : Sl R s L) (h : K (ιm (mx L dgt L.length)) R) : wp_degreeOf x R K := by
  subst hx
  have hle := hw.1
  have key : ∀ (k i : Nat), i + k = L.length → wl_degreeOf_4 K (k + 1) (ι s) (ιm (mx L dgt i)) (ι i) R := by
    intro k
    induction k with
    | zero =>
      intro i hi
      show wb_degreeOf_4 _ _ _ _ _ _
      unfold wb_degreeOf_4
      simp (disch := omega) only [ι_lit, ι_of, ι_add, ι_mul, ι_lt, ι_le, ι_eq, ι_cl, ι_rem, ι_div, ι_vin, ι_ne1', ι_1ne', ι_1lt', ι_lt1', ι_1le', ι_le1', ι_sub', ι_sub, upN, upE, Nat.reduceEqDiff, ne_eq, not_true_eq_false, not_false_eq_true, false_imp_iff, true_imp_iff, true_and, and_true, imp_self, forall_eq, reduceIte, Nat.reduceMul, Nat.reduceAdd, Nat.reduceSub, hl.1]
      refine ⟨fun _ => ?_, fun q => absurd (by omega) q⟩
      rw [show i = L.length by omega]; exact h
    | succ k ih =>
      intro i hi
      show wb_degreeOf_4 _ _ _ _ _ _
      unfold wb_degreeOf_4
      simp (disch := omega) only [ι_lit, ι_of, ι_add, ι_mul, ι_lt, ι_le, ι_eq, ι_cl, ι_rem, ι_div, ι_vin, ι_ne1', ι_1ne', ι_1lt', ι_lt1', ι_1le', ι_le1', ι_sub', ι_sub, upN, upE, Nat.reduceEqDiff, ne_eq, not_true_eq_false, not_false_eq_true, false_imp_iff, true_imp_iff, true_and, and_true, imp_self, forall_eq, reduceIte, Nat.reduceMul, Nat.reduceAdd, Nat.reduceSub, hl.1]
      refine ⟨fun q => by omega, fun q => ?_⟩
      refine s_keyAt rfl rfl hs (by omega) ?_
      refine s_degreeOfKey (hw.sm (i := i) (by omega)) (hl.2 i (by omega)).1 ?_
      have := hw.sm (i := i) (by omega)
      have hb : mx L dgt i ≤ 120 + 1 := mx_le (fun j hj => by have := hw.sm (i := j) (by omega); unfold dgt; omega)
      rw [ιm_next (by omega) (by unfold dgt; omega)]
      exact ih (i + 1) (by omega)
  unfold wp_degreeOf
  exact ⟨L.length + 1, key L.length 0 (by omega)⟩
theorem exv_le {t : Tm} (h : sm t) (v : Nat) : exv t v ≤ 40 := by
  unfold exv
  split
  · omega
  · split <;> omega
theorem s_degreeIn {s p v : Nat} {x y : Int32} {L : Po} {R : RS} {K : Int32 → RS → Prop} (hx : x = ι s) (hy : y = ι v) (hv : v < 3) (hs : s < 56) (hw : wf p L) (hl : Sl R s L) (h : K (ιm (mx L (fun t => exv t v) L.length)) R) : wp_degreeIn x y R K := by
  subst hx hy
  have hle := hw.1
  have key : ∀ (k i : Nat), i + k = L.length → wl_degreeIn_5 K (k + 1) (ι s) (ι v) (ιm (mx L (fun t => exv t v) i)) (ι i) R := by
    intro k
    induction k with
    | zero =>
      intro i hi
      show wb_degreeIn_5 _ _ _ _ _ _ _
      unfold wb_degreeIn_5
      simp (disch := omega) only [ι_lit, ι_of, ι_add, ι_mul, ι_lt, ι_le, ι_eq, ι_cl, ι_rem, ι_div, ι_vin, ι_ne1', ι_1ne', ι_1lt', ι_lt1', ι_1le', ι_le1', ι_sub', ι_sub, upN, upE, Nat.reduceEqDiff, ne_eq, not_true_eq_false, not_false_eq_true, false_imp_iff, true_imp_iff, true_and, and_true, imp_self, forall_eq, reduceIte, Nat.reduceMul, Nat.reduceAdd, Nat.reduceSub, hl.1]
      refine ⟨fun _ => ?_, fun q => absurd (by omega) q⟩
      rw [show i = L.length by omega]; exact h
    | succ k ih =>
      intro i hi
      show wb_degreeIn_5 _ _ _ _ _ _ _
      unfold wb_degreeIn_5
      simp (disch := omega) only [ι_lit, ι_of, ι_add, ι_mul, ι_lt, ι_le, ι_eq, ι_cl, ι_rem, ι_div, ι_vin, ι_ne1', ι_1ne', ι_1lt', ι_lt1', ι_1le', ι_le1', ι_sub', ι_sub, upN, upE, Nat.reduceEqDiff, ne_eq, not_true_eq_false, not_false_eq_true, false_imp_iff, true_imp_iff, true_and, and_true, imp_self, forall_eq, reduceIte, Nat.reduceMul, Nat.reduceAdd, Nat.reduceSub, hl.1]
      refine ⟨fun q => by omega, fun q => ?_⟩
      refine s_keyAt rfl rfl hs (by omega) ?_
      refine s_ex (hw.sm (i := i) (by omega)) (hl.2 i (by omega)).1 rfl hv ?_
      have hb : mx L (fun t => exv t v) i ≤ 40 + 1 := mx_le (fun j hj => by have := hw.sm (i := j) (by omega); exact exv_le this v)
      have hc : exv (tm L i) v ≤ 40 := by have := hw.sm (i := i) (by omega); exact exv_le this v
      rw [ιm_next (by omega) (by omega)]
      exact ih (i + 1) (by omega)
  unfold wp_degreeIn
  exact ⟨L.length + 1, key L.length 0 (by omega)⟩
/-! Remainders of negative ints; gathering. -/
theorem rem_int {x : Int32} {p : Nat} (hp : 0 < p) (hp2 : p < 2147483648) (hx : x ≠ -2147483648) : (iRem x (ι p)).toInt = x.toInt.tmod p := by
  unfold iRem
  have h1 := Int32.toInt_lt x
  have h0 := Int32.le_toInt x
  have h2 : x.toInt ≠ -2147483648 := fun e => hx (by rw [← Int32.toInt_inj, e]; rfl)
  have hm := Int.tmod_add_mul_tdiv x.toInt p
  generalize hq : x.toInt.tdiv p = q at hm
  generalize hr : x.toInt.tmod p = r at hm
  have hq2 : (x / ι p).toInt = q := by
    rw [Int32.toInt_div, ι_int hp2, hq]
    have : q.natAbs ≤ x.toInt.natAbs := by rw [← hq, Int.natAbs_tdiv]; exact Nat.div_le_self _ _
    exact Int.bmod_eq_of_le (by omega) (by omega)
  have hr2 : r.natAbs < p := by
    rw [← hr]
    have := Int.natAbs_tmod x.toInt p
    rw [this]
    exact Nat.mod_lt _ (by simpa using hp)
  have hr3 : r.natAbs ≤ x.toInt.natAbs := by
    rw [← hr]
    have := Int.natAbs_tmod x.toInt p
    rw [this]
    exact Nat.mod_le _ _
  have hqp : ((p : Int) * q).natAbs ≤ x.toInt.natAbs := by
    rw [← hq, Int.natAbs_mul, Int.natAbs_tdiv]
    exact Nat.mul_div_le _ _
  rw [Int32.toInt_sub, Int32.toInt_mul, hq2, ι_int hp2, Int.mul_comm q]
  generalize (p : Int) * q = w at hm hqp
  have hw : w.bmod (2 ^ 32) = w := Int.bmod_eq_of_le (by omega) (by omega)
  rw [hw, Int.bmod_eq_of_le (by omega) (by omega)]
  omega
theorem s_modI {p : Nat} {x : Int32} {R : RS} {K : Int32 → RS → Prop} (hp : R 0 1 = ι p) (hpp : PrP p) (hx : x ≠ -2147483648) (h : K (ι (x.toInt % (p : Int)).toNat) R) : wp_mod x R K := by
  have hpl := hpp.le
  unfold wp_mod
  rw [hp]
  have ht := rem_int (x := x) (p := p) (by omega) (by omega) hx
  have he := Int.tmod_eq_emod (a := x.toInt) (b := (p : Int))
  have hn := Int.emod_nonneg x.toInt (b := (p : Int)) (by omega)
  have hl := Int.emod_lt_of_pos x.toInt (b := (p : Int)) (by omega)
  refine ⟨?_, fun q => ?_, fun q => ?_⟩
  · simp (disch := omega) only [ι_lit, ι_of, ι_add, ι_mul, ι_lt, ι_le, ι_eq, ι_cl, ι_rem, ι_div, ι_vin, ι_ne1', ι_1ne', ι_1lt', ι_lt1', ι_1le', ι_le1', ι_sub', ι_sub, upN, upE, Nat.reduceEqDiff, ne_eq, not_true_eq_false, not_false_eq_true, false_imp_iff, true_imp_iff, true_and, and_true, imp_self, forall_eq, reduceIte, Nat.reduceMul, Nat.reduceAdd, Nat.reduceSub]
    omega
  · rw [Int32.le_iff_toInt_le, ht, show (0 : Int32).toInt = 0 from rfl] at q
    have : iRem x (ι p) = ι (x.toInt % (p : Int)).toNat := by
      rw [← Int32.toInt_inj, ht, ι_int (by omega)]
      by_cases c : 0 ≤ x.toInt ∨ (p : Int) ∣ x.toInt
      · rw [he, if_pos c]; omega
      · rw [if_neg c] at he; simp only [Int.natAbs_natCast] at he; omega
    rw [this]; exact h
  · rw [Int32.le_iff_toInt_le, ht, show (0 : Int32).toInt = 0 from rfl] at q
    have : iRem x (ι p) + ι p = ι (x.toInt % (p : Int)).toNat := by
      have hb := Int32.toInt_add (iRem x (ι p)) (ι p)
      rw [← Int32.toInt_inj, hb, ht, ι_int (by omega), ι_int (by omega)]
      by_cases c : 0 ≤ x.toInt ∨ (p : Int) ∣ x.toInt
      · rw [if_pos c] at he; omega
      · rw [if_neg c] at he; simp only [Int.natAbs_natCast] at he
        rw [Int.bmod_eq_of_le (by omega) (by omega)]
        omega
    rw [this]; exact h
/-- modulo p the int v stands for the number m -/
def Cg (p : Nat) (v : Int) (m : Nat) : Prop := (p : Int) ∣ (m : Int) - v
theorem Cg.nat (p n : Nat) : Cg p n n := ⟨0, by omega⟩
theorem Cg.neg {p n : Nat} (hp : 0 < p) : Cg p (-(n : Int)) ((p - 1) * n) := ⟨n, by rw [Int.natCast_mul, Int.ofNat_sub hp, Int.sub_mul]; omega⟩
theorem Cg.use {p : Nat} {v : Int} {m : Nat} (h : Cg p v m) (hp : 0 < p) (a : Nat) : (((a : Int) + v) % (p : Int)).toNat = (a + m) % p := by
  have e : ((a : Int) + v) % (p : Int) = (((a + m) % p : Nat) : Int) := by
    rw [Int.natCast_emod, Int.natCast_add]
    obtain ⟨c, hc⟩ := h
    have : (a : Int) + v = (a : Int) + m - p * c := by omega
    rw [this, Int.sub_mul_emod_self_left]
  rw [e]
  rfl
def c81 (x y z : Nat) : Nat := (x * 81 + y) * 81 + z
theorem c81_lt {x y z : Nat} (hx : x ≤ 80) (hy : y ≤ 80) (hz : z ≤ 80) : c81 x y z < 531441 := by unfold c81; omega
theorem c81_inj {x y z a b c : Nat} (hx : y ≤ 80 ∧ z ≤ 80) (ha : b ≤ 80 ∧ c ≤ 80) (h : c81 x y z = c81 a b c) : x = a ∧ y = b ∧ z = c := by unfold c81 at h; omega
/-- a number is added at a monomial -/
def adF (p : Nat) (F : Nat → Nat → Nat → Nat) (x y z m : Nat) : Nat → Nat → Nat → Nat := fun a b c => if a = x ∧ b = y ∧ c = z then (F x y z + m) % p else F a b c
/-- the cube holds F, and t places are noted -/
def Gt (R : RS) (p : Nat) (F : Nat → Nat → Nat → Nat) (t : Nat) : Prop := R 0 1 = ι p ∧ R 0 7 = ι t ∧ (∀ x y z, x ≤ 80 → y ≤ 80 → z ≤ 80 → R 5 (c81 x y z) = ι (F x y z)) ∧ (∀ x y z, F x y z < p) ∧ (∀ i, i < t → ∃ x y z, x ≤ 80 ∧ y ≤ 80 ∧ z ≤ 80 ∧ R 6 i = ι (c81 x y z)) ∧ ∀ x y z, F x y z ≠ 0 → x ≤ 80 ∧ y ≤ 80 ∧ z ≤ 80 ∧ ∃ i, i < t ∧ R 6 i = ι (c81 x y z)
theorem s_gathers {x y z t m p : Nat} {x1 x2 x3 x4 : Int32} {F : Nat → Nat → Nat → Nat} {R : RS} {K : Int32 → RS → Prop} (h1 : x1 = ι x) (h2 : x2 = ι y) (h3 : x3 = ι z) (hpp : PrP p) (hx : x ≤ 80) (hy : y ≤ 80) (hz : z ≤ 80) (ht : t < 90600) (h4 : Cg p x4.toInt m) (h4a : -1000000000 ≤ x4.toInt) (h4b : x4.toInt ≤ 1000000000) (hG : Gt R p F t) (h : ∀ R', Fr R R' [5, 6] [7] → Gt R' p (adF p F x y z m) (t + 1) → K 0 R') : wp_gathers x1 x2 x3 x4 R K := by
  subst h1 h2 h3
  obtain ⟨g1, g2, g3, g4, g5, g6⟩ := id hG
  have hpl := hpp.le
  have hc := c81_lt hx hy hz
  have hF := g4 x y z
  unfold wp_gathers
  simp (disch := omega) only [ι_lit, ι_of, ι_add, ι_mul, ι_lt, ι_le, ι_eq, ι_cl, ι_rem, ι_div, ι_vin, ι_ne1', ι_1ne', ι_1lt', ι_lt1', ι_1le', ι_le1', ι_sub', ι_sub, upN, upE, Nat.reduceEqDiff, ne_eq, not_true_eq_false, not_false_eq_true, false_imp_iff, true_imp_iff, true_and, and_true, imp_self, forall_eq, reduceIte, Nat.reduceMul, Nat.reduceAdd, Nat.reduceSub]
  rw [show (x * 81 + y) * 81 + z = c81 x y z from rfl]
  rw [g3 x y z hx hy hz]
  have hs : (ι (F x y z) + x4).toInt = (F x y z : Int) + x4.toInt := by rw [Int32.toInt_add, ι_int (by omega), Int.bmod_eq_of_le (by omega) (by omega)]
  refine s_modI g1 hpp (fun e => ?_) ?_
  · rw [e, show (-2147483648 : Int32).toInt = -2147483648 from rfl] at hs
    omega
  rw [hs, h4.use (by omega)]
  simp (disch := omega) only [ι_lit, ι_of, ι_add, ι_mul, ι_lt, ι_le, ι_eq, ι_cl, ι_rem, ι_div, ι_vin, ι_ne1', ι_1ne', ι_1lt', ι_lt1', ι_1le', ι_le1', ι_sub', ι_sub, upN, upE, Nat.reduceEqDiff, ne_eq, not_true_eq_false, not_false_eq_true, false_imp_iff, true_imp_iff, true_and, and_true, imp_self, forall_eq, reduceIte, Nat.reduceMul, Nat.reduceAdd, Nat.reduceSub, g2]
  refine h _ (((Fr.rf R _ _).w (by simp) (by omega)).w (by simp) (by omega) |>.w0 (by simp)) ⟨?_, ?_, fun a b c ha hb hcc => ?_, fun a b c => ?_, fun i hi => ?_, fun a b c hF => ?_⟩
  · simp (disch := omega) only [ι_lit, ι_of, ι_add, ι_mul, ι_lt, ι_le, ι_eq, ι_cl, ι_rem, ι_div, ι_vin, ι_ne1', ι_1ne', ι_1lt', ι_lt1', ι_1le', ι_le1', ι_sub', ι_sub, upN, upE, Nat.reduceEqDiff, ne_eq, not_true_eq_false, not_false_eq_true, false_imp_iff, true_imp_iff, true_and, and_true, imp_self, forall_eq, reduceIte, Nat.reduceMul, Nat.reduceAdd, Nat.reduceSub]; exact g1
  · simp (disch := omega) only [ι_lit, ι_of, ι_add, ι_mul, ι_lt, ι_le, ι_eq, ι_cl, ι_rem, ι_div, ι_vin, ι_ne1', ι_1ne', ι_1lt', ι_lt1', ι_1le', ι_le1', ι_sub', ι_sub, upN, upE, Nat.reduceEqDiff, ne_eq, not_true_eq_false, not_false_eq_true, false_imp_iff, true_imp_iff, true_and, and_true, imp_self, forall_eq, reduceIte, Nat.reduceMul, Nat.reduceAdd, Nat.reduceSub]
  · simp (disch := omega) only [ι_lit, ι_of, ι_add, ι_mul, ι_lt, ι_le, ι_eq, ι_cl, ι_rem, ι_div, ι_vin, ι_ne1', ι_1ne', ι_1lt', ι_lt1', ι_1le', ι_le1', ι_sub', ι_sub, upN, upE, Nat.reduceEqDiff, ne_eq, not_true_eq_false, not_false_eq_true, false_imp_iff, true_imp_iff, true_and, and_true, imp_self, forall_eq, reduceIte, Nat.reduceMul, Nat.reduceAdd, Nat.reduceSub]
    unfold adF
    by_cases e : a = x ∧ b = y ∧ c = z
    · rw [if_pos e, if_pos (by rw [e.1, e.2.1, e.2.2])]
    · rw [if_neg e, if_neg (fun q => e (c81_inj ⟨hb, hcc⟩ ⟨hy, hz⟩ q)), g3 a b c ha hb hcc]
  · unfold adF
    split
    · exact Nat.mod_lt _ (by omega)
    · exact g4 a b c
  · simp (disch := omega) only [ι_lit, ι_of, ι_add, ι_mul, ι_lt, ι_le, ι_eq, ι_cl, ι_rem, ι_div, ι_vin, ι_ne1', ι_1ne', ι_1lt', ι_lt1', ι_1le', ι_le1', ι_sub', ι_sub, upN, upE, Nat.reduceEqDiff, ne_eq, not_true_eq_false, not_false_eq_true, false_imp_iff, true_imp_iff, true_and, and_true, imp_self, forall_eq, reduceIte, Nat.reduceMul, Nat.reduceAdd, Nat.reduceSub]
    by_cases e : i = t
    · exact ⟨x, y, z, hx, hy, hz, by rw [if_pos e]⟩
    · rw [if_neg e]; exact g5 i (by omega)
  · unfold adF at hF
    by_cases e : a = x ∧ b = y ∧ c = z
    · refine ⟨by omega, by omega, by omega, t, by omega, ?_⟩
      simp (disch := omega) only [ι_lit, ι_of, ι_add, ι_mul, ι_lt, ι_le, ι_eq, ι_cl, ι_rem, ι_div, ι_vin, ι_ne1', ι_1ne', ι_1lt', ι_lt1', ι_1le', ι_le1', ι_sub', ι_sub, upN, upE, Nat.reduceEqDiff, ne_eq, not_true_eq_false, not_false_eq_true, false_imp_iff, true_imp_iff, true_and, and_true, imp_self, forall_eq, reduceIte, Nat.reduceMul, Nat.reduceAdd, Nat.reduceSub]
      rw [e.1, e.2.1, e.2.2]
    · rw [if_neg e] at hF
      obtain ⟨q1, q2, q3, i, hi, q4⟩ := g6 a b c hF
      refine ⟨q1, q2, q3, i, by omega, ?_⟩
      simp (disch := omega) only [ι_lit, ι_of, ι_add, ι_mul, ι_lt, ι_le, ι_eq, ι_cl, ι_rem, ι_div, ι_vin, ι_ne1', ι_1ne', ι_1lt', ι_lt1', ι_1le', ι_le1', ι_sub', ι_sub, upN, upE, Nat.reduceEqDiff, ne_eq, not_true_eq_false, not_false_eq_true, false_imp_iff, true_imp_iff, true_and, and_true, imp_self, forall_eq, reduceIte, Nat.reduceMul, Nat.reduceAdd, Nat.reduceSub]
      rw [if_neg (by omega)]; exact q4
