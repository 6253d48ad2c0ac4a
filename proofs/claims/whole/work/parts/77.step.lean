/-! Programs: what step and at need of both sides. -/
def sg (Q : List Sp) (s : Nat) : Nat := (stp Q s).2.1
def lf (Q : List Sp) (s : Nat) : Nat := (stp Q s).2.2.1
def rg (Q : List Sp) (s : Nat) : Nat := (stp Q s).2.2.2.1
def mks (Q : List Sp) (s : Nat) : Po := (stp Q s).2.2.2.2
theorem RPg.a {R : RS} {Q : List Sp} {s : Nat} (h : RPg R Q) (hs : s < Q.length) : Sl R (6 + s) (mks Q s) ∧ R 29 s = ι (stp Q s).1 ∧ R 30 s = ι (sg Q s) ∧ R 31 (2 * s) = ι (atK (lf Q s)) ∧ R 32 (2 * s) = ι (atV (lf Q s)) ∧ (isTwo (sg Q s) → R 31 (2 * s + 1) = ι (atK (rg Q s)) ∧ R 32 (2 * s + 1) = ι (atV (rg Q s))) ∧ (sg Q s = 94 → R 32 (2 * s + 1) = ι (rg Q s)) := h.2 s hs
/-- what holds of the steps -/
def VQ (p : Nat) (Q : List Sp) (B : Nat → Nat) : Prop := Q.length ≤ 23 ∧ ∀ s, s < Q.length → wf p (mks Q s) ∧ (stp Q s).1 ≤ 23 ∧ (sg Q s = 0 ∨ sg Q s = 94 ∨ isTwo (sg Q s)) ∧ lf Q s < 103 + s ∧ (isTwo (sg Q s) → rg Q s < 103 + s) ∧ (sg Q s = 94 → rg Q s ≤ 9) ∧ (sg Q s = 0 → rg Q s = 0) ∧ B s = bdS B (sg Q s) (lf Q s) (rg Q s)
theorem VQ.rg {p s : Nat} {Q : List Sp} {B : Nat → Nat} (h : VQ p Q B) (hs : s < Q.length) : rg Q s < 103 + s := by
  obtain ⟨-, -, a3, -, a5, a6, a7, -⟩ := h.2 s hs
  rcases a3 with q | q | q
  · have := a7 q; omega
  · have := a6 q; omega
  · exact a5 q
def hasA (Q : List Sp) (s o : Nat) : Prop := lf Q s = 103 + o ∨ rg Q s = 103 + o
theorem VQ.has {p s o : Nat} {Q : List Sp} {B : Nat → Nat} (h : VQ p Q B) (hs : s < Q.length) (ho : hasA Q s o) : o < s := by
  have h1 := (h.2 s hs).2.2.2.1
  have h2 := h.rg hs
  unfold hasA at ho
  omega
theorem isTwo_ne {s : Nat} (h : isTwo s) : s ≠ 0 ∧ s ≠ 94 := by unfold isTwo at h; omega
theorem s_isName {p w : Nat} {Q : List Sp} {B : Nat → Nat} {x : Int32} {R : RS} {K : Int32 → RS → Prop} (hq : VQ p Q B) (hr : RPg R Q) (hw : w < 2 * Q.length) (hx : x = ι w) (h : ((if w % 2 = 0 then 103 ≤ lf Q (w / 2) else isTwo (sg Q (w / 2)) ∧ 103 ≤ rg Q (w / 2)) → K 1 R) ∧ (¬ (if w % 2 = 0 then 103 ≤ lf Q (w / 2) else isTwo (sg Q (w / 2)) ∧ 103 ≤ rg Q (w / 2)) → K 0 R)) : wp_isName x R K := by
  subst hx
  have hl := hq.1
  obtain ⟨-, r1, r2, r3, r4, r5, r6⟩ := hr.a (s := w / 2) (by omega)
  have hv := hq.2 (w / 2) (by omega)
  have hsl : sg Q (w / 2) ≤ 94 := by rcases hv.2.2.1 with q | q | q; omega; omega; unfold isTwo at q; omega
  unfold wp_isName
  have e2 : (2 : Int32) = ι 2 := rfl
  rw [ι_cl (by omega), e2, ι_rem (by omega) (by omega), ι_div (by omega) (by omega), ι_cl (by omega), r2]
  have e0 : (0 : Int32) = ι 0 := rfl
  have e94 : (94 : Int32) = ι 94 := rfl
  have k0 : ∀ a b : Nat, a < 2147483648 → b < 2147483648 → (ι a = ι b ↔ a = b) := fun a b ha hb => ι_eq ha hb
  by_cases c : w % 2 = 0
  · rw [if_pos c] at h
    have ew : w = 2 * (w / 2) := by omega
    have er : R 31 w = ι (atK (lf Q (w / 2))) := by rw [show R 31 w = R 31 (2 * (w / 2)) by rw [← ew]]; exact r3
    have hK : atK (lf Q (w / 2)) = 2 ↔ 103 ≤ lf Q (w / 2) := by unfold atK; split <;> (try split) <;> omega
    have hKl : atK (lf Q (w / 2)) ≤ 2 := by unfold atK; split <;> (try split) <;> omega
    rw [er, k0 _ _ (by omega) (by omega), hK]
    refine ⟨ι_in (by omega) (by omega), fun q => h.2 q, fun q => ⟨fun _ => h.1 q, fun q2 => absurd (by rw [c]; rfl) q2⟩⟩
  · rw [if_neg c] at h
    have ew : w = 2 * (w / 2) + 1 := by omega
    have hmod : w % 2 = 1 := by omega
    refine ⟨ι_in (by omega) (by omega), fun q => h.2 (fun q2 => ?_), fun q => ⟨fun q2 => ?_, fun _ => ⟨ι_in (by omega) (by omega), fun q3 => ?_, fun q3 => ⟨ι_in (by omega) (by omega), fun q4 => ?_, fun q4 => ?_⟩⟩⟩⟩
    · apply q
      rw [show R 31 w = R 31 (2 * (w / 2) + 1) by rw [← ew], (r5 q2.1).1]
      unfold atK
      rw [if_neg (by omega), if_neg (by omega)]
    · rw [e0, hmod, k0 _ _ (by omega) (by omega)] at q2; omega
    · rw [e0, k0 _ _ (by omega) (by omega)] at q3
      exact h.2 (fun q2 => (isTwo_ne q2.1).1 q3)
    · rw [e94, k0 _ _ (by omega) (by omega)] at q4
      exact h.2 (fun q2 => (isTwo_ne q2.1).2 q4)
    · rw [e0, k0 _ _ (by omega) (by omega)] at q3
      rw [e94, k0 _ _ (by omega) (by omega)] at q4
      have ht : isTwo (sg Q (w / 2)) := by
        rcases hv.2.2.1 with z | z | z
        · exact absurd z q3
        · exact absurd z q4
        · exact z
      refine h.1 ⟨ht, ?_⟩
      rw [show R 31 w = R 31 (2 * (w / 2) + 1) by rw [← ew], (r5 ht).1] at q
      have hKl : atK (rg Q (w / 2)) ≤ 2 := by unfold atK; split <;> (try split) <;> omega
      rw [k0 _ _ (by omega) (by omega)] at q
      unfold atK at q
      split at q
      · omega
      · split at q <;> omega
theorem s_has {p s o : Nat} {Q : List Sp} {B : Nat → Nat} {x1 x2 : Int32} {R : RS} {K : Int32 → RS → Prop} (hq : VQ p Q B) (hr : RPg R Q) (hs : s < Q.length) (ho : o < 2147483648) (h1 : x1 = ι s) (h2 : x2 = ι o) (h : (hasA Q s o → K 1 R) ∧ (¬ hasA Q s o → K 0 R)) : wp_has x1 x2 R K := by
  subst h1 h2
  have hl := hq.1
  obtain ⟨-, r1, r2, r3, r4, r5, r6⟩ := hr.a hs
  have hv := hq.2 s hs
  have hrg := hq.rg hs
  have e1 : 2 * s / 2 = s := by omega
  have e2 : (2 * s + 1) / 2 = s := by omega
  have second : ¬ lf Q s = 103 + o → w_has_22 K (ι s) (ι o) R := by
    intro hne
    unfold w_has_22
    rw [show (2 : Int32) = ι 2 from rfl, ι_mul, show (1 : Int32) = ι 1 from rfl, ι_add, ι_cl (by omega)]
    refine s_isName hq hr (w := 2 * s + 1) (by omega) rfl ?_
    rw [if_neg (by omega), e2]
    refine ⟨fun q => ⟨fun c => absurd c (by decide), fun _ => ⟨ι_in (by omega) (by omega), ?_⟩⟩, fun q => ⟨fun _ => h.2 (fun w => ?_), fun c => absurd rfl c⟩⟩
    · have hav : atV (rg Q s) = rg Q s - 103 := by unfold atV; rw [if_neg (by omega), if_neg (by omega)]
      rw [(r5 q.1).2, hav, ι_eq (by omega) ho]
      exact ⟨fun c => h.2 (fun w => by unfold hasA at w; omega), fun c => h.1 (Or.inr (by omega))⟩
    · rcases w with w | w
      · exact hne w
      · apply q
        refine ⟨?_, by omega⟩
        rcases hv.2.2.1 with z | z | z
        · have := hv.2.2.2.2.2.2.1 z; omega
        · have := hv.2.2.2.2.2.1 z; omega
        · exact z
  unfold wp_has
  rw [show (2 : Int32) = ι 2 from rfl, ι_mul, ι_cl (by omega)]
  refine s_isName hq hr (w := 2 * s) (by omega) rfl ?_
  rw [if_pos (by omega), e1]
  refine ⟨fun q => ⟨fun c => absurd c (by decide), fun _ => ⟨ι_in (by omega) (by omega), ?_⟩⟩, fun q => ⟨fun _ => second (by omega), fun c => absurd rfl c⟩⟩
  have hav : atV (lf Q s) = lf Q s - 103 := by unfold atV; rw [if_neg (by omega), if_neg (by omega)]
  rw [r4, hav, ι_eq (by omega) ho]
  exact ⟨fun c => h.1 (Or.inl (by omega)), fun c => second (by omega)⟩
theorem atB_le {B : Nat → Nat} {a n : Nat} (h : ∀ s, s < n → B s ≤ 999999) (ha : a < 103 + n) : atB B a ≤ 999999 := by
  unfold atB
  split
  · omega
  · split
    · omega
    · exact h _ (by omega)
theorem bdS_le (B : Nat → Nat) (g l r : Nat) : bdS B g l r ≤ 999999 := Nat.min_le_left _ _
theorem s_boundOf {p st : Nat} {Q : List Sp} {B : Nat → Nat} {x1 : Int32} {R : RS} {K : Int32 → RS → Prop} (hq : VQ p Q B) (hr : RPg R Q) (hs : st < Q.length) (h1 : x1 = ι st) (h : ∀ R', Fr R R' [39] [] → K (ι (B st)) R') : wp_boundOf x1 R K := by
  subst h1
  have hl := hq.1
  have hB : ∀ s, s < Q.length → B s ≤ 999999 := fun s hs => by rw [(hq.2 s hs).2.2.2.2.2.2.2]; exact bdS_le _ _ _ _
  -- an atom's bound
  have atm : ∀ (R1 : RS) (w s a : Nat) (K2 : Int32 → RS → Prop), s < Q.length → a < 103 + s → w < 46 → R1 31 w = ι (atK a) → R1 32 w = ι (atV a) → (∀ k, k < s → R1 39 k = ι (B k)) → K2 (ι (atB B a)) R1 → wp_boundOfAtom (ι w) R1 K2 := by
    intro R1 w s a K2 hs2 ha hw k1 k2 kb hk
    unfold wp_boundOfAtom
    have hvi : vp_in (ι w) 46 := ι_in hw (by omega)
    rw [ι_cl (by omega), k1, k2]
    unfold atK atV
    unfold atB at hk
    by_cases c1 : a < 100
    · rw [if_pos c1] at hk
      rw [if_pos c1, if_pos c1]
      exact ⟨hvi, fun q => absurd rfl q, fun _ => hk⟩
    · rw [if_neg c1] at hk
      rw [if_neg c1, if_neg c1]
      by_cases c2 : a < 103
      · rw [if_pos c2] at hk
        rw [if_pos c2, if_pos c2]
        exact ⟨hvi, fun _ => ⟨hvi, fun q => absurd rfl q, fun _ => hk⟩, fun q => absurd q (by decide)⟩
      · rw [if_neg c2] at hk
        rw [if_neg c2, if_neg c2]
        refine ⟨hvi, fun _ => ⟨hvi, fun _ => ⟨hvi, ι_in (by omega) (by omega), ?_⟩, fun q => absurd q (by decide)⟩, fun q => absurd q (by decide)⟩
        rw [ι_cl (by omega), kb _ (by omega)]
        exact hk
  have key : ∀ (k s : Nat) (R1 : RS), s + k = st + 1 → Fr R R1 [39] [] → (∀ j, j < s → R1 39 j = ι (B j)) → wl_boundOf_2 K (k + 1) (ι st) (ι s) R1 := by
    intro k
    induction k with
    | zero =>
      intro s R1 hs1 r1 b1
      show wb_boundOf_2 _ _ _ _ _
      unfold wb_boundOf_2
      rw [ι_cl (by omega), b1 st (by omega)]
      exact ⟨fun _ => ⟨ι_in (by omega) (by omega), h R1 r1⟩, fun c => absurd (by rw [ι_lt (by omega) (by omega)]; omega) c⟩
    | succ k ih =>
      intro s R1 hs1 r1 b1
      have hsl : s < Q.length := by omega
      obtain ⟨-, q1, q2, q3, q4, q5, q6⟩ := hr.a hsl
      have hv := hq.2 s hsl
      have f30 : R1 30 = R 30 := r1.1 30 (by omega) (by simp)
      have f31 : R1 31 = R 31 := r1.1 31 (by omega) (by simp)
      have f32 : R1 32 = R 32 := r1.1 32 (by omega) (by simp)
      have hal := atB_le (B := B) (n := s) (fun j hj => hB j (by omega)) hv.2.2.2.1
      have hvi : vp_in (ι s) 23 := ι_in (by omega) (by omega)
      have e0 : (0 : Int32) = ι 0 := rfl
      have e94 : (94 : Int32) = ι 94 := rfl
      have e42 : (42 : Int32) = ι 42 := rfl
      have e2 : (2 : Int32) = ι 2 := rfl
      have e1 : (1 : Int32) = ι 1 := rfl
      -- the last piece
      have fin : ∀ (w : Nat), w ≤ 20000000 → min 999999 w = B s → w_boundOf_100 (wl_boundOf_2 K (k + 1)) K (ι st) (ι s) (ι w) R1 := by
        intro w hw he
        unfold w_boundOf_100
        rw [ι_cl (by omega), e1, ι_add]
        refine ⟨hvi, ih (s + 1) _ (by omega) (r1.w (by simp) (by omega)) (fun j hj => ?_)⟩
        rw [upE]
        by_cases c : j = s
        · rw [if_pos c, c, ← he, show (999999 : Int32) = ι 999999 from rfl, ι_min (by omega) (by omega)]
          congr 1
          by_cases c2 : w < 999999
          · rw [if_pos c2]; omega
          · rw [if_neg c2]; omega
        · rw [if_neg c]; exact b1 j (by omega)
      have hBs := hv.2.2.2.2.2.2.2
      unfold bdS at hBs
      have mid : ∀ (u : Nat), u ≤ 999999 → (isTwo (sg Q s) → u = atB B (rg Q s)) → (¬ isTwo (sg Q s) → u = 0) → w_boundOf_48 (wl_boundOf_2 K (k + 1)) K (ι st) (ι s) (ι (atB B (lf Q s))) (ι u) R1 := by
        intro u hu u1 u2
        unfold w_boundOf_48
        have hsl2 : sg Q s ≤ 94 := by rcases hv.2.2.1 with q | q | q; omega; omega; unfold isTwo at q; omega
        rw [ι_cl (by omega), f30, f32, q2, e94, ι_eq (by omega) (by omega), e42, ι_eq (by omega) (by omega)]
        refine ⟨hvi, fun c94 => ⟨hvi, fun c42 => ?_, fun c42 => ?_⟩, fun c94 => ?_⟩
        · rw [if_neg c94, if_neg c42] at hBs
          have em : (if ι (atB B (lf Q s)) < ι u then ι u else ι (atB B (lf Q s))) = ι (max (atB B (lf Q s)) u) := by
            by_cases c : atB B (lf Q s) < u
            · rw [if_pos ((ι_lt (by omega) (by omega)).mpr c)]; congr 1; omega
            · rw [if_neg (fun q => c ((ι_lt (by omega) (by omega)).mp q))]; congr 1; omega
          rw [em]
          refine fin _ (by omega) ?_
          rw [hBs]
          by_cases c0 : sg Q s = 0
          · rw [if_pos c0, u2 (fun q => (isTwo_ne q).1 c0)]
            omega
          · rw [if_neg c0, u1 (by rcases hv.2.2.1 with z | z | z; exact absurd z c0; exact absurd z c94; exact z)]
        · rw [if_neg c94, if_pos c42] at hBs
          rw [ι_add]
          refine fin _ (by omega) ?_
          rw [hBs, u1 (by unfold isTwo; omega)]
        · rw [if_pos c94] at hBs
          have hr9 := hv.2.2.2.2.2.1 c94
          have hmul : atB B (lf Q s) * rg Q s ≤ 999999 * 9 := Nat.mul_le_mul hal hr9
          rw [e2, ι_mul, e1, ι_add, ι_cl (by omega), q6 c94, ι_mul]
          refine ⟨ι_in (by omega) (by omega), fin _ (by omega) ?_⟩
          rw [hBs]
      show wb_boundOf_2 _ _ _ _ _
      unfold wb_boundOf_2
      have hsl2 : sg Q s ≤ 94 := by rcases hv.2.2.1 with q | q | q; omega; omega; unfold isTwo at q; omega
      refine ⟨fun c => absurd c (by rw [ι_lt (by omega) (by omega)]; omega), fun _ => ?_⟩
      rw [e2, ι_mul, e1, ι_add]
      refine atm R1 (2 * s) s (lf Q s) _ hsl hv.2.2.2.1 (by omega) (by rw [f31]; exact q3) (by rw [f32]; exact q4) b1 ?_
      rw [ι_cl (by omega), f30, q2, e0, ι_eq (by omega) (by omega), e94, ι_eq (by omega) (by omega)]
      refine ⟨hvi, fun c => mid 0 (by omega) (fun q => absurd c (isTwo_ne q).1) (fun _ => rfl), fun c => ⟨hvi, fun c2 => ?_, fun c2 => mid 0 (by omega) (fun q => absurd c2 (isTwo_ne q).2) (fun _ => rfl)⟩⟩
      have ht : isTwo (sg Q s) := by
        rcases hv.2.2.1 with z | z | z
        · exact absurd z c
        · exact absurd z c2
        · exact z
      refine atm R1 (2 * s + 1) s (rg Q s) _ hsl (hq.rg hsl) (by omega) (by rw [f31]; exact (q5 ht).1) (by rw [f32]; exact (q5 ht).2) b1 ?_
      exact mid _ (atB_le (n := s) (fun j hj => hB j (by omega)) (hq.rg hsl)) (fun _ => rfl) (fun q => absurd ht q)
  exact ⟨st + 2, key (st + 1) 0 R (by omega) (Fr.rf _ _ _) (fun j hj => by omega)⟩
/-! step: the class's program. -/
def Wg (g b _k : Nat) : Prop := g + 7 ≤ b ∧ b ≤ g + 9
/-- the program at hand writes its own rows -/
theorem CI.pgw {h0 s0 n g p : Nat} {P : Nat → Po} {A : List (Nat × Po)} {T Tx : List Nat} {ft : Int32} {Q : List Sp} {B : Nat → Nat} {S S' : HS} (h : CI h0 s0 n S (p, P, A, T, Tx, ft, Q, B)) (hg : hP S h0 11 = some g) (e : Ext S S' (Wg g) V0) (hx : hX S' = hX S) (hs : hS S' = hS S) : CI h0 s0 n S' (p, P, A, T, Tx, ft, Q, B) := by
  obtain ⟨c1, c2, c3, c4, c5, c6, c7, c8, c9, c10, c11, c12⟩ := h
  have h60 := c2.1
  have hpg : PgAt h0 S g Q B ∧ (bxC h0 S 12 < g ∨ g + 9 < bxC h0 S 12) ∧ (bxC h0 S 15 < g ∨ g + 9 < bxC h0 S 15) ∧ (bxC h0 S 39 < g ∨ g + 9 < bxC h0 S 39) ∧ (bxC h0 S 42 < g ∨ g + 9 < bxC h0 S 42) := by
    rcases c9 with ⟨q1, -⟩ | ⟨g', q1, -, q3, q4⟩
    · rw [q1] at hg; cases hg
    · rw [q1] at hg; cases hg; exact ⟨q3, q4⟩
  obtain ⟨q3, q4⟩ := hpg
  have g55 := q3.1
  have gt : ∀ f, 1 ≤ f → f ≤ 9 → hT S (g + f) = 21 ∨ hT S (g + f) = 23 := fun f f1 f2 => by
    have := (q3.2.2.2.2.1 f f1 f2).1
    split at this
    · exact Or.inr this
    · exact Or.inl this
  have noP : ∀ a, hT S a = 7 → ¬ (g + 1 ≤ a ∧ a ≤ g + 9) := fun a ha hb => by
    have := gt (a - g) (by omega) (by omega)
    rw [show g + (a - g) = a by omega] at this
    omega
  have pk : PK h0 S S' := PK.of e (fun a L ka pa k => by
    have n0 := noP a pa.2.1
    refine ⟨?_, ?_, ?_, fun c => c⟩ <;> (unfold Wg; omega))
  have nI : ∀ b k, b < hX S → ¬ Wg g b k → hI S' b k = hI S b k := fun b k hb w => (e.2.2.1 b hb).2.2.1 k w
  have nP : ∀ b k, b < hX S → hP S' b k = hP S b k := fun b k hb => (e.2.2.1 b hb).2.2.2 k (fun c => c)
  have ho : ∀ o, o = 12 ∨ o = 15 ∨ o = 39 ∨ o = 42 → hP S' (h0 + o) 0 = hP S (h0 + o) 0 := fun o _ => nP _ _ (by omega)
  have b39 := c10.1.2.2.1
  refine ⟨c1.go c2.1 e (fun q hq c => c), c2.go e pk (c2.tp e hx), by rw [nI _ _ (by omega) (by unfold Wg; omega)]; exact c3, c4.go pk (fun k hk => nP _ _ (by omega)), c5.go pk (fun k => nI _ _ (by omega) (by unfold Wg; omega)) (fun k => nI _ _ (by omega) (by unfold Wg; omega)) (fun k => nP _ _ (by omega)), c6.go (nI _ _ (by omega) (by unfold Wg; omega)) (fun i => nI _ _ (by omega) (by unfold Wg; omega)), c7.go (nI _ _ (by omega) (by unfold Wg; omega)) (fun i => nI _ _ (by omega) (by unfold Wg; omega)), by rw [nI _ _ (by omega) (by unfold Wg; omega)]; exact c8, c9.go pk e (nP _ _ (by omega)) (fun o ho => Or.inl (nP _ _ (by omega))) (fun g' hg' pg' f k hf => ⟨?_, fun c => c⟩), c10.go e ho, c11.go (e.2.2.1 _ b39.2.1).2.1 pk (nP _ _ (by omega)) (ho 39 (by omega)) (fun k => nI _ _ (by omega) (by unfold Wg; omega)) (fun k => nI _ _ (by omega) (by unfold Wg; omega)) (fun k => nI _ _ (by omega) (by unfold Wg; omega)) (nI _ _ (by omega) (by unfold Wg; omega)) (nI _ _ (by omega) (by unfold Wg; omega)) (fun k => nI _ _ b39.2.1 (by unfold Wg; omega)), c12.same e c10 ho hx hs⟩
  have ht8 := pg'.2.2.1
  unfold Wg
  intro c
  by_cases c2 : g' = g
  · omega
  · have := gt (g' - g) (by omega) (by omega)
    rw [show g + (g' - g) = g' by omega] at this
    omega
theorem c_degree {M : Nat × Nat} {a p : Nat} {L : Po} {S : HS} {K : Int32 → HS → Prop} (hw : wf p L) (pa : Rd S a L) (h : K (ιm (mx L dgt L.length)) S) : wp_X6_degree M a S K := by
  have hle := hw.1
  obtain ⟨p1, p2, p3, p4, p5, p6, p7, p8, p7', p8', p9, p11⟩ := pa
  have key : ∀ (k i : Nat), i + k = L.length → wl_X6_degree_4 M K (k + 1) a (ιm (mxr L dgt i)) (ι i) S := by
    intro k
    induction k with
    | zero =>
      intro i hi
      show wb_X6_degree_4 _ _ _ _ _ _ _
      unfold wb_X6_degree_4
      rw [p9]
      simp (disch := omega) only [ι_lit, ι_of, ι_add, ι_mul, ι_lt, ι_le, ι_eq, ι_cl, ι_rem, ι_div, ι_vin, ι_ne1', ι_1ne', ι_1lt', ι_lt1', ι_1le', ι_le1', ι_sub', ι_sub, upN, upE, Nat.reduceEqDiff, ne_eq, not_true_eq_false, not_false_eq_true, false_imp_iff, true_imp_iff, true_and, and_true, imp_self, forall_eq, reduceIte, Nat.reduceMul, Nat.reduceAdd, Nat.reduceSub]
      refine ⟨p2, fun _ => ?_, fun q => absurd (by omega) q⟩
      rw [show i = L.length by omega, mxr_mx]; exact h
    | succ k ih =>
      intro i hi
      have hs := rt_sm hw (i := i) (by omega)
      have hd : ∀ {t : Tm}, sm t → dgt t ≤ 120 := fun {t} h => by unfold dgt; omega
      have hb : mxr L dgt i ≤ 121 := by
        by_cases e : i = 0
        · rw [e]; exact Nat.zero_le _
        · obtain ⟨j, hj, h1⟩ := mxr_ex (L := L) (g := dgt) (n := i) (by omega)
          rw [h1]
          have := hd (rt_sm hw (i := j) (by omega))
          omega
      have hc := hd hs
      show wb_X6_degree_4 _ _ _ _ _ _ _
      unfold wb_X6_degree_4
      rw [p9]
      simp (disch := omega) only [ι_lit, ι_of, ι_add, ι_mul, ι_lt, ι_le, ι_eq, ι_cl, ι_rem, ι_div, ι_vin, ι_ne1', ι_1ne', ι_1lt', ι_lt1', ι_1le', ι_le1', ι_sub', ι_sub, upN, upE, Nat.reduceEqDiff, ne_eq, not_true_eq_false, not_false_eq_true, false_imp_iff, true_imp_iff, true_and, and_true, imp_self, forall_eq, reduceIte, Nat.reduceMul, Nat.reduceAdd, Nat.reduceSub]
      refine ⟨p2, fun q => absurd q (by omega), fun _ => ⟨p2, a + 1, p3, p5, ι_in (by omega) (by omega), ?_⟩⟩
      refine c_degreeOf hs (p11 i (by omega)).1 ?_
      rw [ιm_next (by omega) (by omega)]
      exact ih (i + 1) (by omega)
  unfold wp_X6_degree
  exact ⟨L.length + 1, key L.length 0 (by omega)⟩
theorem c_fill0a {M : Nat × Nat} {c : Nat} {S : HS} {K : Int32 → HS → Prop} (hc : hT S c = 21) (hN9 : hN S c ≤ 1000000) (h : ∀ S', Ext S S' (fun b _ => b = c) V0 → hX S' = hX S → hS S' = hS S → (∀ k, k < hN S c → hI S' c k = ι 0) → K 0 S') : wp_J7_fill_53178 M c 0 S K := by
  have key : ∀ (k i : Nat) (S1 : HS), i + k = hN S c → Ext S S1 (fun b _ => b = c) V0 → hX S1 = hX S → hS S1 = hS S → hT S1 c = 21 → hN S1 c = hN S c → (∀ j, j < i → hI S1 c j = ι 0) → wl_J7_fill_53178_5 M K (k + 1) c 0 (ι i) (ι (hN S c)) S1 := by
    intro k
    induction k with
    | zero =>
      intro i S1 hi e1 x1 s1 t1 n1 z1
      show wb_J7_fill_53178_5 _ _ _ _ _ _ _ _
      unfold wb_J7_fill_53178_5
      refine ⟨fun _ => h S1 e1 x1 s1 (fun k hk => z1 k (by omega)), fun q => absurd (by rw [ι_le (by omega) (by omega)]; omega) q⟩
    | succ k ih =>
      intro i S1 hi e1 x1 s1 t1 n1 z1
      show wb_J7_fill_53178_5 _ _ _ _ _ _ _ _
      unfold wb_J7_fill_53178_5
      refine ⟨fun q => absurd q (by rw [ι_le (by omega) (by omega)]; omega), fun _ => ⟨t1, by rw [n1]; exact ι_in (by omega) (by omega), ?_⟩⟩
      rw [ι_cl (by omega), show (1 : Int32) = ι 1 from rfl, ι_add]
      refine ih (i + 1) _ (by omega) (e1.sI rfl) x1 s1 t1 n1 (fun j hj => ?_)
      rw [sI_eq]
      by_cases e : j = i
      · rw [if_pos e]; rfl
      · rw [if_neg e]; exact z1 j (by omega)
  unfold wp_J7_fill_53178
  exact ⟨Or.inl hc, hN S c + 1, key (hN S c) 0 S (by omega) (Ext.rf _ _ _) rfl rfl hc rfl (fun j hj => by omega)⟩
/-- those on which the last step stands, j steps from the last one gone through -/
def mk (Q : List Sp) : Nat → Nat → Prop
  | 0, o => o = Q.length - 1
  | j + 1, o => mk Q j o ∨ (mk Q j (Q.length - 1 - j) ∧ hasA Q (Q.length - 1 - j) o)
section STEP
variable {M : Nat × Nat} {h0 g p : Nat} {Q : List Sp} {B : Nat → Nat} {S : HS} {K : Int32 → HS → Prop}
/-- the program's rows, as they are read -/
def Pr (S : HS) (g : Nat) (Q : List Sp) : Prop := g + 9 < hX S ∧ hT S g = 8 ∧ (∀ f, 1 ≤ f → f ≤ 9 → hP S g f = some (g + f)) ∧ (∀ f, 1 ≤ f → f ≤ 9 → hT S (g + f) = (if f = 6 then 23 else 21) ∧ hN S (g + f) = (if f = 9 then 3 else 23)) ∧ hI S g 0 = ι Q.length ∧ ∀ s, s < Q.length → hI S (g + 2) s = ι (sg Q s) ∧ hI S (g + 3) s = ι (lf Q s) ∧ hI S (g + 4) s = ι (rg Q s)
theorem PgAt.pr (h : PgAt h0 S g Q B) : Pr S g Q := ⟨h.2.1, h.2.2.1, h.2.2.2.1, h.2.2.2.2.1, h.2.2.2.2.2.1, fun s hs => ⟨(h.2.2.2.2.2.2 s hs).2.1, (h.2.2.2.2.2.2 s hs).2.2.1, (h.2.2.2.2.2.2 s hs).2.2.2.1⟩⟩
theorem Pr.go {S' : HS} (h : Pr S g Q) (e : Ext S S' (Wg g) V0) : Pr S' g Q := by
  obtain ⟨a1, a2, a3, a4, a5, a6⟩ := h
  have ee := e.2.2.1
  have nI : ∀ f k, f ≤ 6 → hI S' (g + f) k = hI S (g + f) k := fun f k hf => (ee (g + f) (by omega)).2.2.1 k (by unfold Wg; omega)
  refine ⟨by have := e.1; omega, by rw [(ee g (by omega)).1]; exact a2, fun f f1 f2 => by rw [(ee g (by omega)).2.2.2 f (fun c => c)]; exact a3 f f1 f2, fun f f1 f2 => by rw [(ee (g + f) (by omega)).1, (ee (g + f) (by omega)).2.1]; exact a4 f f1 f2, by rw [show hI S' g 0 = hI S g 0 from nI 0 0 (by omega)]; exact a5, fun s hs => ?_⟩
  rw [nI 2 s (by omega), nI 3 s (by omega), nI 4 s (by omega)]
  exact a6 s hs
theorem c_mark {a : Nat} {x1 : Int32} {t : Nat → Nat} (hp : Pr S g Q) (hQ : Q.length ≤ 23) (h1 : x1 = ι a) (ha : a < 126) (ht : ∀ o, o < 23 → hI S (g + 8) o = ι (t o)) (h : ∀ S', Ext S S' (Wg g) V0 → hX S' = hX S → hS S' = hS S → (∀ o, o < 23 → hI S' (g + 8) o = ι (if a = 103 + o then 1 else t o)) → K 0 S') : wp_X7_mark M g x1 S K := by
  subst h1
  unfold wp_X7_mark
  rw [show (103 : Int32) = ι 103 from rfl, ι_lt (by omega) (by omega)]
  refine ⟨fun c => h S (Ext.rf _ _ _) rfl rfl (fun o ho => by rw [if_neg (by omega)]; exact ht o ho), fun c => ⟨hp.2.1, g + 8, hp.2.2.1 8 (by omega) (by omega), (hp.2.2.2.1 8 (by omega) (by omega)).1, ?_, ?_⟩⟩
  · rw [ι_sub (by omega), (hp.2.2.2.1 8 (by omega) (by omega)).2]
    exact ι_in (by show a - 103 < 23; omega) (by decide)
  · rw [ι_sub (by omega), ι_cl (by omega)]
    refine h _ ((Ext.rf S (Wg g) V0).sI (by unfold Wg; omega)) rfl rfl (fun o ho => ?_)
    rw [sI_eq]
    by_cases c2 : a = 103 + o
    · rw [if_pos c2, if_pos (by omega)]; rfl
    · rw [if_neg c2, if_neg (by omega)]; exact ht o ho
theorem c_lastStandsOn {st : Nat} {x1 : Int32} (hp : Pr S g Q) (hq : VQ p Q B) (h1 : x1 = ι st) (hs : st < Q.length) (h : ∀ S', Ext S S' (Wg g) V0 → hX S' = hX S → hS S' = hS S → (mk Q (Q.length - 1 - st) st → K 1 S') ∧ (¬ mk Q (Q.length - 1 - st) st → K 0 S')) : wp_X7_lastStandsOn M g x1 S K := by
  subst h1
  have hl := hq.1
  have key : ∀ (k j : Nat) (S1 : HS) (t : Nat → Nat), j + k = Q.length - 1 - st → Ext S S1 (Wg g) V0 → hX S1 = hX S → hS S1 = hS S → (∀ o, o < 23 → hI S1 (g + 8) o = ι (t o) ∧ (t o = 1 ↔ mk Q j o) ∧ (t o = 0 ∨ t o = 1)) → wl_X7_lastStandsOn_27 M K (k + 1) g (ι st) (ι (Q.length - 1 - j)) S1 := by
    intro k
    induction k with
    | zero =>
      intro j S1 t hj e1 x1 s1 ht
      have p1 := hp.go e1
      obtain ⟨t1, t2, t3⟩ := ht st (by omega)
      have hh := h S1 e1 x1 s1
      show wb_X7_lastStandsOn_27 _ _ _ _ _ _ _
      unfold wb_X7_lastStandsOn_27
      rw [ι_cl (by omega)]
      refine ⟨fun _ => ⟨p1.2.1, g + 8, p1.2.2.1 8 (by omega) (by omega), (p1.2.2.2.1 8 (by omega) (by omega)).1, by rw [(p1.2.2.2.1 8 (by omega) (by omega)).2]; exact ι_in (by show st < 23; omega) (by decide), ?_⟩, fun c => absurd (by rw [ι_le (by omega) (by omega)]; omega) c⟩
      rw [t1, show (0 : Int32) = ι 0 from rfl, ι_eq (by omega) (by omega)]
      rw [show Q.length - 1 - st = j by omega] at hh
      exact ⟨fun c => hh.2 (fun q => by have := t2.mpr q; omega), fun c => hh.1 (t2.mp (by omega))⟩
    | succ k ih =>
      intro j S1 t hj e1 x1 s1 ht
      have p1 := hp.go e1
      generalize hsn : Q.length - 1 - j = s
      have hsl : s < Q.length := by omega
      obtain ⟨t1, t2, t3⟩ := ht s (by omega)
      have hv := hq.2 s hsl
      have hrg := hq.rg hsl
      have hlf := hv.2.2.2.1
      have hvi : ∀ f, 1 ≤ f → f ≤ 8 → ∀ {S2 : HS}, Pr S2 g Q → vp_in (ι s) (hN S2 (g + f)) := fun f f1 f2 S2 p2 => by
        rw [(p2.2.2.2.1 f f1 (by omega)).2, if_neg (by omega)]
        exact ι_in (by omega) (by omega)
      have nx : ι s + (-1) = ι (Q.length - 1 - (j + 1)) := by
        rw [show (-1 : Int32) = -ι 1 from rfl, ι_sub' (by omega)]
        congr 1
        omega
      show wb_X7_lastStandsOn_27 _ _ _ _ _ _ _
      unfold wb_X7_lastStandsOn_27
      rw [ι_cl (a := s) (by omega), nx]
      refine ⟨fun c => absurd c (by rw [ι_le (by omega) (by omega)]; omega), fun _ => ⟨p1.2.1, g + 8, p1.2.2.1 8 (by omega) (by omega), (p1.2.2.2.1 8 (by omega) (by omega)).1, hvi 8 (by omega) (by omega) p1, ?_⟩⟩
      rw [t1, show (0 : Int32) = ι 0 from rfl, ι_eq (by omega) (by omega)]
      refine ⟨fun c => ?_, fun c => ⟨p1.2.1, g + 3, p1.2.2.1 3 (by omega) (by omega), (p1.2.2.2.1 3 (by omega) (by omega)).1, hvi 3 (by omega) (by omega) p1, p1.2.1, ?_⟩⟩
      · refine ih (j + 1) S1 t (by omega) e1 x1 s1 (fun o ho => ⟨(ht o ho).1, ?_, (ht o ho).2.2⟩)
        rw [(ht o ho).2.1]
        show _ ↔ mk Q j o ∨ (mk Q j (Q.length - 1 - j) ∧ hasA Q (Q.length - 1 - j) o)
        rw [hsn]
        exact ⟨fun q => Or.inl q, fun q => by
          rcases q with q | q
          · exact q
          · have := t2.mpr q.1; omega⟩
      · rw [(p1.2.2.2.2.2 s hsl).2.1]
        refine c_mark p1 hl rfl (by omega) (fun o ho => (ht o ho).1) (fun S2 e2 x2 s2 m2 => ?_)
        have p2 := p1.go e2
        refine ⟨p2.2.1, g + 4, p2.2.2.1 4 (by omega) (by omega), (p2.2.2.2.1 4 (by omega) (by omega)).1, hvi 4 (by omega) (by omega) p2, p2.2.1, ?_⟩
        rw [(p2.2.2.2.2.2 s hsl).2.2]
        refine c_mark p2 hl rfl (by omega) m2 (fun S3 e3 x3 s3 m3 => ?_)
        refine ih (j + 1) S3 (fun o => if rg Q s = 103 + o then 1 else if lf Q s = 103 + o then 1 else t o) (by omega) ((e1.tr e2).tr e3) (by omega) (by omega) (fun o ho => ⟨m3 o ho, ?_, ?_⟩)
        · show (if rg Q s = 103 + o then 1 else if lf Q s = 103 + o then 1 else t o) = 1 ↔ mk Q j o ∨ (mk Q j (Q.length - 1 - j) ∧ hasA Q (Q.length - 1 - j) o)
          rw [hsn]
          have hms : mk Q j s := t2.mp (by omega)
          unfold hasA
          by_cases c1 : rg Q s = 103 + o
          · rw [if_pos c1]; exact ⟨fun _ => Or.inr ⟨hms, Or.inr c1⟩, fun _ => rfl⟩
          · rw [if_neg c1]
            by_cases c2 : lf Q s = 103 + o
            · rw [if_pos c2]; exact ⟨fun _ => Or.inr ⟨hms, Or.inl c2⟩, fun _ => rfl⟩
            · rw [if_neg c2, (ht o ho).2.1]
              exact ⟨fun q => Or.inl q, fun q => by
                rcases q with q | ⟨-, q | q⟩
                · exact q
                · exact absurd q c2
                · exact absurd q c1⟩
        · show (if rg Q s = 103 + o then 1 else if lf Q s = 103 + o then 1 else t o) = 0 ∨ (if rg Q s = 103 + o then 1 else if lf Q s = 103 + o then 1 else t o) = 1
          split
          · exact Or.inr rfl
          · split
            · exact Or.inr rfl
            · exact (ht o ho).2.2
  have hp8 := (hp.2.2.2.1 8 (by omega) (by omega))
  unfold wp_X7_lastStandsOn
  refine ⟨hp.2.1, g + 8, hp.2.2.1 8 (by omega) (by omega), c_fill0a hp8.1 (by rw [hp8.2]; decide) (fun S1 e1 x1 s1 z1 => ?_)⟩
  have e1' : Ext S S1 (Wg g) V0 := e1.mo (fun b k q => by unfold Wg; omega) (fun _ _ c => c)
  have p1 := hp.go e1'
  have p18 := (p1.2.2.2.1 8 (by omega) (by omega))
  have z1' : ∀ k, k < 23 → hI S1 (g + 8) k = ι 0 := fun k hk => z1 k (by rw [hp8.2]; exact hk)
  rw [p1.2.2.2.2.1, show (1 : Int32) = ι 1 from rfl, ι_sub (by omega), ι_cl (by omega)]
  refine ⟨p1.2.1, g + 8, p1.2.2.1 8 (by omega) (by omega), p1.2.1, p18.1, by rw [p18.2]; exact ι_in (by show Q.length - 1 < 23; omega) (by decide), p1.2.1, fun v4 e4 => ⟨Q.length - 1 - st + 1, ?_⟩⟩
  rw [sI_ne (by omega), p1.2.2.2.2.1, ι_sub (by omega)] at e4
  subst e4
  refine key (Q.length - 1 - st) 0 _ (fun o => if o = Q.length - 1 then 1 else 0) (by omega) (e1'.sI (by unfold Wg; omega)) x1 s1 (fun o ho => ?_)
  rw [sI_eq]
  show (if o = Q.length - 1 then _ else _) = ι (if o = Q.length - 1 then 1 else 0) ∧ ((if o = Q.length - 1 then 1 else 0) = 1 ↔ o = Q.length - 1) ∧ _
  by_cases c : o = Q.length - 1
  · rw [if_pos c, if_pos c]; exact ⟨rfl, ⟨fun _ => c, fun _ => rfl⟩, Or.inr rfl⟩
  · rw [if_neg c, if_neg c]; exact ⟨z1' o ho, ⟨fun q => by omega, fun q => absurd q c⟩, Or.inl rfl⟩
end STEP
theorem ι_orN {a b : Nat} (ha : a < 2147483648) (hb : b < 2147483648) : ι a ||| ι b = ι (a ||| b) := by
  apply ι_inj_bv
  rw [Int32.toBitVec_or, ι_bv, ι_bv, ι_bv]
  apply BitVec.eq_of_toNat_eq
  rw [BitVec.toNat_or, BitVec.toNat_ofNat, BitVec.toNat_ofNat, BitVec.toNat_ofNat, Nat.mod_eq_of_lt (by omega), Nat.mod_eq_of_lt (by omega)]
  have : a ||| b < 2 ^ 32 := Nat.or_lt_two_pow (by omega) (by omega)
  rw [Nat.mod_eq_of_lt this]
theorem s_isStoodOn {p st : Nat} {Q : List Sp} {B : Nat → Nat} {x1 : Int32} {R : RS} {K : Int32 → RS → Prop} (hq : VQ p Q B) (hr : RPg R Q) (hs : st < Q.length) (h1 : x1 = ι st) (h : (mk Q (Q.length - 1 - st) st → K 1 R) ∧ (¬ mk Q (Q.length - 1 - st) st → K 0 R)) : wp_isStoodOn x1 R K := by
  subst h1
  have hl := hq.1
  have a31 : ∀ s, s < 32 → ι s &&& 31 = ι s := fun s hs => by rw [show (31 : Int32) = ι (2 ^ 5 - 1) from rfl, ι_and 5 (by omega), Nat.mod_eq_of_lt (by omega)]
  have bit : ∀ m s, m < 8388608 → s < 23 → ((ι m >>> (ι s &&& 31)) &&& 1 = 1 ↔ m.testBit s = true) := fun m s hm hs => by
    have hd : m / 2 ^ s ≤ m := Nat.div_le_self _ _
    rw [a31 s (by omega), ι_sr _ s (by omega) rfl (by omega), show (1 : Int32) = ι (2 ^ 1 - 1) from rfl, ι_and 1 (by omega), Nat.testBit_eq_decide_div_mod_eq]
    have e : ι (m / 2 ^ s % 2 ^ 1) = ι (2 ^ 1 - 1) ↔ m / 2 ^ s % 2 = 1 := by rw [ι_eq (by omega) (by omega)]
    rw [e]; simp
  have key : ∀ (k j m : Nat), j + k = Q.length - 1 - st → m < 8388608 → (∀ o, o < 23 → (m.testBit o = true ↔ mk Q j o)) → wl_isStoodOn_16 K (k + 1) (ι st) (ι m) (ι (Q.length - 1 - j)) R := by
    intro k
    induction k with
    | zero =>
      intro j m hj hm hb
      show wb_isStoodOn_16 _ _ _ _ _ _
      unfold wb_isStoodOn_16
      rw [bit m st hm (by omega), hb st (by omega)]
      rw [show Q.length - 1 - st = j by omega] at h
      exact ⟨fun _ => ⟨fun c => h.2 c, fun c => h.1 c⟩, fun c => absurd (by rw [ι_le (by omega) (by omega)]; omega) c⟩
    | succ k ih =>
      intro j m hj hm hb
      generalize hsn : Q.length - 1 - j = s
      have hsl : s < Q.length := by omega
      show wb_isStoodOn_16 _ _ _ _ _ _
      unfold wb_isStoodOn_16
      refine ⟨fun c => absurd c (by rw [ι_le (by omega) (by omega)]; omega), fun _ => ⟨s + 1, ?_⟩⟩
      have nx : ι s + (-1) = ι (Q.length - 1 - (j + 1)) := by
        rw [show (-1 : Int32) = -ι 1 from rfl, ι_sub' (by omega)]
        congr 1
        omega
      have key2 : ∀ (k2 o m2 : Nat), o + k2 = s → m2 < 8388608 → (∀ q, q < 23 → (m2.testBit q = true ↔ mk Q j q ∨ (q < o ∧ mk Q j s ∧ hasA Q s q))) → wl_isStoodOn_24 (wl_isStoodOn_16 K (k + 1)) K (k2 + 1) (ι st) (ι m2) (ι s) (ι o) R := by
        intro k2
        induction k2 with
        | zero =>
          intro o m2 ho hm2 hb2
          show wb_isStoodOn_24 _ _ _ _ _ _ _ _
          unfold wb_isStoodOn_24
          rw [nx]
          refine ⟨fun _ => ih (j + 1) m2 (by omega) hm2 (fun q hq23 => ?_), fun c => absurd (by rw [ι_le (by omega) (by omega)]; omega) c⟩
          rw [hb2 q hq23]
          show _ ↔ mk Q j q ∨ (mk Q j (Q.length - 1 - j) ∧ hasA Q (Q.length - 1 - j) q)
          rw [hsn]
          exact ⟨fun w => by
            rcases w with w | w
            · exact Or.inl w
            · exact Or.inr w.2, fun w => by
            rcases w with w | w
            · exact Or.inl w
            · exact Or.inr ⟨by have := hq.has hsl w.2; omega, w⟩⟩
        | succ k2 ih2 =>
          intro o m2 ho hm2 hb2
          have hss : ¬ (s < o) := by omega
          show wb_isStoodOn_24 _ _ _ _ _ _ _ _
          unfold wb_isStoodOn_24
          rw [bit m2 s hm2 (by omega), hb2 s (by omega), show (1 : Int32) = ι 1 from rfl, ι_add]
          have hsm : (mk Q j s ∨ (s < o ∧ mk Q j s ∧ hasA Q s s)) ↔ mk Q j s := ⟨fun w => by
            rcases w with w | w
            · exact w
            · exact absurd w.1 hss, fun w => Or.inl w⟩
          rw [hsm]
          refine ⟨fun c => absurd c (by rw [ι_le (by omega) (by omega)]; omega), fun _ => ⟨fun c => ih2 (o + 1) m2 (by omega) hm2 (fun q hq23 => ?_), fun c => ?_⟩⟩
          · rw [hb2 q hq23]
            exact ⟨fun w => by
              rcases w with w | w
              · exact Or.inl w
              · exact absurd w.2.1 c, fun w => by
              rcases w with w | w
              · exact Or.inl w
              · exact absurd w.2.1 c⟩
          · refine s_has hq hr hsl (o := o) (by omega) rfl rfl ⟨fun w => ⟨fun c2 => absurd c2 (by decide), fun _ v2 e2 => ?_⟩, fun w => ⟨fun _ => ih2 (o + 1) m2 (by omega) hm2 (fun q hq23 => ?_), fun c2 => absurd rfl c2⟩⟩
            · have hpw : 2 ^ o < 8388608 := by
                have := Nat.pow_lt_pow_right (a := 2) (by omega) (show o < 23 by omega)
                omega
              rw [a31 o (by omega), ι_sh _ o (by omega) rfl, Nat.one_mul, ι_orN (by omega) (by omega)] at e2
              subst e2
              refine ih2 (o + 1) _ (by omega) (show m2 ||| 2 ^ o < 2 ^ 23 from Nat.or_lt_two_pow hm2 hpw) (fun q hq23 => ?_)
              rw [Nat.testBit_or, Nat.testBit_two_pow, Bool.or_eq_true, hb2 q hq23, decide_eq_true_iff]
              exact ⟨fun z => by
                rcases z with (z | z) | z
                · exact Or.inl z
                · exact Or.inr ⟨by omega, z.2⟩
                · subst z; exact Or.inr ⟨by omega, c, w⟩, fun z => by
                rcases z with z | z
                · exact Or.inl (Or.inl z)
                · by_cases e : q = o
                  · exact Or.inr e.symm
                  · exact Or.inl (Or.inr ⟨by omega, z.2⟩)⟩
            · rw [hb2 q hq23]
              exact ⟨fun z => by
                rcases z with z | z
                · exact Or.inl z
                · exact Or.inr ⟨by omega, z.2⟩, fun z => by
                rcases z with z | z
                · exact Or.inl z
                · by_cases e : q = o
                  · subst e; exact absurd z.2.2 w
                  · exact Or.inr ⟨by omega, z.2⟩⟩
      refine key2 s 0 m (by omega) hm (fun q hq23 => ?_)
      rw [hb q hq23]
      exact ⟨fun z => Or.inl z, fun z => by
        rcases z with z | z
        · exact z
        · omega⟩
  unfold wp_isStoodOn
  intro v1 e1
  have hpw : 2 ^ (Q.length - 1) < 8388608 := by
    have := Nat.pow_lt_pow_right (a := 2) (by omega) (show Q.length - 1 < 23 by omega)
    omega
  rw [hr.1, show (1 : Int32) = ι 1 from rfl, ι_sub (by omega), a31 _ (by omega), ι_sh _ (Q.length - 1) (by omega) rfl, Nat.one_mul] at e1
  subst e1
  rw [hr.1, show (1 : Int32) = ι 1 from rfl, ι_sub (by omega)]
  refine ⟨Q.length - 1 - st + 1, key (Q.length - 1 - st) 0 _ (by omega) hpw (fun o ho => ?_)⟩
  rw [Nat.testBit_two_pow, decide_eq_true_iff]
  exact ⟨fun q => q.symm, fun q => q.symm⟩
/-! step. -/
section STEP2
variable {M : Nat × Nat} {h0 g p : Nat} {Q : List Sp} {B : Nat → Nat} {S : HS} {K : Int32 → HS → Prop}
/-- the first step like st, from i on -/
theorem c_firstLike {st : Nat} {x1 : Int32} (hg : PgAt h0 S g Q B) (hq : VQ p Q B) (hp : p ≤ 13) (h1 : x1 = ι st) (hs : st < Q.length) (h : ∀ i, i ≤ st → mks Q i = mks Q st → (∀ j, j < i → mks Q j ≠ mks Q st) → K (ι i) S) : wp_X7_firstLike M g x1 S K := by
  subst h1
  have hl := hq.1
  have pr := hg.pr
  have p6 := pr.2.2.2.1 6 (by omega) (by omega)
  have hm : ∀ i, i < Q.length → ∃ a, hP S (g + 6) i = some a ∧ Ka h0 a ∧ PolyAt S a (mks Q i) := fun i hi => (hg.2.2.2.2.2.2 i hi).2.2.2.2.2
  have hvi : ∀ i, i < 23 → vp_in (ι i) (hN S (g + 6)) := fun i hi => by rw [p6.2]; exact ι_in (by show i < 23; omega) (by decide)
  have key : ∀ (k i : Nat), i + k = st → (∀ j, j < i → mks Q j ≠ mks Q st) → wl_X7_firstLike_2 M K (k + 1) g (ι st) (ι i) S := by
    intro k
    induction k with
    | zero =>
      intro i hi hn
      show wb_X7_firstLike_2 _ _ _ _ _ _ _
      unfold wb_X7_firstLike_2
      exact ⟨fun _ => h st (Nat.le_refl _) rfl (fun j hj => hn j (by omega)), fun c => absurd (by rw [ι_le (by omega) (by omega)]; omega) c⟩
    | succ k ih =>
      intro i hi hn
      obtain ⟨a, a1, a2, a3⟩ := hm i (by omega)
      obtain ⟨b, b1, b2, b3⟩ := hm st hs
      show wb_X7_firstLike_2 _ _ _ _ _ _ _
      unfold wb_X7_firstLike_2
      rw [ι_cl (by omega), ι_cl (by omega)]
      refine ⟨fun c => absurd c (by rw [ι_le (by omega) (by omega)]; omega), fun _ => ⟨pr.2.1, g + 6, pr.2.2.1 6 (by omega) (by omega), p6.1, hvi i (by omega), a, a1, pr.2.1, g + 6, pr.2.2.1 6 (by omega) (by omega), p6.1, hvi st (by omega), b, b1, a3.2.1, ?_⟩⟩
      refine c_isLike hp (hq.2 i (by omega)).1 (hq.2 st hs).1 a3 b3 (fun e => ⟨fun c => absurd c (by decide), fun _ => h i (by omega) e hn⟩) (fun e => ⟨fun _ => ?_, fun c => absurd rfl c⟩)
      rw [show (1 : Int32) = ι 1 from rfl, ι_add]
      refine ih (i + 1) (by omega) (fun j hj => ?_)
      by_cases c : j = i
      · rw [c]; exact e
      · exact hn j (by omega)
  exact ⟨st + 1, key st 0 (by omega) (fun j hj => by omega)⟩
/-- how many of the steps from a on have o as an atom -/
noncomputable def usr (Q : List Sp) (o a : Nat) : Nat → Nat
  | 0 => 0
  | k + 1 => usr Q o a k + @ite _ (hasA Q (a + k) o) (Classical.propDecidable _) 1 0
theorem usr_le (Q : List Sp) (o a : Nat) : ∀ k, usr Q o a k ≤ k := by
  intro k
  induction k with
  | zero => exact Nat.le_refl _
  | succ k ih =>
    rw [usr]
    by_cases c : hasA Q (a + k) o
    · rw [if_pos c]; omega
    · rw [if_neg c]; omega
theorem usr_app (Q : List Sp) (o a b : Nat) : ∀ k, usr Q o a (b + k) = usr Q o a b + usr Q o (a + b) k := by
  intro k
  induction k with
  | zero => rfl
  | succ k ih => rw [← Nat.add_assoc, usr, ih, usr, Nat.add_assoc, Nat.add_assoc]
theorem usr_0 {Q : List Sp} {o a : Nat} : ∀ {k : Nat}, (∀ i, i < k → ¬ hasA Q (a + i) o) → usr Q o a k = 0 := by
  intro k
  induction k with
  | zero => intro _; rfl
  | succ k ih =>
    intro h
    rw [usr, ih (fun i hi => h i (by omega)), if_neg (h k (by omega))]
theorem c_usersOf {st : Nat} {x1 : Int32} (pr : Pr S g Q) (hq : VQ p Q B) (h1 : x1 = ι st) (hs : st < Q.length) (h : K (ι (usr Q st 0 Q.length)) S) : wp_X7_usersOf M g x1 S K := by
  subst h1
  have hl := hq.1
  have hvi : ∀ f, 1 ≤ f → f ≤ 5 → ∀ i, i < 23 → vp_in (ι i) (hN S (g + f)) := fun f f1 f2 i hi => by rw [(pr.2.2.2.1 f f1 (by omega)).2, if_neg (by omega)]; exact ι_in (by omega) (by omega)
  have tot : usr Q st 0 Q.length = usr Q st (st + 1) (Q.length - (st + 1)) := by
    have := usr_app Q st 0 (st + 1) (Q.length - (st + 1))
    rw [show st + 1 + (Q.length - (st + 1)) = Q.length by omega, usr_0 (k := st + 1) (fun i hi w => by
      have := hq.has (s := 0 + i) (by omega) w
      omega), Nat.zero_add, Nat.zero_add] at this
    exact this
  rw [tot] at h
  have key : ∀ (k i : Nat), i + k = Q.length - (st + 1) → wl_X7_usersOf_6 M K (k + 1) g (ι st) (ι (usr Q st (st + 1) i)) (ι (st + 1 + i)) S := by
    intro k
    induction k with
    | zero =>
      intro i hi
      show wb_X7_usersOf_6 _ _ _ _ _ _ _ _
      unfold wb_X7_usersOf_6
      rw [pr.2.2.2.2.1]
      refine ⟨pr.2.1, fun _ => by rw [show i = Q.length - (st + 1) by omega]; exact h, fun c => absurd (by rw [ι_le (by omega) (by omega)]; omega) c⟩
    | succ k ih =>
      intro i hi
      have hsl : st + 1 + i < Q.length := by omega
      have hlf := (hq.2 _ hsl).2.2.2.1
      have hrg := hq.rg hsl
      have hu := usr_le Q st (st + 1) i
      show wb_X7_usersOf_6 _ _ _ _ _ _ _ _
      unfold wb_X7_usersOf_6
      rw [pr.2.2.2.2.1, ι_cl (by omega), show (103 : Int32) = ι 103 from rfl, ι_add, show (1 : Int32) = ι 1 from rfl, ι_add, ι_add]
      have nx := ih (i + 1) (by omega)
      rw [usr] at nx
      refine ⟨pr.2.1, fun c => absurd c (by rw [ι_le (by omega) (by omega)]; omega), fun _ => ⟨pr.2.1, g + 3, pr.2.2.1 3 (by omega) (by omega), (pr.2.2.2.1 3 (by omega) (by omega)).1, hvi 3 (by omega) (by omega) _ (by omega), ?_⟩⟩
      rw [(pr.2.2.2.2.2 _ hsl).2.1, ι_eq (by omega) (by omega)]
      refine ⟨fun c => ?_, fun c => ⟨pr.2.1, g + 4, pr.2.2.1 4 (by omega) (by omega), (pr.2.2.2.1 4 (by omega) (by omega)).1, hvi 4 (by omega) (by omega) _ (by omega), ?_⟩⟩
      · rw [if_pos (show hasA Q (st + 1 + i) st from Or.inl c)] at nx
        exact nx
      · rw [(pr.2.2.2.2.2 _ hsl).2.2, ι_eq (by omega) (by omega)]
        refine ⟨fun c2 => ?_, fun c2 => ?_⟩
        · rw [if_neg (show ¬ hasA Q (st + 1 + i) st from fun w => by
            rcases w with w | w
            · exact c w
            · exact c2 w), Nat.add_zero] at nx
          exact nx
        · rw [if_pos (show hasA Q (st + 1 + i) st from Or.inr c2)] at nx
          exact nx
  unfold wp_X7_usersOf
  rw [show (1 : Int32) = ι 1 from rfl, ι_add]
  exact ⟨Q.length - (st + 1) + 1, key _ 0 (by omega)⟩
end STEP2
theorem call_5 {h0 s0 n : Nat} {S : HS} {R : RS} (hn : n < 512) (y1 y2 : Int32) (v : Int64) (h : Inv h0 s0 n S R) : wq_5 (Mx h0 s0) h0 y1 y2 S R v (Inv h0 s0 (n + 1)) := by
  obtain ⟨⟨p, P, A, T, Tx, ft, Q, B⟩, hc, hv, hr⟩ := h
  have hL := hc.1
  have hroom := hc.room hn
  have hpp := hv.1
  have hple := hpp.le
  have hr0 : RI (up R 0 0 0) (p, P, A, T, Tx, ft, Q, B) := hr.code hv 0
  have hq : VQ p Q B := hv.2.2.2.2.2
  have hl := hq.1
  have hrp : RPg (up R 0 0 0) Q := hr0.2.2.2.2.2.2
  have rm : hX S + 1 ≤ (Mx h0 s0).1 ∧ hS S + 6 ≤ (Mx h0 s0).2 := ⟨by show hX S + 1 ≤ h0 + 601024; omega, by show hS S + 6 ≤ s0 + 7293034; omega⟩
  have z00 : (up R 0 0 0) 0 0 = 0 := by rw [upE, if_pos rfl]
  -- no such step
  have b1 : (∀ i, i < Q.length → ¬ y1 = ι i) → ((fun E S' => E = xNSE ∧ ∀ S'', Re S' S'' → wp_step y1 y2 R (fun q R1 => wp_thrown R1 (fun t R2 => t = 1 ∧ ((1 : Int32) = 0 → v = Int32.toInt64 q) ∧ Inv h0 s0 (n + 1) S'' R2))) xNSE S) ∧ hX S + 1 ≤ (Mx h0 s0).1 ∧ hS S + 6 ≤ (Mx h0 s0).2 := fun hne => ⟨⟨rfl, fun S'' re => by
    have fl : wp_fail 1 (up R 0 0 0) (fun r6 R6 => wp_thrown R6 (fun t R2 => t = 1 ∧ ((1 : Int32) = 0 → v = Int32.toInt64 r6) ∧ Inv h0 s0 (n + 1) S'' R2)) := by
      unfold wp_fail wp_thrown
      exact ⟨by rw [upE, if_pos rfl], fun c => absurd c (by decide), _, hc.re re, hv, hr0.code hv 1⟩
    unfold wp_step
    rw [hrp.1]
    by_cases ez : Q.length = 0
    · rw [ez, show ι 0 - 1 = -1 from rfl]
      unfold wp_isIn
      refine ⟨fun _ => ⟨fun c => absurd rfl c, fun _ => fl⟩, fun c => ⟨fun _ => ⟨fun c => absurd rfl c, fun _ => fl⟩, fun c3 => ?_⟩⟩
      obtain ⟨a, ha, rfl⟩ := ι_ex c
      exact absurd (ι_1lt ha) c3
    · rw [show (1 : Int32) = ι 1 from rfl, ι_sub (by omega)]
      exact s_isInB (b := 0) (c := Q.length - 1) rfl rfl (by omega) (by omega) (fun a _ ha e => absurd e (hne a (by omega))) (fun _ => ⟨fun c => absurd rfl c, fun _ => fl⟩)⟩, rm⟩
  refine ⟨hL.t0, ?_⟩
  unfold wp_X11_step
  rcases hc.2.2.2.2.2.2.2.2.1 with ⟨q1, q2⟩ | ⟨g, q1, q2, q3, -⟩
  · refine ⟨hL.t0, fun _ => b1 (fun i hi => by rw [q2] at hi; simp at hi), fun b e => by rw [q1] at e; cases e⟩
  refine ⟨hL.t0, fun e => (by rw [q1] at e; cases e), fun b e => ?_⟩
  refine ⟨fun c => b1 (fun i hi e2 => by rw [e2] at c; exact ι_nn (by omega) c), fun c => ⟨g, q1, q3.2.2.1, ?_⟩⟩
  obtain ⟨st, hst31, rfl⟩ := ι_ex c
  have pr := q3.pr
  rw [pr.2.2.2.2.1, ι_lt hst31 (by omega)]
  refine ⟨fun hs => ?_, fun c2 => b1 (fun i hi e2 => by rw [ι_eq hst31 (by omega)] at e2; omega)⟩
  -- the reference gets to the same question
  have ref : ∀ K : Int32 → RS → Prop, (((Int32.toInt y2 < 0 ∨ 6 < Int32.toInt y2) → wp_fail 1 (up R 0 0 0) (fun r2 R2 => K r2 R2)) ∧ (y2 = 0 → wp_boundOf (ι st) (up R 0 0 0) (fun r3 R3 => K r3 R3)) ∧ (y2 = 1 → wp_degreeOf (6 + ι st) (up R 0 0 0) (fun r4 R4 => K r4 R4)) ∧ (y2 = 2 → vp_in (6 + ι st) 56 ∧ K ((up R 0 0 0) 2 (Int32.toNatClampNeg (6 + ι st))) (up R 0 0 0)) ∧ (y2 = 3 → vp_in (ι st) 23 ∧ K ((up R 0 0 0) 29 (Int32.toNatClampNeg (ι st))) (up R 0 0 0)) ∧ (y2 = 4 → wp_isStoodOn (ι st) (up R 0 0 0) (fun r5 R5 => (r5 = 0 → K 0 R5) ∧ (¬ (r5 = 0) → K 1 R5))) ∧ (y2 = 5 → ∃ nn : Nat, wl_step_118 K nn (ι st) 0 (up R 0 0 0)) ∧ (y2 = 6 → ∃ nn : Nat, wl_step_144 K nn (ι st) 0 0 (up R 0 0 0))) → wp_step (ι st) y2 R K := fun K hK => by
    unfold wp_step
    rw [hrp.1, show (1 : Int32) = ι 1 from rfl, ι_sub (by omega)]
    exact s_isInB (b := 0) (c := Q.length - 1) rfl rfl (by omega) (by omega) (fun a _ ha e => ⟨fun _ => hK, fun c => absurd c (by decide)⟩) (fun h => absurd rfl (h st (by omega) (by omega)))
  have fin : Inv h0 s0 (n + 1) S (up R 0 0 0) := ⟨_, hc.next, hv, hr0⟩
  have hra := hrp.a hs
  have e6 : (6 : Int32) + ι st = ι (6 + st) := by rw [show (6 : Int32) = ι 6 from rfl, ι_add]
  have nz : ∀ (a b : Nat), a < 7 → b < 7 → a ≠ b → y2 = ι a → ¬ y2 = ι b := fun a b ha hb hab e1 e2 => by
    rw [e1, ι_eq (by omega) (by omega)] at e2; exact hab e2
  have nr : ∀ a, a < 7 → y2 = ι a → ¬ (Int32.toInt y2 < 0 ∨ 6 < Int32.toInt y2) := fun a ha e => by rw [e, ι_int (by omega)]; omega
  obtain ⟨mb, m1, m2, m3⟩ := (q3.2.2.2.2.2.2 st hs).2.2.2.2.2
  have m3 : PolyAt S mb (mks Q st) := m3
  have ws := (hq.2 st hs).1
  have hvi : ∀ f, 1 ≤ f → f ≤ 8 → vp_in (ι st) (hN S (g + f)) := fun f f1 f2 => by rw [(pr.2.2.2.1 f f1 (by omega)).2, if_neg (by omega)]; exact ι_in (by omega) (by omega)
  refine ⟨fun c2 => ⟨⟨rfl, fun S'' re => ?_⟩, rm⟩, fun e0 => ⟨g, q1, pr.2.1, g + 5, pr.2.2.1 5 (by omega) (by omega), (pr.2.2.2.1 5 (by omega) (by omega)).1, hvi 5 (by omega) (by omega), ?_⟩, fun e1 => ⟨g, q1, pr.2.1, g + 6, pr.2.2.1 6 (by omega) (by omega), (pr.2.2.2.1 6 (by omega) (by omega)).1, hvi 6 (by omega) (by omega), mb, by rw [ι_cl (by omega)]; exact m1, m3.2.1, ?_⟩, fun e2 => ⟨g, q1, pr.2.1, g + 6, pr.2.2.1 6 (by omega) (by omega), (pr.2.2.2.1 6 (by omega) (by omega)).1, hvi 6 (by omega) (by omega), mb, by rw [ι_cl (by omega)]; exact m1, m3.2.1, ?_⟩, fun e3 => ⟨g, q1, pr.2.1, g + 1, pr.2.2.1 1 (by omega) (by omega), (pr.2.2.2.1 1 (by omega) (by omega)).1, hvi 1 (by omega) (by omega), ?_⟩, fun e4 => ⟨g, q1, pr.2.1, ?_⟩, fun e5 => ⟨g, q1, pr.2.1, ?_⟩, fun e6' => ⟨g, q1, pr.2.1, ?_⟩⟩
  · -- another what
    have ne : ∀ a, a < 7 → ¬ y2 = ι a := fun a ha e => nr a ha e c2
    refine ref _ ⟨fun _ => ?_, fun e => absurd e (ne 0 (by omega)), fun e => absurd e (ne 1 (by omega)), fun e => absurd e (ne 2 (by omega)), fun e => absurd e (ne 3 (by omega)), fun e => absurd e (ne 4 (by omega)), fun e => absurd e (ne 5 (by omega)), fun e => absurd e (ne 6 (by omega))⟩
    unfold wp_fail wp_thrown
    exact ⟨by rw [upE, if_pos rfl], fun c => absurd c (by decide), _, hc.re re, hv, hr0.code hv 1⟩
  · rw [ι_cl (by omega), (q3.2.2.2.2.2.2 st hs).2.2.2.2.1]
    refine ref _ ⟨fun c => absurd c (nr 0 (by omega) e0), fun _ => s_boundOf hq hrp hs rfl (fun R' r' => ⟨by rw [r'.2 0 (by simp)]; exact z00, fun _ => rfl, _, hc.next, hv, ?_⟩), fun e => absurd e (nz 0 1 (by omega) (by omega) (by omega) e0), fun e => absurd e (nz 0 2 (by omega) (by omega) (by omega) e0), fun e => absurd e (nz 0 3 (by omega) (by omega) (by omega) e0), fun e => absurd e (nz 0 4 (by omega) (by omega) (by omega) e0), fun e => absurd e (nz 0 5 (by omega) (by omega) (by omega) e0), fun e => absurd e (nz 0 6 (by omega) (by omega) (by omega) e0)⟩
    exact hr0.scr (ts := []) hv (hr0.1.fr r' (by simp) (by simp) (by simp) (by simp)) r' (r'.fs [] (by simp)) (by decide) (by decide) (by simp)
  · refine c_degree ws (m3.rd ws) (ref _ ⟨fun c => absurd c (nr 1 (by omega) e1), fun e => absurd e (nz 1 0 (by omega) (by omega) (by omega) e1), fun _ => ?_, fun e => absurd e (nz 1 2 (by omega) (by omega) (by omega) e1), fun e => absurd e (nz 1 3 (by omega) (by omega) (by omega) e1), fun e => absurd e (nz 1 4 (by omega) (by omega) (by omega) e1), fun e => absurd e (nz 1 5 (by omega) (by omega) (by omega) e1), fun e => absurd e (nz 1 6 (by omega) (by omega) (by omega) e1)⟩)
    exact s_degreeOf e6 (by omega) ws hra.1 ⟨z00, fun _ => rfl, fin⟩
  · rw [m3.2.2.2.2.2.2.2.2.1]
    refine ref _ ⟨fun c => absurd c (nr 2 (by omega) e2), fun e => absurd e (nz 2 0 (by omega) (by omega) (by omega) e2), fun e => absurd e (nz 2 1 (by omega) (by omega) (by omega) e2), fun _ => ?_, fun e => absurd e (nz 2 3 (by omega) (by omega) (by omega) e2), fun e => absurd e (nz 2 4 (by omega) (by omega) (by omega) e2), fun e => absurd e (nz 2 5 (by omega) (by omega) (by omega) e2), fun e => absurd e (nz 2 6 (by omega) (by omega) (by omega) e2)⟩
    rw [e6, ι_cl (by omega), hra.1.1]
    exact ⟨ι_in (by omega) (by omega), z00, fun _ => rfl, fin⟩
  · rw [ι_cl (by omega), (q3.2.2.2.2.2.2 st hs).1]
    refine ref _ ⟨fun c => absurd c (nr 3 (by omega) e3), fun e => absurd e (nz 3 0 (by omega) (by omega) (by omega) e3), fun e => absurd e (nz 3 1 (by omega) (by omega) (by omega) e3), fun e => absurd e (nz 3 2 (by omega) (by omega) (by omega) e3), fun _ => ?_, fun e => absurd e (nz 3 4 (by omega) (by omega) (by omega) e3), fun e => absurd e (nz 3 5 (by omega) (by omega) (by omega) e3), fun e => absurd e (nz 3 6 (by omega) (by omega) (by omega) e3)⟩
    rw [ι_cl (by omega), hra.2.1]
    exact ⟨ι_in (by omega) (by omega), z00, fun _ => rfl, fin⟩
  · refine c_lastStandsOn pr hq rfl hs (fun S1 e1 x1 s1 => ?_)
    have hc1 := (hc.pgw q1 e1 x1 s1).next
    have go : ∀ K : Int32 → RS → Prop, ((mk Q (Q.length - 1 - st) st → K 1 (up R 0 0 0)) ∧ (¬ mk Q (Q.length - 1 - st) st → K 0 (up R 0 0 0))) → wp_step (ι st) y2 R K := fun K hK => ref _ ⟨fun c => absurd c (nr 4 (by omega) e4), fun e => absurd e (nz 4 0 (by omega) (by omega) (by omega) e4), fun e => absurd e (nz 4 1 (by omega) (by omega) (by omega) e4), fun e => absurd e (nz 4 2 (by omega) (by omega) (by omega) e4), fun e => absurd e (nz 4 3 (by omega) (by omega) (by omega) e4), fun _ => s_isStoodOn hq hrp hs rfl ⟨fun q => ⟨fun c => absurd c (by decide), fun _ => hK.1 q⟩, fun q => ⟨fun _ => hK.2 q, fun c => absurd rfl c⟩⟩, fun e => absurd e (nz 4 5 (by omega) (by omega) (by omega) e4), fun e => absurd e (nz 4 6 (by omega) (by omega) (by omega) e4)⟩
    refine ⟨fun q => ⟨fun c => absurd c (by decide), fun _ => go _ ⟨fun _ => ⟨z00, fun _ => rfl, _, hc1, hv, hr0⟩, fun c => absurd q c⟩⟩, fun q => ⟨fun _ => go _ ⟨fun c => absurd c q, fun _ => ⟨z00, fun _ => rfl, _, hc1, hv, hr0⟩⟩, fun c => absurd rfl c⟩⟩
  · refine c_firstLike q3 hq hple.2 rfl hs (fun i hi he hne => ref _ ⟨fun c => absurd c (nr 5 (by omega) e5), fun e => absurd e (nz 5 0 (by omega) (by omega) (by omega) e5), fun e => absurd e (nz 5 1 (by omega) (by omega) (by omega) e5), fun e => absurd e (nz 5 2 (by omega) (by omega) (by omega) e5), fun e => absurd e (nz 5 3 (by omega) (by omega) (by omega) e5), fun e => absurd e (nz 5 4 (by omega) (by omega) (by omega) e5), fun _ => ⟨i + 1, ?_⟩, fun e => absurd e (nz 5 6 (by omega) (by omega) (by omega) e5)⟩)
    have key : ∀ (k j : Nat), j + k = i → wl_step_118 (fun q R1 => wp_thrown R1 (fun t R2 => t = 0 ∧ ((0 : Int32) = 0 → Int32.toInt64 (ι i) = Int32.toInt64 q) ∧ Inv h0 s0 (n + 1) S R2)) (k + 1) (ι st) (ι j) (up R 0 0 0) := by
      intro k
      induction k with
      | zero =>
        intro j hj
        have ej : j = i := by omega
        subst ej
        show wb_step_118 _ _ _ _ _
        unfold wb_step_118
        refine s_areSame (a := 6 + j) (b := 6 + st) (by rw [show (6 : Int32) = ι 6 from rfl, ι_add]) (by rw [show (6 : Int32) = ι 6 from rfl, ι_add]) (by omega) (by omega) (hq.2 j (by omega)).1 ws hple.2 hple.2 (hrp.a (s := j) (by omega)).1 hra.1 ⟨fun _ => ⟨fun _ => ⟨z00, fun _ => rfl, fin⟩, fun c => absurd c (by decide)⟩, fun c => absurd he c⟩
      | succ k ih =>
        intro j hj
        show wb_step_118 _ _ _ _ _
        unfold wb_step_118
        refine s_areSame (a := 6 + j) (b := 6 + st) (by rw [show (6 : Int32) = ι 6 from rfl, ι_add]) (by rw [show (6 : Int32) = ι 6 from rfl, ι_add]) (by omega) (by omega) (hq.2 j (by omega)).1 ws hple.2 hple.2 (hrp.a (s := j) (by omega)).1 hra.1 ⟨fun c => absurd c (hne j (by omega)), fun _ => ⟨fun c => absurd rfl c, fun _ => ?_⟩⟩
        rw [show (1 : Int32) = ι 1 from rfl, ι_add]
        exact ih (j + 1) (by omega)
    exact key i 0 (by omega)
  · refine c_usersOf pr hq rfl hs (ref _ ⟨fun c => absurd c (nr 6 (by omega) e6'), fun e => absurd e (nz 6 0 (by omega) (by omega) (by omega) e6'), fun e => absurd e (nz 6 1 (by omega) (by omega) (by omega) e6'), fun e => absurd e (nz 6 2 (by omega) (by omega) (by omega) e6'), fun e => absurd e (nz 6 3 (by omega) (by omega) (by omega) e6'), fun e => absurd e (nz 6 4 (by omega) (by omega) (by omega) e6'), fun e => absurd e (nz 6 5 (by omega) (by omega) (by omega) e6'), fun _ => ⟨Q.length + 1, ?_⟩⟩)
    have key : ∀ (k j : Nat), j + k = Q.length → wl_step_144 (fun q R1 => wp_thrown R1 (fun t R2 => t = 0 ∧ ((0 : Int32) = 0 → Int32.toInt64 (ι (usr Q st 0 Q.length)) = Int32.toInt64 q) ∧ Inv h0 s0 (n + 1) S R2)) (k + 1) (ι st) (ι (usr Q st 0 j)) (ι j) (up R 0 0 0) := by
      intro k
      induction k with
      | zero =>
        intro j hj
        show wb_step_144 _ _ _ _ _ _
        unfold wb_step_144
        rw [hrp.1]
        refine ⟨fun _ => ?_, fun c => absurd (by rw [ι_le (by omega) (by omega)]; omega) c⟩
        rw [show j = Q.length by omega]
        exact ⟨z00, fun _ => rfl, fin⟩
      | succ k ih =>
        intro j hj
        have nx := ih (j + 1) (by omega)
        rw [usr] at nx
        show wb_step_144 _ _ _ _ _ _
        unfold wb_step_144
        rw [hrp.1]
        refine ⟨fun c => absurd c (by rw [ι_le (by omega) (by omega)]; omega), fun _ => s_has hq hrp (s := j) (o := st) (by omega) (by omega) rfl rfl ⟨fun w => ⟨fun c => absurd c (by decide), fun _ => ?_⟩, fun w => ⟨fun _ => ?_, fun c => absurd rfl c⟩⟩⟩
        · rw [if_pos (by rw [Nat.zero_add]; exact w)] at nx
          rw [show (1 : Int32) = ι 1 from rfl, ι_add, ι_add]; exact nx
        · rw [if_neg (by rw [Nat.zero_add]; exact w)] at nx
          rw [show (0 : Int32) = ι 0 from rfl, show (1 : Int32) = ι 1 from rfl, ι_add, ι_add]; exact nx
    exact key Q.length 0 (by omega)
