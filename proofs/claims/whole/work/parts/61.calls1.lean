/-! The invariant is kept by what touches nothing of it. -/
def rF : List Nat := [2, 3, 4, 5, 6, 8, 14, 15, 16, 17, 18, 19, 20, 21, 26, 33, 34, 35, 36, 39, 40, 41]
def rK : List Nat := [0, 7, 22, 23, 24, 25, 38, 44, 45, 46, 47, 48, 49, 50]
theorem RI.go {R R' : RS} {g : Gh} {ts : List Nat} (h : RI R g) (hv : VI g) (hG : G0 R' g.1) (hr : Fr R R' rF rK) (hf : Fs R R' ts) (ht : ∀ t ∈ ts, 29 ≤ t) : RI R' g := by
  obtain ⟨p, P, A, T, Tx, ft, Q, B⟩ := g
  obtain ⟨-, h2, h3, h4, h5, h6, h7⟩ := h
  obtain ⟨v1, v2, v3, v4, v5, v6⟩ := hv
  have e : ∀ f, f ≠ 0 → f ∉ rF → R' f = R f := hr.1
  have e0 : ∀ k, k ∉ rK → R' 0 k = R 0 k := hr.2
  refine ⟨hG, fun k hk => (h2 k hk).go (v2 k hk).1 hf (fun c => by have := ht k c; omega), ⟨by rw [e0 13 (by decide)]; exact h3.1, fun k hk => ?_⟩, ⟨by rw [e0 43 (by decide)]; exact h4.1, fun i hi => by rw [e 42 (by decide) (by decide)]; exact h4.2 i hi⟩, ⟨by rw [e0 28 (by decide)]; exact h5.1, fun i hi => by rw [e 27 (by decide) (by decide)]; exact h5.2 i hi⟩, by rw [e0 51 (by decide)]; exact h6, ⟨by rw [e0 37 (by decide)]; exact h7.1, fun s hs => ?_⟩⟩
  · rw [e 9 (by decide) (by decide), e 10 (by decide) (by decide), e 11 (by decide) (by decide), e 12 (by decide) (by decide)]
    exact h3.2 k hk
  · have q := h7.2 s hs
    rw [e 29 (by decide) (by decide), e 30 (by decide) (by decide), e 31 (by decide) (by decide), e 32 (by decide) (by decide)]
    have : s < 23 := Nat.lt_of_lt_of_le hs v6.1
    exact ⟨q.1.go (v6.2 s hs).1.1 hf (fun c => by have := ht _ c; omega), q.2⟩
theorem RI.code {R : RS} {g : Gh} (h : RI R g) (hv : VI g) (x : Int32) : RI (up R 0 0 x) g := by
  have hr : Fr R (up R 0 0 x) [] [0] := (Fr.rf R [] [0]).w0 (by simp)
  have hG : G0 R g.1 := h.1
  exact h.go (ts := []) hv (hG.fr hr (by simp) (by simp) (by simp) (by simp)) (hr.mo (by decide) (by decide)) (hr.fs [] (by simp)) (by simp)
theorem CRo.next {h0 s0 n : Nat} {S : HS} {T : List Nat} (h : CRo h0 s0 S n T) : CRo h0 s0 S (n + 1) T := by
  obtain ⟨h1, b1, b2, b3, b4, h2, h3⟩ := h
  exact ⟨by omega, b1, b2, b3, b4, by omega, h3⟩
theorem CI.next {h0 s0 n : Nat} {S : HS} {g : Gh} (h : CI h0 s0 n S g) : CI h0 s0 (n + 1) S g := by
  obtain ⟨p, P, A, T, Tx, ft, Q, B⟩ := g
  obtain ⟨h1, h2, h3, h4, h5, h6, h7, h8, h9, h10, h11, h12⟩ := h
  exact ⟨h1, h2, h3, h4, h5, h6, h7, h8, h9, h10, h11, h12.next⟩
/-- a throw leaves one cell more, at most -/
theorem CI.re {h0 s0 n : Nat} {S S' : HS} {g : Gh} (h : CI h0 s0 n S g) (r : Re S S') : CI h0 s0 (n + 1) S' g := by
  obtain ⟨p, P, A, T, Tx, ft, Q, B⟩ := g
  obtain ⟨h1, h2, h3, h4, h5, h6, h7, h8, h9, h10, h11, h12⟩ := h
  obtain ⟨e1, e2, e3, e4, r1, r2, r3, r4⟩ := r
  have he : Ext S S' (fun _ _ => False) (fun _ _ => False) := ⟨r1, r3, fun b _ => ⟨by rw [e3], by rw [e4], fun _ _ => by rw [e1], fun _ _ => by rw [e2]⟩, fun q b hb => by rw [e3]; exact q b (by omega)⟩
  have gp : ∀ {a : Nat} {L : Po}, PolyAt S a L → PolyAt S' a L := fun q => q.go he (fun _ => ⟨fun c => c, fun c => c, fun c => c, fun c => c⟩)
  have hb : ∀ o, bxC h0 S' o = bxC h0 S o := fun o => by unfold bxC; rw [e2]
  have gb : ∀ {o : Nat}, Bx h0 S o → Bx h0 S' o := fun {o} ⟨a1, a2, a3, a4, a5, a6, a7⟩ => by
    unfold Bx
    rw [hb o, e2, e3, e4]
    exact ⟨a1, by omega, a3, a4, a5, a6, a7⟩
  refine ⟨?_, ⟨by have := h2.1; omega, fun b hb => by rw [e3]; exact h2.2.1 b (by omega), gp h2.2.2.1, gp h2.2.2.2.1, ?_⟩, by rw [e1]; exact h3, fun k hk => ?_, ?_, by unfold CTp; rw [e1]; exact h6, by unfold CSp; rw [e1]; exact h7, by rw [e1]; exact h8, ?_, ?_, ?_, ?_⟩
  · unfold Lay
    rw [e2, e3, e4]; exact h1
  · have h60 := h2.1
    unfold Tp
    rw [e3]
    by_cases c : hX S' = hX S
    · rw [c]; exact h2.2.2.2.2
    · rw [show hX S' = hX S + 1 by omega]
      exact ⟨by rw [h2.2.1 _ (by omega)]; omega, by rw [show hX S + 1 - 2 = hX S - 1 by omega]; exact h2.2.2.2.2.1⟩
  · obtain ⟨a, q1, q2, q3⟩ := h4 k hk
    exact ⟨a, by rw [e2]; exact q1, q2, gp q3⟩
  · obtain ⟨nx, q1, q2, q3, q4⟩ := h5
    refine ⟨nx, q1, by rw [e1]; exact q2, by rw [e1]; exact q3, fun k hk => ?_⟩
    obtain ⟨w1, a, w2, w3, w4⟩ := q4 k hk
    exact ⟨by rw [e1]; exact w1, a, by rw [e2]; exact w2, w3, gp w4⟩
  · rcases h9 with ⟨q1, q2⟩ | ⟨g, q1, q2, q3, q4⟩
    · exact Or.inl ⟨by rw [e2]; exact q1, q2⟩
    · refine Or.inr ⟨g, by rw [e2]; exact q1, q2, ?_, by rw [hb, hb, hb, hb]; exact q4⟩
      obtain ⟨w1, w2, w3, w4, w5, w6, w7⟩ := q3
      refine ⟨w1, by omega, by rw [e3]; exact w3, by rw [e2]; exact w4, by rw [e3, e4]; exact w5, by rw [e1]; exact w6, fun s hs => ?_⟩
      obtain ⟨u1, u2, u3, u4, u5, a, u6, u7, u8⟩ := w7 s hs
      rw [e1, e2]
      exact ⟨u1, u2, u3, u4, u5, a, u6, u7, gp u8⟩
  · obtain ⟨⟨q1, q2, q3, q4⟩, q5⟩ := h10
    refine ⟨⟨gb q1, gb q2, gb q3, gb q4⟩, ?_⟩
    rw [hb, hb, hb, hb]
    exact q5
  · obtain ⟨hst, h11⟩ := h11
    refine ⟨by rw [e1]; exact hst, ?_⟩
    rcases h11 with q | ⟨a, L, q1, q2, q3, q4, q5⟩
    · exact Or.inl (by rw [e2]; exact q)
    · refine Or.inr ⟨a, L, by rw [e2]; exact q1, q2, gp q3, q4, ?_⟩
      rw [e1, e4, hb]
      exact q5
  · obtain ⟨q0, b1, b2, b3, b4, q1, q2⟩ := h12
    refine ⟨by omega, b1, b2, b3, b4, by omega, ?_⟩
    rw [hb, hb, hb, hb, e4]
    exact q2
theorem CI.room {h0 s0 n : Nat} {S : HS} {g : Gh} (h : CI h0 s0 n S g) (hn : n < 512) : hX S + 80000 ≤ h0 + 601024 ∧ hS S + 400000 ≤ s0 + 7293034 := by
  obtain ⟨p, P, A, T, Tx, ft, Q, B⟩ := g
  obtain ⟨-, -, -, -, -, -, -, -, -, ⟨⟨-, q2, -, -⟩, -⟩, -, h1, b1, b2, b3, b4, h2, h3, h4, h5, h6, h7, h8, h9⟩ := h
  have := q2.2.2.2.1
  constructor
  · omega
  · split at h2 <;> omega
section CALLS
variable {h0 s0 n : Nat} {S : HS} {R : RS}
abbrev Mx (h0 s0 : Nat) : Nat × Nat := (h0 + 601024, s0 + 7293034)
theorem call_3 (hn : n < 512) (h : Inv h0 s0 n S R) : wq_3 (Mx h0 s0) h0 S R (Inv h0 s0 (n + 1)) := by
  obtain ⟨⟨p, P, A, T, Tx, ft, Q, B⟩, hc, hv, hr⟩ := h
  have hL := hc.1
  refine ⟨hL.t0, hL.t0, ?_⟩
  unfold wp_fault
  refine ⟨?_, ⟨_, hc.next, hv, hr.code hv 0⟩⟩
  rw [upE, if_neg (by omega)]
  exact hc.2.2.2.2.2.2.2.1.trans hr.2.2.2.2.2.1.symm
theorem call_20 (hn : n < 512) (y : Int32) (h : Inv h0 s0 n S R) : wq_20 (Mx h0 s0) h0 y S R (Inv h0 s0 (n + 1)) := by
  obtain ⟨⟨p, P, A, T, Tx, ft, Q, B⟩, hc, hv, hr⟩ := h
  have hL := hc.1
  obtain ⟨s1, s2⟩ := hc.2.2.2.2.2.2.1
  obtain ⟨r1, r2⟩ := hr.2.2.2.2.1
  have hTl := hv.2.2.2.2.1.1
  have fin : Inv h0 s0 (n + 1) S (up R 0 0 0) := ⟨_, hc.next, hv, hr.code hv 0⟩
  refine ⟨hL.t0, ?_⟩
  unfold wp_X11_said
  have ref : ∀ (k : Int32 → RS → Prop), (∀ a, a < Tx.length → y = ι a → k (ι (Tx.getD a 0)) (up R 0 0 0)) → ((∀ a, a < Tx.length → ¬ y = ι a) → k (-1) (up R 0 0 0)) → wp_said y R k := by
    intro k k1 k0
    unfold wp_said
    rw [upE, if_neg (by omega), r1]
    by_cases e : Tx.length = 0
    · rw [e, show ι 0 - 1 = -1 from rfl]
      unfold wp_isIn
      refine ⟨fun _ => ⟨fun _ => k0 (fun a ha => by omega), fun c => absurd rfl c⟩, fun c => ⟨fun _ => ⟨fun _ => k0 (fun a ha => by omega), fun c => absurd rfl c⟩, fun c2 => ?_⟩⟩
      obtain ⟨a, ha, rfl⟩ := ι_ex c
      exact absurd (ι_1lt ha) c2
    · rw [show (1 : Int32) = ι 1 from rfl, ι_sub (by omega)]
      refine s_isInB (b := 0) (c := Tx.length - 1) rfl rfl (by omega) (by omega) (fun a _ ha e2 => ⟨fun c => absurd c (by decide), fun _ => ?_⟩) (fun q => ⟨fun _ => k0 (fun a ha => q a (by omega) (by omega)), fun c => absurd rfl c⟩)
      subst e2
      simp (disch := omega) only [ι_lit, ι_of, ι_add, ι_mul, ι_lt, ι_le, ι_eq, ι_cl, ι_rem, ι_div, ι_vin, ι_ne1', ι_1ne', ι_1lt', ι_lt1', ι_1le', ι_le1', ι_sub', ι_sub, upN, upE, Nat.reduceEqDiff, ne_eq, not_true_eq_false, not_false_eq_true, false_imp_iff, true_imp_iff, true_and, and_true, imp_self, forall_eq, reduceIte, Nat.reduceMul, Nat.reduceAdd, Nat.reduceSub]
      have := k1 a (by omega) rfl
      rw [← r2 a (by omega)] at this
      exact this
  refine ⟨fun c => ?_, fun c => ?_⟩
  · exact ref _ (fun a ha e => absurd c (by rw [e]; exact ι_nn (by omega))) (fun _ => ⟨rfl, fin⟩)
  · obtain ⟨a, ha, rfl⟩ := ι_ex c
    refine ⟨hL.t0, h0 + 50, hL.p0_6, hL.t50, fun c2 => ?_, fun c2 => ?_⟩
    · rw [s1, ι_lt ha (by omega)] at c2
      refine ⟨hL.t0, h0 + 50, hL.p0_6, hL.t50, h0 + 51, hL.p50_1, hL.t51, ?_, ?_⟩
      · rw [hL.n51]; exact ι_in (by omega) (by omega)
      · rw [ι_cl ha, s2 a c2]
        refine ref _ (fun b hb e => ⟨?_, fin⟩) (fun q => absurd rfl (q a c2))
        rw [ι_eq ha (by omega)] at e
        rw [e]
    · rw [s1, ι_lt ha (by omega)] at c2
      refine ref _ (fun b hb e => ?_) (fun _ => ⟨rfl, fin⟩)
      rw [ι_eq ha (by omega)] at e
      omega
end CALLS
/-! count, field, undo. -/
section CALLS2
variable {h0 s0 n : Nat} {S : HS} {R : RS}
theorem int_ne {x : Int32} {k : Nat} (h : x.toInt < 0 ∨ (k : Int) < x.toInt) (hk : k < 2147483648) : ∀ j, j ≤ k → ¬ x = ι j := by
  intro j hj e
  rw [e, ι_int (by omega)] at h
  omega
theorem int_in {x : Int32} {k : Nat} (h : ¬ (x.toInt < 0 ∨ (k : Int) < x.toInt)) : ∃ j, j ≤ k ∧ x = ι j := by
  have hl := Int32.toInt_lt x
  refine ⟨x.toInt.toNat, by omega, ?_⟩
  rw [← Int32.toInt_inj, ι_int (by omega)]
  omega
theorem call_4 (hn : n < 512) (y : Int32) (v : Int64) (h : Inv h0 s0 n S R) : wq_4 (Mx h0 s0) h0 y S R v (Inv h0 s0 (n + 1)) := by
  obtain ⟨⟨p, P, A, T, Tx, ft, Q, B⟩, hc, hv, hr⟩ := h
  have hL := hc.1
  have hroom := hc.room hn
  have fin : ∀ x, Inv h0 s0 (n + 1) S (up R 0 0 x) := fun x => ⟨_, hc.next, hv, hr.code hv x⟩
  refine ⟨hL.t0, ?_⟩
  unfold wp_X11_count
  refine ⟨fun c => ⟨⟨rfl, fun S'' re => ?_⟩, by show hX S + 1 ≤ h0 + 601024; omega, by show hS S + 6 ≤ s0 + 7293034; omega⟩, fun c => ⟨hL.t0, h0 + 5, hL.p0_2, hL.t5, ?_⟩, fun c => ⟨hL.t0, fun g hg => ⟨hL.t0, g, hg, ?_, ?_⟩, fun hg => ?_⟩, fun c => ⟨hL.t0, ?_⟩, fun c => ⟨hL.t0, h0 + 52, hL.p0_7, hL.t52, ?_⟩⟩
  · have hne := int_ne (k := 3) c (by omega)
    unfold wp_count
    refine ⟨fun _ => ⟨fun _ => ⟨fun _ => ⟨fun _ => ?_, fun c => absurd c (hne 3 (by omega))⟩, fun c => absurd c (hne 2 (by omega))⟩, fun c => absurd c (hne 1 (by omega))⟩, fun c => absurd c (hne 0 (by omega))⟩
    unfold wp_fail wp_thrown
    refine ⟨?_, fun c => absurd c (by decide), _, hc.re re, hv, (hr.code hv 0).code hv 1⟩
    rw [upE, if_pos rfl]
  · subst c
    unfold wp_count
    refine ⟨fun c => absurd rfl c, fun _ => ?_⟩
    rw [upE, if_neg (by omega)]
    refine ⟨by rw [upE, if_pos rfl], fun _ => ?_, fin 0⟩
    rw [hc.2.2.1, hr.1.1]
  · subst c
    rcases hc.2.2.2.2.2.2.2.2.1 with ⟨q1, -⟩ | ⟨g', q1, -, q3, -⟩
    · rw [q1] at hg; cases hg
    · rw [q1] at hg; cases hg; exact q3.2.2.1
  · subst c
    rcases hc.2.2.2.2.2.2.2.2.1 with ⟨q1, -⟩ | ⟨g', q1, -, q3, -⟩
    · rw [q1] at hg; cases hg
    · rw [q1] at hg; cases hg
      unfold wp_count
      refine ⟨fun _ => ⟨fun c => absurd rfl c, fun _ => ?_⟩, fun c => absurd c (by decide)⟩
      rw [upE, if_neg (by omega)]
      refine ⟨by rw [upE, if_pos rfl], fun _ => ?_, fin 0⟩
      rw [q3.2.2.2.2.2.1, hr.2.2.2.2.2.2.1]
  · subst c
    rcases hc.2.2.2.2.2.2.2.2.1 with ⟨-, q2⟩ | ⟨g', q1, -, q3, -⟩
    · unfold wp_count
      refine ⟨fun _ => ⟨fun c => absurd rfl c, fun _ => ?_⟩, fun c => absurd c (by decide)⟩
      rw [upE, if_neg (by omega)]
      refine ⟨by rw [upE, if_pos rfl], fun _ => ?_, fin 0⟩
      rw [hr.2.2.2.2.2.2.1, q2]
      rfl
    · rw [q1] at hg; cases hg
  · subst c
    unfold wp_count
    refine ⟨fun _ => ⟨fun _ => ⟨fun c => absurd rfl c, fun _ => ?_⟩, fun c => absurd c (by decide)⟩, fun c => absurd c (by decide)⟩
    rw [upE, if_neg (by omega)]
    refine ⟨by rw [upE, if_pos rfl], fun _ => ?_, fin 0⟩
    rw [hc.2.2.2.2.2.1.1, hr.2.2.2.1.1]
  · subst c
    unfold wp_count
    refine ⟨fun _ => ⟨fun _ => ⟨fun _ => ⟨fun c => absurd rfl c, fun _ => ?_⟩, fun c => absurd c (by decide)⟩, fun c => absurd c (by decide)⟩, fun c => absurd c (by decide)⟩
    rw [upE, if_neg (by omega)]
    refine ⟨by rw [upE, if_pos rfl], fun _ => ?_, fin 0⟩
    obtain ⟨nx, -, q2, -⟩ := hc.2.2.2.2.1
    rw [q2, hr.2.2.1.1]
end CALLS2
/-- the sizes -/
theorem s_isSize {M : Nat × Nat} {x : Int32} {S : HS} {K : Int32 → HS → Prop} (h1 : ∀ p, PrP p → x = ι p → K 1 S) (h0 : (∀ p, PrP p → ¬ x = ι p) → K 0 S) : wp_X9_isSize M x S K := by
  unfold wp_X9_isSize
  have hd : ∀ i, i < 6 → ([2, 3, 5, 7, 11, 13] : List Int32).getD i 0 = ι (([2, 3, 5, 7, 11, 13] : List Nat).getD i 0) := by decide
  have hp : ∀ i, i < 6 → PrP (([2, 3, 5, 7, 11, 13] : List Nat).getD i 0) := by
    intro i hi
    unfold PrP
    match i, hi with
    | 0, _ | 1, _ | 2, _ | 3, _ | 4, _ | 5, _ => decide
    | k + 6, h => omega
  have key : ∀ (k i : Nat), i + k = 6 → (∀ j, j < i → ¬ x = ι (([2, 3, 5, 7, 11, 13] : List Nat).getD j 0)) → wl_X9_isSize_9 M K (k + 1) x 6 (ι i) S := by
    intro k
    induction k with
    | zero =>
      intro i hi hne
      show wb_X9_isSize_9 _ _ _ _ _ _ _
      unfold wb_X9_isSize_9
      refine ⟨fun _ => h0 (fun p hpp e => ?_), fun c => absurd ?_ c⟩
      · unfold PrP at hpp
        rcases hpp with r | r | r | r | r | r <;> subst r
        · exact hne 0 (by omega) e
        · exact hne 1 (by omega) e
        · exact hne 2 (by omega) e
        · exact hne 3 (by omega) e
        · exact hne 4 (by omega) e
        · exact hne 5 (by omega) e
      · simp (disch := omega) only [ι_lit, ι_of, ι_add, ι_mul, ι_lt, ι_le, ι_eq, ι_cl, ι_rem, ι_div, ι_vin, ι_ne1', ι_1ne', ι_1lt', ι_lt1', ι_1le', ι_le1', ι_sub', ι_sub, upN, upE, Nat.reduceEqDiff, ne_eq, not_true_eq_false, not_false_eq_true, false_imp_iff, true_imp_iff, true_and, and_true, imp_self, forall_eq, reduceIte, Nat.reduceMul, Nat.reduceAdd, Nat.reduceSub]
        omega
    | succ k ih =>
      intro i hi hne
      show wb_X9_isSize_9 _ _ _ _ _ _ _
      unfold wb_X9_isSize_9
      refine ⟨fun c => absurd c ?_, fun _ => ⟨ι_in (by omega) (by omega), ?_⟩⟩
      · simp (disch := omega) only [ι_lit, ι_of, ι_add, ι_mul, ι_lt, ι_le, ι_eq, ι_cl, ι_rem, ι_div, ι_vin, ι_ne1', ι_1ne', ι_1lt', ι_lt1', ι_1le', ι_le1', ι_sub', ι_sub, upN, upE, Nat.reduceEqDiff, ne_eq, not_true_eq_false, not_false_eq_true, false_imp_iff, true_imp_iff, true_and, and_true, imp_self, forall_eq, reduceIte, Nat.reduceMul, Nat.reduceAdd, Nat.reduceSub]
        omega
      · rw [ι_cl (by omega), hd i (by omega)]
        intro v1 e1
        subst e1
        refine ⟨fun c => ?_, fun c => h1 _ (hp i (by omega)) c.symm⟩
        rw [show (1 : Int32) = ι 1 from rfl, ι_add]
        refine ih (i + 1) (by omega) (fun j hj e => ?_)
        by_cases q : j = i
        · subst q; exact c e.symm
        · exact hne j (by omega) e
  exact ⟨7, key 6 0 (by omega) (fun j hj => by omega)⟩
/-! field. -/
theorem s_field {p' : Nat} {x : Int32} {R : RS} {K : Int32 → RS → Prop} (hp : PrP p') (hx : x = ι p') (h : ∀ R', Fr R R' [2] [0, 1, 13, 37] → R' 0 1 = ι p' → (∀ k, k < 6 → R' 2 k = ι 0) → R' 0 13 = ι 0 → R' 0 37 = ι 0 → K (R 0 1) R') : wp_field x R K := by
  have key : ∀ (k i : Nat) (R1 : RS), i + k = 6 → Fr R R1 [2] [0, 1, 13, 37] → R1 0 1 = ι p' → (∀ j, j < i → R1 2 j = ι 0) → wl_field_63 K (k + 1) (R 0 1) (ι i) R1 := by
    intro k
    induction k with
    | zero =>
      intro i R1 hi r1 r2 r3
      show wb_field_63 _ _ _ _ _
      unfold wb_field_63
      simp (disch := omega) only [ι_lit, ι_of, ι_add, ι_mul, ι_lt, ι_le, ι_eq, ι_cl, ι_rem, ι_div, ι_vin, ι_ne1', ι_1ne', ι_1lt', ι_lt1', ι_1le', ι_le1', ι_sub', ι_sub, upN, upE, Nat.reduceEqDiff, ne_eq, not_true_eq_false, not_false_eq_true, false_imp_iff, true_imp_iff, true_and, and_true, imp_self, forall_eq, reduceIte, Nat.reduceMul, Nat.reduceAdd, Nat.reduceSub]
      refine ⟨fun _ => h _ ((r1.w0 (by simp)).w0 (by simp)) ?_ (fun j hj => ?_) ?_ ?_, fun c => absurd (by omega) c⟩
      · rw [upE, if_neg (by omega), upE, if_neg (by omega)]; exact r2
      · rw [upN (by omega), upN (by omega)]; exact r3 j (by omega)
      · rw [upE, if_pos rfl]
      · rw [upE, if_neg (by omega), upE, if_pos rfl]
    | succ k ih =>
      intro i R1 hi r1 r2 r3
      show wb_field_63 _ _ _ _ _
      unfold wb_field_63
      simp (disch := omega) only [ι_lit, ι_of, ι_add, ι_mul, ι_lt, ι_le, ι_eq, ι_cl, ι_rem, ι_div, ι_vin, ι_ne1', ι_1ne', ι_1lt', ι_lt1', ι_1le', ι_le1', ι_sub', ι_sub, upN, upE, Nat.reduceEqDiff, ne_eq, not_true_eq_false, not_false_eq_true, false_imp_iff, true_imp_iff, true_and, and_true, imp_self, forall_eq, reduceIte, Nat.reduceMul, Nat.reduceAdd, Nat.reduceSub]
      refine ⟨fun c => absurd c (by omega), fun _ => ih (i + 1) _ (by omega) (r1.w (by simp) (by omega)) (by rw [upN (by omega)]; exact r2) (fun j hj => ?_)⟩
      rw [upE]
      by_cases e : j = i
      · rw [if_pos e]
      · rw [if_neg e]; exact r3 j (by omega)
  have go : w_field_43 K x 1 (up R 0 0 0) := by
    unfold w_field_43
    refine ⟨fun _ => ⟨7, ?_⟩, fun c => absurd c (by decide)⟩
    rw [upE, if_neg (by omega)]
    refine key 6 0 _ (by omega) (((Fr.rf R _ _).w0 (by simp)).w0 (by simp)) (by rw [upE, if_pos rfl]; exact hx) (fun j hj => by omega)
  unfold wp_field
  unfold PrP at hp
  refine ⟨fun _ => go, fun c2 => ⟨fun _ => go, fun c3 => ⟨fun _ => go, fun c5 => ⟨fun _ => go, fun c7 => ⟨fun _ => go, fun c11 => ⟨fun c13 => ?_, fun _ => go⟩⟩⟩⟩⟩⟩
  exfalso
  rcases hp with r | r | r | r | r | r <;> subst r
  · exact c2 hx
  · exact c3 hx
  · exact c5 hx
  · exact c7 hx
  · exact c11 hx
  · exact c13 hx
theorem s_field0 {x : Int32} {R : RS} {K : Int32 → RS → Prop} (hx : ∀ p, PrP p → ¬ x = ι p) (h : K (-1) (up R 0 0 0)) : wp_field x R K := by
  unfold wp_field
  refine ⟨fun c => absurd c (hx 2 (by unfold PrP; omega)), fun _ => ⟨fun c => absurd c (hx 3 (by unfold PrP; omega)), fun _ => ⟨fun c => absurd c (hx 5 (by unfold PrP; omega)), fun _ => ⟨fun c => absurd c (hx 7 (by unfold PrP; omega)), fun _ => ⟨fun c => absurd c (hx 11 (by unfold PrP; omega)), fun _ => ⟨fun _ => ?_, fun c => absurd c (hx 13 (by unfold PrP; omega))⟩⟩⟩⟩⟩⟩
  unfold w_field_43
  exact ⟨fun c => absurd rfl c, fun _ => h⟩
def Wf (h0 b k : Nat) : Prop := (b = h0 + 5 ∧ k = 0) ∨ (b = h0 + 52 ∧ k = 0)
def Vf (h0 b k : Nat) : Prop := b = h0 + 4 ∨ (b = h0 ∧ k = 11) ∨ (b = h0 + 25 ∧ k = 13)
theorem vf_ptr {h0 : Nat} : ∀ q ∈ ptrL, ¬ Vf h0 (h0 + q.1) q.2.1 := by
  have h : ∀ q ∈ ptrL, q.1 ≠ 4 ∧ (q.1 = 0 → q.2.1 ≠ 11) ∧ (q.1 = 25 → q.2.1 ≠ 13) := by decide
  intro q hq
  have := h q hq
  unfold Vf
  omega
theorem ka_f {h0 : Nat} {S : HS} : ∀ a L, Ka h0 a → PolyAt S a L → ∀ k, ¬ Wf h0 a k ∧ ¬ Wf h0 (a + 1) k ∧ ¬ Wf h0 (a + 2) k ∧ ¬ Vf h0 a k := by
  intro a L hk _ k
  unfold Ka at hk
  unfold Wf Vf
  omega
theorem sl_nil {R : RS} {s : Nat} (h : R 2 s = ι 0) : Sl R s [] := ⟨h, fun i hi => by simp at hi⟩
theorem call_0 {h0 s0 n : Nat} {S : HS} {R : RS} (hn : n < 512) (y : Int32) (h : Inv h0 s0 n S R) : wq_0 (Mx h0 s0) h0 y S R (Inv h0 s0 (n + 1)) := by
  obtain ⟨⟨p, P, A, T, Tx, ft, Q, B⟩, hc, hv, hr⟩ := h
  have hL := hc.1
  refine ⟨hL.t0, ?_⟩
  unfold wp_X11_field
  refine s_isSize (fun p' hp' e => ⟨fun _ => ?_, fun c => absurd c (by decide)⟩) (fun hne => ⟨fun c => absurd rfl c, fun _ => s_field0 hne ⟨rfl, _, hc.next, hv, hr.code hv 0⟩⟩)
  refine ⟨hL.t0, h0 + 5, hL.p0_2, hL.t5, hL.t0, h0 + 5, hL.p0_2, hL.t5, 7, ?_⟩
  obtain ⟨-, c2, c3, c4, c5, c6, c7, c8, c9, c10, c11, c12⟩ := hc
  rw [c3]
  have hle := hp'.le
  have key : ∀ (k i : Nat) (S1 : HS), i + k = 6 → Ext S S1 (Wf h0) (Vf h0) → hX S1 = hX S → hS S1 = hS S → hI S1 (h0 + 5) 0 = ι p' → (∀ j, j < i → hP S1 (h0 + 4) j = some (h0 + 1)) → wl_X11_field_27 (Mx h0 s0) (fun r S' => wp_field y R (fun q R1 => r = q ∧ Inv h0 s0 (n + 1) S' R1)) (k + 1) h0 (ι p) (ι i) S1 := by
    intro k
    induction k with
    | zero =>
      intro i S1 hi e1 e2 e2' e3 e4
      have hL1 := hL.go c2.1 e1 vf_ptr
      show wb_X11_field_27 _ _ _ _ _ _ _
      unfold wb_X11_field_27
      refine ⟨fun _ => ⟨hL1.t0, hL1.t0, h0 + 52, by rw [sP_eq, if_neg (by omega)]; exact hL1.p0_7, hL1.t52, hL1.t52, hL1.t0, h0 + 25, by rw [sI_P, sP_eq, if_neg (by omega)]; exact hL1.p0_4, hL1.t25, hL1.t25, ?_⟩, fun c => absurd ?_ c⟩
      · refine s_field hp' e (fun R' r1 r2 r3 r4 r5 => ⟨by rw [hr.1.1], (p', fun _ => [], [], T, Tx, ft, [], B), ?_, ?_, ?_⟩)
        · have ef : Ext S (sP (sI (sP S1 h0 11 none) (h0 + 52) 0 0) (h0 + 25) 13 none) (Wf h0) (Vf h0) := ((e1.sP (Or.inr (Or.inl ⟨rfl, rfl⟩))).sI (Or.inr ⟨rfl, rfl⟩)).sP (Or.inr (Or.inr ⟨rfl, rfl⟩))
          have pk : PK h0 S (sP (sI (sP S1 h0 11 none) (h0 + 52) 0 0) (h0 + 25) 13 none) := PK.of ef ka_f
          have hx := c2.1
          have nI : ∀ b k, b < hX S → ¬ Wf h0 b k → hI (sP (sI (sP S1 h0 11 none) (h0 + 52) 0 0) (h0 + 25) 13 none) b k = hI S b k := fun b k hb w => (ef.2.2.1 b hb).2.2.1 k w
          have nP : ∀ b k, b < hX S → ¬ Vf h0 b k → hP (sP (sI (sP S1 h0 11 none) (h0 + 52) 0 0) (h0 + 25) 13 none) b k = hP S b k := fun b k hb w => (ef.2.2.1 b hb).2.2.2 k w
          have ho : ∀ o, o = 12 ∨ o = 15 ∨ o = 39 ∨ o = 42 → hP (sP (sI (sP S1 h0 11 none) (h0 + 52) 0 0) (h0 + 25) 13 none) (h0 + o) 0 = hP S (h0 + o) 0 := fun o ho => nP _ _ (by omega) (by unfold Vf; omega)
          refine ⟨hL.go c2.1 ef vf_ptr, c2.go ef pk (c2.tp ef (by show hX S1 = hX S; omega)), ?_, fun k hk => ⟨h0 + 1, ?_, Or.inl rfl, pk _ _ (Or.inl rfl) c2.2.2.1⟩, ?_, c6.go (nI _ _ (by omega) (by unfold Wf; omega)) (fun i => nI _ _ (by omega) (by unfold Wf; omega)), c7.go (nI _ _ (by omega) (by unfold Wf; omega)) (fun i => nI _ _ (by omega) (by unfold Wf; omega)), ?_, Or.inl ⟨?_, rfl⟩, c10.go ef ho, ⟨⟨(nI _ _ (by omega) (by unfold Wf; omega)).trans c11.1.1, (nI _ _ (by omega) (by unfold Wf; omega)).trans c11.1.2⟩, Or.inl ?_⟩, c12.go ef c10 ho (by show hX S1 ≤ hX S + 1000; omega) (by show hS S1 + _ ≤ _; omega) rfl⟩
          · rw [sP_I, sI_ne (by omega), sP_I]; exact e3
          · rw [sP_ne (by omega), sI_P, sP_ne (by omega)]; exact e4 k (by omega)
          · obtain ⟨nx, q1, q2, q3, -⟩ := c5
            refine ⟨nx, q1, ?_, ?_, fun k hk => by simp at hk⟩
            · rw [sP_I, sI_eq, if_pos rfl]; rfl
            · rw [nI _ _ (by omega) (by unfold Wf; omega)]; exact q3
          · rw [nI _ _ (by omega) (by unfold Wf; omega)]; exact c8
          · rw [sP_ne (by omega), sI_P, sP_eq, if_pos rfl]
          · rw [sP_eq, if_pos rfl]
        · obtain ⟨v1, v2, v3, v4, v5, v6⟩ := hv
          exact ⟨hp', fun k hk => wf_nil p', ⟨by simp, fun k hk => by simp at hk⟩, v4, v5, ⟨by simp, fun s hs => by simp at hs⟩⟩
        · obtain ⟨u1, u2, u3, u4, u5, u6, u7⟩ := hr
          have e5 := r1.1 5 (by omega) (by simp)
          refine ⟨⟨r2, by rw [r1.2 7 (by simp)]; exact u1.2.1, fun x y z a b c => by rw [e5]; exact u1.2.2.1 x y z a b c, fun _ _ _ => (by omega : 0 < p'), fun i hi => by omega, fun x y z q => absurd rfl q⟩, fun k hk => sl_nil (r3 k hk), ⟨r4, fun k hk => by simp at hk⟩, ⟨by rw [r1.2 43 (by simp)]; exact u4.1, fun i hi => by rw [r1.1 42 (by omega) (by simp)]; exact u4.2 i hi⟩, ⟨by rw [r1.2 28 (by simp)]; exact u5.1, fun i hi => by rw [r1.1 27 (by omega) (by simp)]; exact u5.2 i hi⟩, by rw [r1.2 51 (by simp)]; exact u6, ⟨r5, fun s hs => by simp at hs⟩⟩
      · simp (disch := omega) only [ι_lit, ι_of, ι_add, ι_mul, ι_lt, ι_le, ι_eq, ι_cl, ι_rem, ι_div, ι_vin, ι_ne1', ι_1ne', ι_1lt', ι_lt1', ι_1le', ι_le1', ι_sub', ι_sub, upN, upE, Nat.reduceEqDiff, ne_eq, not_true_eq_false, not_false_eq_true, false_imp_iff, true_imp_iff, true_and, and_true, imp_self, forall_eq, reduceIte, Nat.reduceMul, Nat.reduceAdd, Nat.reduceSub]
        omega
    | succ k ih =>
      intro i S1 hi e1 e2 e2' e3 e4
      have hL1 := hL.go c2.1 e1 vf_ptr
      show wb_X11_field_27 _ _ _ _ _ _ _
      unfold wb_X11_field_27
      refine ⟨fun c => absurd c ?_, fun _ => ⟨hL1.t0, h0 + 4, hL1.p0_1, hL1.t0, h0 + 1, hL1.p0_0, hL1.t4, ?_, hL1.t1, ?_⟩⟩
      · simp (disch := omega) only [ι_lit, ι_of, ι_add, ι_mul, ι_lt, ι_le, ι_eq, ι_cl, ι_rem, ι_div, ι_vin, ι_ne1', ι_1ne', ι_1lt', ι_lt1', ι_1le', ι_le1', ι_sub', ι_sub, upN, upE, Nat.reduceEqDiff, ne_eq, not_true_eq_false, not_false_eq_true, false_imp_iff, true_imp_iff, true_and, and_true, imp_self, forall_eq, reduceIte, Nat.reduceMul, Nat.reduceAdd, Nat.reduceSub]
        omega
      · rw [hL1.n4]; exact ι_in (by omega) (by omega)
      · rw [ι_cl (by omega), show (1 : Int32) = ι 1 from rfl, ι_add]
        refine ih (i + 1) _ (by omega) (e1.sP (Or.inl rfl)) e2 e2' e3 (fun j hj => ?_)
        rw [sP_eq]
        by_cases q : j = i
        · rw [if_pos q]
        · rw [if_neg q]; exact e4 j (by omega)
  refine key 6 0 _ (by omega) ((Ext.rf S _ _).sI (Or.inl ⟨rfl, rfl⟩)) rfl rfl (by rw [sI_eq, if_pos rfl]; exact e) (fun j hj => by omega)
/-! feed. -/
theorem and255 (z : Int32) : ∃ b, b < 256 ∧ z &&& 255 = ι b := by
  have h : (z &&& 255).toBitVec.toNat ≤ 255 := by
    rw [Int32.toBitVec_and, BitVec.toNat_and]
    exact Nat.and_le_right
  have e : (z &&& 255).toInt = ((z &&& 255).toBitVec.toNat : Int) := BitVec.toInt_eq_toNat_of_lt (by omega)
  refine ⟨(z &&& 255).toBitVec.toNat, by omega, ?_⟩
  rw [← Int32.toInt_inj, e, ι_int (by omega)]
/-- byte j of a word -/
def by4 (w : Int32) (j : Nat) : Int32 := (w >>> ((24 - 8 * ι j) &&& 31)) &&& 255
def by20 (y1 y2 y3 y4 y5 : Int32) (k : Nat) : Int32 := by4 (if k < 4 then y1 else if k < 8 then y2 else if k < 12 then y3 else if k < 16 then y4 else y5) (k % 4)
def Wt (h0 b k : Nat) : Prop := b = h0 + 55 ∨ (b = h0 ∧ k = 9)
def V0 (_b _k : Nat) : Prop := False
/-- m bytes are laid behind the first t -/
def FdT (h0 : Nat) (S S1 : HS) (t m : Nat) (f : Nat → Int32) : Prop := Ext S S1 (Wt h0) V0 ∧ hX S1 = hX S ∧ hS S1 = hS S ∧ hI S1 h0 9 = ι (t + m) ∧ (∀ i, i < t → hI S1 (h0 + 55) i = hI S (h0 + 55) i) ∧ ∀ k, k < m → hI S1 (h0 + 55) (t + k) = f k
theorem fd_step {h0 t m : Nat} {S S1 : HS} {f : Nat → Int32} {v : Int32} (h : FdT h0 S S1 t m f) (hv : v = f m) : FdT h0 S (sI (sI S1 (h0 + 55) (t + m) v) h0 9 (ι (t + (m + 1)))) t (m + 1) f := by
  obtain ⟨h1, h2, h3, h4, h5, h6⟩ := h
  refine ⟨(h1.sI (Or.inl rfl)).sI (Or.inr ⟨rfl, rfl⟩), h2, h3, by rw [sI_eq, if_pos rfl], fun i hi => ?_, fun k hk => ?_⟩
  · rw [sI_ne (by omega), sI_eq, if_neg (by omega)]; exact h5 i hi
  · rw [sI_ne (by omega), sI_eq]
    by_cases e : k = m
    · rw [if_pos (by omega), e]; exact hv
    · rw [if_neg (by omega)]; exact h6 k (by omega)
theorem s_append {M : Nat × Nat} {h0 t m : Nat} {S S1 : HS} {w : Int32} {f : Nat → Int32} {K : Int32 → HS → Prop} (hL : Lay h0 S) (hx : h0 + 60 ≤ hX S) (ht : t + m + 4 ≤ 200) (hf : ∀ j, j < 4 → by4 w j = f (m + j)) (h : FdT h0 S S1 t m f) (hk : ∀ S', FdT h0 S S' t (m + 4) f → K 0 S') : wp_X11_append M h0 w S1 K := by
  have body : ∀ (nn m' : Nat) (sh : Int32) (S2 : HS), FdT h0 S S2 t m' f → t + m' < 200 → (w >>> (sh &&& 31)) &&& 255 = f m' → ¬ sh < 0 → (∀ S3, FdT h0 S S3 t (m' + 1) f → wl_X11_append_3 M K nn h0 w (sh + (-8)) S3) → wl_X11_append_3 M K (nn + 1) h0 w sh S2 := by
    intro nn m' sh S2 hF hb he hs hn
    have hL2 := hL.go hx hF.1 (fun q hq c => c)
    show wb_X11_append_3 _ _ _ _ _ _ _
    unfold wb_X11_append_3
    refine ⟨fun c => absurd c hs, fun _ => ⟨hL2.t0, h0 + 55, hL2.p0_8, hL2.t0, hL2.t55, ?_, hL2.t0, hL2.t0, ?_⟩⟩
    · rw [hF.2.2.2.1, hL2.n55]; exact ι_in (by omega) (by omega)
    · rw [hF.2.2.2.1, ι_cl (by omega), sI_ne (by omega), hF.2.2.2.1, show (1 : Int32) = ι 1 from rfl, ι_add, Nat.add_assoc]
      exact hn _ (fd_step hF he)
  unfold wp_X11_append
  refine ⟨5, ?_⟩
  refine body 4 m 24 S1 h (by omega) ((show (w >>> ((24 : Int32) &&& 31)) &&& 255 = by4 w 0 from rfl).trans (hf 0 (by omega))) (by decide) (fun S2 h2 => ?_)
  refine body 3 (m + 1) _ S2 h2 (by omega) ((show (w >>> (((24 : Int32) + (-8)) &&& 31)) &&& 255 = by4 w 1 from rfl).trans (hf 1 (by omega))) (by decide) (fun S3 h3 => ?_)
  refine body 2 (m + 2) _ S3 h3 (by omega) ((show (w >>> (((24 : Int32) + (-8) + (-8)) &&& 31)) &&& 255 = by4 w 2 from rfl).trans (hf 2 (by omega))) (by decide) (fun S4 h4 => ?_)
  refine body 1 (m + 3) _ S4 h4 (by omega) ((show (w >>> (((24 : Int32) + (-8) + (-8) + (-8)) &&& 31)) &&& 255 = by4 w 3 from rfl).trans (hf 3 (by omega))) (by decide) (fun S5 h5 => ?_)
  show wb_X11_append_3 _ _ _ _ _ _ _
  unfold wb_X11_append_3
  exact ⟨fun _ => hk S5 h5, fun c => absurd (by decide) c⟩
theorem s_feed {t : Nat} {y1 y2 y3 y4 y5 : Int32} {R : RS} {K : Int32 → RS → Prop} (ht : R 0 43 = ι t) (h20 : t + 20 ≤ 200) (h : ∀ R', Fr R R' [42] [0, 43] → R' 0 43 = ι (t + 20) → (∀ i, i < t → R' 42 i = R 42 i) → (∀ k, k < 20 → R' 42 (t + k) = by20 y1 y2 y3 y4 y5 k) → K (ι (t + 20)) R') : wp_feed y1 y2 y3 y4 y5 R K := by
  have key : ∀ (k i : Nat) (R1 : RS), i + k = 20 → Fr R R1 [42] [0, 43] → R1 0 43 = ι (t + i) → (∀ j, j < t → R1 42 j = R 42 j) → (∀ j, j < i → R1 42 (t + j) = by20 y1 y2 y3 y4 y5 j) → wl_feed_23 K (k + 1) y1 y2 y3 y4 y5 (ι i) R1 := by
    intro k
    induction k with
    | zero =>
      intro i R1 hi r1 r2 r3 r4
      obtain rfl : i = 20 := by omega
      show wb_feed_23 _ _ _ _ _ _ _ _ _
      unfold wb_feed_23
      refine ⟨fun _ => by rw [r2]; exact h R1 r1 r2 r3 r4, fun c => absurd (by decide) c⟩
    | succ k ih =>
      intro i R1 hi r1 r2 r3 r4
      have go : ∀ w, by4 w (i % 4) = by20 y1 y2 y3 y4 y5 i → w_feed_76 (wl_feed_23 K (k + 1)) K y1 y2 y3 y4 y5 (ι i) w R1 := by
        intro w hw
        unfold w_feed_76
        rw [r2]
        refine ⟨ι_in (by omega) (by omega), ?_⟩
        rw [show (4 : Int32) = ι 4 from rfl, ι_rem (by omega) (by omega), show ((w >>> ((24 - 8 * ι (i % 4)) &&& 31)) &&& 255) = by4 w (i % 4) from rfl, hw, ι_cl (by omega), upN (by omega), r2, show (1 : Int32) = ι 1 from rfl, ι_add, ι_add, Nat.add_assoc]
        refine ih (i + 1) _ (by omega) ((r1.w (by simp) (by omega)).w0 (by simp)) (by rw [upE, if_pos rfl]) (fun j hj => ?_) (fun j hj => ?_)
        · rw [upN (by omega), upE, if_neg (by omega)]; exact r3 j hj
        · rw [upN (by omega), upE]
          by_cases e : j = i
          · rw [if_pos (by omega), e]
          · rw [if_neg (by omega)]; exact r4 j (by omega)
      show wb_feed_23 _ _ _ _ _ _ _ _ _
      unfold wb_feed_23
      simp (disch := omega) only [ι_lit, ι_of, ι_add, ι_mul, ι_lt, ι_le, ι_eq, ι_cl, ι_rem, ι_div, ι_vin, ι_ne1', ι_1ne', ι_1lt', ι_lt1', ι_1le', ι_le1', ι_sub', ι_sub, upN, upE, Nat.reduceEqDiff, ne_eq, not_true_eq_false, not_false_eq_true, false_imp_iff, true_imp_iff, true_and, and_true, imp_self, forall_eq, reduceIte, Nat.reduceMul, Nat.reduceAdd, Nat.reduceSub]
      refine ⟨fun c => absurd c (by omega), fun _ => ⟨fun c4 => ⟨fun c8 => ⟨fun c12 => ⟨fun c16 => go y5 ?_, fun c16 => go y4 ?_⟩, fun c12 => go y3 ?_⟩, fun c8 => go y2 ?_⟩, fun c4 => go y1 ?_⟩⟩
      · unfold by20; rw [if_neg (by omega), if_neg (by omega), if_neg (by omega), if_neg (by omega)]
      · unfold by20; rw [if_neg (by omega), if_neg (by omega), if_neg (by omega), if_pos (by omega)]
      · unfold by20; rw [if_neg (by omega), if_neg (by omega), if_pos (by omega)]
      · unfold by20; rw [if_neg (by omega), if_pos (by omega)]
      · unfold by20; rw [if_pos (by omega)]
  unfold wp_feed
  rw [upE, if_neg (by omega), ht]
  refine ⟨fun _ => ⟨21, ?_⟩, fun c => absurd ?_ c⟩
  · refine key 20 0 _ (by omega) ((Fr.rf R _ _).w0 (by simp)) (by rw [upE, if_neg (by omega)]; exact ht) (fun j hj => by rw [upN (by omega)]) (fun j hj => by omega)
  · simp (disch := omega) only [ι_lit, ι_of, ι_add, ι_mul, ι_lt, ι_le, ι_eq, ι_cl, ι_rem, ι_div, ι_vin, ι_ne1', ι_1ne', ι_1lt', ι_lt1', ι_1le', ι_le1', ι_sub', ι_sub, upN, upE, Nat.reduceEqDiff, ne_eq, not_true_eq_false, not_false_eq_true, false_imp_iff, true_imp_iff, true_and, and_true, imp_self, forall_eq, reduceIte, Nat.reduceMul, Nat.reduceAdd, Nat.reduceSub]
    omega
theorem ka_t {h0 : Nat} {S : HS} : ∀ a L, Ka h0 a → PolyAt S a L → ∀ k, ¬ Wt h0 a k ∧ ¬ Wt h0 (a + 1) k ∧ ¬ Wt h0 (a + 2) k ∧ ¬ V0 a k := by
  intro a L hk _ k
  unfold Ka at hk
  exact ⟨by unfold Wt; omega, by unfold Wt; omega, by unfold Wt; omega, fun c => c⟩
theorem call_1 {h0 s0 n : Nat} {S : HS} {R : RS} (hn : n < 512) (y1 y2 y3 y4 y5 : Int32) (h : Inv h0 s0 n S R) : wq_1 (Mx h0 s0) h0 y1 y2 y3 y4 y5 S R (Inv h0 s0 (n + 1)) := by
  obtain ⟨⟨p, P, A, T, Tx, ft, Q, B⟩, hc, hv, hr⟩ := h
  have hL := hc.1
  have hTl := hv.2.2.2.1.1
  have c6 := hc.2.2.2.2.2.1
  refine ⟨hL.t0, ?_⟩
  unfold wp_X11_feed
  rw [c6.1]
  refine ⟨hL.t0, fun c => ?_, fun c => ?_⟩
  · have h20 : T.length + 20 ≤ 200 := by
      rw [show (20 : Int32) = ι 20 from rfl, show (200 : Int32) = ι 200 from rfl, ι_add, ι_le (by omega) (by omega)] at c
      exact c
    have c2 := hc.2.1
    have f0 : FdT h0 S S T.length 0 (by20 y1 y2 y3 y4 y5) := ⟨Ext.rf _ _ _, rfl, rfl, c6.1, fun _ _ => rfl, fun k hk => by omega⟩
    refine ⟨hL.t0, s_append hL c2.1 (by omega) (fun j hj => ?_) f0 (fun S1 f1 => ⟨(hL.go c2.1 f1.1 (fun q hq c => c)).t0, s_append hL c2.1 (by omega) (fun j hj => ?_) f1 (fun S2 f2 => ⟨(hL.go c2.1 f2.1 (fun q hq c => c)).t0, s_append hL c2.1 (by omega) (fun j hj => ?_) f2 (fun S3 f3 => ⟨(hL.go c2.1 f3.1 (fun q hq c => c)).t0, s_append hL c2.1 (by omega) (fun j hj => ?_) f3 (fun S4 f4 => ⟨(hL.go c2.1 f4.1 (fun q hq c => c)).t0, s_append hL c2.1 (by omega) (fun j hj => ?_) f4 (fun S5 f5 => ⟨(hL.go c2.1 f5.1 (fun q hq c => c)).t0, ?_⟩)⟩)⟩)⟩)⟩)⟩
    · unfold by20; rw [if_pos (by omega), show (0 + j) % 4 = j by omega]
    · unfold by20; rw [if_neg (by omega), if_pos (by omega), show (0 + 4 + j) % 4 = j by omega]
    · unfold by20; rw [if_neg (by omega), if_neg (by omega), if_pos (by omega), show (0 + 4 + 4 + j) % 4 = j by omega]
    · unfold by20; rw [if_neg (by omega), if_neg (by omega), if_neg (by omega), if_pos (by omega), show (0 + 4 + 4 + 4 + j) % 4 = j by omega]
    · unfold by20; rw [if_neg (by omega), if_neg (by omega), if_neg (by omega), if_neg (by omega), show (0 + 4 + 4 + 4 + 4 + j) % 4 = j by omega]
    · obtain ⟨g1, g2, g3, g4, g5, g6⟩ := f5
      refine s_feed hr.2.2.2.1.1 h20 (fun R' r1 r2 r3 r4 => ?_)
      have hbn : ∀ k : Nat, ∃ b, b < 256 ∧ by20 y1 y2 y3 y4 y5 k = ι b := fun k => and255 _
      obtain ⟨bf, hbf⟩ := Classical.axiomOfChoice hbn
      have tl : (T ++ (List.range 20).map bf).length = T.length + 20 := by simp
      have tg1 : ∀ i, i < T.length → (T ++ (List.range 20).map bf).getD i 0 = T.getD i 0 := fun i hi => by rw [List.getD_eq_getElem?_getD, List.getElem?_append_left hi, ← List.getD_eq_getElem?_getD]
      have tg2 : ∀ k, k < 20 → (T ++ (List.range 20).map bf).getD (T.length + k) 0 = bf k := fun k hk => by
        rw [List.getD_eq_getElem?_getD, List.getElem?_append_right (by omega), show T.length + k - T.length = k by omega, List.getElem?_map, List.getElem?_range hk]
        rfl
      have split : ∀ i, i < (T ++ (List.range 20).map bf).length → i < T.length ∨ ∃ k, k < 20 ∧ i = T.length + k := fun i hi => by
        by_cases q : i < T.length
        · exact Or.inl q
        · exact Or.inr ⟨i - T.length, by omega, by omega⟩
      refine ⟨by rw [g4], (p, P, A, T ++ (List.range 20).map bf, Tx, ft, Q, B), ?_, ?_, ?_⟩
      · obtain ⟨-, -, c3, c4, c5, -, c7, c8, c9, c10, c11, c12⟩ := hc
        have hx := c2.1
        have pk : PK h0 S S5 := PK.of g1 ka_t
        have nI : ∀ b k, b < hX S → ¬ Wt h0 b k → hI S5 b k = hI S b k := fun b k hb w => (g1.2.2.1 b hb).2.2.1 k w
        have nP : ∀ b k, b < hX S → hP S5 b k = hP S b k := fun b k hb => (g1.2.2.1 b hb).2.2.2 k (fun c => c)
        have ho : ∀ o, o = 12 ∨ o = 15 ∨ o = 39 ∨ o = 42 → hP S5 (h0 + o) 0 = hP S (h0 + o) 0 := fun o ho => nP _ _ (by omega)
        refine ⟨hL.go c2.1 g1 (fun q hq c => c), c2.go g1 pk (c2.tp g1 g2), by rw [nI _ _ (by omega) (by unfold Wt; omega)]; exact c3, c4.go pk (fun k hk => nP _ _ (by omega)), c5.go pk (fun k => nI _ _ (by omega) (by unfold Wt; omega)) (fun k => nI _ _ (by omega) (by unfold Wt; omega)) (fun k => nP _ _ (by omega)), ⟨by rw [tl]; exact g4, fun i hi => ?_⟩, c7.go (nI _ _ (by omega) (by unfold Wt; omega)) (fun i => nI _ _ (by omega) (by unfold Wt; omega)), by rw [nI _ _ (by omega) (by unfold Wt; omega)]; exact c8, c9.go pk g1 (nP _ _ (by omega)) (fun o h => Or.inl (ho o h)) (fun g hg _ f k hf => ⟨by unfold Wt; omega, fun c => c⟩), c10.go g1 ho, c11.go (g1.2.2.1 _ c10.1.2.2.1.2.1).2.1 pk (nP _ _ (by omega)) (ho 39 (by omega)) (fun k => nI _ _ (by omega) (by unfold Wt; omega)) (fun k => nI _ _ (by omega) (by unfold Wt; omega)) (fun k => nI _ _ (by omega) (by unfold Wt; omega)) (nI _ _ (by omega) (by unfold Wt; omega)) (nI _ _ (by omega) (by unfold Wt; omega)) (fun k => nI _ _ c10.1.2.2.1.2.1 ?_), c12.go g1 c10 ho (by omega) ?_ rfl⟩
        · rcases split i hi with q | ⟨k, hk, rfl⟩
          · rw [tg1 i q, g5 i q]; exact c6.2 i q
          · rw [tg2 k hk, g6 k hk]; exact (hbf k).2
        · have := c10.1.2.2.1.2.2.2.2.1
          unfold Wt; omega
        · rw [if_neg (fun e => by rw [e] at tl; simp at tl)]
          omega
      · obtain ⟨v1, v2, v3, v4, v5, v6⟩ := hv
        refine ⟨v1, v2, v3, ⟨by rw [tl]; exact h20, fun i hi => ?_⟩, v5, v6⟩
        rcases split i hi with q | ⟨k, hk, rfl⟩
        · rw [tg1 i q]; exact v4.2 i q
        · rw [tg2 k hk]; exact (hbf k).1
      · obtain ⟨u1, u2, u3, u4, u5, u6, u7⟩ := hr
        have fs := r1.fs [] (by simp)
        have e : ∀ f, f ≠ 0 → f ≠ 42 → R' f = R f := fun f a b => r1.1 f a (by simp [b])
        refine ⟨u1.fr r1 (by simp) (by simp) (by simp) (by simp), fun k hk => (u2 k hk).go (hv.2.1 k hk).1 fs (by simp), ⟨by rw [r1.2 13 (by simp)]; exact u3.1, fun k hk => by rw [e 9 (by omega) (by omega), e 10 (by omega) (by omega), e 11 (by omega) (by omega), e 12 (by omega) (by omega)]; exact u3.2 k hk⟩, ⟨by rw [tl]; exact r2, fun i hi => ?_⟩, ⟨by rw [r1.2 28 (by simp)]; exact u5.1, fun i hi => by rw [e 27 (by omega) (by omega)]; exact u5.2 i hi⟩, by rw [r1.2 51 (by simp)]; exact u6, ⟨by rw [r1.2 37 (by simp)]; exact u7.1, fun s hs => ?_⟩⟩
        · rcases split i hi with q | ⟨k, hk, rfl⟩
          · rw [tg1 i q, r3 i q]; exact u4.2 i q
          · rw [tg2 k hk, r4 k hk]; exact (hbf k).2
        · rw [e 29 (by omega) (by omega), e 30 (by omega) (by omega), e 31 (by omega) (by omega), e 32 (by omega) (by omega)]
          exact ⟨(u7.2 s hs).1.go (hv.2.2.2.2.2.2 s hs).1.1 fs (by simp), (u7.2 s hs).2⟩
  · unfold wp_feed
    rw [upE, if_neg (by omega), hr.2.2.2.1.1]
    exact ⟨fun c2 => absurd c2 c, fun _ => ⟨rfl, _, hc.next, hv, hr.code hv 0⟩⟩
/-! undo. -/
theorem s_undo0 {R : RS} {K : Int32 → RS → Prop} (ha : R 0 13 = ι 0) (h : K (-1) (up R 0 0 0)) : wp_undo R K := by
  unfold wp_undo
  rw [upE, if_neg (by omega), ha]
  exact ⟨fun c => absurd rfl c, fun _ => h⟩
theorem s_undo {a q : Nat} {L : Po} {R : RS} {K : Int32 → RS → Prop} (ha : R 0 13 = ι (a + 1)) (ha2 : a < 20) (hq : R 9 a = ι q) (hq2 : q < 56) (hm : R 10 a = ι L.length) (hL : L.length ≤ 300) (hr : ∀ i, i < L.length → R 11 (300 * a + i) = ι (k41 (tm L i)) ∧ R 12 (300 * a + i) = ι (tm L i).n) (h : ∀ R', Fr R R' [2, 3, 4] [0, 13] → Fs R R' [q] → R' 0 13 = ι a → Sl R' q L → K (ι a) R') : wp_undo R K := by
  have key : ∀ (k i : Nat) (R1 : RS), i + k = L.length → Fr R R1 [2, 3, 4] [0, 13] → Fs R R1 [q] → R1 0 13 = ι a → R1 2 q = ι L.length → Ro R1 q (tm L) 0 i → wl_undo_51 K (k + 1) (ι q) (ι i) R1 := by
    intro k
    induction k with
    | zero =>
      intro i R1 hi r1 f1 r2 r3 r4
      show wb_undo_51 _ _ _ _ _
      unfold wb_undo_51
      simp (disch := omega) only [ι_lit, ι_of, ι_add, ι_mul, ι_lt, ι_le, ι_eq, ι_cl, ι_rem, ι_div, ι_vin, ι_ne1', ι_1ne', ι_1lt', ι_lt1', ι_1le', ι_le1', ι_sub', ι_sub, upN, upE, Nat.reduceEqDiff, ne_eq, not_true_eq_false, not_false_eq_true, false_imp_iff, true_imp_iff, true_and, and_true, imp_self, forall_eq, reduceIte, Nat.reduceMul, Nat.reduceAdd, Nat.reduceSub, r3]
      refine ⟨fun _ => ?_, fun c => absurd (by omega) c⟩
      rw [r2]
      exact h R1 r1 f1 r2 ⟨r3, fun j hj => r4 j (by omega) (by omega)⟩
    | succ k ih =>
      intro i R1 hi r1 f1 r2 r3 r4
      have e11 := r1.1 11 (by omega) (by simp)
      have e12 := r1.1 12 (by omega) (by simp)
      show wb_undo_51 _ _ _ _ _
      unfold wb_undo_51
      simp (disch := omega) only [ι_lit, ι_of, ι_add, ι_mul, ι_lt, ι_le, ι_eq, ι_cl, ι_rem, ι_div, ι_vin, ι_ne1', ι_1ne', ι_1lt', ι_lt1', ι_1le', ι_le1', ι_sub', ι_sub, upN, upE, Nat.reduceEqDiff, ne_eq, not_true_eq_false, not_false_eq_true, false_imp_iff, true_imp_iff, true_and, and_true, imp_self, forall_eq, reduceIte, Nat.reduceMul, Nat.reduceAdd, Nat.reduceSub, r3, r2]
      refine ⟨fun c => absurd c (by omega), fun _ => ?_⟩
      rw [e11, e12, (hr i (by omega)).1, (hr i (by omega)).2]
      refine ih (i + 1) _ (by omega) ((r1.w (by simp) (by omega)).w (by simp) (by omega)) (fs_up2 (j := i) f1 (by omega)) (by rw [upN (by omega), upN (by omega)]; exact r2) (by rw [upN (by omega), upN (by omega)]; exact r3) (fun j _ hj => ?_)
      simp (disch := omega) only [ι_lit, ι_of, ι_add, ι_mul, ι_lt, ι_le, ι_eq, ι_cl, ι_rem, ι_div, ι_vin, ι_ne1', ι_1ne', ι_1lt', ι_lt1', ι_1le', ι_le1', ι_sub', ι_sub, upN, upE, Nat.reduceEqDiff, ne_eq, not_true_eq_false, not_false_eq_true, false_imp_iff, true_imp_iff, true_and, and_true, imp_self, forall_eq, reduceIte, Nat.reduceMul, Nat.reduceAdd, Nat.reduceSub]
      by_cases e : j = i
      · rw [if_pos (by omega), if_pos (by omega), e]; exact ⟨rfl, rfl⟩
      · rw [if_neg (by omega), if_neg (by omega)]; exact r4 j (by omega) (by omega)
  unfold wp_undo
  rw [upE, if_neg (by omega), ha]
  refine ⟨fun _ => ?_, fun c => absurd c ?_⟩
  · rw [show (1 : Int32) = ι 1 from rfl, ι_sub (by omega), show a + 1 - 1 = a by omega, upE, if_pos rfl]
    simp (disch := omega) only [ι_lit, ι_of, ι_add, ι_mul, ι_lt, ι_le, ι_eq, ι_cl, ι_rem, ι_div, ι_vin, ι_ne1', ι_1ne', ι_1lt', ι_lt1', ι_1le', ι_le1', ι_sub', ι_sub, upN, upE, Nat.reduceEqDiff, ne_eq, not_true_eq_false, not_false_eq_true, false_imp_iff, true_imp_iff, true_and, and_true, imp_self, forall_eq, reduceIte, Nat.reduceMul, Nat.reduceAdd, Nat.reduceSub]
    rw [hq]
    simp (disch := omega) only [ι_lit, ι_of, ι_add, ι_mul, ι_lt, ι_le, ι_eq, ι_cl, ι_rem, ι_div, ι_vin, ι_ne1', ι_1ne', ι_1lt', ι_lt1', ι_1le', ι_le1', ι_sub', ι_sub, upN, upE, Nat.reduceEqDiff, ne_eq, not_true_eq_false, not_false_eq_true, false_imp_iff, true_imp_iff, true_and, and_true, imp_self, forall_eq, reduceIte, Nat.reduceMul, Nat.reduceAdd, Nat.reduceSub]
    refine ⟨L.length + 1, key L.length 0 _ (by omega) ((((Fr.rf R _ _).w0 (by simp)).w0 (by simp)).w (by simp) (by omega)) (fun s hs => ?_) ?_ ?_ (fun j _ hj => by omega)⟩
    · have hs' : s ≠ q := fun e => hs (by simp [e])
      refine ⟨by rw [upE, if_neg hs', upN (by omega), upN (by omega)], fun i hi => ⟨by rw [upN (by omega), upN (by omega), upN (by omega)], by rw [upN (by omega), upN (by omega), upN (by omega)]⟩⟩
    · rw [upN (by omega), upE, if_pos rfl]
    · rw [upE, if_pos rfl]; exact hm
  · rw [show (0 : Int32) = ι 0 from rfl, ι_eq (by omega) (by omega)]
    omega
theorem acA_take {A : List (Nat × Po)} {m k : Nat} (h : k < m) : acA (A.take m) k = acA A k := by
  unfold acA
  rw [List.getD_eq_getElem?_getD, List.getD_eq_getElem?_getD, List.getElem?_take_of_lt h]
def Wu (h0 b _k : Nat) : Prop := b = h0 + 52
def Vu (h0 b _k : Nat) : Prop := b = h0 + 4
theorem vu_ptr {h0 : Nat} : ∀ q ∈ ptrL, ¬ Vu h0 (h0 + q.1) q.2.1 := by
  have h : ∀ q ∈ ptrL, q.1 ≠ 4 := by decide
  intro q hq
  have := h q hq
  unfold Vu
  omega
theorem ka_u {h0 : Nat} {S : HS} : ∀ a L, Ka h0 a → PolyAt S a L → ∀ k, ¬ Wu h0 a k ∧ ¬ Wu h0 (a + 1) k ∧ ¬ Wu h0 (a + 2) k ∧ ¬ Vu h0 a k := by
  intro a L hk _ k
  unfold Ka at hk
  unfold Wu Vu
  omega
/-- one place is another -/
def upP (P : Nat → Po) (q : Nat) (L : Po) : Nat → Po := fun k => if k = q then L else P k
theorem s_takeBack {M : Nat × Nat} {h0 nx a q b : Nat} {S : HS} {K : Int32 → HS → Prop} (hL : Lay h0 S) (hnx : nx < 20) (h1 : hI S (h0 + 52) 0 = ι (a + 1)) (ha : a < 20) (h2 : hI S (h0 + 52) 1 = ι nx) (h3 : hI S (h0 + 53) ((nx + 19) % 20) = ι q) (hq : q < 6) (h4 : hP S (h0 + 54) ((nx + 19) % 20) = some b) (hb : hT S b = 7) (h : K 0 (sP (sI (sI S (h0 + 52) 1 (ι ((nx + 19) % 20))) (h0 + 52) 0 (ι a)) (h0 + 4) q (some b))) : wp_X0_takeBack M (h0 + 52) (h0 + 4) S K := by
  have go : w_X0_takeBack_19 M K (h0 + 52) (h0 + 4) (ι ((nx + 19) % 20)) (h0 + 52) S := by
    unfold w_X0_takeBack_19
    have hm := Nat.mod_lt (nx + 19) (show 0 < 20 by omega)
    generalize (nx + 19) % 20 = m at *
    have e1 : hI (sI S (h0 + 52) 1 (ι m)) (h0 + 52) 0 = ι (a + 1) := by rw [sI_eq, if_neg (by omega)]; exact h1
    rw [e1, show (1 : Int32) = ι 1 from rfl, ι_sub (by omega), show a + 1 - 1 = a by omega]
    have e2 : hI (sI (sI S (h0 + 52) 1 (ι m)) (h0 + 52) 0 (ι a)) (h0 + 52) 1 = ι m := by rw [sI_eq, if_neg (by omega), sI_eq, if_pos rfl]
    rw [e2, ι_cl (by omega)]
    have e3 : hI (sI (sI S (h0 + 52) 1 (ι m)) (h0 + 52) 0 (ι a)) (h0 + 53) m = ι q := by rw [sI_ne (by omega), sI_ne (by omega)]; exact h3
    refine ⟨hL.t52, hL.t52, hL.t52, hL.t52, h0 + 53, hL.p52_2, hL.t52, hL.t53, ?_, hL.t52, h0 + 54, hL.p52_3, hL.t52, hL.t54, ?_, b, h4, hL.t4, ?_, hb, ?_⟩
    · show vp_in (ι m) (hN S (h0 + 53))
      rw [hL.n53]; exact ι_in (by omega) (by omega)
    · show vp_in (ι m) (hN S (h0 + 54))
      rw [hL.n54]; exact ι_in (by omega) (by omega)
    · rw [e3]
      show vp_in (ι q) (hN S (h0 + 4))
      rw [hL.n4]; exact ι_in (by omega) (by omega)
    · rw [e3, ι_cl (by omega)]; exact h
  unfold wp_X0_takeBack
  refine ⟨hL.t52, fun c => ⟨hL.t52, ?_⟩, fun c => ?_⟩
  · rw [h2] at c ⊢
    have : nx ≠ 0 := fun e => c (by rw [e]; rfl)
    rw [show (1 : Int32) = ι 1 from rfl, ι_sub (by omega), show nx - 1 = (nx + 19) % 20 by omega]
    exact go
  · rw [h2, show (0 : Int32) = ι 0 from rfl, ι_eq (by omega) (by omega)] at c
    subst c
    exact go
theorem call_10 {h0 s0 n : Nat} {S : HS} {R : RS} (hn : n < 512) (h : Inv h0 s0 n S R) : wq_10 (Mx h0 s0) h0 S R (Inv h0 s0 (n + 1)) := by
  obtain ⟨⟨p, P, A, T, Tx, ft, Q, B⟩, hc, hv, hr⟩ := h
  have hL := hc.1
  obtain ⟨nx, q1, q2, q3, q4⟩ := hc.2.2.2.2.1
  have hA := hv.2.2.1
  refine ⟨hL.t0, ?_⟩
  unfold wp_X11_undo
  refine ⟨hL.t0, h0 + 52, hL.p0_7, hL.t52, fun c => ?_, fun c => ?_⟩
  · rw [q2] at c
    have hpos : A.length ≠ 0 := fun e => c (by rw [e]; rfl)
    obtain ⟨a, ha⟩ : ∃ a, A.length = a + 1 := ⟨A.length - 1, by omega⟩
    have hlast := q4 a (by omega)
    rw [show (nx + 20 - A.length + a) % 20 = (nx + 19) % 20 by omega] at hlast
    obtain ⟨w1, b, w2, w3, w4⟩ := hlast
    have hva := hA.2 a (by omega)
    refine ⟨hL.t0, h0 + 52, hL.p0_7, hL.t0, h0 + 4, hL.p0_1, hL.t52, ?_⟩
    refine s_takeBack (a := a) hL q1 (by rw [q2, ha]) (by omega) q3 w1 hva.1 w2 w4.2.1 ?_
    refine ⟨hL.t0, h0 + 52, ?_, hL.t52, ?_⟩
    · rw [sP_ne (by omega)]; exact hL.p0_7
    rw [sP_I, sI_eq, if_pos rfl]
    have hra := hr.2.2.1.2 a (by omega)
    refine s_undo (a := a) (q := (acA A a).1) (L := (acA A a).2) (by rw [hr.2.2.1.1, ha]) (by omega) hra.1 (by omega) hra.2.1 hva.2.1 hra.2.2 (fun R' r1 f1 r2 r3 => ⟨rfl, (p, upP P (acA A a).1 (acA A a).2, A.take a, T, Tx, ft, Q, B), ?_, ?_, ?_⟩)
    · obtain ⟨-, c2, c3, c4, -, c6, c7, c8, c9, c10, c11, c12⟩ := hc
      have hx := c2.1
      have ef : Ext S (sP (sI (sI S (h0 + 52) 1 (ι ((nx + 19) % 20))) (h0 + 52) 0 (ι a)) (h0 + 4) (acA A a).1 (some b)) (Wu h0) (Vu h0) := (((Ext.rf S (Wu h0) (Vu h0)).sI (show Wu h0 (h0 + 52) 1 from rfl)).sI (show Wu h0 (h0 + 52) 0 from rfl)).sP (show Vu h0 (h0 + 4) (acA A a).1 from rfl)
      have pk : PK h0 S (sP (sI (sI S (h0 + 52) 1 (ι ((nx + 19) % 20))) (h0 + 52) 0 (ι a)) (h0 + 4) (acA A a).1 (some b)) := PK.of ef ka_u
      have nI : ∀ b' k, b' < hX S → b' ≠ h0 + 52 → hI (sP (sI (sI S (h0 + 52) 1 (ι ((nx + 19) % 20))) (h0 + 52) 0 (ι a)) (h0 + 4) (acA A a).1 (some b)) b' k = hI S b' k := fun b' k hb w => (ef.2.2.1 b' hb).2.2.1 k w
      have nP : ∀ b' k, b' < hX S → b' ≠ h0 + 4 → hP (sP (sI (sI S (h0 + 52) 1 (ι ((nx + 19) % 20))) (h0 + 52) 0 (ι a)) (h0 + 4) (acA A a).1 (some b)) b' k = hP S b' k := fun b' k hb w => (ef.2.2.1 b' hb).2.2.2 k w
      have ho : ∀ o, o = 12 ∨ o = 15 ∨ o = 39 ∨ o = 42 → hP (sP (sI (sI S (h0 + 52) 1 (ι ((nx + 19) % 20))) (h0 + 52) 0 (ι a)) (h0 + 4) (acA A a).1 (some b)) (h0 + o) 0 = hP S (h0 + o) 0 := fun o ho => nP _ _ (by omega) (by omega)
      refine ⟨hL.go c2.1 ef vu_ptr, c2.go ef pk (c2.tp ef rfl), by rw [nI _ _ (by omega) (by omega)]; exact c3, fun k hk => ?_, ⟨(nx + 19) % 20, Nat.mod_lt _ (by omega), ?_, ?_, fun k hk => ?_⟩, c6.go (nI _ _ (by omega) (by omega)) (fun i => nI _ _ (by omega) (by omega)), c7.go (nI _ _ (by omega) (by omega)) (fun i => nI _ _ (by omega) (by omega)), by rw [nI _ _ (by omega) (by omega)]; exact c8, c9.go pk ef (nP _ _ (by omega) (by omega)) (fun o h => Or.inl (ho o h)) (fun g hg _ f k hf => ⟨by unfold Wu; omega, by unfold Vu; omega⟩), c10.go ef ho, c11.go (ef.2.2.1 _ c10.1.2.2.1.2.1).2.1 pk (nP _ _ (by omega) (by omega)) (ho 39 (by omega)) (fun k => nI _ _ (by omega) (by omega)) (fun k => nI _ _ (by omega) (by omega)) (fun k => nI _ _ (by omega) (by omega)) (nI _ _ (by omega) (by omega)) (nI _ _ (by omega) (by omega)) (fun k => nI _ _ c10.1.2.2.1.2.1 (by have := c10.1.2.2.1.2.2.2.2.1; omega)), c12.go ef c10 ho (by show hX S ≤ hX S + 1000; omega) (by show hS S + _ ≤ _; omega) rfl⟩
      · unfold upP
        by_cases e : k = (acA A a).1
        · rw [if_pos e]
          exact ⟨b, by rw [sP_eq, if_pos e], w3, pk _ _ w3 w4⟩
        · rw [if_neg e]
          obtain ⟨a', u1, u2, u3⟩ := c4 k hk
          exact ⟨a', by rw [sP_eq, if_neg e]; exact u1, u2, pk _ _ u2 u3⟩
      · rw [sP_I, sI_eq, if_pos rfl, List.length_take, Nat.min_eq_left (by omega)]
      · rw [sP_I, sI_eq, if_neg (by omega), sI_eq, if_pos rfl]
      · rw [List.length_take, Nat.min_eq_left (by omega)] at hk
        rw [List.length_take, Nat.min_eq_left (by omega), acA_take hk]
        obtain ⟨u1, a', u2, u3, u4⟩ := q4 k (by omega)
        rw [show (nx + 20 - A.length + k) % 20 = ((nx + 19) % 20 + 20 - a + k) % 20 by omega] at u1 u2
        exact ⟨by rw [nI _ _ (by omega) (by omega)]; exact u1, a', by rw [nP _ _ (by omega) (by omega)]; exact u2, u3, pk _ _ u3 u4⟩
    · obtain ⟨v1, v2, v3, v4⟩ := hv
      refine ⟨v1, fun k hk => ?_, ⟨by rw [List.length_take]; omega, fun k hk => ?_⟩, v4⟩
      · unfold upP
        split
        · exact hva.2
        · exact v2 k hk
      · rw [List.length_take, Nat.min_eq_left (by omega)] at hk
        rw [acA_take hk]; exact v3.2 k (by omega)
    · obtain ⟨u1, u2, u3, u4, u5, u6, u7⟩ := hr
      have e : ∀ f, f ≠ 0 → f ≠ 2 → f ≠ 3 → f ≠ 4 → R' f = R f := fun f a b c d => r1.1 f a (by simp [b, c, d])
      refine ⟨u1.fr r1 (by simp) (by simp) (by simp) (by simp), fun k hk => ?_, ⟨by rw [List.length_take, Nat.min_eq_left (by omega)]; exact r2, fun k hk => ?_⟩, ⟨by rw [r1.2 43 (by simp)]; exact u4.1, fun i hi => by rw [e 42 (by omega) (by omega) (by omega) (by omega)]; exact u4.2 i hi⟩, ⟨by rw [r1.2 28 (by simp)]; exact u5.1, fun i hi => by rw [e 27 (by omega) (by omega) (by omega) (by omega)]; exact u5.2 i hi⟩, by rw [r1.2 51 (by simp)]; exact u6, ⟨by rw [r1.2 37 (by simp)]; exact u7.1, fun s hs => ?_⟩⟩
      · unfold upP
        by_cases e2 : k = (acA A a).1
        · rw [if_pos e2, e2]; exact r3
        · rw [if_neg e2]; exact (u2 k hk).go (hv.2.1 k hk).1 f1 (by simp; exact e2)
      · rw [List.length_take, Nat.min_eq_left (by omega)] at hk
        rw [acA_take hk, e 9 (by omega) (by omega) (by omega) (by omega), e 10 (by omega) (by omega) (by omega) (by omega), e 11 (by omega) (by omega) (by omega) (by omega), e 12 (by omega) (by omega) (by omega) (by omega)]
        exact u3.2 k (by omega)
      · rw [e 29 (by omega) (by omega) (by omega) (by omega), e 30 (by omega) (by omega) (by omega) (by omega), e 31 (by omega) (by omega) (by omega) (by omega), e 32 (by omega) (by omega) (by omega) (by omega)]
        exact ⟨(u7.2 s hs).1.go (hv.2.2.2.2.2.2 s hs).1.1 f1 (by simp; omega), (u7.2 s hs).2⟩
  · rw [q2, show (0 : Int32) = ι 0 from rfl, ι_eq (by omega) (by omega)] at c
    exact s_undo0 (by rw [hr.2.2.1.1, c]) ⟨rfl, _, hc.next, hv, hr.code hv 0⟩
