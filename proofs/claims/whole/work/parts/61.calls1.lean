/-! The invariant is kept by what touches nothing of it. -/
def rF : List Nat := [2, 3, 4, 5, 6, 8, 14, 15, 16, 17, 18, 19, 20, 21, 26, 33, 34, 35, 36, 39, 40, 41]
def rK : List Nat := [0, 7, 22, 23, 24, 25, 38, 44, 45, 46, 47, 48, 49, 50]
theorem RI.go {R R' : RS} {g : Gh} {ts : List Nat} (h : RI R g) (hv : VI g) (hG : G0 R' g.1) (hr : Fr R R' rF rK) (hf : Fs R R' ts) (ht : ∀ t ∈ ts, 29 ≤ t) : RI R' g := by
  obtain ⟨p, P, A, T, Tx, ft, Q, B⟩ := g
  obtain ⟨-, h2, h3, h4, h5, h6, h7⟩ := h
  obtain ⟨v1, v2, v3, v4, v5, v6⟩ := hv
  have e : ∀ f, f ≠ 0 → f ∉ rF → R' f = R f := hr.1
  have e0 : ∀ k, k ∉ rK → R' 0 k = R 0 k := hr.2
  refine ⟨hG, fun k hk => (h2 k hk).go (v2 k hk).1 hf (fun c => by have := ht k c; omega), ⟨by rw [e0 13 (by decide)]; exact h3.1, fun k hk => ?_⟩, ⟨by rw [e0 43 (by decide)]; exact h4.1, fun i hi => by rw [e 42 (by decide) (by decide)]; exact h4.2 i hi⟩, ⟨by rw [e0 28 (by decide)]; exact h5.1, fun i hi => by rw [e 27 (by decide) (by decide)]; exact h5.2 i hi⟩, by rw [e0 51 (by decide)]; exact h6, ⟨by rw [e0 37 (by decide)]; exact h7.1, fun s hs => ?_⟩⟩
  · rw [e 9 (by decide) (by decide), e 10 (by decide) (by decide), e 11 (by decide) (by decide), e 12 (by decide) (by decide)]
    exact h3.2 k hk
  · have q := h7.2 s hs
    rw [e 29 (by decide) (by decide), e 30 (by decide) (by decide), e 31 (by decide) (by decide), e 32 (by decide) (by decide)]
    have : s < 23 := Nat.lt_of_lt_of_le hs v6.1
    exact ⟨q.1.go (v6.2 s hs).1.1 hf (fun c => by have := ht _ c; omega), q.2⟩
theorem RI.code {R : RS} {g : Gh} (h : RI R g) (hv : VI g) (x : Int32) : RI (up R 0 0 x) g := by
  have hr : Fr R (up R 0 0 x) [] [0] := (Fr.rf R [] [0]).w0 (by simp)
  have hG : G0 R g.1 := h.1
  exact h.go (ts := []) hv (hG.fr hr (by simp) (by simp) (by simp) (by simp)) (hr.mo (by decide) (by decide)) (hr.fs [] (by simp)) (by simp)
theorem CRo.next {h0 s0 n : Nat} {S : HS} {T : List Nat} (h : CRo h0 s0 S n T) : CRo h0 s0 S (n + 1) T := by
  obtain ⟨h1, b1, b2, b3, b4, h2, h3⟩ := h
  exact ⟨by omega, b1, b2, b3, b4, by omega, h3⟩
theorem CI.next {h0 s0 n : Nat} {S : HS} {g : Gh} (h : CI h0 s0 n S g) : CI h0 s0 (n + 1) S g := by
  obtain ⟨p, P, A, T, Tx, ft, Q, B⟩ := g
  obtain ⟨h1, h2, h3, h4, h5, h6, h7, h8, h9, h10, h11, h12⟩ := h
  exact ⟨h1, h2, h3, h4, h5, h6, h7, h8, h9, h10, h11, h12.next⟩
/-- a throw leaves one cell more, at most -/
theorem CI.re {h0 s0 n : Nat} {S S' : HS} {g : Gh} (h : CI h0 s0 n S g) (r : Re S S') : CI h0 s0 (n + 1) S' g := by
  obtain ⟨p, P, A, T, Tx, ft, Q, B⟩ := g
  obtain ⟨h1, h2, h3, h4, h5, h6, h7, h8, h9, h10, h11, h12⟩ := h
  obtain ⟨e1, e2, e3, e4, r1, r2, r3, r4⟩ := r
  have he : Ext S S' (fun _ => False) (fun _ => False) := ⟨r1, r3, fun b _ => ⟨by rw [e3], by rw [e4], fun _ => by rw [e1], fun _ => by rw [e2]⟩, fun q b hb => by rw [e3]; exact q b (by omega)⟩
  have gp : ∀ {a : Nat} {L : Po}, PolyAt S a L → PolyAt S' a L := fun q => q.go he (fun c => c) (fun c => c) (fun c => c) (fun c => c)
  have hb : ∀ o, bxC h0 S' o = bxC h0 S o := fun o => by unfold bxC; rw [e2]
  have gb : ∀ {o : Nat}, Bx h0 S o → Bx h0 S' o := fun {o} ⟨a1, a2, a3, a4, a5, a6, a7⟩ => by
    unfold Bx
    rw [hb o, e2, e3, e4]
    exact ⟨a1, by omega, a3, a4, a5, a6, a7⟩
  refine ⟨?_, ⟨by have := h2.1; omega, fun b hb => by rw [e3]; exact h2.2.1 b (by omega), gp h2.2.2.1, gp h2.2.2.2⟩, by rw [e1]; exact h3, fun k hk => ?_, ?_, by unfold CTp; rw [e1]; exact h6, by unfold CSp; rw [e1]; exact h7, by rw [e1]; exact h8, ?_, ?_, ?_, ?_⟩
  · unfold Lay
    rw [e2, e3, e4]; exact h1
  · obtain ⟨a, q1, q2, q3⟩ := h4 k hk
    exact ⟨a, by rw [e2]; exact q1, q2, gp q3⟩
  · obtain ⟨nx, q1, q2, q3, q4⟩ := h5
    refine ⟨nx, q1, by rw [e1]; exact q2, by rw [e1]; exact q3, fun k hk => ?_⟩
    obtain ⟨w1, a, w2, w3, w4⟩ := q4 k hk
    exact ⟨by rw [e1]; exact w1, a, by rw [e2]; exact w2, w3, gp w4⟩
  · rcases h9 with ⟨q1, q2⟩ | ⟨g, q1, q2, q3, q4⟩
    · exact Or.inl ⟨by rw [e2]; exact q1, q2⟩
    · refine Or.inr ⟨g, by rw [e2]; exact q1, q2, ?_, by rw [hb, hb, hb, hb]; exact q4⟩
      obtain ⟨w1, w2, w3, w4, w5, w6, w7⟩ := q3
      refine ⟨w1, by omega, by rw [e3]; exact w3, by rw [e2]; exact w4, by rw [e3, e4]; exact w5, by rw [e1]; exact w6, fun s hs => ?_⟩
      obtain ⟨u1, u2, u3, u4, u5, a, u6, u7, u8⟩ := w7 s hs
      rw [e1, e2]
      exact ⟨u1, u2, u3, u4, u5, a, u6, u7, gp u8⟩
  · obtain ⟨⟨q1, q2, q3, q4⟩, q5⟩ := h10
    refine ⟨⟨gb q1, gb q2, gb q3, gb q4⟩, ?_⟩
    rw [hb, hb, hb, hb]
    exact q5
  · rcases h11 with q | ⟨a, L, q1, q2, q3, q4, q5⟩
    · exact Or.inl (by rw [e2]; exact q)
    · refine Or.inr ⟨a, L, by rw [e2]; exact q1, q2, gp q3, q4, ?_⟩
      rw [e1, hb]
      exact q5
  · obtain ⟨q0, b1, b2, b3, b4, q1, q2⟩ := h12
    refine ⟨by omega, b1, b2, b3, b4, by omega, ?_⟩
    rw [hb, hb, hb, hb, e4]
    exact q2
theorem CI.room {h0 s0 n : Nat} {S : HS} {g : Gh} (h : CI h0 s0 n S g) (hn : n < 512) : hX S + 80000 ≤ h0 + 601024 ∧ hS S + 400000 ≤ s0 + 7293034 := by
  obtain ⟨p, P, A, T, Tx, ft, Q, B⟩ := g
  obtain ⟨-, -, -, -, -, -, -, -, -, ⟨⟨-, q2, -, -⟩, -⟩, -, h1, b1, b2, b3, b4, h2, h3, h4, h5, h6, h7, h8, h9⟩ := h
  have := q2.2.2.2.1
  constructor
  · omega
  · split at h2 <;> omega
/-- the shape of Re that the law's helpers ask for -/
theorem re_rf (S : HS) (h : True) : hX S ≤ hX S + 1 := Nat.le_succ _
section CALLS
variable {h0 s0 n : Nat} {S : HS} {R : RS}
abbrev Mx (h0 s0 : Nat) : Nat × Nat := (h0 + 601024, s0 + 7293034)
theorem call_3 (hn : n < 512) (h : Inv h0 s0 n S R) : wq_3 (Mx h0 s0) h0 S R (Inv h0 s0 (n + 1)) := by
  obtain ⟨⟨p, P, A, T, Tx, ft, Q, B⟩, hc, hv, hr⟩ := h
  have hL := hc.1
  refine ⟨hL.t0, hL.t0, ?_⟩
  unfold wp_fault
  refine ⟨?_, ⟨_, hc.next, hv, hr.code hv 0⟩⟩
  rw [upE, if_neg (by omega)]
  exact hc.2.2.2.2.2.2.2.1.trans hr.2.2.2.2.2.1.symm
theorem call_20 (hn : n < 512) (y : Int32) (h : Inv h0 s0 n S R) : wq_20 (Mx h0 s0) h0 y S R (Inv h0 s0 (n + 1)) := by
  obtain ⟨⟨p, P, A, T, Tx, ft, Q, B⟩, hc, hv, hr⟩ := h
  have hL := hc.1
  obtain ⟨s1, s2⟩ := hc.2.2.2.2.2.2.1
  obtain ⟨r1, r2⟩ := hr.2.2.2.2.1
  have hTl := hv.2.2.2.2.1.1
  have fin : Inv h0 s0 (n + 1) S (up R 0 0 0) := ⟨_, hc.next, hv, hr.code hv 0⟩
  refine ⟨hL.t0, ?_⟩
  unfold wp_X11_said
  have ref : ∀ (k : Int32 → RS → Prop), (∀ a, a < Tx.length → y = ι a → k (ι (Tx.getD a 0)) (up R 0 0 0)) → ((∀ a, a < Tx.length → ¬ y = ι a) → k (-1) (up R 0 0 0)) → wp_said y R k := by
    intro k k1 k0
    unfold wp_said
    rw [upE, if_neg (by omega), r1]
    by_cases e : Tx.length = 0
    · rw [e, show ι 0 - 1 = -1 from rfl]
      unfold wp_isIn
      refine ⟨fun _ => ⟨fun _ => k0 (fun a ha => by omega), fun c => absurd rfl c⟩, fun c => ⟨fun _ => ⟨fun _ => k0 (fun a ha => by omega), fun c => absurd rfl c⟩, fun c2 => ?_⟩⟩
      obtain ⟨a, ha, rfl⟩ := ι_ex c
      exact absurd (ι_1lt ha) c2
    · rw [show (1 : Int32) = ι 1 from rfl, ι_sub (by omega)]
      refine s_isInB (b := 0) (c := Tx.length - 1) rfl rfl (by omega) (by omega) (fun a _ ha e2 => ⟨fun c => absurd c (by decide), fun _ => ?_⟩) (fun q => ⟨fun _ => k0 (fun a ha => q a (by omega) (by omega)), fun c => absurd rfl c⟩)
      subst e2
      simp (disch := omega) only [ι_lit, ι_of, ι_add, ι_mul, ι_lt, ι_le, ι_eq, ι_cl, ι_rem, ι_div, ι_vin, ι_ne1', ι_1ne', ι_1lt', ι_lt1', ι_1le', ι_le1', ι_sub', ι_sub, upN, upE, Nat.reduceEqDiff, ne_eq, not_true_eq_false, not_false_eq_true, false_imp_iff, true_imp_iff, true_and, and_true, imp_self, forall_eq, reduceIte, Nat.reduceMul, Nat.reduceAdd, Nat.reduceSub]
      have := k1 a (by omega) rfl
      rw [← r2 a (by omega)] at this
      exact this
  refine ⟨fun c => ?_, fun c => ?_⟩
  · exact ref _ (fun a ha e => absurd c (by rw [e]; exact ι_nn (by omega))) (fun _ => ⟨rfl, fin⟩)
  · obtain ⟨a, ha, rfl⟩ := ι_ex c
    refine ⟨hL.t0, h0 + 49, hL.p0_6, hL.t49, fun c2 => ?_, fun c2 => ?_⟩
    · rw [s1, ι_lt ha (by omega)] at c2
      refine ⟨hL.t0, h0 + 49, hL.p0_6, hL.t49, h0 + 50, hL.p49_1, hL.t50, ?_, ?_⟩
      · rw [hL.n50]; exact ι_in (by omega) (by omega)
      · rw [ι_cl ha, s2 a c2]
        refine ref _ (fun b hb e => ⟨?_, fin⟩) (fun q => absurd rfl (q a c2))
        rw [ι_eq ha (by omega)] at e
        rw [e]
    · rw [s1, ι_lt ha (by omega)] at c2
      refine ref _ (fun b hb e => ?_) (fun _ => ⟨rfl, fin⟩)
      rw [ι_eq ha (by omega)] at e
      omega
end CALLS
