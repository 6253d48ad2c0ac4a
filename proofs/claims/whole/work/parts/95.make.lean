/-! make: what may be made. -/
def mkOk (P : Nat → Po) (how i : Nat) (x4 : Int32) (j : Nat) : Prop := (how ≤ 2 ∧ j < 6 ∧ x4 = ι j) ∨ (how = 3 ∧ j ≤ 2 ∧ x4 = ι j) ∨ (how = 4 ∧ j ≤ 9 ∧ x4 = ι j) ∨ (how = 5 ∧ j ≤ 120 ∧ x4 = ι j) ∨ how = 6 ∨ (how = 7 ∧ P i ≠ []) ∨ (how = 8 ∧ j < 6 ∧ x4 = ι j ∧ inX (P i) ∧ inX (P j)) ∨ (how = 9 ∧ j ≤ 5 ∧ x4 = ι j)
theorem mkOk.le {P : Nat → Po} {how i j : Nat} {x4 : Int32} (h : mkOk P how i x4 j) : how ≤ 9 := by unfold mkOk at h; omega
theorem mkOk.a {P : Nat → Po} {how i j : Nat} {x4 : Int32} (h : mkOk P how i x4 j) : (how ≤ 2 → j < 6 ∧ x4 = ι j) ∧ (how = 3 → j ≤ 2 ∧ x4 = ι j) ∧ (how = 4 → j ≤ 9 ∧ x4 = ι j) ∧ (how = 5 → j ≤ 120 ∧ x4 = ι j) ∧ (how = 7 → P i ≠ []) ∧ (how = 8 → j < 6 ∧ x4 = ι j ∧ inX (P i) ∧ inX (P j)) ∧ (how = 9 → j ≤ 5 ∧ x4 = ι j) := by
  rcases h with c | c | c | c | c | c | c | c
  · exact ⟨fun _ => c.2, fun z => by omega, fun z => by omega, fun z => by omega, fun z => by omega, fun z => by omega, fun z => by omega⟩
  · exact ⟨fun z => by omega, fun _ => c.2, fun z => by omega, fun z => by omega, fun z => by omega, fun z => by omega, fun z => by omega⟩
  · exact ⟨fun z => by omega, fun z => by omega, fun _ => c.2, fun z => by omega, fun z => by omega, fun z => by omega, fun z => by omega⟩
  · exact ⟨fun z => by omega, fun z => by omega, fun z => by omega, fun _ => c.2, fun z => by omega, fun z => by omega, fun z => by omega⟩
  · exact ⟨fun z => by omega, fun z => by omega, fun z => by omega, fun z => by omega, fun z => by omega, fun z => by omega, fun z => by omega⟩
  · exact ⟨fun z => by omega, fun z => by omega, fun z => by omega, fun z => by omega, fun _ => c.2, fun z => by omega, fun z => by omega⟩
  · exact ⟨fun z => by omega, fun z => by omega, fun z => by omega, fun z => by omega, fun z => by omega, fun _ => c.2, fun z => by omega⟩
  · exact ⟨fun z => by omega, fun z => by omega, fun z => by omega, fun z => by omega, fun z => by omega, fun z => by omega, fun _ => c.2⟩
theorem mkOk.n {P : Nat → Po} {m b i j : Nat} {x4 : Int32} (hm : (m = 3 ∧ b = 2) ∨ (m = 4 ∧ b = 9) ∨ (m = 5 ∧ b = 120) ∨ (m = 9 ∧ b = 5)) : (mkOk P m i x4 j → j ≤ b ∧ x4 = ι j) ∧ (j ≤ b → x4 = ι j → mkOk P m i x4 j) := by
  refine ⟨fun h => ?_, fun hj e => ?_⟩
  · obtain ⟨-, h3, h4, h5, -, -, h9⟩ := h.a
    rcases hm with ⟨h, hb⟩ | ⟨h, hb⟩ | ⟨h, hb⟩ | ⟨h, hb⟩
    · rw [hb]; exact h3 h
    · rw [hb]; exact h4 h
    · rw [hb]; exact h5 h
    · rw [hb]; exact h9 h
  · rcases hm with ⟨h, hb⟩ | ⟨h, hb⟩ | ⟨h, hb⟩ | ⟨h, hb⟩
    · exact Or.inr (Or.inl ⟨h, by omega, e⟩)
    · exact Or.inr (Or.inr (Or.inl ⟨h, by omega, e⟩))
    · exact Or.inr (Or.inr (Or.inr (Or.inl ⟨h, by omega, e⟩)))
    · exact Or.inr (Or.inr (Or.inr (Or.inr (Or.inr (Or.inr (Or.inr ⟨h, by omega, e⟩))))))
theorem mkOk.s {P : Nat → Po} {i j : Nat} {x4 : Int32} : mkOk P 6 i x4 j := Or.inr (Or.inr (Or.inr (Or.inr (Or.inl rfl))))
theorem inX_mA {L : Po} : inX L ↔ mA L 1 ≤ 1 ∧ mA L 2 ≤ 1 := by
  constructor
  · intro h
    by_cases hl : L.length = 0
    · unfold mA; rw [hl]; exact ⟨Nat.zero_le _, Nat.zero_le _⟩
    · obtain ⟨i, hi, e1⟩ := mx_ex (L := L) (g := fun t => exv t 1) (n := L.length) (by omega)
      obtain ⟨j, hj, e2⟩ := mx_ex (L := L) (g := fun t => exv t 2) (n := L.length) (by omega)
      have h1 : exv (tm L i) 1 = 0 := (h i hi).1
      have h2 : exv (tm L j) 2 = 0 := (h j hj).2
      unfold mA
      omega
  · intro h i hi
    have u1 : (tm L i).y + 1 ≤ mA L 1 := mA_tm (v := 1) hi
    have u2 : (tm L i).z + 1 ≤ mA L 2 := mA_tm (v := 2) hi
    omega
theorem ιm_pos {m : Nat} (h : m ≤ 1000) : (0 < ιm m) ↔ ¬ m ≤ 1 := by
  unfold ιm
  by_cases g : m = 0
  · rw [if_pos g]; exact ⟨fun c => absurd c (by decide), fun c => absurd (by omega) c⟩
  · rw [if_neg g, show (0 : Int32) = ι 0 from rfl, ι_lt (by omega) (by omega)]; omega
theorem ιm_one {m : Nat} (h : m ≤ 1000) : (1 ≤ ιm m) ↔ ¬ m ≤ 1 := by
  unfold ιm
  by_cases g : m = 0
  · rw [if_pos g]; exact ⟨fun c => absurd c (by decide), fun c => absurd (by omega) c⟩
  · rw [if_neg g, show (1 : Int32) = ι 1 from rfl, ι_le (by omega) (by omega)]; omega
theorem c_inXA {M : Nat × Nat} {S : HS} {K : Int32 → HS → Prop} {a p : Nat} {L : Po} (hw : wf p L) (rd : Rd S a L) (h1 : inX L → K 1 S) (hn : ¬ inX L → K 0 S) : wp_X6_isInXAlone M a S K := by
  have m1 := mA_le (v := 1) hw
  have m2 := mA_le (v := 2) hw
  rw [inX_mA] at h1 hn
  unfold wp_X6_isInXAlone
  refine ⟨rd.2.1, c_degR hw rd (v := 1) rfl (by omega) ?_⟩
  show (0 < ιm (mA L 1) → K 0 S) ∧ (¬ 0 < ιm (mA L 1) → _)
  rw [ιm_pos (by omega)]
  refine ⟨fun c => hn (fun w => c w.1), fun c => ⟨rd.2.1, c_degR hw rd (v := 2) rfl (by omega) ?_⟩⟩
  show (0 < ιm (mA L 2) → K 0 S) ∧ (¬ 0 < ιm (mA L 2) → _)
  rw [ιm_pos (by omega)]
  exact ⟨fun c2 => hn (fun w => c2 w.2), fun c2 => h1 ⟨by omega, by omega⟩⟩
theorem s_inX {R : RS} {K : Int32 → RS → Prop} {s p : Nat} {L : Po} (hs : s < 56) (hw : wf p L) (sl : Sl R s L) (h1 : inX L → K 1 R) (hn : ¬ inX L → K 0 R) : wp_isInX (ι s) R K := by
  have m1 := mA_le (v := 1) hw
  have m2 := mA_le (v := 2) hw
  rw [inX_mA] at h1 hn
  unfold wp_isInX
  refine s_degreeIn (v := 1) rfl rfl (by omega) hs hw sl ?_
  show (1 ≤ ιm (mA L 1) → K 0 R) ∧ (¬ 1 ≤ ιm (mA L 1) → _)
  rw [ιm_one (by omega)]
  refine ⟨fun c => hn (fun w => c w.1), fun c => s_degreeIn (v := 2) rfl rfl (by omega) hs hw sl ?_⟩
  show (1 ≤ ιm (mA L 2) → K 0 R) ∧ (¬ 1 ≤ ιm (mA L 2) → _)
  rw [ιm_one (by omega)]
  exact ⟨fun c2 => hn (fun w => c2 w.2), fun c2 => h1 ⟨by omega, by omega⟩⟩
section MAY
variable {P : Nat → Po} {i p : Nat} {y2 y4 : Int32}
theorem mk_eq {m how j : Nat} (e : y2 = ι m) (hm : m ≤ 9) (e' : y2 = ι how) (h : mkOk P how i y4 j) : how = m := by
  have := h.le
  rw [e, ι_eq (by omega) (by omega)] at e'
  exact e'.symm
/-- a number from 0 to b -/
theorem n_upto {M : Nat × Nat} {S : HS} {K : Int32 → HS → Prop} {x b1 : Int32} {b : Nat} (hb : b < 1000) (h1 : ∀ j, j ≤ b → x = ι j → K 1 S) (hn : (∀ j, j ≤ b → ¬ x = ι j) → K 0 S) : (b1 = ι b → (x < 0 → K 0 S) ∧ (¬ (x < 0) → (b1 < x → K 0 S) ∧ (¬ (b1 < x) → K 1 S))) ∧ (b1 = ι (b + 1) → (x < 0 → K 0 S) ∧ (¬ (x < 0) → (b1 ≤ x → K 0 S) ∧ (¬ (b1 ≤ x) → K 1 S))) := by
  have neg : x < 0 → K 0 S := fun c => hn (fun j hj e => by rw [e] at c; exact ι_nn (by omega) c)
  refine ⟨fun e => ⟨neg, fun c => ?_⟩, fun e => ⟨neg, fun c => ?_⟩⟩
  · obtain ⟨j, hj, rfl⟩ := ι_ex c
    rw [e, ι_lt (by omega) hj]
    exact ⟨fun g => hn (fun j' hj' e' => by rw [ι_eq hj (by omega)] at e'; omega), fun g => h1 j (by omega) rfl⟩
  · obtain ⟨j, hj, rfl⟩ := ι_ex c
    rw [e, ι_le (by omega) hj]
    exact ⟨fun g => hn (fun j' hj' e' => by rw [ι_eq hj (by omega)] at e'; omega), fun g => h1 j (by omega) rfl⟩
theorem c_canMake {M : Nat × Nat} {h0 s0 n : Nat} {S : HS} {K : Int32 → HS → Prop} {A : List (Nat × Po)} {T Tx : List Nat} {ft : Int32} {Q : List Sp} {B : Nat → Nat} (hc : CI h0 s0 n S (p, P, A, T, Tx, ft, Q, B)) (hv : VI (p, P, A, T, Tx, ft, Q, B)) (hi : i < 6) (h1 : ∀ how j, y2 = ι how → mkOk P how i y4 j → K 1 S) (hn : (∀ how j, y2 = ι how → ¬ mkOk P how i y4 j) → K 0 S) : wp_X11_canMake M h0 y2 (ι i) y4 S K := by
  have hL := hc.1
  obtain ⟨a, w1, w2, w3⟩ := hc.2.2.2.1 i hi
  have wi := hv.2.1 i hi
  have pl : ∀ m, m ≤ 2 → y2 = ι m → wp_X11_isPlace M y4 S (fun r1 S1 => (r1 = 0 ∨ r1 = 1) ∧ K r1 S1) := fun m hm e => c_isPlace (fun k hk e4 => ⟨Or.inr rfl, h1 m k e (Or.inl ⟨hm, hk, e4⟩)⟩) (fun hne => ⟨Or.inl rfl, hn (fun how j e' ok => by
    have e3 := mk_eq (m := m) e (by omega) e' ok
    have := ok.a.1 (by omega)
    exact hne j this.1 this.2)⟩)
  have num : ∀ m b, b < 1000 → y2 = ι m → ((m = 3 ∧ b = 2) ∨ (m = 4 ∧ b = 9) ∨ (m = 5 ∧ b = 120) ∨ (m = 9 ∧ b = 5)) → ((∀ j, j ≤ b → y4 = ι j → K 1 S) ∧ ((∀ j, j ≤ b → ¬ y4 = ι j) → K 0 S)) := fun m b hb e hm => ⟨fun j hj e4 => h1 m j e ((mkOk.n hm).2 hj e4), fun hne => hn (fun how j e' ok => by
    have e3 := mk_eq (m := m) e (by omega) e' ok
    rw [e3] at ok
    have := (mkOk.n hm).1 ok
    exact hne j this.1 this.2)⟩
  unfold wp_X11_canMake
  refine ⟨fun z => hn (fun how j e ok => ?_), fun e => pl 0 (by omega) e, fun e => pl 1 (by omega) e, fun e => pl 2 (by omega) e, fun e => ?_, fun e => ?_, fun e => ?_, fun e => h1 6 0 e mkOk.s, fun e => ?_, fun e => ?_, fun e => ?_⟩
  · have := ok.le
    rw [e, ι_int (by omega)] at z
    omega
  · have q := num 3 2 (by omega) e (by omega)
    exact (n_upto (M := M) (b := 2) (b1 := 3) (by omega) q.1 q.2).2 rfl
  · have q := num 4 9 (by omega) e (by omega)
    exact (n_upto (M := M) (b := 9) (b1 := 9) (by omega) q.1 q.2).1 rfl
  · have q := num 5 120 (by omega) e (by omega)
    exact (n_upto (M := M) (b := 120) (b1 := 120) (by omega) q.1 q.2).1 rfl
  · have w300 := wi.1
    refine ⟨hL.t0, h0 + 4, hL.p0_1, hL.t4, by rw [hL.n4]; exact ι_in (by omega) (by omega), a, by rw [ι_cl (by omega)]; exact w1, w3.2.1, ?_⟩
    rw [w3.2.2.2.2.2.2.2.2.1, show (0 : Int32) = ι 0 from rfl, ι_le (by omega) (by omega), ← show (0 : Int32) = ι 0 from rfl]
    refine ⟨fun z => hn (fun how j e' ok => ?_), fun z => h1 7 0 e ?_⟩
    · have ne : P i ≠ [] := ok.a.2.2.2.2.1 (mk_eq (m := 7) e (by omega) e' ok)
      exact ne (List.length_eq_zero_iff.mp (by omega))
    · exact Or.inr (Or.inr (Or.inr (Or.inr (Or.inr (Or.inl ⟨rfl, fun c => z (by rw [c]; exact Nat.le_refl _)⟩)))))
  · have both : ∀ how j, y2 = ι how → mkOk P how i y4 j → j < 6 ∧ y4 = ι j ∧ inX (P i) ∧ inX (P j) := fun how j e' ok => by
      exact ok.a.2.2.2.2.2.1 (mk_eq (m := 8) e (by omega) e' ok)
    refine c_isPlace (fun k hk e4 => ⟨fun c => absurd c (by decide), fun _ => ?_⟩) (fun hne => ⟨fun _ => hn (fun how j e' ok => hne j (both how j e' ok).1 (both how j e' ok).2.1), fun c => absurd rfl c⟩)
    obtain ⟨b, z1, z2, z3⟩ := hc.2.2.2.1 k hk
    have wk := hv.2.1 k hk
    refine ⟨hL.t0, h0 + 4, hL.p0_1, hL.t4, by rw [hL.n4]; exact ι_in (by omega) (by omega), a, by rw [ι_cl (by omega)]; exact w1, w3.2.1, c_inXA wi (w3.rd wi) (fun xi => ⟨fun c => absurd c (by decide), fun _ => ?_⟩) (fun xi => ⟨fun _ => hn (fun how j e' ok => xi (both how j e' ok).2.2.1), fun c => absurd rfl c⟩)⟩
    refine ⟨hL.t0, h0 + 4, hL.p0_1, hL.t4, by rw [hL.n4, e4]; exact ι_in (by omega) (by omega), b, by rw [e4, ι_cl (by omega)]; exact z1, z3.2.1, c_inXA wk (z3.rd wk) (fun xk => ⟨fun c => absurd c (by decide), fun _ => h1 8 k e (Or.inr (Or.inr (Or.inr (Or.inr (Or.inr (Or.inr (Or.inl ⟨rfl, hk, e4, xi, xk⟩)))))))⟩) (fun xk => ⟨fun _ => hn (fun how j e' ok => ?_), fun c => absurd rfl c⟩)⟩
    have bo := both how j e' ok
    have ej : j = k := by
      have := bo.2.1.symm.trans e4
      rw [ι_eq (by omega) (by omega)] at this
      exact this
    rw [ej] at bo
    exact xk bo.2.2.2
  · have q := num 9 5 (by omega) e (by omega)
    exact (n_upto (M := M) (b := 5) (b1 := 5) (by omega) q.1 q.2).1 rfl
theorem s_mayMake {R : RS} {K : Int32 → RS → Prop} {g : Gh} (hr : RI R g) (hv : VI g) (hP : g.2.1 = P) (hi : i < 6) (h1 : ∀ how j, y2 = ι how → mkOk P how i y4 j → K 1 R) (hn : (∀ how j, y2 = ι how → ¬ mkOk P how i y4 j) → K 0 R) : wp_mayMake y2 (ι i) y4 R K := by
  obtain ⟨p, P', A, T, Tx, ft, Q, B⟩ := g
  subst hP
  have wi := hv.2.1 i hi
  have si := hr.2.1 i hi
  have w300 := wi.1
  have pl : ∀ m, m ≤ 2 → y2 = ι m → wp_isPlace y4 R (fun r1 S1 => (r1 = 0 ∨ r1 = 1) ∧ K r1 S1) := fun m hm e => s_isPlace (fun k hk e4 => ⟨Or.inr rfl, h1 m k e (Or.inl ⟨hm, hk, e4⟩)⟩) (fun hne => ⟨Or.inl rfl, hn (fun how j e' ok => by
    have e3 := mk_eq (m := m) e (by omega) e' ok
    have := ok.a.1 (by omega)
    exact hne j this.1 this.2)⟩)
  have num : ∀ m b (x : Int32), b < 1000 → y2 = ι m → x = ι b → ((m = 3 ∧ b = 2) ∨ (m = 4 ∧ b = 9) ∨ (m = 5 ∧ b = 120) ∨ (m = 9 ∧ b = 5)) → ∀ K' : Int32 → RS → Prop, (K 1 R → K' 1 R) → (K 0 R → K' 0 R) → wp_isIn y4 0 x R K' := fun m b x hb e ex hm K' k1 k0 => s_isInB (b := 0) (c := b) rfl ex (by omega) (by omega) (fun j _ hj e4 => k1 (h1 m j e ((mkOk.n hm).2 hj e4))) (fun hne => k0 (hn (fun how j e' ok => by
    have e3 := mk_eq (m := m) e (by omega) e' ok
    rw [e3] at ok
    have := (mkOk.n hm).1 ok
    exact hne j (by omega) this.1 this.2)))
  unfold wp_mayMake
  refine ⟨fun z => ⟨fun z9 => hn (fun how j e ok => ?_), fun e => num 9 5 _ (by omega) e rfl (by omega) _ (fun k => ⟨fun c => absurd c (by decide), fun _ => k⟩) (fun k => ⟨fun _ => k, fun c => absurd rfl c⟩)⟩, fun e => pl 0 (by omega) e, fun e => pl 1 (by omega) e, fun e => pl 2 (by omega) e, fun e => num 3 2 _ (by omega) e rfl (by omega) _ (fun k => ⟨Or.inr rfl, k⟩) (fun k => ⟨Or.inl rfl, k⟩), fun e => num 4 9 _ (by omega) e rfl (by omega) _ (fun k => ⟨Or.inr rfl, k⟩) (fun k => ⟨Or.inl rfl, k⟩), fun e => num 5 120 _ (by omega) e rfl (by omega) _ (fun k => ⟨Or.inr rfl, k⟩) (fun k => ⟨Or.inl rfl, k⟩), fun e => h1 6 0 e mkOk.s, fun e => ?_, fun e => ?_⟩
  · have := ok.le
    rw [e, ι_int (by omega)] at z
    exact z9 (by rw [e]; show ι how = ι 9; congr 1; omega)
  · refine ⟨ι_in (by omega) (by omega), ?_⟩
    rw [ι_cl (by omega), si.1, show (0 : Int32) = ι 0 from rfl, ι_le (by omega) (by omega), ← show (0 : Int32) = ι 0 from rfl]
    refine ⟨fun z => hn (fun how j e' ok => ?_), fun z => h1 7 0 e ?_⟩
    · have ne : P' i ≠ [] := ok.a.2.2.2.2.1 (mk_eq (m := 7) e (by omega) e' ok)
      exact ne (List.length_eq_zero_iff.mp (by omega))
    · exact Or.inr (Or.inr (Or.inr (Or.inr (Or.inr (Or.inl ⟨rfl, fun c => z (by rw [show P' i = [] from c]; exact Nat.le_refl _)⟩)))))
  · have both : ∀ how j, y2 = ι how → mkOk P' how i y4 j → j < 6 ∧ y4 = ι j ∧ inX (P' i) ∧ inX (P' j) := fun how j e' ok => by
      exact ok.a.2.2.2.2.2.1 (mk_eq (m := 8) e (by omega) e' ok)
    refine s_isPlace (fun k hk e4 => ⟨fun c => absurd c (by decide), fun _ => ?_⟩) (fun hne => ⟨fun _ => hn (fun how j e' ok => hne j (both how j e' ok).1 (both how j e' ok).2.1), fun c => absurd rfl c⟩)
    have wk := hv.2.1 k hk
    refine s_inX (by omega) wi si (fun xi => ⟨fun c => absurd c (by decide), fun _ => ?_⟩) (fun xi => ⟨fun _ => hn (fun how j e' ok => xi (both how j e' ok).2.2.1), fun c => absurd rfl c⟩)
    rw [e4]
    refine s_inX (by omega) wk (hr.2.1 k hk) (fun xk => ⟨fun c => absurd c (by decide), fun _ => h1 8 k e (Or.inr (Or.inr (Or.inr (Or.inr (Or.inr (Or.inr (Or.inl ⟨rfl, hk, e4, xi, xk⟩)))))))⟩) (fun xk => ⟨fun _ => hn (fun how j e' ok => ?_), fun c => absurd rfl c⟩)
    have bo := both how j e' ok
    have ej : j = k := by
      have := bo.2.1.symm.trans e4
      rw [ι_eq (by omega) (by omega)] at this
      exact this
    rw [ej] at bo
    exact xk bo.2.2.2
end MAY
/-! make: what is made. -/
noncomputable def rsF (p : Nat) (L : Po) : N3 := Classical.epsilon (fun F => Bd p F ∧ RoK p L (lns p) F)
theorem rsF_eq {p : Nat} {L : Po} {F : N3} (hpp : PrP p) (hF : Bd p F) (h : RoK p L (lns p) F) : rsF p L = F := by
  have s := Classical.epsilon_spec (p := fun F => Bd p F ∧ RoK p L (lns p) F) ⟨F, hF, h⟩
  exact RoK.eq hpp s.2 h s.1 hF
noncomputable def mkR (p : Nat) (P : Nat → Po) (how i j : Nat) : Option Po := if how = 0 then cn p (sumF p 1 (P i) (P j)) else if how = 1 then cn p (sumF p (p - 1) (P i) (P j)) else if how = 2 then cn p (prF p (P i) (P j)) else if how = 3 then cn p (mF p (gD3 j) (P i)) else if how = 4 then pw p (P i) j else if how = 5 then cn p (mF p (gPt j) (P i)) else if how = 6 then cn p (mF p (gRd p) (P i)) else if how = 7 then cn p (rsF p (P i)) else if how = 8 then cn p (rowF p 41 (cmC p (rwN (P i)) (rwN (P j)))) else cn p (mF p (gTn j) (P i))
theorem mkR_wf {p how i j : Nat} {P : Nat → Po} {L : Po} (hpp : PrP p) (h : mkR p P how i j = some L) : wf p L := by
  have hp := hpp.le
  unfold mkR at h
  split at h
  · exact (cn_can h).1
  split at h
  · exact (cn_can h).1
  split at h
  · exact (cn_can h).1
  split at h
  · exact (cn_can h).1
  split at h
  · exact pw_wf (by omega) h
  split at h
  · exact (cn_can h).1
  split at h
  · exact (cn_can h).1
  split at h
  · exact (cn_can h).1
  split at h
  · exact (cn_can h).1
  · exact (cn_can h).1
section MAKE
variable {h0 s0 n p i how j a : Nat} {y4 : Int32} {S : HS} {P : Nat → Po} {A : List (Nat × Po)} {T Tx : List Nat} {ft : Int32} {Q : List Sp} {B : Nat → Nat}
theorem c_made {K : Option Nat → HS → Prop} (hn : n < 512) (hc : CI h0 s0 n S (p, P, A, T, Tx, ft, Q, B)) (hv : VI (p, P, A, T, Tx, ft, Q, B)) (hi : i < 6) (ok : mkOk P how i y4 j) (ka : Ka h0 a) (pa : PolyAt S a (P i)) (h : ∀ S', CI h0 s0 (n + 1) S' (p, P, A, T, Tx, ft, Q, B) → (∀ q L, mkR p P how i j = some L → Ka h0 q → PolyAt S' q L → K (some q) S') ∧ (mkR p P how i j = none → K none S')) : wp_X11_made (Mx h0 s0) h0 (ι how) a y4 S K := by
  have hL := hc.1
  have hpp := hv.1
  have hp := hpp.le
  have hp5 := hc.2.2.1
  have hle := ok.le
  have oka := ok.a
  have wi := hv.2.1 i hi
  have hcr := hc.r
  have bs : Bs h0 S p := hcr.bs hpp
  have room := hc.room hn
  have tpl : tpR T ≤ 7400 := by unfold tpR; split <;> omega
  have rx : h0 + 200 + 1000 * n + 20 ≤ (Mx h0 s0).1 := by show h0 + 200 + 1000 * n + 20 ≤ h0 + 601024; omega
  have ry : s0 + 1400000 + 7400 * n - tpR T + 2000000 ≤ (Mx h0 s0).2 := by show s0 + 1400000 + 7400 * n - tpR T + 2000000 ≤ s0 + 7293034; omega
  have r1 : hX S + 3 ≤ (Mx h0 s0).1 := by show hX S + 3 ≤ h0 + 601024; omega
  have r2 : hS S + 604 ≤ (Mx h0 s0).2 := by show hS S + 604 ≤ s0 + 7293034; omega
  have mko : ∀ r c, c ≤ 12 → r = mkR p P how i j → MkO h0 c 604 S r K := fun r c hc9 er S' g1 => by
    subst er
    exact h S' (hc.go g1 (by omega) (by omega))
  have mk : ∀ F, cn p F = mkR p P how i j → Mk h0 S p F K := fun F e => (mko _ 4 (by omega) e).mk (by omega) (by omega)
  have pj : ∀ j, j < 6 → ∃ b, hP S (h0 + 4) j = some b ∧ Ka h0 b ∧ PolyAt S b (P j) := fun j hj => hc.2.2.2.1 j hj
  have neq : ∀ m : Nat, m ≤ 9 → ι how = ι m → how = m := fun m hm e => by rw [ι_eq (by omega) (by omega)] at e; exact e
  unfold wp_X11_made
  refine ⟨fun z => ⟨hL.t0, h0 + 5, hL.p0_2, hL.t5, ?_⟩, fun e => ?_, fun e => ?_, fun e => ?_, fun e => ?_, fun e => ?_, fun e => ?_, fun e => ?_, fun e => ?_, fun e => ?_⟩
  · rw [ι_int (by omega)] at z
    have e9 : how = 9 := by omega
    obtain ⟨hj, e4⟩ := oka.2.2.2.2.2.2 e9
    exact c_turned (g := (p, P, A, T, Tx, ft, Q, B)) hcr hpp wi ka pa e4 (by omega) (by show h0 + 200 + 1000 * n + 4 ≤ _; omega) ry (mko _ 4 (by omega) (by unfold mkR; rw [e9]; rfl))
  · have e0 := neq 0 (by omega) e
    obtain ⟨hj, e4⟩ := oka.1 (by omega)
    obtain ⟨b, z1, z2, z3⟩ := pj j hj
    exact ⟨hL.t0, h0 + 5, hL.p0_2, hL.t0, h0 + 4, hL.p0_1, hL.t4, by rw [hL.n4, e4]; exact ι_in (by omega) (by omega), b, by rw [e4, ι_cl (by omega)]; exact z1, hL.t5, c_sum bs wi (hv.2.1 j hj) ka pa z2 z3 (m := 1) rfl (by omega) r1 r2 (mk _ (by unfold mkR; rw [if_pos e0]))⟩
  · have e0 := neq 1 (by omega) e
    obtain ⟨hj, e4⟩ := oka.1 (by omega)
    obtain ⟨b, z1, z2, z3⟩ := pj j hj
    refine ⟨hL.t0, h0 + 5, hL.p0_2, hL.t0, h0 + 4, hL.p0_1, hL.t4, by rw [hL.n4, e4]; exact ι_in (by omega) (by omega), b, by rw [e4, ι_cl (by omega)]; exact z1, hL.t0, h0 + 5, hL.p0_2, hL.t5, hL.t5, ?_⟩
    rw [hp5, show (1 : Int32) = ι 1 from rfl, ι_sub (by omega)]
    exact c_sum bs wi (hv.2.1 j hj) ka pa z2 z3 (m := p - 1) rfl (by omega) r1 r2 (mk _ (by unfold mkR; rw [if_neg (by omega), if_pos e0]))
  · have e0 := neq 2 (by omega) e
    obtain ⟨hj, e4⟩ := oka.1 (by omega)
    obtain ⟨b, z1, z2, z3⟩ := pj j hj
    exact ⟨hL.t0, h0 + 5, hL.p0_2, hL.t0, h0 + 4, hL.p0_1, hL.t4, by rw [hL.n4, e4]; exact ι_in (by omega) (by omega), b, by rw [e4, ι_cl (by omega)]; exact z1, hL.t5, c_product (g := (p, P, A, T, Tx, ft, Q, B)) hcr hpp wi (hv.2.1 j hj) ka pa z2 z3 (by show h0 + 200 + 1000 * n + 4 ≤ _; omega) ry (mko _ 4 (by omega) (by unfold mkR; rw [e0]; rfl))⟩
  · have e0 := neq 3 (by omega) e
    obtain ⟨hj, e4⟩ := oka.2.1 e0
    exact ⟨hL.t0, h0 + 5, hL.p0_2, hL.t5, c_derivative bs wi ka pa e4 (by omega) r1 r2 (mk _ (by unfold mkR; rw [e0]; rfl))⟩
  · have e0 := neq 4 (by omega) e
    obtain ⟨hj, e4⟩ := oka.2.2.1 e0
    exact ⟨hL.t0, h0 + 5, hL.p0_2, hL.t5, c_power (g := (p, P, A, T, Tx, ft, Q, B)) hcr hpp wi ka pa e4 hj (by show h0 + 200 + 1000 * n + 12 ≤ _; omega) ry (mko _ 12 (by omega) (by unfold mkR; rw [e0]; rfl))⟩
  · have e0 := neq 5 (by omega) e
    obtain ⟨hj, e4⟩ := oka.2.2.2.1 e0
    exact ⟨hL.t0, h0 + 5, hL.p0_2, hL.t5, c_part bs wi ka pa e4 hj r1 r2 (mk _ (by unfold mkR; rw [e0]; rfl))⟩
  · have e0 := neq 6 (by omega) e
    exact ⟨hL.t0, h0 + 5, hL.p0_2, hL.t5, c_reduced (g := (p, P, A, T, Tx, ft, Q, B)) hcr hpp wi ka pa (by show h0 + 200 + 1000 * n + 4 ≤ _; omega) ry (mko _ 4 (by omega) (by unfold mkR; rw [e0]; rfl))⟩
  · have e0 := neq 7 (by omega) e
    have ne := oka.2.2.2.2.1 e0
    refine ⟨hL.t0, h0 + 25, hL.p0_4, hL.t0, h0 + 5, hL.p0_2, hL.t5, hL.t25, ?_⟩
    rw [hp5]
    refine c_find (g := (p, P, A, T, Tx, ft, Q, B)) hcr hpp wi ka pa (by show h0 + 200 + 1000 * n + 3 ≤ _; omega) ry (fun S2 hc2 pa2 fc => ?_)
    have hc2 : CIr h0 (h0 + 200 + 1000 * n + 2) (s0 + 1400000 + 7400 * n - tpR T) S2 (p, P, A, T, Tx, ft, Q, B) := hc2
    have L2 := (hc2.bs hpp).1
    refine ⟨L2.t0, h0 + 25, L2.p0_4, L2.t25, c_rest hc2 hpp ne fc (by omega) ry (fun F bd rk S' g1 => ?_)⟩
    have er : mkR p P how i j = cn p F := by
      unfold mkR
      rw [e0]
      show cn p (rsF p (P i)) = cn p F
      rw [rsF_eq hpp bd rk]
    have hs := h S' ((g1.2.2.1 _ _ _ hc2).ci (by omega) (by show _ + tpR T ≤ _; omega))
    rw [er] at hs
    exact hs
  · have e0 := neq 8 (by omega) e
    obtain ⟨hj, e4, xi, xj⟩ := oka.2.2.2.2.2.1 e0
    obtain ⟨b, z1, z2, z3⟩ := pj j hj
    exact ⟨hL.t0, h0 + 5, hL.p0_2, hL.t0, h0 + 4, hL.p0_1, hL.t4, by rw [hL.n4, e4]; exact ι_in (by omega) (by omega), b, by rw [e4, ι_cl (by omega)]; exact z1, hL.t5, c_common bs wi (hv.2.1 j hj) xi xj ka pa z2 z3 r1 r2 (mk _ (by unfold mkR; rw [e0]; rfl))⟩
theorem s_makes {R : RS} {K : Int32 → RS → Prop} (hr : RI R (p, P, A, T, Tx, ft, Q, B)) (hv : VI (p, P, A, T, Tx, ft, Q, B)) (hi : i < 6) (ok : mkOk P how i y4 j) (h : ∀ R', RI R' (p, P, A, T, Tx, ft, Q, B) → (∀ L, mkR p P how i j = some L → Sl R' 54 L → K 1 R') ∧ (mkR p P how i j = none → K 0 R')) : wp_makes 54 (ι how) (ι i) y4 R K := by
  have hpp := hv.1
  have hp := hpp.le
  have hle := ok.le
  have oka := ok.a
  have wi := hv.2.1 i hi
  have si := hr.2.1 i hi
  have hG := hr.1
  have fin : ∀ F, cn p F = mkR p P how i j → ∀ R', RI R' (p, P, A, T, Tx, ft, Q, B) → (∀ L, Can p F L → Sl R' 54 L → ((1 : Int32) = 0 ∨ (1 : Int32) = 1) ∧ K 1 R') ∧ ((¬ ∃ L, Can p F L) → ((0 : Int32) = 0 ∨ (0 : Int32) = 1) ∧ K 0 R') := fun F e R' hR => ⟨fun L c sl => ⟨Or.inr rfl, (h R' hR).1 L (by rw [← e]; exact cn_some c) sl⟩, fun c => ⟨Or.inl rfl, (h R' hR).2 (by rw [← e]; exact cn_none c)⟩⟩
  have ge : ∀ F, cn p F = mkR p P how i j → Ge R 54 p F (fun r1 R1 => (r1 = 0 ∨ r1 = 1) ∧ K r1 R1) := fun F e R' r1 f1 g1 => fin F e R' (hr.scr hv g1 r1 f1 (by decide) (by decide) (by decide))
  have neq : ∀ m : Nat, m ≤ 9 → ι how = ι m → how = m := fun m hm e => by rw [ι_eq (by omega) (by omega)] at e; exact e
  have e54 : (54 : Int32) = ι 54 := rfl
  unfold wp_makes
  refine ⟨fun z => ?_, fun e => ?_, fun e => ?_, fun e => ?_, fun e => ?_, fun e => ?_, fun e => ?_, fun e => ?_, fun e => ?_, fun e => ?_⟩
  · rw [ι_int (by omega)] at z
    have e9 : how = 9 := by omega
    obtain ⟨hj, e4⟩ := oka.2.2.2.2.2.2 e9
    exact s_turned e54 rfl e4 (by omega) (by omega) (by omega) hpp wi si hG (ge _ (by unfold mkR; rw [e9]; rfl))
  · have e0 := neq 0 (by omega) e
    obtain ⟨hj, e4⟩ := oka.1 (by omega)
    refine s_sum (m := 1) e54 rfl e4 (by omega) (by omega) (by omega) hpp wi (hv.2.1 j hj) si (hr.2.1 j hj) (fun n hn => ?_) hG (fun R' r1 f1 g1 => fin _ (by unfold mkR; rw [if_pos e0]) R' (hr.scr hv g1 r1 f1 (by decide) (by decide) (by decide)))
    rw [show (1 : Int32) = ι 1 from rfl, ι_mul, ι_int (by omega)]
    exact ⟨Cg.nat p (1 * n), by omega, by omega⟩
  · have e0 := neq 1 (by omega) e
    obtain ⟨hj, e4⟩ := oka.1 (by omega)
    refine s_sum (m := p - 1) e54 rfl e4 (by omega) (by omega) (by omega) hpp wi (hv.2.1 j hj) si (hr.2.1 j hj) (fun n hn => ?_) hG (fun R' r1 f1 g1 => fin _ (by unfold mkR; rw [if_neg (by omega), if_pos e0]) R' (hr.scr hv g1 r1 f1 (by decide) (by decide) (by decide)))
    have en : ((-1 : Int32) * ι n).toInt = -(n : Int) := by
      rw [Int32.toInt_mul, ι_int (by omega), ι_neg1, Int.bmod_eq_of_le (by omega) (by omega)]
      omega
    rw [en]
    exact ⟨Cg.neg (by omega), by omega, by omega⟩
  · have e0 := neq 2 (by omega) e
    obtain ⟨hj, e4⟩ := oka.1 (by omega)
    exact s_product e54 rfl e4 (by omega) (by omega) (by omega) hpp wi (hv.2.1 j hj) si (hr.2.1 j hj) hG (fun R' r1 f1 g1 => fin _ (by unfold mkR; rw [e0]; rfl) R' (hr.scr hv g1 r1 f1 (by decide) (by decide) (by decide)))
  · have e0 := neq 3 (by omega) e
    obtain ⟨hj, e4⟩ := oka.2.1 e0
    exact s_derivative e54 rfl e4 (by omega) (by omega) (by omega) hpp wi si hG (ge _ (by unfold mkR; rw [e0]; rfl))
  · have e0 := neq 4 (by omega) e
    obtain ⟨hj, e4⟩ := oka.2.2.1 e0
    have er : pw p (P i) j = mkR p P how i j := by unfold mkR; rw [e0]; rfl
    refine s_power e54 rfl e4 (by omega) (by omega) (by omega) (by omega) hpp wi si hG (fun R' r1 f1 g1 => ?_)
    have hR := hr.scr hv g1 r1 f1 (by decide) (by decide) (by decide)
    rw [er]
    exact ⟨fun L e sl => ⟨Or.inr rfl, (h R' hR).1 L e sl⟩, fun e => ⟨Or.inl rfl, (h R' hR).2 e⟩⟩
  · have e0 := neq 5 (by omega) e
    obtain ⟨hj, e4⟩ := oka.2.2.2.1 e0
    exact s_part e54 rfl e4 (by omega) (by omega) hj hpp wi si hG (ge _ (by unfold mkR; rw [e0]; rfl))
  · have e0 := neq 6 (by omega) e
    exact s_reduced e54 rfl (by omega) (by omega) hpp wi si hG (ge _ (by unfold mkR; rw [e0]; rfl))
  · have e0 := neq 7 (by omega) e
    have ne := oka.2.2.2.2.1 e0
    refine s_rest (t := 54) (by omega) hpp hG.1 (by omega) wi ne si (fun R' F r1 f1 bd rk nz => fin F ?_ R' (hr.scr hv (hG.fr r1 (by decide) (by decide) (by decide) (by decide)) r1 f1 (by decide) (by decide) (by decide)))
    unfold mkR
    rw [e0]
    show cn p F = cn p (rsF p (P i))
    rw [rsF_eq hpp bd rk]
  · have e0 := neq 8 (by omega) e
    obtain ⟨hj, e4, xi, xj⟩ := oka.2.2.2.2.2.1 e0
    exact s_common e54 rfl e4 (by omega) (by omega) (by omega) hpp wi (hv.2.1 j hj) xi xj si (hr.2.1 j hj) hG (fun R' r1 f1 g1 => fin _ (by unfold mkR; rw [e0]; rfl) R' (hr.scr hv g1 r1 f1 (by decide) (by decide) (by decide)))
theorem call_7 {R : RS} (hn : n < 512) (y1 y2 y3 y4 : Int32) (h : Inv h0 s0 n S R) : wq_7 (Mx h0 s0) h0 y1 y2 y3 y4 S R (Inv h0 s0 (n + 1)) := by
  obtain ⟨⟨p, P, A, T, Tx, ft, Q, B⟩, hc, hv, hr⟩ := h
  have hL := hc.1
  have hr0 := hr.code hv 0
  have nx : Inv h0 s0 (n + 1) S (up R 0 0 0) := ⟨_, hc.next, hv, hr0⟩
  refine ⟨hL.t0, ?_⟩
  unfold wp_X11_make
  refine c_isPlace (fun q hq e1 => ⟨fun c => absurd c (by decide), fun _ => ?_⟩) (fun hne => ⟨fun _ => ?_, fun c => absurd rfl c⟩)
  rotate_left
  · unfold wp_make
    exact s_isPlace (fun k hk e => absurd e (hne k hk)) (fun _ => ⟨fun _ => ⟨rfl, nx⟩, fun c => absurd rfl c⟩)
  refine c_isPlace (fun i hi e3 => ⟨fun c => absurd c (by decide), fun _ => ⟨hL.t0, ?_⟩⟩) (fun hne => ⟨fun _ => ?_, fun c => absurd rfl c⟩)
  rotate_left
  · unfold wp_make
    refine s_isPlace (fun k hk e => ⟨fun c => absurd c (by decide), fun _ => ?_⟩) (fun h => absurd e1 (h q hq))
    exact s_isPlace (fun k hk e => absurd e (hne k hk)) (fun _ => ⟨fun _ => ⟨rfl, nx⟩, fun c => absurd rfl c⟩)
  subst e1 e3
  have refh : ∀ K : Int32 → RS → Prop, wp_mayMake y2 (ι i) y4 (up R 0 0 0) (fun r3 R3 => (¬ r3 = 0 → wp_makes 54 y2 (ι i) y4 R3 (fun r4 R4 => (r4 = 0 → K (-2) R4) ∧ (¬ (r4 = 0) → wp_become (ι q) 54 R4 (fun r5 R5 => K r5 R5)))) ∧ (r3 = 0 → K (-1) R3)) → wp_make (ι q) y2 (ι i) y4 R K := fun K hK => by
    unfold wp_make
    refine s_isPlace (fun k hk e => ⟨fun c => absurd c (by decide), fun _ => ?_⟩) (fun h => absurd rfl (h q hq))
    exact s_isPlace (fun k hk e => ⟨fun c => absurd c (by decide), fun _ => hK⟩) (fun h => absurd rfl (h i hi))
  refine c_canMake hc hv hi (fun how j e2 ok => ⟨fun _ => ?_, fun c => absurd c (by decide)⟩) (fun no => ⟨fun c => absurd rfl c, fun _ => ?_⟩)
  rotate_left
  · exact refh _ (s_mayMake (P := P) hr0 hv rfl hi (fun how j e ok => absurd ok (no how j e)) (fun _ => ⟨fun c => absurd rfl c, fun _ => ⟨rfl, nx⟩⟩))
  subst e2
  obtain ⟨a, w1, w2, w3⟩ := hc.2.2.2.1 i hi
  refine ⟨hL.t0, h0 + 4, hL.p0_1, hL.t4, by rw [hL.n4]; exact ι_in (by omega) (by omega), a, by rw [ι_cl (by omega)]; exact w1, hL.t0, ?_⟩
  have ref : ∀ K : Int32 → RS → Prop, (∀ R', RI R' (p, P, A, T, Tx, ft, Q, B) → (∀ L, mkR p P how i j = some L → Sl R' 54 L → wp_become (ι q) 54 R' (fun r5 R5 => K r5 R5)) ∧ (mkR p P how i j = none → K (-2) R')) → wp_make (ι q) (ι how) (ι i) y4 R K := fun K hK => by
    refine refh K (s_mayMake (P := P) hr0 hv rfl hi (fun how' j' e ok' => ⟨fun _ => ?_, fun c => absurd c (by decide)⟩) (fun no => absurd ok (no how j rfl)))
    exact s_makes hr0 hv hi ok (fun R' hR => ⟨fun L e sl => ⟨fun c => absurd c (by decide), fun _ => (hK R' hR).1 L e sl⟩, fun e => ⟨fun _ => (hK R' hR).2 e, fun c => absurd rfl c⟩⟩)
  refine c_made hn hc hv hi ok w2 w3 (fun S1 hc1 => ⟨fun b L hO kb pb => ⟨hc1.1.t0, ?_⟩, fun hO => ⟨hc1.1.t0, ?_⟩⟩)
  · refine c_keep hc1 hv.2.2.1.1 rfl hq kb pb (fun S' hc' => ?_)
    refine ref _ (fun R' hR => ⟨fun L2 hL2 l2 => ?_, fun c => by rw [hO] at c; cases c⟩)
    rw [hO] at hL2
    cases hL2
    exact keepR hc' hv hR (s := 54) rfl hq (mkR_wf hv.1 hO) (by omega) (by omega) l2
  · refine c_keep0 (ref _ (fun R' hR => ⟨fun L2 hL2 l2 => ?_, fun _ => ⟨rfl, _, hc1, hv, hR⟩⟩))
    rw [hO] at hL2
    cases hL2
end MAKE
