/-! Whether nothing is left in the last slice; the quotient taken over. -/
section SLZ
variable {M : Nat × Nat} {S : HS} {K : Int32 → HS → Prop} {h0 p q a b c d T X Y Z : Nat} {D : Nat → Nat} {F : N3}
theorem c_isSliceZero (hfl : FL h0 S p D T X Y Z) (tb : Tb h0 S Y Z D) (hq : LnAt S q a b c d) (si : SIx h0 S Y Z p a b c d D T F 0)
    (h1 : (∀ u v, u ≤ D (fsL (led a b)) → v ≤ D (scL (led a b)) → plS p a b c d D F (D (led a b) + 1) u v = 0) → K 1 S)
    (hz : (∃ u v, plS p a b c d D F (D (led a b) + 1) u v ≠ 0) → K 0 S) : wp_X2_isSliceZero M (h0 + 25) q S K := by
  obtain ⟨hL, h60, hb, hp10, hD, hXYZ, hpp, hT9⟩ := hfl
  have hp := hpp.le
  have hl2 := led_le (a := a) (b := b)
  obtain ⟨f1, f2, f3, f4, f5⟩ := fsL_ne hl2
  obtain ⟨q0, q1, q2, q3, q4, q5, q6⟩ := hq
  obtain ⟨⟨-, -, -, bx⟩, -⟩ := hb
  have d0 := hD _ hl2
  have d1 := hD _ f4
  have d2 := hD _ f5
  have m1 := dm_le (v := fsL (led a b)) hXYZ
  have m2 := dm_le (v := scL (led a b)) hXYZ
  have nul : (0 : Int32) = ι 0 := rfl
  have one : (1 : Int32) = ι 1 := rfl
  have hN9 := bx.2.2.2.1
  -- far from 0 there is nothing
  have far : ∀ i k, i ≤ D (fsL (led a b)) → k ≤ D (scL (led a b)) → T < i + k → plS p a b c d D F (D (led a b) + 1) i k = 0 := fun i k hi hk w => by
    obtain ⟨t, t1, t2, t3, t4⟩ := (si 0 i k (by omega) hi hk).2.1 rfl
    rw [t4 (by omega), Nat.zero_mod, Nat.sub_zero] at t3
    exact t3.symm
  have inner : ∀ (K29 : Nat → Nat → Int32 → Int32 → Int32 → HS → Prop) (i : Nat) (lw : Int32), i ≤ D (fsL (led a b)) → (∀ k, k ≤ 1000 → (lw < ι k ↔ T < i + k ∨ D (scL (led a b)) < k)) → ((∀ v, v ≤ D (scL (led a b)) → plS p a b c d D F (D (led a b) + 1) i v = 0) → K29 (h0 + 25) q (ι (sB Y Z (fsL (led a b)))) (ι (sB Y Z (scL (led a b)))) (ι (i + 1)) S) → ∀ r k, k + r = D (scL (led a b)) + 1 → (∀ v, v < k → plS p a b c d D F (D (led a b) + 1) i v = 0) → wl_X2_isSliceZero_67 M K29 K (r + 1) (h0 + 25) q (ι (sB Y Z (fsL (led a b)))) (ι (sB Y Z (scL (led a b)))) (ι i) lw (ι k) S := by
    intro K29 i lw hi hlw hn r
    have row : ∀ k, (T < i + k ∨ D (scL (led a b)) < k) → (∀ v, v < k → plS p a b c d D F (D (led a b) + 1) i v = 0) → ∀ v, v ≤ D (scL (led a b)) → plS p a b c d D F (D (led a b) + 1) i v = 0 := fun k hk z1 v hv => by
      by_cases g : v < k
      · exact z1 v g
      · exact far i v hi hv (by omega)
    induction r with
    | zero =>
      intro k hk z1
      show wb_X2_isSliceZero_67 _ _ _ _ _ _ _ _ _ _ _ _
      unfold wb_X2_isSliceZero_67
      rw [one, ι_add]
      exact ⟨fun w => hn (row k (Or.inr (by omega)) z1), fun w => absurd ((hlw k (by omega)).mpr (Or.inr (by omega))) w⟩
    | succ r ih =>
      intro k hk z1
      have hkd : k ≤ D (scL (led a b)) := by omega
      have hc := cxl_ub (D := D) (Y := Y) (Z := Z) (e := 0) (u := i) (v := k) hl2 (by omega) hi hkd
      have hc2 := tb.2
      obtain ⟨t, t1, t2, t3, -⟩ := (si 0 i k (by omega) hi hkd).2.1 rfl
      have ix := sB_ix (Y := Y) (Z := Z) (e := 0) (u := i) (v := k) hl2
      rw [Nat.zero_mul, Nat.zero_add] at ix
      show wb_X2_isSliceZero_67 _ _ _ _ _ _ _ _ _ _ _ _
      unfold wb_X2_isSliceZero_67
      rw [one, ι_add, ι_add, ι_mul, ι_mul, ι_add, ix, ι_cl (by omega), hp10, nul, ι_eq (by omega) (by omega)]
      refine ⟨fun w => hn (row k ((hlw k (by omega)).mp w) z1), fun _ => ⟨hL.t25, h0 + 42, hL.p25_7, hL.t42, bxC h0 S 42, bx.1, bx.2.2.1, ι_in (by omega) (by omega), hL.t25, by omega, ?_⟩⟩
      rw [t2, ι_rem (by omega) (by omega), t3, ι_eq (by rw [← t3]; exact Nat.lt_of_lt_of_le (Nat.mod_lt _ (by omega)) (by omega)) (by omega)]
      refine ⟨fun z => ih (k + 1) (by omega) (fun v hv => ?_), fun z => hz ⟨i, k, z⟩⟩
      by_cases e : v = k
      · rw [e]; exact z
      · exact z1 v (by omega)
  have outer : ∀ r i, i + r = D (fsL (led a b)) + 1 → (∀ u v, u < i → v ≤ D (scL (led a b)) → plS p a b c d D F (D (led a b) + 1) u v = 0) → wl_X2_isSliceZero_29 M K (r + 1) (h0 + 25) q (ι (sB Y Z (fsL (led a b)))) (ι (sB Y Z (scL (led a b)))) (ι i) S := by
    intro r
    induction r with
    | zero =>
      intro i hi z1
      show wb_X2_isSliceZero_29 _ _ _ _ _ _ _ _ _
      unfold wb_X2_isSliceZero_29
      rw [q2, ι_cl (by omega)]
      refine ⟨hL.t25, h0 + 45, hL.p25_8, q0, hL.t45, by rw [hL.n45]; exact ι_in (by omega) (by omega), ?_⟩
      rw [d1.1, ι_lt (by omega) (by omega)]
      exact ⟨fun _ => h1 (fun u v hu hv => z1 u v (by omega) hv), fun w => absurd (by omega) w⟩
    | succ r ih =>
      intro i hi z1
      show wb_X2_isSliceZero_29 _ _ _ _ _ _ _ _ _
      unfold wb_X2_isSliceZero_29
      rw [q2, q3, ι_cl (by omega), ι_cl (by omega)]
      refine ⟨hL.t25, h0 + 45, hL.p25_8, q0, hL.t45, by rw [hL.n45]; exact ι_in (by omega) (by omega), ?_⟩
      rw [d1.1, ι_lt (by omega) (by omega)]
      refine ⟨fun w => absurd w (by omega), fun _ => ⟨hL.t25, h0 + 45, hL.p25_8, q0, hL.t45, by rw [hL.n45]; exact ι_in (by omega) (by omega), hL.t25, fun v3 e3 => ⟨D (scL (led a b)) + 1 + 1, inner _ i v3 (by omega) (fun k hk => ?_) (fun z2 => ih (i + 1) (by omega) (fun u v hu hv => ?_)) (D (scL (led a b)) + 1) 0 (by omega) (fun v hv => absurd hv (by omega))⟩⟩⟩
      · rw [e3, d2.1, hT9.1]
        exact lst_lt (by omega) (by omega) (by omega) hk
      · by_cases e : u = i
        · rw [e]; exact z2 v hv
        · exact z1 u v (by omega) hv
  unfold wp_X2_isSliceZero
  rw [q2, q3, ι_cl (by omega), ι_cl (by omega)]
  refine ⟨hL.t25, h0 + 42, hL.p25_7, hL.t42, h0 + 44, hL.p42_2, q0, hL.t44, by rw [hL.n44]; exact ι_in (by omega) (by omega), fun v3 e3 => ⟨hL.t25, h0 + 42, hL.p25_7, hL.t42, h0 + 44, hL.p42_2, q0, hL.t44, by rw [hL.n44]; exact ι_in (by omega) (by omega), fun v6 e6 => ⟨D (fsL (led a b)) + 1 + 1, ?_⟩⟩⟩
  rw [e3, e6, tb.1 _ f4, tb.1 _ f5]
  exact outer _ 0 (by omega) (fun u v hu => absurd hu (by omega))
/-- left's cells while the quotient is taken over: slices before m, then rows before i, then before k -/
def QtI (S S1 : HS) (cl : Nat) (ix : Nat → Nat → Nat → Nat) (N Du Dw : Nat) (Q : N3) (m i k : Nat) : Prop := Ext S S1 (Wc cl) V0 ∧ hX S1 = hX S ∧ hS S1 = hS S ∧ (∀ e u v, e ≤ N → u ≤ Du → v ≤ Dw → ((e < m ∨ (e = m ∧ prc i k u v)) → hI S1 cl (ix e u v) = ι (Q e u v)) ∧ (¬ (e < m ∨ (e = m ∧ prc i k u v)) → hI S1 cl (ix e u v) = hI S cl (ix e u v))) ∧ ∀ j, (∀ e u v, e ≤ N → u ≤ Du → v ≤ Dw → j ≠ ix e u v) → hI S1 cl j = hI S cl j
theorem QtI.s {S1 : HS} {cl N Du Dw m i k : Nat} {ix : Nat → Nat → Nat → Nat} {Q : N3} (inj : ∀ e u v e' u' v', e ≤ N → u ≤ Du → v ≤ Dw → e' ≤ N → u' ≤ Du → v' ≤ Dw → ix e u v = ix e' u' v' → e = e' ∧ u = u' ∧ v = v') (h : QtI S S1 cl ix N Du Dw Q m i k) (hm : m ≤ N) (hi : i ≤ Du) (hk : k ≤ Dw) {x : Int32} (hx : x = ι (Q m i k)) : QtI S (sI S1 cl (ix m i k) x) cl ix N Du Dw Q m i (k + 1) := by
  obtain ⟨a1, a2, a3, a4, a5⟩ := h
  refine ⟨a1.sI rfl, a2, a3, fun e u v he hu hv => ?_, fun j hj => ?_⟩
  · rw [sI_eq]
    by_cases g : ix e u v = ix m i k
    · obtain ⟨rfl, rfl, rfl⟩ := inj e u v m i k he hu hv hm hi hk g
      rw [if_pos rfl, hx]
      exact ⟨fun _ => rfl, fun w => absurd (Or.inr ⟨rfl, prc_s.mpr (Or.inr ⟨rfl, rfl⟩)⟩) w⟩
    · rw [if_neg g]
      have ne : ¬ (e = m ∧ u = i ∧ v = k) := fun w => g (by rw [w.1, w.2.1, w.2.2])
      refine ⟨fun w => (a4 e u v he hu hv).1 ?_, fun w => (a4 e u v he hu hv).2 (fun w2 => w ?_)⟩
      · rcases w with w | ⟨w1, w2⟩
        · exact Or.inl w
        · exact Or.inr ⟨w1, (prc_s.mp w2).elim id (fun w3 => absurd ⟨w1, w3.1, w3.2⟩ ne)⟩
      · exact w2.imp id (fun w3 => ⟨w3.1, prc_s.mpr (Or.inl w3.2)⟩)
  · rw [sI_eq, if_neg (hj m i k hm hi hk)]; exact a5 j hj
/-- what stands right already is passed over -/
theorem QtI.sk {S1 : HS} {cl N Du Dw m i k m' i' k' : Nat} {ix : Nat → Nat → Nat → Nat} {Q : N3} (h : QtI S S1 cl ix N Du Dw Q m i k) (mo : ∀ e u v, (e < m ∨ (e = m ∧ prc i k u v)) → (e < m' ∨ (e = m' ∧ prc i' k' u v))) (hz : ∀ e u v, e ≤ N → u ≤ Du → v ≤ Dw → (e < m' ∨ (e = m' ∧ prc i' k' u v)) → ¬ (e < m ∨ (e = m ∧ prc i k u v)) → hI S cl (ix e u v) = ι (Q e u v)) : QtI S S1 cl ix N Du Dw Q m' i' k' := by
  obtain ⟨a1, a2, a3, a4, a5⟩ := h
  refine ⟨a1, a2, a3, fun e u v he hu hv => ⟨fun w => ?_, fun w => (a4 e u v he hu hv).2 (fun w2 => w (mo e u v w2))⟩, a5⟩
  by_cases g : e < m ∨ (e = m ∧ prc i k u v)
  · exact (a4 e u v he hu hv).1 g
  · rw [(a4 e u v he hu hv).2 g]; exact hz e u v he hu hv w g
end SLZ
section TKQ
variable {M : Nat × Nat} {S : HS} {K : Int32 → HS → Prop} {h0 p q a b c d T X Y Z : Nat} {D : Nat → Nat} {F : N3}
theorem c_takeQuotient (hfl : FL h0 S p D T X Y Z) (tb : Tb h0 S Y Z D) (hq : LnAt S q a b c d) (hqx : q < hX S) (qn : q ≠ bxC h0 S 39) (hus : usd X Y Z ≤ hN S (bxC h0 S 39)) {Q : N3} (hQ : ∀ e u v, e ≤ D (led a b) → u ≤ D (fsL (led a b)) → v ≤ D (scL (led a b)) → (e < D (led a b) → hI S (bxC h0 S 42) (cxl Y Z (led a b) (e + 1) u v) = ι (Q e u v)) ∧ (e = D (led a b) → Q e u v = 0))
    (hZ : ∀ e u v, e ≤ D (led a b) → u ≤ D (fsL (led a b)) → v ≤ D (scL (led a b)) → T < e + u + v → hI S (bxC h0 S 39) (cxl Y Z (led a b) e u v) = ι (Q e u v))
    (h1 : ∀ S', QtI S S' (bxC h0 S 39) (cxl Y Z (led a b)) (D (led a b)) (D (fsL (led a b))) (D (scL (led a b))) Q (D (led a b) + 1) 0 0 → K 0 S') : wp_X2_takeQuotient M (h0 + 25) q S K := by
  have hfl0 := hfl
  obtain ⟨hL, h60, hb, hp10, hD, hXYZ, hpp, hT9⟩ := hfl
  have hp := hpp.le
  have hl2 := led_le (a := a) (b := b)
  obtain ⟨f1, f2, f3, f4, f5⟩ := fsL_ne hl2
  have hq0 := hq
  obtain ⟨q0, q1, q2, q3, q4, q5, q6⟩ := hq
  have bx9 := hb.1.2.2.1
  have bx := hb.1.2.2.2
  have bne := hb.2.2.2.2.2.2
  have d0 := hD _ hl2
  have d1 := hD _ f4
  have d2 := hD _ f5
  have m0 := dm_le (v := led a b) hXYZ
  have m1 := dm_le (v := fsL (led a b)) hXYZ
  have m2 := dm_le (v := scL (led a b)) hXYZ
  have nul : (0 : Int32) = ι 0 := rfl
  have one : (1 : Int32) = ι 1 := rfl
  have hN9 := bx.2.2.2.1
  have hN8 := bx9.2.2.2.1
  have hc2 := tb.2
  have inj : ∀ e u v e' u' v', e ≤ D (led a b) → u ≤ D (fsL (led a b)) → v ≤ D (scL (led a b)) → e' ≤ D (led a b) → u' ≤ D (fsL (led a b)) → v' ≤ D (scL (led a b)) → cxl Y Z (led a b) e u v = cxl Y Z (led a b) e' u' v' → e = e' ∧ u = u' ∧ v = v' := fun e u v e' u' v' he hu hv he' hu' hv' hh => cxl_inj (X := X) (Y := Y) (Z := Z) hl2 (by omega) (by omega) (by omega) (by omega) (by omega) (by omega) hh
  have stay : ∀ S1, Ext S S1 (Wc (bxC h0 S 39)) V0 → (hT S1 (h0 + 25) = 3 ∧ hP S1 (h0 + 25) 8 = some (h0 + 45) ∧ hT S1 q = 4 ∧ hT S1 (h0 + 45) = 21 ∧ hN S1 (h0 + 45) = 3 ∧ hI S1 (h0 + 25) 9 = ι T) ∧ (hI S1 q 0 = ι (led a b) ∧ hI S1 q 1 = ι (fsL (led a b)) ∧ hI S1 q 2 = ι (scL (led a b))) ∧ (∀ v, v ≤ 2 → hI S1 (h0 + 45) v = ι (D v)) ∧ (hP S1 (h0 + 25) 6 = some (h0 + 39) ∧ hT S1 (h0 + 39) = 2 ∧ hP S1 (h0 + 39) 0 = some (bxC h0 S 39) ∧ hT S1 (bxC h0 S 39) = 21 ∧ hN S1 (bxC h0 S 39) = hN S (bxC h0 S 39)) ∧ hP S1 (h0 + 25) 7 = some (h0 + 42) ∧ hT S1 (h0 + 42) = 2 ∧ hP S1 (h0 + 42) 0 = some (bxC h0 S 42) ∧ hT S1 (bxC h0 S 42) = 21 ∧ hN S1 (bxC h0 S 42) = hN S (bxC h0 S 42) ∧ ∀ j, hI S1 (bxC h0 S 42) j = hI S (bxC h0 S 42) j := fun S1 e1 => by
    have fl := hfl0.go (Or.inl rfl) e1
    have lq := hq0.go hqx e1 (fun k => qn)
    have e39 : hP S1 (h0 + 39) 0 = hP S (h0 + 39) 0 := (e1.2.2.1 _ (by omega)).2.2.2 0 (fun c => c)
    have e42 : hP S1 (h0 + 42) 0 = hP S (h0 + 42) 0 := (e1.2.2.1 _ (by omega)).2.2.2 0 (fun c => c)
    have n39 := e1.2.2.1 _ bx9.2.1
    have n42 := e1.2.2.1 _ bx.2.1
    exact ⟨⟨fl.1.t25, fl.1.p25_8, lq.1, fl.1.t45, fl.1.n45, fl.2.2.2.2.2.2.2.1⟩, ⟨lq.2.1, lq.2.2.1, lq.2.2.2.1⟩, fun v hv => (fl.2.2.2.2.1 v hv).1, ⟨fl.1.p25_6, fl.1.t39, by rw [e39]; exact bx9.1, by rw [n39.1]; exact bx9.2.2.1, n39.2.1⟩, fl.1.p25_7, fl.1.t42, by rw [e42]; exact bx.1, by rw [n42.1]; exact bx.2.2.1, n42.2.1, fun j => n42.2.2.1 j (fun w => bne w.symm)⟩
  have k98 : ∀ (K43 : Nat → Nat → Int32 → Int32 → Int32 → Int32 → HS → Prop) (K81 : Nat → Nat → Int32 → Int32 → Int32 → Int32 → Int32 → Int32 → HS → Prop) (m i : Nat) (x6 lw : Int32), m ≤ D (led a b) → i ≤ D (fsL (led a b)) → x6 = (if m = D (led a b) then 1 else 0) → (∀ k, k ≤ 1000 → (lw < ι k ↔ T < m + i + k ∨ D (scL (led a b)) < k)) → (∀ S1, QtI S S1 (bxC h0 S 39) (cxl Y Z (led a b)) (D (led a b)) (D (fsL (led a b))) (D (scL (led a b))) Q m (i + 1) 0 → K81 (h0 + 25) q (ι (sB Y Z (led a b))) (ι (sB Y Z (fsL (led a b)))) (ι (sB Y Z (scL (led a b)))) (ι m) x6 (ι (i + 1)) S1) → ∀ r k S1, k + r = D (scL (led a b)) + 1 → QtI S S1 (bxC h0 S 39) (cxl Y Z (led a b)) (D (led a b)) (D (fsL (led a b))) (D (scL (led a b))) Q m i k → wl_X2_takeQuotient_132 M K43 K81 K (r + 1) (h0 + 25) q (ι (sB Y Z (led a b))) (ι (sB Y Z (fsL (led a b)))) (ι (sB Y Z (scL (led a b)))) (ι m) x6 (ι i) lw (ι k) S1 := by
    intro K43 K81 m i x6 lw hm hi hx6 hlw hn r
    have row : ∀ k S1, (T < m + i + k ∨ D (scL (led a b)) < k) → QtI S S1 (bxC h0 S 39) (cxl Y Z (led a b)) (D (led a b)) (D (fsL (led a b))) (D (scL (led a b))) Q m i k → QtI S S1 (bxC h0 S 39) (cxl Y Z (led a b)) (D (led a b)) (D (fsL (led a b))) (D (scL (led a b))) Q m (i + 1) 0 := fun k S1 hk li => li.sk (fun e u v w => by unfold prc at w ⊢; omega) (fun e u v he hu hv w1 w2 => hZ e u v he hu hv (by unfold prc at w1 w2; omega))
    induction r with
    | zero =>
      intro k S1 hk li
      show wb_X2_takeQuotient_132 _ _ _ _ _ _ _ _ _ _ _ _ _ _ _ _
      unfold wb_X2_takeQuotient_132
      rw [one, ι_add]
      exact ⟨fun w => hn S1 (row k S1 (Or.inr (by omega)) li), fun w => absurd ((hlw k (by omega)).mpr (Or.inr (by omega))) w⟩
    | succ r ih =>
      intro k S1 hk li
      obtain ⟨⟨s1, s2, s3, s4, s5, sT⟩, ⟨s6, s7, s8⟩, s9, ⟨s10, s11, s12, s13, s14⟩, s15, s16, s17, s18, s19, s20⟩ := stay S1 li.1
      have hkd : k ≤ D (scL (led a b)) := by omega
      have hc := cxl_lt (X := X) (Y := Y) (Z := Z) (e := m) (u := i) (v := k) hl2 (by omega) (by omega) (by omega)
      show wb_X2_takeQuotient_132 _ _ _ _ _ _ _ _ _ _ _ _ _ _ _ _
      unfold wb_X2_takeQuotient_132
      rw [one, ι_add, ι_add]
      refine ⟨fun w => hn S1 (row k S1 ((hlw k (by omega)).mp w) li), fun _ => fun v2 e2 => ?_⟩
      rw [ι_mul, ι_mul, ι_mul, ι_add, ι_add, sB_ix hl2] at e2
      subst e2
      rw [ι_cl (by omega)]
      refine ⟨s1, h0 + 39, s10, s11, bxC h0 S 39, s12, fun z => ?_, fun z => ?_⟩
      · have hmN : m < D (led a b) := by
          by_cases g : m = D (led a b)
          · rw [hx6, if_pos g] at z; exact absurd z (by decide)
          · omega
        have hc3 := cxl_ub (D := D) (Y := Y) (Z := Z) (e := m + 1) (u := i) (v := k) hl2 (by omega) hi hkd
        have ix : cxl Y Z (led a b) m i k + sB Y Z (led a b) = cxl Y Z (led a b) (m + 1) i k := by
          rw [← sB_ix hl2, ← sB_ix hl2, Nat.succ_mul]; omega
        rw [ι_add, ix, ι_cl (by omega)]
        refine ⟨s1, h0 + 42, s15, s16, bxC h0 S 42, s17, s18, by rw [s19]; exact ι_in (by omega) (by omega), s13, by rw [s14]; exact ι_in (by omega) (by omega), ih (k + 1) _ (by omega) (li.s inj hm hi hkd ?_)⟩
        rw [s20]
        exact (hQ m i k hm hi hkd).1 hmN
      · have hmN : m = D (led a b) := by
          by_cases g : m = D (led a b)
          · exact g
          · rw [hx6, if_neg g] at z; exact absurd rfl z
        refine ⟨s13, by rw [s14]; exact ι_in (by omega) (by omega), ih (k + 1) _ (by omega) (li.s inj hm hi hkd ?_)⟩
        rw [(hQ m i k hm hi hkd).2 hmN]; rfl
  have k81 : ∀ (K43 : Nat → Nat → Int32 → Int32 → Int32 → Int32 → HS → Prop) (m : Nat) (x6 : Int32), m ≤ D (led a b) → x6 = (if m = D (led a b) then 1 else 0) → (∀ S1, QtI S S1 (bxC h0 S 39) (cxl Y Z (led a b)) (D (led a b)) (D (fsL (led a b))) (D (scL (led a b))) Q (m + 1) 0 0 → K43 (h0 + 25) q (ι (sB Y Z (led a b))) (ι (sB Y Z (fsL (led a b)))) (ι (sB Y Z (scL (led a b)))) (ι (m + 1)) S1) → ∀ r i S1, i + r = D (fsL (led a b)) + 1 → QtI S S1 (bxC h0 S 39) (cxl Y Z (led a b)) (D (led a b)) (D (fsL (led a b))) (D (scL (led a b))) Q m i 0 → wl_X2_takeQuotient_81 M K43 K (r + 1) (h0 + 25) q (ι (sB Y Z (led a b))) (ι (sB Y Z (fsL (led a b)))) (ι (sB Y Z (scL (led a b)))) (ι m) x6 (ι i) S1 := by
    intro K43 m x6 hm hx6 hn r
    have sli : ∀ i S1, (T < m + i ∨ D (fsL (led a b)) < i) → QtI S S1 (bxC h0 S 39) (cxl Y Z (led a b)) (D (led a b)) (D (fsL (led a b))) (D (scL (led a b))) Q m i 0 → QtI S S1 (bxC h0 S 39) (cxl Y Z (led a b)) (D (led a b)) (D (fsL (led a b))) (D (scL (led a b))) Q (m + 1) 0 0 := fun i S1 hi li => li.sk (fun e u v w => by unfold prc at w ⊢; omega) (fun e u v he hu hv w1 w2 => hZ e u v he hu hv (by unfold prc at w1 w2; omega))
    induction r with
    | zero =>
      intro i S1 hi li
      obtain ⟨⟨s1, s2, s3, s4, s5, sT⟩, ⟨s6, s7, s8⟩, s9, -⟩ := stay S1 li.1
      show wb_X2_takeQuotient_81 _ _ _ _ _ _ _ _ _ _ _ _ _
      unfold wb_X2_takeQuotient_81
      rw [s7, ι_cl (by omega), one, ι_add]
      refine ⟨s1, h0 + 45, s2, s3, s4, by rw [s5]; exact ι_in (by omega) (by omega), s1, ?_⟩
      rw [s9 _ f4, sT, lst_lt (by omega) (by omega) (by omega) (by omega)]
      exact ⟨fun w => hn S1 (sli i S1 w li), fun w => absurd (Or.inr (by omega)) w⟩
    | succ r ih =>
      intro i S1 hi li
      obtain ⟨⟨s1, s2, s3, s4, s5, sT⟩, ⟨s6, s7, s8⟩, s9, -⟩ := stay S1 li.1
      show wb_X2_takeQuotient_81 _ _ _ _ _ _ _ _ _ _ _ _ _
      unfold wb_X2_takeQuotient_81
      rw [s7, s8, ι_cl (by omega), ι_cl (by omega), one, ι_add]
      refine ⟨s1, h0 + 45, s2, s3, s4, by rw [s5]; exact ι_in (by omega) (by omega), s1, ?_⟩
      rw [s9 _ f4, sT, lst_lt (by omega) (by omega) (by omega) (by omega)]
      refine ⟨fun w => hn S1 (sli i S1 w li), fun _ => ⟨s1, h0 + 45, s2, s3, s4, by rw [s5]; exact ι_in (by omega) (by omega), s1, fun v3 e3 => ⟨_, k98 _ _ m i x6 v3 hm (by omega) hx6 (fun k hk => ?_) (fun S2 l2 => ih (i + 1) S2 (by omega) l2) (D (scL (led a b)) + 1) 0 S1 (by omega) li⟩⟩⟩
      rw [e3, s9 _ f5, ι_sub2]
      exact lst_lt (by omega) (by omega) (by omega) hk
  have k43 : ∀ r m S1, m + r = D (led a b) + 1 → QtI S S1 (bxC h0 S 39) (cxl Y Z (led a b)) (D (led a b)) (D (fsL (led a b))) (D (scL (led a b))) Q m 0 0 → wl_X2_takeQuotient_43 M K (r + 1) (h0 + 25) q (ι (sB Y Z (led a b))) (ι (sB Y Z (fsL (led a b)))) (ι (sB Y Z (scL (led a b)))) (ι m) S1 := by
    intro r
    induction r with
    | zero =>
      intro m S1 hm li
      obtain ⟨⟨s1, s2, s3, s4, s5, sT⟩, ⟨s6, s7, s8⟩, s9, -⟩ := stay S1 li.1
      show wb_X2_takeQuotient_43 _ _ _ _ _ _ _ _ _ _
      unfold wb_X2_takeQuotient_43
      rw [s6, ι_cl (by omega)]
      refine ⟨s1, h0 + 45, s2, s3, s4, by rw [s5]; exact ι_in (by omega) (by omega), ?_⟩
      rw [s9 _ hl2, ι_lt (by omega) (by omega)]
      have ek : m = D (led a b) + 1 := by omega
      exact ⟨fun _ => h1 S1 (ek ▸ li), fun w => absurd (by omega) w⟩
    | succ r ih =>
      intro m S1 hm li
      obtain ⟨⟨s1, s2, s3, s4, s5, sT⟩, ⟨s6, s7, s8⟩, s9, -⟩ := stay S1 li.1
      show wb_X2_takeQuotient_43 _ _ _ _ _ _ _ _ _ _
      unfold wb_X2_takeQuotient_43
      rw [s6, ι_cl (by omega)]
      refine ⟨s1, h0 + 45, s2, s3, s4, by rw [s5]; exact ι_in (by omega) (by omega), ?_⟩
      rw [s9 _ hl2, ι_lt (by omega) (by omega)]
      refine ⟨fun w => absurd w (by omega), fun _ => ⟨s1, h0 + 45, s2, s3, s4, by rw [s5]; exact ι_in (by omega) (by omega), ?_⟩⟩
      rw [s9 _ hl2, ι_eq (by omega) (by omega)]
      exact ⟨fun w => ⟨_, k81 _ m 0 (by omega) (by rw [if_neg w]) (fun S2 l2 => ih (m + 1) S2 (by omega) l2) (D (fsL (led a b)) + 1) 0 S1 (by omega) li⟩, fun w => ⟨_, k81 _ m 1 (by omega) (by rw [if_pos w]) (fun S2 l2 => ih (m + 1) S2 (by omega) l2) (D (fsL (led a b)) + 1) 0 S1 (by omega) li⟩⟩
  unfold wp_X2_takeQuotient
  rw [q1, q2, q3, ι_cl (by omega), ι_cl (by omega), ι_cl (by omega)]
  refine ⟨hL.t25, h0 + 42, hL.p25_7, hL.t42, h0 + 44, hL.p42_2, q0, hL.t44, by rw [hL.n44]; exact ι_in (by omega) (by omega), fun v3 e3 => ⟨hL.t25, h0 + 42, hL.p25_7, hL.t42, h0 + 44, hL.p42_2, q0, hL.t44, by rw [hL.n44]; exact ι_in (by omega) (by omega), fun v6 e6 => ⟨hL.t25, h0 + 42, hL.p25_7, hL.t42, h0 + 44, hL.p42_2, q0, hL.t44, by rw [hL.n44]; exact ι_in (by omega) (by omega), fun v9 e9 => ⟨D (led a b) + 1 + 1, ?_⟩⟩⟩⟩
  rw [e3, e6, e9, tb.1 _ hl2, tb.1 _ f4, tb.1 _ f5]
  exact k43 _ 0 S (by omega) ⟨Ext.rf S _ _, rfl, rfl, fun e u v he hu hv => ⟨fun w => absurd w (by unfold prc; omega), fun _ => rfl⟩, fun j _ => rfl⟩
end TKQ
/-! The trial is a copy of what is left. -/
theorem c_cp23 {M : Nat × Nat} {S : HS} {K : Int32 → HS → Prop} {t f st sf ct cf u : Nat} (n1 : ¬ t = f) (n1' : ¬ f = t) (n2 : ¬ st = sf) (n2' : ¬ sf = st) (n3 : ¬ ct = cf) (n3' : ¬ cf = ct) (n4 : ¬ t = st) (n4' : ¬ st = t) (n5 : ¬ t = sf) (n5' : ¬ sf = t) (n6 : ¬ cf = t) (n7 : ¬ ct = t) (n8 : ¬ ct = st) (n9 : ¬ cf = st) (na : ¬ f = st) (tf : hT S f = 2) (tt : hT S t = 2) (pt : hP S t 2 = some st) (pf2 : hP S f 2 = some sf) (tsf : hT S sf = 21) (nsf : hN S sf = 3) (tst : hT S st = 21) (nst : hN S st = 3) (pf0 : hP S f 0 = some cf) (pt0 : hP S t 0 = some ct) (tcf : hT S cf = 21) (tct : hT S ct = 21) (hu : hI S f 1 = ι u) (h1 : u ≤ hN S cf) (h2 : u ≤ hN S ct) (hu9 : u ≤ 1000000)
    (h : K 0 (sR (sI (sI (sI S t 1 (ι u)) st 0 (hI S sf 0)) st 1 (hI S sf 1)) ct (va_cpy (hI S cf) (hI S ct) 0 0 u))) : w_X1_copyFrom_23 M K t f S := by
  unfold w_X1_copyFrom_23
  simp (disch := omega) only [ι_lit, ι_of, ι_add, ι_mul, ι_lt, ι_le, ι_eq, ι_cl, ι_rem, ι_div, ι_vin, ι_ne1', ι_1ne', ι_1lt', ι_lt1', ι_1le', ι_le1', ι_sub', ι_sub, upN, upE, Nat.reduceEqDiff, ne_eq, not_true_eq_false, not_false_eq_true, false_imp_iff, true_imp_iff, true_and, and_true, imp_self, forall_eq, reduceIte, Nat.reduceMul, Nat.reduceAdd, Nat.reduceSub, sI_P, sI_T, sI_N, sI_X, sI_S, sI_ne, sI_eq, sP_I, sP_T, sP_N, sP_X, sP_S, sP_ne, sP_eq, sR_P, sR_T, sR_N, sR_X, sR_S, sR_ne, sR_eq, nO_X, nO_S, nO_I1, nO_P1, nO_T1, nO_N1, nO_I2, nO_P2, nO_T2, nO_N2, Option.some.injEq, exists_eq_left', and_self, Nat.zero_add, tf, tt, pt, pf2, tsf, nsf, tst, nst, pf0, pt0, tcf, tct, hu]
  exact ⟨by omega, by omega, by omega, h1, h2, h⟩
/-- strides and the first u cells are those of what is left -/
def Cq (h0 : Nat) (S S' : HS) (u : Nat) : Prop := hI S' (h0 + 44) 0 = hI S (h0 + 41) 0 ∧ hI S' (h0 + 44) 1 = hI S (h0 + 41) 1 ∧ u ≤ hN S' (bxC h0 S' 42) ∧ ∀ j, j < u → hI S' (bxC h0 S' 42) j = hI S (bxC h0 S 39) j
/-- the trial becomes a copy -/
def Cp (h0 : Nat) (S S' : HS) (u : Nat) : Prop := Ext S S' (Wo h0 42 (bxC h0 S 42)) (Vg h0 42) ∧ Cq h0 S S' u ∧ (hI S' (h0 + 44) 2 = hI S (h0 + 44) 2) ∧ ((bxC h0 S' 42 = bxC h0 S 42 ∧ hP S' (h0 + 42) 0 = hP S (h0 + 42) 0 ∧ hX S' = hX S ∧ hS S' = hS S) ∨ (hP S' (h0 + 42) 0 = some (hX S) ∧ hX S' = hX S + 1 ∧ hS S' = hS S + hN S (bxC h0 S 39) ∧ hT S' (hX S) = 21 ∧ hN S' (hX S) = hN S (bxC h0 S 39) ∧ hN S (bxC h0 S 42) < u))
theorem c_copyFrom {M : Nat × Nat} {h0 X Y Z u : Nat} {G : N3} {S : HS} {K : Int32 → HS → Prop} (hL : Lay h0 S) (h60 : h0 + 60 ≤ hX S) (hb : CBx h0 S) (bo : Bu h0 S 39 X Y Z u G) (hu : u ≤ usd X Y Z) (r1 : hX S + 1 ≤ M.1) (r2 : hS S + hN S (bxC h0 S 39) ≤ M.2) (h : ∀ S', Cp h0 S S' u → K 0 S') : wp_X1_copyFrom M (h0 + 42) (h0 + 39) S K := by
  obtain ⟨⟨-, -, b9, b2⟩, -, -, -, -, -, bne⟩ := hb
  obtain ⟨o1, o2, o3, o4, o5, o6⟩ := bo
  have p9 := b9.2.2.2.2.1
  have p2 := b2.2.2.2.2.1
  have n9 := b9.2.2.2.1
  have n2 := b2.2.2.2.1
  have x9 := b9.2.1
  have x2 := b2.2.1
  unfold wp_X1_copyFrom
  have cp : ∀ (S1 : HS) (ct : Nat), (∀ b, b < hX S → hT S1 b = hT S b ∧ hN S1 b = hN S b ∧ hI S1 b = hI S b ∧ (b ≠ h0 + 42 → hP S1 b = hP S b)) → hP S1 (h0 + 42) 0 = some ct → hP S1 (h0 + 42) 2 = some (h0 + 44) → hT S1 ct = 21 → u ≤ hN S1 ct → (ct = bxC h0 S 42 ∨ hX S ≤ ct) → (∀ S', Ext S1 S' (Wo h0 42 ct) (Vg h0 42) → hX S' = hX S1 → hS S' = hS S1 → hT S' = hT S1 → hN S' = hN S1 → hP S' = hP S1 → Cq h0 S S' u → hI S' (h0 + 44) 2 = hI S (h0 + 44) 2 → K 0 S') → w_X1_copyFrom_23 M K (h0 + 42) (h0 + 39) S1 := by
    intro S1 ct same pt0 pt2 tct nct hct fin
    have s39 := same (h0 + 39) (by omega)
    have s41 := same (h0 + 41) (by omega)
    have s42 := same (h0 + 42) (by omega)
    have s44 := same (h0 + 44) (by omega)
    have s9 := same (bxC h0 S 39) x9
    have c1 : ¬ ct = bxC h0 S 39 := by omega
    refine c_cp23 (st := h0 + 44) (sf := h0 + 41) (ct := ct) (cf := bxC h0 S 39) (u := u) (by omega) (by omega) (by omega) (by omega) c1 (fun e => c1 e.symm) (by omega) (by omega) (by omega) (by omega) (by omega) (by omega) (by omega) (by omega) (by omega) (by rw [s39.1]; exact hL.t39) (by rw [s42.1]; exact hL.t42) pt2 (by rw [s39.2.2.2 (by omega)]; exact hL.p39_2) (by rw [s41.1]; exact hL.t41) (by rw [s41.2.1]; exact hL.n41) (by rw [s44.1]; exact hL.t44) (by rw [s44.2.1]; exact hL.n44) (by rw [s39.2.2.2 (by omega)]; exact b9.1) pt0 (by rw [s9.1]; exact b9.2.2.1) tct (by rw [s39.2.2.1]; exact o3) (by rw [s9.2.1]; omega) nct (by omega) (fin _ ?_ rfl rfl rfl rfl rfl ?_ ?_)
    · exact ((((Ext.rf S1 (Wo h0 42 ct) (Vg h0 42)).sI (Or.inl rfl)).sI (Or.inr (Or.inl ⟨rfl, by omega⟩))).sI (Or.inr (Or.inl ⟨rfl, by omega⟩))).sR (fun k => Or.inr (Or.inr rfl))
    · have hbc : bxC h0 (sR (sI (sI (sI S1 (h0 + 42) 1 (ι u)) (h0 + 44) 0 (hI S1 (h0 + 41) 0)) (h0 + 44) 1 (hI S1 (h0 + 41) 1)) ct (va_cpy (hI S1 (bxC h0 S 39)) (hI S1 ct) 0 0 u)) 42 = ct := by unfold bxC; show (hP S1 (h0 + 42) 0).getD 0 = ct; rw [pt0]; rfl
      refine ⟨?_, ?_, by rw [hbc]; exact nct, fun j hj => ?_⟩
      · rw [sR_ne (by omega), sI_eq, if_neg (by omega), sI_eq, if_pos rfl, s41.2.2.1]
      · rw [sR_ne (by omega), sI_eq, if_pos rfl, s41.2.2.1]
      · rw [hbc, sR_eq]
        unfold va_cpy
        rw [if_pos ⟨by omega, by omega⟩, Nat.zero_add, Nat.sub_zero, s9.2.2.1]
    · rw [sR_ne (by omega), sI_eq, if_neg (by omega), sI_eq, if_neg (by omega), sI_ne (by omega), s44.2.2.1]
  rw [o3]
  refine ⟨hL.t39, hL.t42, bxC h0 S 42, b2.1, Or.inl b2.2.2.1, ?_⟩
  rw [ι_of, ι_le (by omega) (by omega)]
  refine ⟨fun g => ?_, fun g => ⟨hL.t39, bxC h0 S 39, b9.1, Or.inl b9.2.2.1, ?_⟩⟩
  · refine cp S (bxC h0 S 42) (fun b _ => ⟨rfl, rfl, rfl, fun _ => rfl⟩) b2.1 hL.p42_2 b2.2.2.1 g (Or.inl rfl) (fun S' e x s tt nn pp bo i2 => h S' ⟨e, bo, i2, Or.inl ⟨?_, by rw [pp], x, s⟩⟩)
    unfold bxC; rw [pp]
  · rw [ι_of, ι_cl (by omega)]
    refine ⟨ι_nn (by omega), by omega, r1, by omega, fun b3 S3 eb eS => ?_⟩
    subst eb eS
    have g0 : ∀ b, b < hX S → ¬ b = hX S := fun b hb => by omega
    have eX : Ext S (sP (nO S 21 (hN S (bxC h0 S 39))) (h0 + 42) 0 (some (hX S))) (Wo h0 42 (bxC h0 S 42)) (Vg h0 42) := ((Ext.rf S _ _).nO).sP ⟨rfl, rfl⟩
    refine ⟨by rw [nO_T1 (g0 _ (by omega))]; exact hL.t42, cp _ (hX S) (fun b hb => ⟨by rw [sP_T, nO_T1 (g0 _ hb)], by rw [sP_N, nO_N1 (g0 _ hb)], by rw [sP_I, nO_I1 (g0 _ hb)], fun hne => by rw [sP_ne hne, nO_P1 (g0 _ hb)]⟩) (by rw [sP_eq, if_pos rfl]) (by rw [sP_eq, if_neg (by omega), nO_P1 (g0 _ (by omega))]; exact hL.p42_2) (by rw [sP_T, nO_T2]) (by rw [sP_N, nO_N2]; omega) (Or.inr (Nat.le_refl _)) (fun S' e x s tt nn pp bo i2 => h S' ⟨?_, bo, i2, Or.inr ⟨?_, ?_, ?_, ?_, ?_, by omega⟩⟩)⟩
    · refine eX.tr2 e (fun b k hb w => ?_) (fun b k hb w => w)
      unfold Wo at w ⊢
      omega
    · rw [pp, sP_eq, if_pos rfl]
    · rw [x, sP_X, nO_X]
    · rw [s, sP_S, nO_S]
    · rw [tt, sP_T, nO_T2]
    · rw [nn, sP_N, nO_N2]
