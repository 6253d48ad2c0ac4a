/-! The class's polynomials, read; number. -/
theorem c_isPlace {M : Nat × Nat} {y : Int32} {S : HS} {K : Int32 → HS → Prop} (h1 : ∀ k, k < 6 → y = ι k → K 1 S) (h0 : (∀ k, k < 6 → ¬ y = ι k) → K 0 S) : wp_X11_isPlace M y S K := by
  unfold wp_X11_isPlace
  refine ⟨fun c => h0 (fun k hk e => absurd c (by rw [e]; exact ι_nn (by omega))), fun c => ?_⟩
  obtain ⟨a, ha, rfl⟩ := ι_ex c
  simp (disch := omega) only [ι_lit, ι_of, ι_add, ι_mul, ι_lt, ι_le, ι_eq, ι_cl, ι_rem, ι_div, ι_vin, ι_ne1', ι_1ne', ι_1lt', ι_lt1', ι_1le', ι_le1', ι_sub', ι_sub, upN, upE, Nat.reduceEqDiff, ne_eq, not_true_eq_false, not_false_eq_true, false_imp_iff, true_imp_iff, true_and, and_true, imp_self, forall_eq, reduceIte, Nat.reduceMul, Nat.reduceAdd, Nat.reduceSub]
  refine ⟨fun c2 => h0 (fun k hk e => ?_), fun c2 => h1 a (by omega) rfl⟩
  rw [ι_eq (by omega) (by omega)] at e
  omega
theorem s_isPlace {y : Int32} {R : RS} {K : Int32 → RS → Prop} (h1 : ∀ k, k < 6 → y = ι k → K 1 R) (h0 : (∀ k, k < 6 → ¬ y = ι k) → K 0 R) : wp_isPlace y R K := by
  unfold wp_isPlace
  exact s_isInB (b := 0) (c := 5) rfl rfl (by omega) (by omega) (fun a _ ha e => ⟨Or.inr rfl, h1 a (by omega) e⟩) (fun q => ⟨Or.inl rfl, h0 (fun k hk => q k (by omega) (by omega))⟩)
theorem c_polyAt {M : Nat × Nat} {h0 : Nat} {y : Int32} {S : HS} {P : Nat → Po} {KX : String → HS → Prop} {K : Option Nat → HS → Prop} (hL : Lay h0 S) (hP : CPl h0 S P) (hm : hX S + 1 ≤ M.1) (hm2 : hS S + 6 ≤ M.2) (h1 : ∀ k a, k < 6 → y = ι k → Ka h0 a → PolyAt S a (P k) → K (some a) S) (h2 : (∀ k, k < 6 → ¬ y = ι k) → KX xNSE S) : wp_X11_polyAt M h0 y S KX K := by
  unfold wp_X11_polyAt
  refine c_isPlace (fun k hk e => ⟨fun _ => ?_, fun c => absurd c (by decide)⟩) (fun hne => ⟨fun c => absurd rfl c, fun _ => ⟨h2 hne, hm, hm2⟩⟩)
  obtain ⟨a, q1, q2, q3⟩ := hP k hk
  refine ⟨hL.t0, h0 + 4, hL.p0_1, hL.t4, ?_, a, ?_, h1 k a hk e q2 q3⟩
  · rw [hL.n4, e]; exact ι_in (by omega) (by omega)
  · rw [e, ι_cl (by omega)]; exact q1
theorem k6_inj {s t : Tm} (hs : sm s) (ht : sm t) (h : k6 s = k6 t) : isAt s t.x t.y t.z := by
  unfold k6 at h
  unfold isAt
  omega
theorem c_exp {M : Nat × Nat} {t : Tm} {v : Nat} {x w : Int32} {S : HS} {K : Int32 → HS → Prop} (ht : sm t) (hx : x = ι (k6 t)) (hw : w = ι v) (hv : v < 3) (h : K (ι (exv t v)) S) : wp_X6_exponent M x w S K := by
  subst hx hw
  have hk := k6_lt ht
  unfold wp_X6_exponent
  have e : (ι (k6 t) >>> (((2 - ι v) * 6) &&& 31)) &&& 63 = ι (exv t v) := by
    have hv3 : v = 0 ∨ v = 1 ∨ v = 2 := by omega
    rcases hv3 with rfl | rfl | rfl
    · rw [ι_sr _ 12 (by omega) (by decide) (by omega), show (63 : Int32) = ι (2 ^ 6 - 1) from rfl, ι_and 6 (by omega)]
      congr 1
      show k6 t / 4096 % 64 = t.x
      unfold k6; omega
    · rw [ι_sr _ 6 (by omega) (by decide) (by omega), show (63 : Int32) = ι (2 ^ 6 - 1) from rfl, ι_and 6 (by omega)]
      congr 1
      show k6 t / 64 % 64 = t.y
      unfold k6; omega
    · rw [ι_sr _ 0 (by omega) (by decide) (by omega), show (63 : Int32) = ι (2 ^ 6 - 1) from rfl, ι_and 6 (by omega)]
      congr 1
      show k6 t / 1 % 64 = t.z
      unfold k6; omega
  rw [e]; exact h
theorem c_key {M : Nat × Nat} {x y z : Nat} {x1 x2 x3 : Int32} {S : HS} {K : Int32 → HS → Prop} (h1 : x1 = ι x) (h2 : x2 = ι y) (h3 : x3 = ι z) (hx : x ≤ 63) (hy : y ≤ 63) (hz : z ≤ 63) (h : K (ι (x * 4096 + y * 64 + z)) S) : wp_X6_key M x1 x2 x3 S K := by
  subst h1 h2 h3
  unfold wp_X6_key
  rw [ι_sh _ 12 (by omega) (by decide), ι_sh _ 6 (by omega) (by decide)]
  rw [ι_or (a := x) 12 (b := y * 2 ^ 6) (by omega) (by omega), show x * 2 ^ 12 + y * 2 ^ 6 = (x * 64 + y) * 2 ^ 6 by omega, ι_or (a := x * 64 + y) 6 (by omega) (by omega), show (x * 64 + y) * 2 ^ 6 + z = x * 4096 + y * 64 + z by omega]
  exact h
theorem cf_same {p : Nat} {L : Po} (hw : wf p L) {i x y z : Nat} (hi : i < L.length) (h : isAt (tm L i) x y z) : cf L x y z = (tm L i).n := by
  have := cf_at hw hi
  rw [h.1, h.2.1, h.2.2] at this
  exact this
theorem c_numberWith {M : Nat × Nat} {p a x y z : Nat} {kx : Int32} {L : Po} {S : HS} {K : Int32 → HS → Prop} (hw : wf p L) (hp : PolyAt S a L) (hk : kx = ι (x * 4096 + y * 64 + z)) (hx : x ≤ 40) (hy : y ≤ 40) (hz : z ≤ 40) (h : K (ι (cf L x y z)) S) : wp_X6_numberWith M a kx S K := by
  subst hk
  obtain ⟨h1, h2, h3, h4, h5, h6, h7, h8, h9, h10, h11⟩ := hp
  have hle := hw.1
  have key : ∀ (k i : Nat), i + k = L.length → (∀ j, j < i → ¬ isAt (tm L (L.length - 1 - j)) x y z) → wl_X6_numberWith_2 M K (k + 1) a (ι (x * 4096 + y * 64 + z)) (ι i) S := by
    intro k
    induction k with
    | zero =>
      intro i hi hn
      show wb_X6_numberWith_2 _ _ _ _ _ _ _
      unfold wb_X6_numberWith_2
      rw [h9]
      simp (disch := omega) only [ι_lit, ι_of, ι_add, ι_mul, ι_lt, ι_le, ι_eq, ι_cl, ι_rem, ι_div, ι_vin, ι_ne1', ι_1ne', ι_1lt', ι_lt1', ι_1le', ι_le1', ι_sub', ι_sub, upN, upE, Nat.reduceEqDiff, ne_eq, not_true_eq_false, not_false_eq_true, false_imp_iff, true_imp_iff, true_and, and_true, imp_self, forall_eq, reduceIte, Nat.reduceMul, Nat.reduceAdd, Nat.reduceSub]
      refine ⟨h2, fun _ => ?_, fun c => absurd (by omega) c⟩
      have e0 : cf L x y z = 0 := cf_none (fun j hj c => hn (L.length - 1 - j) (by omega) (by rw [show L.length - 1 - (L.length - 1 - j) = j by omega]; exact c))
      rw [e0] at h; exact h
    | succ k ih =>
      intro i hi hn
      have hs := hw.sm (i := L.length - 1 - i) (by omega)
      have hkl := k6_lt hs
      show wb_X6_numberWith_2 _ _ _ _ _ _ _
      unfold wb_X6_numberWith_2
      rw [h9]
      simp (disch := omega) only [ι_lit, ι_of, ι_add, ι_mul, ι_lt, ι_le, ι_eq, ι_cl, ι_rem, ι_div, ι_vin, ι_ne1', ι_1ne', ι_1lt', ι_lt1', ι_1le', ι_le1', ι_sub', ι_sub, upN, upE, Nat.reduceEqDiff, ne_eq, not_true_eq_false, not_false_eq_true, false_imp_iff, true_imp_iff, true_and, and_true, imp_self, forall_eq, reduceIte, Nat.reduceMul, Nat.reduceAdd, Nat.reduceSub]
      refine ⟨h2, fun c => absurd c (by omega), fun _ => ⟨h2, a + 1, h3, h5, by rw [h7]; exact ι_in (by omega) (by omega), ?_⟩⟩
      rw [(h11 i (by omega)).1]
      simp (disch := omega) only [ι_lit, ι_of, ι_add, ι_mul, ι_lt, ι_le, ι_eq, ι_cl, ι_rem, ι_div, ι_vin, ι_ne1', ι_1ne', ι_1lt', ι_lt1', ι_1le', ι_le1', ι_sub', ι_sub, upN, upE, Nat.reduceEqDiff, ne_eq, not_true_eq_false, not_false_eq_true, false_imp_iff, true_imp_iff, true_and, and_true, imp_self, forall_eq, reduceIte, Nat.reduceMul, Nat.reduceAdd, Nat.reduceSub]
      refine ⟨fun c => ih (i + 1) (by omega) (fun j hj => ?_), fun c => ⟨h2, a + 2, h4, h6, by rw [h8]; exact ι_in (by omega) (by omega), ?_⟩⟩
      · by_cases e : j = i
        · subst e
          intro w
          exact c (by unfold k6; rw [w.1, w.2.1, w.2.2])
        · exact hn j (by omega)
      · have w := k6_inj hs (t := (x, y, z, 0)) ⟨hx, hy, hz⟩ c
        rw [(h11 i (by omega)).2, ← cf_same hw (i := L.length - 1 - i) (by omega) w]
        exact h
  unfold wp_X6_numberWith
  exact ⟨L.length + 1, key L.length 0 (by omega) (fun j hj => by omega)⟩
theorem s_num64 {p s x y z : Nat} {L : Po} {R : RS} {K : Int32 → RS → Prop} (hs : s < 56) (hw : wf p L) (hl : Sl R s L) (hx : x ≤ 40) (hy : y ≤ 40) (hz : z ≤ 40) (h : K (ι (cf L x y z)) R) : ∃ nn, wl_number__64 K nn (ι s) (ι x) (ι y) (ι z) 0 R := by
  have hle := hw.1
  have key : ∀ (k i : Nat), i + k = L.length → (∀ j, j < i → ¬ isAt (tm L j) x y z) → wl_number__64 K (k + 1) (ι s) (ι x) (ι y) (ι z) (ι i) R := by
    intro k
    induction k with
    | zero =>
      intro i hi hn
      show wb_number__64 _ _ _ _ _ _ _ _
      unfold wb_number__64
      simp (disch := omega) only [ι_lit, ι_of, ι_add, ι_mul, ι_lt, ι_le, ι_eq, ι_cl, ι_rem, ι_div, ι_vin, ι_ne1', ι_1ne', ι_1lt', ι_lt1', ι_1le', ι_le1', ι_sub', ι_sub, upN, upE, Nat.reduceEqDiff, ne_eq, not_true_eq_false, not_false_eq_true, false_imp_iff, true_imp_iff, true_and, and_true, imp_self, forall_eq, reduceIte, Nat.reduceMul, Nat.reduceAdd, Nat.reduceSub, hl.1]
      refine ⟨fun _ => ?_, fun c => absurd (by omega) c⟩
      rw [cf_none (fun j hj => hn j (by omega))] at h; exact h
    | succ k ih =>
      intro i hi hn
      have hsm := hw.sm (i := i) (by omega)
      have hk := k41_lt hsm
      show wb_number__64 _ _ _ _ _ _ _ _
      unfold wb_number__64
      simp (disch := omega) only [ι_lit, ι_of, ι_add, ι_mul, ι_lt, ι_le, ι_eq, ι_cl, ι_rem, ι_div, ι_vin, ι_ne1', ι_1ne', ι_1lt', ι_lt1', ι_1le', ι_le1', ι_sub', ι_sub, upN, upE, Nat.reduceEqDiff, ne_eq, not_true_eq_false, not_false_eq_true, false_imp_iff, true_imp_iff, true_and, and_true, imp_self, forall_eq, reduceIte, Nat.reduceMul, Nat.reduceAdd, Nat.reduceSub, hl.1]
      refine ⟨fun c => absurd c (by omega), fun _ => ?_⟩
      refine s_keyAt rfl rfl hs (by omega) (s_keyOf (t := (x, y, z, 0)) rfl rfl rfl ?_)
      rw [(hl.2 i (by omega)).1]
      have hk2 := k41_lt (t := (x, y, z, 0)) ⟨hx, hy, hz⟩
      simp (disch := omega) only [ι_lit, ι_of, ι_add, ι_mul, ι_lt, ι_le, ι_eq, ι_cl, ι_rem, ι_div, ι_vin, ι_ne1', ι_1ne', ι_1lt', ι_lt1', ι_1le', ι_le1', ι_sub', ι_sub, upN, upE, Nat.reduceEqDiff, ne_eq, not_true_eq_false, not_false_eq_true, false_imp_iff, true_imp_iff, true_and, and_true, imp_self, forall_eq, reduceIte, Nat.reduceMul, Nat.reduceAdd, Nat.reduceSub]
      refine ⟨fun c => ih (i + 1) (by omega) (fun j hj => ?_), fun c => s_numAt rfl rfl hs (by omega) ?_⟩
      · by_cases e : j = i
        · subst e
          intro w
          exact c (by unfold k41; rw [w.1, w.2.1, w.2.2]; rfl)
        · exact hn j (by omega)
      · have w := k41_inj hsm (t := (x, y, z, 0)) ⟨hx, hy, hz⟩ c
        rw [(hl.2 i (by omega)).2, ← cf_same hw (i := i) (by omega) w]
        exact h
  exact ⟨L.length + 1, key L.length 0 (by omega) (fun j hj => by omega)⟩
theorem call_13 {h0 s0 n : Nat} {S : HS} {R : RS} (hn : n < 512) (y1 y2 y3 y4 : Int32) (v : Int64) (h : Inv h0 s0 n S R) : wq_13 (Mx h0 s0) h0 y1 y2 y3 y4 S R v (Inv h0 s0 (n + 1)) := by
  obtain ⟨⟨p, P, A, T, Tx, ft, Q, B⟩, hc, hv, hr⟩ := h
  have hL := hc.1
  have hroom := hc.room hn
  have fin : ∀ x, Inv h0 s0 (n + 1) S (up R 0 0 x) := fun x => ⟨_, hc.next, hv, hr.code hv x⟩
  have fr : ∀ S'' x, Re S S'' → Inv h0 s0 (n + 1) S'' (up R 0 0 x) := fun S'' x r => ⟨_, hc.re r, hv, hr.code hv x⟩
  have rm : hX S + 1 ≤ (Mx h0 s0).1 ∧ hS S + 6 ≤ (Mx h0 s0).2 := ⟨by show hX S + 1 ≤ h0 + 601024; omega, by show hS S + 6 ≤ s0 + 7293034; omega⟩
  refine ⟨hL.t0, ?_⟩
  unfold wp_X11_number
  refine ⟨hL.t0, c_polyAt hL hc.2.2.2.1 rm.1 rm.2 (fun k a hk e ka pa => ?_) (fun hne => Or.inl ⟨rfl, fun S'' re => ?_⟩)⟩
  · -- a place
    have two : ∀ S'', Re S S'' → (y2 < 0 ∨ y3 < 0 ∨ ¬ 0 ≤ y4) → wp_number_ y1 y2 y3 y4 R (fun q R1 => wp_thrown R1 (fun t R2 => t = 2 ∧ ((2 : Int32) = 0 → v = Int32.toInt64 q) ∧ Inv h0 s0 (n + 1) S'' R2)) := by
      intro S'' re hb
      unfold wp_number_
      have g : w_number__30 (fun q R1 => wp_thrown R1 (fun t R2 => t = 2 ∧ ((2 : Int32) = 0 → v = Int32.toInt64 q) ∧ Inv h0 s0 (n + 1) S'' R2)) y1 y2 y3 y4 2 R := by
        unfold w_number__30
        rw [upE, if_pos rfl]
        exact ⟨fun _ => ⟨by rw [upE, if_pos rfl], fun c => absurd c (by decide), fr S'' 2 re⟩, fun c => absurd (by decide) c⟩
      refine s_isPlace (fun k' hk' e' => ⟨fun _ => ⟨fun _ => g, fun c2 => ⟨fun _ => g, fun c3 => ⟨fun c4 => ?_, fun _ => g⟩⟩⟩, fun c => absurd c (by decide)⟩) (fun hne => absurd e (hne k hk))
      rcases hb with q | q | q
      · exact absurd q c2
      · exact absurd q c3
      · exact absurd c4 q
    have one : ¬ y2 < 0 → ¬ y3 < 0 → 0 ≤ y4 → w_number__30 (fun q R1 => wp_thrown R1 (fun t R2 => t = 0 ∧ ((0 : Int32) = 0 → Int32.toInt64 0 = Int32.toInt64 q) ∧ Inv h0 s0 (n + 1) S R2)) y1 y2 y3 y4 0 R → wp_number_ y1 y2 y3 y4 R (fun q R1 => wp_thrown R1 (fun t R2 => t = 0 ∧ ((0 : Int32) = 0 → Int32.toInt64 0 = Int32.toInt64 q) ∧ Inv h0 s0 (n + 1) S R2)) := by
      intro c2 c3 c4 g
      unfold wp_number_
      exact s_isPlace (fun k' hk' e' => ⟨fun _ => ⟨fun c => absurd c c2, fun _ => ⟨fun c => absurd c c3, fun _ => ⟨fun _ => g, fun c => absurd c4 c⟩⟩⟩, fun c => absurd c (by decide)⟩) (fun hne => absurd e (hne k hk))
    have z0 : (0 : Int32) < 0 → False := by decide
    refine ⟨fun c2 => ⟨Or.inr ⟨rfl, fun S'' re => two S'' re (Or.inl c2)⟩, rm⟩, fun c2 => ⟨fun c3 => ⟨Or.inr ⟨rfl, fun S'' re => two S'' re (Or.inr (Or.inl c3))⟩, rm⟩, fun c3 => ⟨fun c4 => ⟨fun d2 => ?_, fun d2 => ⟨fun d3 => ?_, fun d3 => ⟨fun d4 => ⟨a, rfl, ?_⟩, fun d4 => ?_⟩⟩⟩, fun c4 => ⟨Or.inr ⟨rfl, fun S'' re => two S'' re (Or.inr (Or.inr c4))⟩, rm⟩⟩⟩⟩
    · refine one c2 c3 c4 ?_
      unfold w_number__30
      rw [upE, if_pos rfl]
      exact ⟨fun c => absurd c z0, fun _ => ⟨fun _ => ⟨by rw [upE, if_pos rfl], fun _ => rfl, fin 0⟩, fun c => absurd d2 c⟩⟩
    · refine one c2 c3 c4 ?_
      unfold w_number__30
      rw [upE, if_pos rfl]
      exact ⟨fun c => absurd c z0, fun _ => ⟨fun c => absurd c d2, fun _ => ⟨fun _ => ⟨by rw [upE, if_pos rfl], fun _ => rfl, fin 0⟩, fun c => absurd d3 c⟩⟩⟩
    · obtain ⟨x, hx, rfl⟩ := ι_ex c2
      obtain ⟨y, hy, rfl⟩ := ι_ex c3
      obtain ⟨z, hz, rfl⟩ := ι_ex (x := y4) (fun c => by rw [Int32.lt_iff_toInt_lt] at c; rw [Int32.le_iff_toInt_le] at c4; omega)
      rw [show (40 : Int32) = ι 40 from rfl, ι_lt (by omega) (by omega)] at d2
      rw [show (40 : Int32) = ι 40 from rfl, ι_lt (by omega) (by omega)] at d3
      rw [show (40 : Int32) = ι 40 from rfl, ι_le (by omega) (by omega)] at d4
      refine c_key rfl rfl rfl (by omega) (by omega) (by omega) ⟨pa.2.1, ?_⟩
      refine c_numberWith (hv.2.1 k hk) pa rfl (by omega) (by omega) (by omega) ?_
      unfold wp_number_
      refine s_isPlace (fun k' hk' e' => ⟨fun _ => ⟨fun c => absurd c c2, fun _ => ⟨fun c => absurd c c3, fun _ => ⟨fun _ => ?_, fun c => absurd c4 c⟩⟩⟩, fun c => absurd c (by decide)⟩) (fun hne => absurd e (hne k hk))
      unfold w_number__30
      rw [upE, if_pos rfl]
      refine ⟨fun c => absurd c z0, fun _ => ⟨fun c => absurd c ?_, fun _ => ⟨fun c => absurd c ?_, fun _ => ⟨fun _ => ?_, fun c => absurd ?_ c⟩⟩⟩⟩
      · rw [show (40 : Int32) = ι 40 from rfl, ι_lt (by omega) (by omega)]; exact d2
      · rw [show (40 : Int32) = ι 40 from rfl, ι_lt (by omega) (by omega)]; exact d3
      · rw [e]
        refine s_num64 (by omega) (hv.2.1 k hk) ?_ (by omega) (by omega) (by omega) ⟨by rw [upE, if_pos rfl], fun _ => rfl, fin 0⟩
        exact (hr.code hv 0).2.1 k hk
      · rw [show (40 : Int32) = ι 40 from rfl, ι_le (by omega) (by omega)]; exact d4
    · refine one c2 c3 c4 ?_
      unfold w_number__30
      rw [upE, if_pos rfl]
      exact ⟨fun c => absurd c z0, fun _ => ⟨fun c => absurd c d2, fun _ => ⟨fun c => absurd c d3, fun _ => ⟨fun c => absurd c d4, fun _ => ⟨by rw [upE, if_pos rfl], fun _ => rfl, fin 0⟩⟩⟩⟩⟩
  · unfold wp_number_
    refine s_isPlace (fun k hk e => absurd e (hne k hk)) (fun _ => ⟨fun c => absurd rfl c, fun _ => ?_⟩)
    unfold w_number__30
    rw [upE, if_pos rfl]
    exact ⟨fun _ => ⟨by rw [upE, if_pos rfl], fun c => absurd c (by decide), fr S'' 1 re⟩, fun c => absurd (by decide) c⟩
/-! Scratch: what may be written without harm to the invariant. -/
def Wz (h0 : Nat) (S : HS) (b _k : Nat) : Prop := (h0 + 6 ≤ b ∧ b ≤ h0 + 24) ∨ (h0 + 30 ≤ b ∧ b ≤ h0 + 38) ∨ (h0 + 42 ≤ b ∧ b ≤ h0 + 49 ∧ b ≠ h0 + 44) ∨ b = bxC h0 S 12 ∨ b = bxC h0 S 15 ∨ b = bxC h0 S 42
theorem ka_z {h0 : Nat} {S : HS} (hb : CBx h0 S) : ∀ a L, Ka h0 a → PolyAt S a L → ∀ k, ¬ Wz h0 S a k ∧ ¬ Wz h0 S (a + 1) k ∧ ¬ Wz h0 S (a + 2) k ∧ ¬ V0 a k := by
  intro a L hk hp k
  have q1 := bx_ka hk hp hb.1.1 (by omega)
  have q2 := bx_ka hk hp hb.1.2.1 (by omega)
  have q4 := bx_ka hk hp hb.1.2.2.2 (by omega)
  unfold Ka at hk
  exact ⟨by unfold Wz; omega, by unfold Wz; omega, by unfold Wz; omega, fun c => c⟩
theorem CI.scr {h0 s0 n : Nat} {S S' : HS} {g : Gh} (h : CI h0 s0 n S g) (e : Ext S S' (Wz h0 S) V0) (tp : Tp S') (hx' : hX S' ≤ hX S + 1000) (hs' : hS S' ≤ hS S + 7400) : CI h0 s0 (n + 1) S' g := by
  obtain ⟨p, P, A, T, Tx, ft, Q, B⟩ := g
  obtain ⟨c1, c2, c3, c4, c5, c6, c7, c8, c9, c10, c11, c12⟩ := h
  have hx := c2.1
  have pk : PK h0 S S' := PK.of e (ka_z c10)
  have b12 := c10.1.1.2.2.2.2.1
  have b15 := c10.1.2.1.2.2.2.2.1
  have b42 := c10.1.2.2.2.2.2.2.2.1
  have b39 := c10.1.2.2.1.2.2.2.2.1
  have nI : ∀ b k, b < hX S → ¬ Wz h0 S b k → hI S' b k = hI S b k := fun b k hb w => (e.2.2.1 b hb).2.2.1 k w
  have nP : ∀ b k, b < hX S → hP S' b k = hP S b k := fun b k hb => (e.2.2.1 b hb).2.2.2 k (fun c => c)
  have ho : ∀ o, o = 12 ∨ o = 15 ∨ o = 39 ∨ o = 42 → hP S' (h0 + o) 0 = hP S (h0 + o) 0 := fun o ho => nP _ _ (by omega)
  refine ⟨c1.go c2.1 e (fun q hq c => c), c2.go e pk tp, by rw [nI _ _ (by omega) (by unfold Wz; omega)]; exact c3, c4.go pk (fun k hk => nP _ _ (by omega)), c5.go pk (fun k => nI _ _ (by omega) (by unfold Wz; omega)) (fun k => nI _ _ (by omega) (by unfold Wz; omega)) (fun k => nP _ _ (by omega)), c6.go (nI _ _ (by omega) (by unfold Wz; omega)) (fun i => nI _ _ (by omega) (by unfold Wz; omega)), c7.go (nI _ _ (by omega) (by unfold Wz; omega)) (fun i => nI _ _ (by omega) (by unfold Wz; omega)), by rw [nI _ _ (by omega) (by unfold Wz; omega)]; exact c8, ?_, c10.go e ho, c11.go (e.2.2.1 _ c10.1.2.2.1.2.1).2.1 pk (nP _ _ (by omega)) (ho 39 (by omega)) (fun k => nI _ _ (by omega) (by unfold Wz; omega)) (fun k => nI _ _ (by omega) (by unfold Wz; omega)) (fun k => nI _ _ (by omega) (by unfold Wz; omega)) (nI _ _ (by omega) (by unfold Wz; omega)) (nI _ _ (by omega) (by unfold Wz; omega)) (fun k => nI _ _ c10.1.2.2.1.2.1 ?_), c12.go e c10 ho hx' (by omega) rfl⟩
  · rcases c9 with ⟨q1, q2⟩ | ⟨g, q1, q2, q3, q4⟩
    · exact Or.inl ⟨by rw [nP _ _ (by omega)]; exact q1, q2⟩
    · have hw : CPg h0 S Q B := Or.inr ⟨g, q1, q2, q3, q4⟩
      have hx2 : g + 9 < hX S := q3.2.1
      have hg55 := q3.1
      have ee := e.2.2.1
      refine Or.inr ⟨g, by rw [nP _ _ (by omega)]; exact q1, q2, ?_, by rw [bxC.go (ho 12 (by omega)), bxC.go (ho 15 (by omega)), bxC.go (ho 39 (by omega)), bxC.go (ho 42 (by omega))]; exact q4⟩
      obtain ⟨w1, w2, w3, w4, w5, w6, w7⟩ := q3
      have gi : ∀ f s, f ≤ 6 → hI S' (g + f) s = hI S (g + f) s := fun f s hf => nI _ _ (by omega) (by unfold Wz; omega)
      refine ⟨w1, by have := e.1; omega, by rw [(ee g (by omega)).1]; exact w3, fun f f1 f2 => by rw [nP _ _ (by omega)]; exact w4 f f1 f2, fun f f1 f2 => by rw [(ee (g + f) (by omega)).1, (ee (g + f) (by omega)).2.1]; exact w5 f f1 f2, by rw [show hI S' g 0 = hI S g 0 from gi 0 0 (by omega)]; exact w6, fun s hs => ?_⟩
      obtain ⟨u1, u2, u3, u4, u5, a, u6, u7, u8⟩ := w7 s hs
      rw [gi 1 s (by omega), gi 2 s (by omega), gi 3 s (by omega), gi 4 s (by omega), gi 5 s (by omega)]
      exact ⟨u1, u2, u3, u4, u5, a, by rw [nP _ _ (by omega)]; exact u6, u7, pk a _ u7 u8⟩
  · have := c10.2
    unfold Wz; omega
/-! value. -/
theorem pm_lt {p v : Nat} (hp : 1 < p) : ∀ k, pm p v k < p := by
  intro k
  cases k with
  | zero => exact hp
  | succ k => exact Nat.mod_lt _ (by omega)
theorem vT_le {p x y z : Nat} {t : Tm} (hpp : PrP p) (hn : t.n < p) : vT p x y z t ≤ 12 * 12 * 12 * 12 := by
  have hp := hpp.le
  have h1 := pm_lt (v := x) (by omega : 1 < p) t.x
  have h2 := pm_lt (v := y) (by omega : 1 < p) t.y
  have h3 := pm_lt (v := z) (by omega : 1 < p) t.z
  exact Nat.mul_le_mul (Nat.mul_le_mul (Nat.mul_le_mul (by omega) (by omega)) (by omega)) (by omega)
def W19 (h0 b _k : Nat) : Prop := b = h0 + 19
theorem c_findPowers {M : Nat × Nat} {h0 p v f : Nat} {x1 x2 : Int32} {S : HS} {K : Int32 → HS → Prop} (hL : Lay h0 S) (hX0 : h0 + 60 ≤ hX S) (hpp : PrP p) (hp : hI S (h0 + 5) 0 = ι p) (h1 : x1 = ι v) (hv : v < p) (h2 : x2 = ι f) (hf : f ≤ 82) (h : ∀ S', Ext S S' (W19 h0) V0 → hX S' = hX S → hS S' = hS S → (∀ k, k ≤ 40 → hI S' (h0 + 19) (f + k) = ι (pm p v k)) → (∀ k, k < f ∨ f + 40 < k → hI S' (h0 + 19) k = hI S (h0 + 19) k) → K 0 S') : wp_X9_findPowers M (h0 + 5) x1 x2 S K := by
  subst h1 h2
  have hle := hpp.le
  have key : ∀ (k i : Nat) (S1 : HS), i + k = 41 → 1 ≤ i → Ext S S1 (W19 h0) V0 → hX S1 = hX S → hS S1 = hS S → (∀ j, j < i → hI S1 (h0 + 19) (f + j) = ι (pm p v j)) → (∀ j, j < f ∨ f + 40 < j → hI S1 (h0 + 19) j = hI S (h0 + 19) j) → wl_X9_findPowers_9 M K (k + 1) (h0 + 5) (ι v) (ι f) (ι i) S1 := by
    intro k
    induction k with
    | zero =>
      intro i S1 hi hi1 e1 e2 e3 e4 e5
      show wb_X9_findPowers_9 _ _ _ _ _ _ _ _
      unfold wb_X9_findPowers_9
      refine ⟨fun _ => h S1 e1 e2 e3 (fun k hk => e4 k (by omega)) e5, fun c => absurd ?_ c⟩
      simp (disch := omega) only [ι_lit, ι_of, ι_add, ι_mul, ι_lt, ι_le, ι_eq, ι_cl, ι_rem, ι_div, ι_vin, ι_ne1', ι_1ne', ι_1lt', ι_lt1', ι_1le', ι_le1', ι_sub', ι_sub, upN, upE, Nat.reduceEqDiff, ne_eq, not_true_eq_false, not_false_eq_true, false_imp_iff, true_imp_iff, true_and, and_true, imp_self, forall_eq, reduceIte, Nat.reduceMul, Nat.reduceAdd, Nat.reduceSub]
      omega
    | succ k ih =>
      intro i S1 hi hi1 e1 e2 e3 e4 e5
      have hL1 := hL.go hX0 e1 (fun q hq c => c)
      have hp1 : hI S1 (h0 + 5) 0 = ι p := by rw [(e1.2.2.1 (h0 + 5) (by omega)).2.2.1 0 (by unfold W19; omega)]; exact hp
      have hpm := pm_lt (p := p) (v := v) (by omega) (i - 1)
      show wb_X9_findPowers_9 _ _ _ _ _ _ _ _
      unfold wb_X9_findPowers_9
      refine ⟨fun c => absurd c ?_, fun _ => ⟨hL1.t5, h0 + 19, hL1.p5_6, hL1.t5, h0 + 19, hL1.p5_6, hL1.t19, ?_, hL1.t5, ?_, hL1.t19, ?_, ?_⟩⟩
      · simp (disch := omega) only [ι_lit, ι_of, ι_add, ι_mul, ι_lt, ι_le, ι_eq, ι_cl, ι_rem, ι_div, ι_vin, ι_ne1', ι_1ne', ι_1lt', ι_lt1', ι_1le', ι_le1', ι_sub', ι_sub, upN, upE, Nat.reduceEqDiff, ne_eq, not_true_eq_false, not_false_eq_true, false_imp_iff, true_imp_iff, true_and, and_true, imp_self, forall_eq, reduceIte, Nat.reduceMul, Nat.reduceAdd, Nat.reduceSub]
        omega
      · rw [hL1.n19, ι_add, show (1 : Int32) = ι 1 from rfl, ι_sub (by omega)]
        exact ι_in (by omega) (by omega)
      · rw [hp1]
        simp (disch := omega) only [ι_lit, ι_of, ι_add, ι_mul, ι_lt, ι_le, ι_eq, ι_cl, ι_rem, ι_div, ι_vin, ι_ne1', ι_1ne', ι_1lt', ι_lt1', ι_1le', ι_le1', ι_sub', ι_sub, upN, upE, Nat.reduceEqDiff, ne_eq, not_true_eq_false, not_false_eq_true, false_imp_iff, true_imp_iff, true_and, and_true, imp_self, forall_eq, reduceIte, Nat.reduceMul, Nat.reduceAdd, Nat.reduceSub]
        omega
      · rw [hL1.n19, ι_add]
        exact ι_in (by omega) (by omega)
      · rw [hp1, ι_add, show (1 : Int32) = ι 1 from rfl, ι_sub (by omega), ι_cl (by omega), ι_cl (by omega), show f + i - 1 = f + (i - 1) by omega, e4 (i - 1) (by omega), ι_mul]
        have hm : pm p v (i - 1) * v ≤ 13 * 13 := Nat.mul_le_mul (by omega) (by omega)
        rw [ι_rem (by omega) (by omega), ι_add, show pm p v (i - 1) * v % p = pm p v i by rw [show i = i - 1 + 1 by omega]; rfl]
        refine ih (i + 1) _ (by omega) (by omega) (e1.sI rfl) e2 e3 (fun j hj => ?_) (fun j hj => ?_)
        · rw [sI_eq]
          by_cases q : j = i
          · rw [if_pos (by omega), q]
          · rw [if_neg (by omega)]; exact e4 j (by omega)
        · rw [sI_eq, if_neg (by omega)]; exact e5 j hj
  unfold wp_X9_findPowers
  refine ⟨hL.t5, h0 + 19, hL.p5_6, hL.t19, ?_, 41, ?_⟩
  · rw [hL.n19]; exact ι_in (by omega) (by omega)
  · rw [ι_cl (by omega)]
    refine key 40 1 _ (by omega) (by omega) ((Ext.rf S (W19 h0) V0).sI rfl) rfl rfl (fun j hj => ?_) (fun j hj => ?_)
    · rw [sI_eq, if_pos (by omega), show j = 0 by omega]; rfl
    · rw [sI_eq, if_neg (by omega)]
theorem W19.z {h0 : Nat} {S : HS} : ∀ b k, W19 h0 b k → Wz h0 S b k := fun b k h => Or.inl (by unfold W19 at h; omega)
theorem c_valueAt {M : Nat × Nat} {h0 p a x y z : Nat} {x2 x3 x4 : Int32} {L : Po} {S : HS} {K : Int32 → HS → Prop} (hL : Lay h0 S) (hX0 : h0 + 60 ≤ hX S) (hpp : PrP p) (hp : hI S (h0 + 5) 0 = ι p) (hw : wf p L) (ka : Ka h0 a) (pa : PolyAt S a L) (h2 : x2 = ι x) (h3 : x3 = ι y) (h4 : x4 = ι z) (hx : x < p) (hy : y < p) (hz : z < p) (h : ∀ S', Ext S S' (W19 h0) V0 → hX S' = hX S → hS S' = hS S → K (ι (vF p L x y z)) S') : wp_X9_valueAt M (h0 + 5) a x2 x3 x4 S K := by
  have hle := hpp.le
  have hl3 := hw.1
  have kap : ∀ k, ¬ W19 h0 a k ∧ ¬ W19 h0 (a + 1) k ∧ ¬ W19 h0 (a + 2) k ∧ ¬ V0 a k := fun k => by
    unfold Ka at ka
    exact ⟨by unfold W19; omega, by unfold W19; omega, by unfold W19; omega, fun c => c⟩
  unfold wp_X9_valueAt
  refine ⟨hL.t5, c_findPowers (f := 0) hL hX0 hpp hp h2 hx rfl (by omega) (fun S1 e1 x1 s1 g1 o1 => ?_)⟩
  have hL1 := hL.go hX0 e1 (fun q hq c => c)
  have hp1 : hI S1 (h0 + 5) 0 = ι p := by rw [(e1.2.2.1 (h0 + 5) (by omega)).2.2.1 0 (by unfold W19; omega)]; exact hp
  refine ⟨hL1.t5, c_findPowers (f := 41) hL1 (by omega) hpp hp1 h3 hy rfl (by omega) (fun S2 e2 x2' s2 g2 o2 => ?_)⟩
  have hL2 := hL1.go (by omega) e2 (fun q hq c => c)
  have hp2 : hI S2 (h0 + 5) 0 = ι p := by rw [(e2.2.2.1 (h0 + 5) (by omega)).2.2.1 0 (by unfold W19; omega)]; exact hp1
  refine ⟨hL2.t5, c_findPowers (f := 82) hL2 (by omega) hpp hp2 h4 hz rfl (by omega) (fun S3 e3 x3' s3 g3 o3 => ?_)⟩
  have hL3 := hL2.go (by omega) e3 (fun q hq c => c)
  have hp3 : hI S3 (h0 + 5) 0 = ι p := by rw [(e3.2.2.1 (h0 + 5) (by omega)).2.2.1 0 (by unfold W19; omega)]; exact hp2
  have pa3 : PolyAt S3 a L := ((pa.go e1 kap).go e2 kap).go e3 kap
  obtain ⟨p1, p2, p3, p4, p5, p6, p7, p8, p9, p10, p11⟩ := pa3
  have gx : ∀ k, k ≤ 40 → hI S3 (h0 + 19) k = ι (pm p x k) := fun k hk => by
    rw [o3 k (by omega), o2 k (by omega)]
    have := g1 k hk
    rwa [Nat.zero_add] at this
  have gy : ∀ k, k ≤ 40 → hI S3 (h0 + 19) (41 + k) = ι (pm p y k) := fun k hk => by rw [o3 _ (by omega)]; exact g2 k hk
  have key : ∀ (k i : Nat), i + k = L.length → wl_X9_valueAt_33 M K (k + 1) (h0 + 5) a 41 (ι (sumTo i (fun j => vT p x y z (tm L (L.length - 1 - j))))) (ι i) S3 := by
    intro k
    induction k with
    | zero =>
      intro i hi
      show wb_X9_valueAt_33 _ _ _ _ _ _ _ _ _
      unfold wb_X9_valueAt_33
      rw [p9, hp3]
      have hb : sumTo i (fun j => vT p x y z (tm L (L.length - 1 - j))) ≤ i * (12 * 12 * 12 * 12) := sumTo_le (fun j hj => vT_le hpp (hw.2.1 _ (by omega)).2.2.2.2)
      simp (disch := omega) only [ι_lit, ι_of, ι_add, ι_mul, ι_lt, ι_le, ι_eq, ι_cl, ι_rem, ι_div, ι_vin, ι_ne1', ι_1ne', ι_1lt', ι_lt1', ι_1le', ι_le1', ι_sub', ι_sub, upN, upE, Nat.reduceEqDiff, ne_eq, not_true_eq_false, not_false_eq_true, false_imp_iff, true_imp_iff, true_and, and_true, imp_self, forall_eq, reduceIte, Nat.reduceMul, Nat.reduceAdd, Nat.reduceSub]
      refine ⟨p2, fun _ => ⟨hL3.t5, by omega, ?_⟩, fun c => absurd (by omega) c⟩
      rw [show i = L.length by omega, sumTo_rev L.length (fun j => vT p x y z (tm L j))]
      exact h S3 ((e1.tr e2).tr e3) (by omega) (by omega)
    | succ k ih =>
      intro i hi
      have hs := hw.sm (i := L.length - 1 - i) (by omega)
      have hkl := k6_lt hs
      show wb_X9_valueAt_33 _ _ _ _ _ _ _ _ _
      unfold wb_X9_valueAt_33
      rw [p9]
      simp (disch := omega) only [ι_lit, ι_of, ι_add, ι_mul, ι_lt, ι_le, ι_eq, ι_cl, ι_rem, ι_div, ι_vin, ι_ne1', ι_1ne', ι_1lt', ι_lt1', ι_1le', ι_le1', ι_sub', ι_sub, upN, upE, Nat.reduceEqDiff, ne_eq, not_true_eq_false, not_false_eq_true, false_imp_iff, true_imp_iff, true_and, and_true, imp_self, forall_eq, reduceIte, Nat.reduceMul, Nat.reduceAdd, Nat.reduceSub]
      refine ⟨p2, fun c => absurd c (by omega), fun _ => ⟨p2, a + 1, p3, p5, by rw [p7]; exact ι_in (by omega) (by omega), ?_⟩⟩
      rw [(p11 i (by omega)).1]
      refine ⟨hL3.t5, h0 + 19, hL3.p5_6, c_exp hs rfl (v := 0) rfl (by omega) ⟨hL3.t19, ?_, ?_⟩⟩
      · rw [hL3.n19]; exact ι_in (by have := exv_le hs 0; omega) (by omega)
      rw [ι_cl (by have := exv_le hs 0; omega), gx _ (exv_le hs 0)]
      refine ⟨hL3.t5, h0 + 19, hL3.p5_6, c_exp hs rfl (v := 1) rfl (by omega) ⟨hL3.t19, ?_, ?_⟩⟩
      · rw [hL3.n19, ι_add]; exact ι_in (by have := exv_le hs 1; omega) (by omega)
      rw [ι_add, ι_cl (by have := exv_le hs 1; omega), gy _ (exv_le hs 1)]
      refine ⟨hL3.t5, h0 + 19, hL3.p5_6, c_exp hs rfl (v := 2) rfl (by omega) ⟨hL3.t19, ?_, ?_⟩⟩
      · rw [hL3.n19, ι_add]; exact ι_in (by have := exv_le hs 2; omega) (by omega)
      rw [ι_add, ι_cl (by have := exv_le hs 2; omega), g3 _ (exv_le hs 2)]
      refine ⟨p2, a + 2, p4, p6, by rw [p8]; exact ι_in (by omega) (by omega), ?_⟩
      rw [(p11 i (by omega)).2]
      simp (disch := omega) only [ι_lit, ι_of, ι_add, ι_mul, ι_lt, ι_le, ι_eq, ι_cl, ι_rem, ι_div, ι_vin, ι_ne1', ι_1ne', ι_1lt', ι_lt1', ι_1le', ι_le1', ι_sub', ι_sub, upN, upE, Nat.reduceEqDiff, ne_eq, not_true_eq_false, not_false_eq_true, false_imp_iff, true_imp_iff, true_and, and_true, imp_self, forall_eq, reduceIte, Nat.reduceMul, Nat.reduceAdd, Nat.reduceSub]
      exact ih (i + 1) (by omega)
  exact ⟨L.length + 1, key L.length 0 (by omega)⟩
theorem s_layPowers {p v x : Nat} {x1 x2 : Int32} {R : RS} {K : Int32 → RS → Prop} (hpp : PrP p) (hp : R 0 1 = ι p) (h1 : x1 = ι v) (hv : v < 3) (h2 : x2 = ι x) (hx : x < p) (h : ∀ R', Fr R R' [8] [] → (∀ k, k ≤ 40 → R' 8 (41 * v + k) = ι (pm p x k)) → (∀ k, k < 41 * v ∨ 41 * v + 40 < k → R' 8 k = R 8 k) → K 0 R') : wp_layPowers x1 x2 R K := by
  subst h1 h2
  have hle := hpp.le
  have key : ∀ (k i : Nat) (R1 : RS), i + k = 41 → Fr R R1 [8] [] → (∀ j, j < i → R1 8 (41 * v + j) = ι (pm p x j)) → (∀ j, j < 41 * v ∨ 41 * v + 40 < j → R1 8 j = R 8 j) → wl_layPowers_5 K (k + 1) (ι v) (ι x) (ι (pm p x i)) (ι i) R1 := by
    intro k
    induction k with
    | zero =>
      intro i R1 hi r1 r2 r3
      show wb_layPowers_5 _ _ _ _ _ _ _
      unfold wb_layPowers_5
      refine ⟨fun _ => h R1 r1 (fun k hk => r2 k (by omega)) r3, fun c => absurd ?_ c⟩
      simp (disch := omega) only [ι_lit, ι_of, ι_add, ι_mul, ι_lt, ι_le, ι_eq, ι_cl, ι_rem, ι_div, ι_vin, ι_ne1', ι_1ne', ι_1lt', ι_lt1', ι_1le', ι_le1', ι_sub', ι_sub, upN, upE, Nat.reduceEqDiff, ne_eq, not_true_eq_false, not_false_eq_true, false_imp_iff, true_imp_iff, true_and, and_true, imp_self, forall_eq, reduceIte, Nat.reduceMul, Nat.reduceAdd, Nat.reduceSub]
      omega
    | succ k ih =>
      intro i R1 hi r1 r2 r3
      have hp1 : R1 0 1 = ι p := (r1.2 1 (by simp)).trans hp
      have hpm := pm_lt (p := p) (v := x) (by omega) i
      have hm : pm p x i * x ≤ 13 * 13 := Nat.mul_le_mul (by omega) (by omega)
      show wb_layPowers_5 _ _ _ _ _ _ _
      unfold wb_layPowers_5
      refine ⟨fun c => absurd c ?_, fun _ => ⟨?_, ?_, ?_⟩⟩
      · simp (disch := omega) only [ι_lit, ι_of, ι_add, ι_mul, ι_lt, ι_le, ι_eq, ι_cl, ι_rem, ι_div, ι_vin, ι_ne1', ι_1ne', ι_1lt', ι_lt1', ι_1le', ι_le1', ι_sub', ι_sub, upN, upE, Nat.reduceEqDiff, ne_eq, not_true_eq_false, not_false_eq_true, false_imp_iff, true_imp_iff, true_and, and_true, imp_self, forall_eq, reduceIte, Nat.reduceMul, Nat.reduceAdd, Nat.reduceSub]
        omega
      · rw [show (41 : Int32) = ι 41 from rfl, ι_mul, ι_add]; exact ι_in (by omega) (by omega)
      · rw [upN (by omega), hp1]
        simp (disch := omega) only [ι_lit, ι_of, ι_add, ι_mul, ι_lt, ι_le, ι_eq, ι_cl, ι_rem, ι_div, ι_vin, ι_ne1', ι_1ne', ι_1lt', ι_lt1', ι_1le', ι_le1', ι_sub', ι_sub, upN, upE, Nat.reduceEqDiff, ne_eq, not_true_eq_false, not_false_eq_true, false_imp_iff, true_imp_iff, true_and, and_true, imp_self, forall_eq, reduceIte, Nat.reduceMul, Nat.reduceAdd, Nat.reduceSub]
        omega
      · rw [upN (by omega), hp1]
        simp (disch := omega) only [ι_lit, ι_of, ι_add, ι_mul, ι_lt, ι_le, ι_eq, ι_cl, ι_rem, ι_div, ι_vin, ι_ne1', ι_1ne', ι_1lt', ι_lt1', ι_1le', ι_le1', ι_sub', ι_sub, upN, upE, Nat.reduceEqDiff, ne_eq, not_true_eq_false, not_false_eq_true, false_imp_iff, true_imp_iff, true_and, and_true, imp_self, forall_eq, reduceIte, Nat.reduceMul, Nat.reduceAdd, Nat.reduceSub]
        refine ih (i + 1) _ (by omega) (r1.w (by simp) (by omega)) (fun j hj => ?_) (fun j hj => ?_)
        · rw [upE]
          by_cases q : j = i
          · rw [if_pos (by omega), q]
          · rw [if_neg (by omega)]; exact r2 j (by omega)
        · rw [upE, if_neg (by omega)]; exact r3 j hj
  unfold wp_layPowers
  exact ⟨42, key 41 0 R (by omega) (Fr.rf _ _ _) (fun j hj => by omega) (fun j _ => rfl)⟩
theorem s_valueOf {p s x y z : Nat} {x1 x2 x3 x4 : Int32} {L : Po} {R : RS} {K : Int32 → RS → Prop} (hpp : PrP p) (hp : R 0 1 = ι p) (hw : wf p L) (hl : Sl R s L) (h1 : x1 = ι s) (hs : s < 56) (h2 : x2 = ι x) (h3 : x3 = ι y) (h4 : x4 = ι z) (hx : x < p) (hy : y < p) (hz : z < p) (h : ∀ R', Fr R R' [8] [] → K (ι (vF p L x y z)) R') : wp_valueOf x1 x2 x3 x4 R K := by
  have hle := hpp.le
  have hl3 := hw.1
  unfold wp_valueOf
  refine s_layPowers (v := 0) hpp hp rfl (by omega) h2 hx (fun R1 r1 g1 o1 => ?_)
  have hp1 : R1 0 1 = ι p := (r1.2 1 (by simp)).trans hp
  refine s_layPowers (v := 1) hpp hp1 rfl (by omega) h3 hy (fun R2 r2 g2 o2 => ?_)
  have hp2 : R2 0 1 = ι p := (r2.2 1 (by simp)).trans hp1
  refine s_layPowers (v := 2) hpp hp2 rfl (by omega) h4 hz (fun R3 r3 g3 o3 => ?_)
  have hp3 : R3 0 1 = ι p := (r3.2 1 (by simp)).trans hp2
  have r13 := (r1.tr r2).tr r3
  have l3 : Sl R3 s L := hl.go hl3 (r13.fs [] (by simp)) (by simp)
  have gx : ∀ k, k ≤ 40 → R3 8 k = ι (pm p x k) := fun k hk => by
    rw [o3 k (by omega), o2 k (by omega)]
    have := g1 k hk
    rwa [Nat.mul_zero, Nat.zero_add] at this
  have gy : ∀ k, k ≤ 40 → R3 8 (41 + k) = ι (pm p y k) := fun k hk => by
    rw [o3 _ (by omega)]
    exact g2 k hk
  subst h1
  have key : ∀ (k i : Nat), i + k = L.length → wl_valueOf_25 K (k + 1) (ι s) (ι (sumTo i (fun j => vT p x y z (tm L j) % p))) (ι i) R3 := by
    intro k
    induction k with
    | zero =>
      intro i hi
      show wb_valueOf_25 _ _ _ _ _ _
      unfold wb_valueOf_25
      have hb : sumTo i (fun j => vT p x y z (tm L j) % p) ≤ i * 13 := sumTo_le (fun j hj => by have := Nat.mod_lt (vT p x y z (tm L j)) (show 0 < p by omega); omega)
      simp (disch := omega) only [ι_lit, ι_of, ι_add, ι_mul, ι_lt, ι_le, ι_eq, ι_cl, ι_rem, ι_div, ι_vin, ι_ne1', ι_1ne', ι_1lt', ι_lt1', ι_1le', ι_le1', ι_sub', ι_sub, upN, upE, Nat.reduceEqDiff, ne_eq, not_true_eq_false, not_false_eq_true, false_imp_iff, true_imp_iff, true_and, and_true, imp_self, forall_eq, reduceIte, Nat.reduceMul, Nat.reduceAdd, Nat.reduceSub, l3.1, hp3]
      refine ⟨fun _ => ⟨by omega, ?_⟩, fun c => absurd (by omega) c⟩
      rw [show i = L.length by omega, sumTo_mod]
      exact h R3 r13
    | succ k ih =>
      intro i hi
      have hsm := hw.sm (i := i) (by omega)
      have hn := hw.2.1 i (by omega)
      have hv := vT_le (x := x) (y := y) (z := z) hpp hn.2.2.2.2
      show wb_valueOf_25 _ _ _ _ _ _
      unfold wb_valueOf_25
      simp (disch := omega) only [ι_lit, ι_of, ι_add, ι_mul, ι_lt, ι_le, ι_eq, ι_cl, ι_rem, ι_div, ι_vin, ι_ne1', ι_1ne', ι_1lt', ι_lt1', ι_1le', ι_le1', ι_sub', ι_sub, upN, upE, Nat.reduceEqDiff, ne_eq, not_true_eq_false, not_false_eq_true, false_imp_iff, true_imp_iff, true_and, and_true, imp_self, forall_eq, reduceIte, Nat.reduceMul, Nat.reduceAdd, Nat.reduceSub, l3.1]
      refine ⟨fun c => absurd c (by omega), fun _ => ?_⟩
      refine s_keyAt rfl rfl hs (by omega) (s_numAt rfl rfl hs (by omega) ?_)
      have e3 := (l3.2 i (by omega)).1
      refine s_ex hsm e3 (v := 0) rfl (by omega) ⟨ι_in (by have := exv_le hsm 0; omega) (by omega), ?_⟩
      rw [ι_cl (by have := exv_le hsm 0; omega), gx _ (exv_le hsm 0)]
      refine s_ex hsm e3 (v := 1) rfl (by omega) ⟨by rw [ι_add]; exact ι_in (by have := exv_le hsm 1; omega) (by omega), ?_⟩
      rw [ι_add, ι_cl (by have := exv_le hsm 1; omega), gy _ (exv_le hsm 1)]
      refine s_ex hsm e3 (v := 2) rfl (by omega) ⟨by rw [ι_add]; exact ι_in (by have := exv_le hsm 2; omega) (by omega), ?_⟩
      rw [ι_add, ι_cl (by have := exv_le hsm 2; omega), show R3 8 (82 + exv (tm L i) 2) = ι (pm p z (exv (tm L i) 2)) from g3 _ (exv_le hsm 2), (l3.2 i (by omega)).2, hp3, ι_mul, ι_mul, ι_mul]
      rw [show (tm L i).n * pm p x (exv (tm L i) 0) * pm p y (exv (tm L i) 1) * pm p z (exv (tm L i) 2) = vT p x y z (tm L i) from rfl, ι_rem (by omega) (by omega), ι_add]
      refine ⟨?_, ih (i + 1) (by omega)⟩
      simp (disch := omega) only [ι_lit, ι_of, ι_add, ι_mul, ι_lt, ι_le, ι_eq, ι_cl, ι_rem, ι_div, ι_vin, ι_ne1', ι_1ne', ι_1lt', ι_lt1', ι_1le', ι_le1', ι_sub', ι_sub, upN, upE, Nat.reduceEqDiff, ne_eq, not_true_eq_false, not_false_eq_true, false_imp_iff, true_imp_iff, true_and, and_true, imp_self, forall_eq, reduceIte, Nat.reduceMul, Nat.reduceAdd, Nat.reduceSub]
      omega
  exact ⟨L.length + 1, key L.length 0 (by omega)⟩
/-- a point, or none -/
theorem c_isNumber {M : Nat × Nat} {h0 p : Nat} {y : Int32} {S : HS} {K : Int32 → HS → Prop} (hL : Lay h0 S) (hp : hI S (h0 + 5) 0 = ι p) (hp2 : p ≤ 13) (h1 : ∀ a, a < p → y = ι a → K 1 S) (h0' : (∀ a, a < p → ¬ y = ι a) → K 0 S) : wp_X9_isNumber M (h0 + 5) y S K := by
  unfold wp_X9_isNumber
  refine ⟨fun c => h0' (fun a ha e => absurd c (by rw [e]; exact ι_nn (by omega))), fun c => ⟨hL.t5, ?_⟩⟩
  obtain ⟨a, ha, rfl⟩ := ι_ex c
  rw [hp]
  simp (disch := omega) only [ι_lit, ι_of, ι_add, ι_mul, ι_lt, ι_le, ι_eq, ι_cl, ι_rem, ι_div, ι_vin, ι_ne1', ι_1ne', ι_1lt', ι_lt1', ι_1le', ι_le1', ι_sub', ι_sub, upN, upE, Nat.reduceEqDiff, ne_eq, not_true_eq_false, not_false_eq_true, false_imp_iff, true_imp_iff, true_and, and_true, imp_self, forall_eq, reduceIte, Nat.reduceMul, Nat.reduceAdd, Nat.reduceSub]
  refine ⟨fun c2 => h0' (fun b hb e => ?_), fun c2 => h1 a (by omega) rfl⟩
  rw [ι_eq (by omega) (by omega)] at e
  omega
theorem c_isPoint {M : Nat × Nat} {h0 p : Nat} {y1 y2 y3 : Int32} {S : HS} {K : Int32 → HS → Prop} (hL : Lay h0 S) (hp : hI S (h0 + 5) 0 = ι p) (hp2 : p ≤ 13) (h1 : ∀ a b c, a < p → b < p → c < p → y1 = ι a → y2 = ι b → y3 = ι c → K 1 S) (h0' : (∀ a b c, a < p → b < p → c < p → ¬ (y1 = ι a ∧ y2 = ι b ∧ y3 = ι c)) → K 0 S) : wp_X9_isPoint M (h0 + 5) y1 y2 y3 S K := by
  unfold wp_X9_isPoint
  refine ⟨hL.t5, c_isNumber hL hp hp2 (fun a ha e1 => ⟨fun c => absurd c (by decide), fun _ => ⟨hL.t5, c_isNumber hL hp hp2 (fun b hb e2 => ⟨fun c => absurd c (by decide), fun _ => ⟨hL.t5, c_isNumber hL hp hp2 (fun d hd e3 => ⟨fun c => absurd c (by decide), fun _ => h1 a b d ha hb hd e1 e2 e3⟩) (fun q => ⟨fun _ => h0' (fun a b c _ _ hc e => q c hc e.2.2), fun c => absurd rfl c⟩)⟩⟩) (fun q => ⟨fun _ => h0' (fun a b c _ hb _ e => q b hb e.2.1), fun c => absurd rfl c⟩)⟩⟩) (fun q => ⟨fun _ => h0' (fun a b c ha _ _ e => q a ha e.1), fun c => absurd rfl c⟩)⟩
theorem s_isPoint {p : Nat} {y1 y2 y3 : Int32} {R : RS} {K : Int32 → RS → Prop} (hp : R 0 1 = ι p) (hpp : PrP p) (h1 : ∀ a b c, a < p → b < p → c < p → y1 = ι a → y2 = ι b → y3 = ι c → K 1 R) (h0' : (∀ a b c, a < p → b < p → c < p → ¬ (y1 = ι a ∧ y2 = ι b ∧ y3 = ι c)) → K 0 R) : wp_isPoint y1 y2 y3 R K := by
  have hle := hpp.le
  have e : ι p - 1 = ι (p - 1) := by rw [show (1 : Int32) = ι 1 from rfl, ι_sub (by omega)]
  unfold wp_isPoint
  rw [hp, e]
  refine s_isInB (b := 0) (c := p - 1) rfl rfl (by omega) (by omega) (fun a _ ha e1 => ⟨fun c => absurd c (by decide), fun _ => ?_⟩) (fun q => ⟨fun _ => h0' (fun a b c ha _ _ e => q a (by omega) (by omega) e.1), fun c => absurd rfl c⟩)
  rw [hp, e]
  refine s_isInB (b := 0) (c := p - 1) rfl rfl (by omega) (by omega) (fun b _ hb e2 => ⟨fun c => absurd c (by decide), fun _ => ?_⟩) (fun q => ⟨fun _ => h0' (fun a b c _ hb _ e => q b (by omega) (by omega) e.2.1), fun c => absurd rfl c⟩)
  rw [hp, e]
  exact s_isInB (b := 0) (c := p - 1) rfl rfl (by omega) (by omega) (fun d _ hd e3 => ⟨fun c => absurd c (by decide), fun _ => h1 a b d (by omega) (by omega) (by omega) e1 e2 e3⟩) (fun q => ⟨fun _ => h0' (fun a b c _ _ hc e => q c (by omega) (by omega) e.2.2), fun c => absurd rfl c⟩)
/-- the reference's scratch -/
theorem RI.scr {R R' : RS} {g : Gh} {fs ks ts : List Nat} (h : RI R g) (hv : VI g) (hG : G0 R' g.1) (hr : Fr R R' fs ks) (hf : Fs R R' ts) (h1 : fs.all (fun f => rF.contains f) = true) (h2 : ks.all (fun f => rK.contains f) = true) (ht : ∀ t ∈ ts, 29 ≤ t) : RI R' g := h.go hv hG (hr.mo h1 h2) hf ht
theorem call_14 {h0 s0 n : Nat} {S : HS} {R : RS} (hn : n < 512) (y1 y2 y3 y4 : Int32) (v : Int64) (h : Inv h0 s0 n S R) : wq_14 (Mx h0 s0) h0 y1 y2 y3 y4 S R v (Inv h0 s0 (n + 1)) := by
  obtain ⟨⟨p, P, A, T, Tx, ft, Q, B⟩, hc, hv, hr⟩ := h
  have hL := hc.1
  have hroom := hc.room hn
  have hp5 := hc.2.2.1
  have hpp := hv.1
  have hle := hpp.le
  have hX0 := hc.2.1.1
  have hRp : R 0 1 = ι p := hr.1.1
  have fr : ∀ S'' x, Re S S'' → Inv h0 s0 (n + 1) S'' (up R 0 0 x) := fun S'' x r => ⟨_, hc.re r, hv, hr.code hv x⟩
  have rm : hX S + 1 ≤ (Mx h0 s0).1 ∧ hS S + 6 ≤ (Mx h0 s0).2 := ⟨by show hX S + 1 ≤ h0 + 601024; omega, by show hS S + 6 ≤ s0 + 7293034; omega⟩
  refine ⟨hL.t0, ?_⟩
  unfold wp_X11_value
  refine ⟨hL.t0, c_polyAt hL hc.2.2.2.1 rm.1 rm.2 (fun k a hk e ka pa => ⟨hL.t0, h0 + 5, hL.p0_2, hL.t5, ?_⟩) (fun hne => Or.inl ⟨rfl, fun S'' re => ?_⟩)⟩
  · refine c_isPoint hL hp5 (by omega) (fun x y z hx hy hz e1 e2 e3 => ⟨fun _ => ⟨hL.t0, h0 + 5, hL.p0_2, a, rfl, hL.t5, ?_⟩, fun c => absurd c (by decide)⟩) (fun hne => ⟨fun c => absurd rfl c, fun _ => ⟨Or.inr ⟨rfl, fun S'' re => ?_⟩, rm⟩⟩)
    · refine c_valueAt hL hX0 hpp hp5 (hv.2.1 k hk) ka pa e1 e2 e3 hx hy hz (fun S' e4 x4 s4 => ?_)
      unfold wp_value
      refine s_isPlace (fun k' hk' e' => ⟨fun _ => ?_, fun c => absurd c (by decide)⟩) (fun hne => absurd e (hne k hk))
      refine s_isPoint hRp hpp (fun x' y' z' _ _ _ _ _ _ => ⟨fun _ => ?_, fun c => absurd c (by decide)⟩) (fun hne => absurd ⟨e1, e2, e3⟩ (hne x y z hx hy hz))
      unfold w_value_28
      rw [upE, if_pos rfl]
      refine ⟨fun _ => ?_, fun c => absurd (by decide) c⟩
      have hr0 := hr.code hv 0
      refine s_valueOf hpp (by rw [upE, if_neg (by omega)]; exact hRp) (hv.2.1 k hk) (hr0.2.1 k hk) e (by omega) e1 e2 e3 hx hy hz (fun R' r' => ⟨?_, fun _ => rfl, ?_⟩)
      · rw [r'.2 0 (by simp), upE, if_pos rfl]
      · exact ⟨_, hc.scr (e4.mo W19.z (fun _ _ c => c)) (hc.2.1.tp e4 x4) (by omega) (by omega), hv, hr0.scr (ts := []) hv (hr0.1.fr r' (by simp) (by simp) (by simp) (by simp)) r' (r'.fs [] (by simp)) (by decide) (by decide) (by simp)⟩
    · unfold wp_value
      refine s_isPlace (fun k' hk' e' => ⟨fun _ => ?_, fun c => absurd c (by decide)⟩) (fun hne => absurd e (hne k hk))
      refine s_isPoint hRp hpp (fun x y z hx hy hz e1 e2 e3 => absurd ⟨e1, e2, e3⟩ (hne x y z hx hy hz)) (fun _ => ⟨fun c => absurd rfl c, fun _ => ?_⟩)
      unfold w_value_28
      rw [upE, if_pos rfl]
      exact ⟨fun c => absurd c (by decide), fun _ => ⟨by rw [upE, if_pos rfl], fun c => absurd c (by decide), fr S'' 2 re⟩⟩
  · unfold wp_value
    refine s_isPlace (fun k hk e => absurd e (hne k hk)) (fun _ => ⟨fun c => absurd rfl c, fun _ => ?_⟩)
    unfold w_value_28
    rw [upE, if_pos rfl]
    exact ⟨fun c => absurd c (by decide), fun _ => ⟨by rw [upE, if_pos rfl], fun c => absurd c (by decide), fr S'' 1 re⟩⟩
