/-! All factors, the rest; factor. -/
theorem CIr.re {h0 X0 S0 : Nat} {S S' : HS} {g : Gh} (h : CIr h0 X0 S0 S g) (r : Re S S') : CIr h0 (X0 + 1) (S0 + 6) S' g := by
  have ct : CTop h0 S := by obtain ⟨p, P, A, T, Tx, ft, Q, B⟩ := g; exact h.2.1
  obtain ⟨e1, e2, e3, e4, r1, r2, r3, r4⟩ := r
  have he : Ext S S' (Wz h0 S) V0 := ⟨r1, r3, fun b _ => ⟨by rw [e3], by rw [e4], fun _ _ => by rw [e1], fun _ _ => by rw [e2]⟩, fun q b hb => by rw [e3]; exact q b (by omega)⟩
  refine h.scr (a := 1) (b := 6) he ?_ (by omega) (by omega)
  have h60 := ct.1
  unfold Tp
  rw [e3]
  by_cases c : hX S' = hX S
  · rw [c]; exact ct.2.2.2.2
  · rw [show hX S' = hX S + 1 by omega]
    exact ⟨by rw [ct.2.1 _ (by omega)]; omega, by rw [show hX S + 1 - 2 = hX S - 1 by omega]; exact ct.2.2.2.2.1⟩
section INA
variable {M : Nat × Nat} {S : HS} {h0 X0 S0 p : Nat} {L : Po} {g : Gh}
theorem c_inAll {K : Int32 → HS → Prop} (hL : Lay h0 S) (n : Nat) (f : Nat → Nat) (hn : n ≤ 120) (hs : hI S (h0 + 25) 1 = ι n) (hr : ∀ i, i < n → hI S (h0 + 26) (5 * i + 4) = ι (f i)) (h : K (ι (sumTo n f)) S) : wp_X2_inAll M (h0 + 25) S K := by
  have loop : ∀ r i, i + r = n → wl_X2_inAll_4 M K (r + 1) (h0 + 25) (ι (sumTo i f)) (ι i) S := by
    intro r
    induction r with
    | zero =>
      intro i hi
      show wb_X2_inAll_4 _ _ _ _ _ _ _
      unfold wb_X2_inAll_4
      rw [hs, ι_le (by omega) (by omega)]
      rw [show i = n by omega]
      exact ⟨hL.t25, fun _ => h, fun w => absurd (by omega) w⟩
    | succ r ih =>
      intro i hi
      show wb_X2_inAll_4 _ _ _ _ _ _ _
      unfold wb_X2_inAll_4
      rw [hs, ι_le (by omega) (by omega), show (5 : Int32) = ι 5 from rfl, show (4 : Int32) = ι 4 from rfl, show (1 : Int32) = ι 1 from rfl, ι_mul, ι_add, ι_add, ι_cl (by omega), show i * 5 + 4 = 5 * i + 4 by omega]
      refine ⟨hL.t25, fun w => absurd w (by omega), fun _ => ⟨hL.t25, h0 + 26, hL.p25_0, hL.t26, by rw [hL.n26]; exact ι_in (by omega) (by omega), fun v2 e2 => ?_⟩⟩
      rw [e2, hr i (by omega), ι_add]
      exact ih (i + 1) (by omega)
  exact ⟨n + 1, loop n 0 (by omega)⟩
theorem c_rest {K : Option Nat → HS → Prop} (hc : CIr h0 X0 S0 S g) (hpp : PrP g.1) (hL : L ≠ []) (fc : FcR g.1 L (hI S (h0 + 25)) (hI S (h0 + 26)) (hI S (h0 + 41)) (hI S (h0 + 39) 1) (hI S (bxC h0 S 39)) (hN S (bxC h0 S 39))) (r1 : X0 + 3 ≤ M.1) (r2 : S0 + 2000000 ≤ M.2) (h : ∀ F, Bd g.1 F → RoK g.1 L (lns g.1) F → MkO h0 3 604 S (cn g.1 F) K) : wp_X2_rest M (h0 + 25) S K := by
  have bs := hc.bs hpp
  have rm := hc.room
  have hp := hpp.le
  obtain ⟨f1, -, f3⟩ := fc
  obtain ⟨-, -, -, X, Y, Z, u, F, x4, y4, z4, uu, bd, rk, o1, o2, o3, o4, o6, oz⟩ := f3 hL
  have hm := h F bd rk
  obtain ⟨hLy, ht, hb, hp5, -⟩ := id bs
  have us := usd_le x4 y4 z4
  have bo : Bu h0 S 39 X Y Z u F := ⟨o1, o2, o3, o4, by omega, o6⟩
  have hF : bF g.1 X Y Z F = F := by
    funext x y z
    unfold bF
    split
    · exact Nat.mod_eq_of_lt (bd x y z).1
    · exact (oz x y z (by omega)).symm
  have hBD : BD h0 S 39 30 := ⟨hLy.t39, hLy.p39_2, hLy.t41, hLy.n41, hb.1.2.2.1, DL.d30 hLy, by omega, by omega, ht.1⟩
  unfold wp_X2_rest
  refine ⟨hLy.t25, h0 + 39, hLy.p25_6, hLy.t25, h0 + 30, hLy.p25_3, hLy.t25, hLy.t39, c_readU bo uu.1 uu.2 (fun c h1 h2 => by rw [oz _ _ _ (Or.inr (Or.inr (Or.inr (by rw [d_cx]; exact h1)))), Nat.zero_mod]) hBD (fun x y z => by have := (bd x y z).1; omega) (by omega) (by omega) hpp f1 (fun S1 D ov e1 x1 s1 d1 y1 n1 => ?_)⟩
  rw [hF] at y1 n1
  have e1z : Ext S S1 (Wz h0 S) V0 := e1.mo (W3.z (Or.inr (Or.inr rfl))) (fun _ _ c => c)
  have bs1 := bs.go e1z x1
  have g1 := Go.scr hb ht e1z x1 s1
  refine ⟨bs1.1.t25, h0 + 30, bs1.1.p25_3, bs1.1.t30, ?_⟩
  cases ov with
  | false =>
    refine c_keptD bs1 (Or.inr rfl) d1 (by omega) (by omega) (fun S2 b g2 ka pa => ?_)
    exact (hm S2 ((g1.tr g2).mo (by omega) (by omega))).1 b _ (cn_some (y1 rfl)) ka pa
  | true =>
    refine c_keptN bs1.1 bs1.2.1.1 (Or.inr rfl) d1 (by omega) (by omega) ?_
    exact (hm S1 (g1.mo (by omega) (by omega))).2 (cn_none (n1 rfl))
end INA
/-! factor. -/
theorem fcs_ri {R R' : RS} {g : Gh} {s : Nat} {L : Po} {p : Nat} (hr : RI R g) (hv : VI g) (h : FcS R R' p s L) : RI R' g ∧ R' 0 0 = R 0 0 := by
  have fr := h.1
  exact ⟨hr.scr (ts := []) hv (hr.1.fr fr (by decide) (by decide) (by decide) (by decide)) fr (fr.fs [] (by decide)) (by decide) (by decide) (by simp), fr.2 0 (by decide)⟩
theorem call_17 {h0 s0 n : Nat} {S : HS} {R : RS} (hn : n < 512) (y1 y2 y3 : Int32) (v : Int64) (h : Inv h0 s0 n S R) : wq_17 (Mx h0 s0) h0 y1 y2 y3 S R v (Inv h0 s0 (n + 1)) := by
  obtain ⟨⟨p, P, A, T, Tx, ft, Q, B⟩, hc, hv, hr⟩ := h
  have hL := hc.1
  have hroom := hc.room hn
  have hp5 := hc.2.2.1
  have hpp := hv.1
  have hle := hpp.le
  obtain ⟨p3, p4⟩ := p3_le hpp
  have hr0 := hr.code hv 0
  have hRp : (up R 0 0 0) 0 1 = ι p := hr0.1.1
  have fr : ∀ S'' x, Re S S'' → Inv h0 s0 (n + 1) S'' (up (up R 0 0 0) 0 0 x) := fun S'' x r => ⟨_, hc.re r, hv, hr0.code hv x⟩
  have rm : hX S + 1 ≤ (Mx h0 s0).1 ∧ hS S + 6 ≤ (Mx h0 s0).2 := ⟨by show hX S + 1 ≤ h0 + 601024; omega, by show hS S + 6 ≤ s0 + 7293034; omega⟩
  have f34 : ∀ S'', Re S S'' → w_factor_34 (fun q R1 => wp_thrown R1 (fun t R2 => t = 1 ∧ ((1 : Int32) = 0 → v = Int32.toInt64 q) ∧ Inv h0 s0 (n + 1) S'' R2)) (up R 0 0 0) := fun S'' re => by
    refine ⟨?_, fun c => absurd c (by decide), fr S'' 1 re⟩
    rw [upE, if_pos rfl]
  refine ⟨hL.t0, ?_⟩
  unfold wp_X11_factor
  refine ⟨hL.t0, c_polyAt hL hc.2.2.2.1 rm.1 rm.2 (fun k a hk e1 ka pa => ⟨fun g2 => ⟨⟨rfl, fun S'' re => ?_⟩, rm⟩, fun g2 => ⟨fun g3 => ⟨⟨rfl, fun S'' re => ?_⟩, rm⟩, fun g3 => ⟨fun g4 => ?_, fun g4 => ⟨⟨rfl, fun S'' re => ?_⟩, rm⟩⟩⟩⟩) (fun hne => ⟨rfl, fun S'' re => ?_⟩)⟩
  · unfold wp_factor
    exact s_isPlace (fun _ _ _ => ⟨fun c => absurd c (by decide), fun _ => ⟨fun _ => f34 S'' re, fun c => absurd g2 c⟩⟩) (fun hne => absurd e1 (hne k hk))
  · unfold wp_factor
    exact s_isPlace (fun _ _ _ => ⟨fun c => absurd c (by decide), fun _ => ⟨fun c => absurd c g2, fun _ => s_isInB (b := 0) (c := 4) rfl rfl (by omega) (by omega) (fun w _ hw e => by rw [e] at g3; exact absurd g3 (ι_nn (by omega))) (fun _ => ⟨fun _ => f34 S'' re, fun c => absurd rfl c⟩)⟩⟩) (fun hne => absurd e1 (hne k hk))
  · -- what is asked is there
    obtain ⟨w, hw31, rfl⟩ := ι_ex g3
    rw [show (5 : Int32) = ι 5 from rfl, ι_lt hw31 (by omega)] at g4
    obtain ⟨left, hl31, rfl⟩ := ι_ex g2
    subst e1
    have wL := hv.2.1 k hk
    have sl := hr0.2.1 k hk
    have w300 := wL.1
    -- the reference
    have ref : ∀ (K : Int32 → RS → Prop), (P k = [] → w_factor_34 K (up R 0 0 0)) → (P k ≠ [] → (∀ R', RI R' (p, P, A, T, Tx, ft, Q, B) ∧ R' 0 0 = 0 → fck p (P k) (lns p) 0 left = none → wp_fail 1 R' (fun r1 R1 => K r1 R1)) ∧ ∀ R' j, RI R' (p, P, A, T, Tx, ft, Q, B) ∧ R' 0 0 = 0 → j < lns p → fck p (P k) (lns p) 0 left = some j → K (ι (lnV p (P k) j w (mk3 p (P k) j))) R') → wp_factor (ι k) (ι left) (ι w) R K := fun K k0 k1 => by
      unfold wp_factor
      refine s_isPlace (fun _ _ _ => ⟨fun c => absurd c (by decide), fun _ => ⟨fun c => absurd c g2, fun _ => ?_⟩⟩) (fun hne => absurd rfl (hne k hk))
      refine s_isInB (b := 0) (c := 4) rfl rfl (by omega) (by omega) (fun _ _ _ _ => ⟨fun c => absurd c (by decide), fun _ => ⟨ι_in (by omega) (by omega), ?_⟩⟩) (fun hne => absurd rfl (hne w (by omega) (by omega)))
      have lk : (up R 0 0 0) 2 k = ι (P k).length := sl.1
      rw [ι_cl (by omega), lk, show (0 : Int32) = ι 0 from rfl, ι_eq (by omega) (by omega), ← show (0 : Int32) = ι 0 from rfl]
      refine ⟨fun z => ?_, fun z => k0 (List.length_eq_zero_iff.mp z)⟩
      have hLn : P k ≠ [] := fun c => z (by rw [c]; rfl)
      refine FcS.st hpp hRp (by omega) wL sl (fun R1 f1 => s_lines f1.2.1 ⟨_, s_factorL hpp (by omega) wL hLn hl31 (by omega) f1 (fun R' f' e => ?_) (fun R' j f' hj e => ?_)⟩)
      · exact (k1 hLn).1 R' (by have := fcs_ri hr0 hv f'; rw [upE, if_pos rfl] at this; exact this) e
      · exact (k1 hLn).2 R' j (by have := fcs_ri hr0 hv f'; rw [upE, if_pos rfl] at this; exact this) hj e
    refine ⟨hL.t0, h0 + 25, hL.p0_4, a, rfl, hL.t0, h0 + 5, hL.p0_2, hL.t5, hL.t25, ?_⟩
    rw [hp5]
    refine c_find (g := (p, P, A, T, Tx, ft, Q, B)) hc.r hpp wL ka pa ?_ ?_ (fun S2 hc2 pa2 fc => ?_)
    · show h0 + 200 + 1000 * n + 3 ≤ h0 + 601024; omega
    · show s0 + 1400000 + 7400 * n - tpR T + 2000000 ≤ s0 + 7293034; omega
    have tpl : tpR T ≤ 7400 := by unfold tpR; split <;> omega
    have hc2 : CIr h0 (h0 + 200 + 1000 * n + 2) (s0 + 1400000 + 7400 * n - tpR T) S2 (p, P, A, T, Tx, ft, Q, B) := hc2
    have ci2 : CI h0 s0 (n + 1) S2 (p, P, A, T, Tx, ft, Q, B) := hc2.ci (by omega) (by show _ + tpR T ≤ _; omega)
    have rm2 := hc2.room
    have L2 := ci2.1
    have fc : FcR p (P k) (hI S2 (h0 + 25)) (hI S2 (h0 + 26)) (hI S2 (h0 + 41)) (hI S2 (h0 + 39) 1) (hI S2 (bxC h0 S2 39)) (hN S2 (bxC h0 S2 39)) := fc
    refine ⟨L2.t0, h0 + 25, L2.p0_4, L2.t25, ?_⟩
    have no : (∀ R', RI R' (p, P, A, T, Tx, ft, Q, B) → R' 0 0 = 0 → ∀ S'', Re S2 S'' → wp_fail 1 R' (fun q R1 => wp_thrown R1 (fun t R2 => t = 1 ∧ ((1 : Int32) = 0 → v = Int32.toInt64 q) ∧ Inv h0 s0 (n + 1) S'' R2))) := fun R' hR _ S'' re => by
      refine ⟨by rw [upE, if_pos rfl], fun c => absurd c (by decide), ⟨_, (hc2.re re).ci (by omega) (by show _ + tpR T ≤ _; omega), hv, hR.code hv 1⟩⟩
    have rmm : hX S2 + 1 ≤ (Mx h0 s0).1 ∧ hS S2 + 6 ≤ (Mx h0 s0).2 := ⟨by show hX S2 + 1 ≤ h0 + 601024; omega, by show hS S2 + 6 ≤ s0 + 7293034; omega⟩
    by_cases hLn : P k = []
    · rw [fc.2.1 hLn, ι_lt (by omega) (by omega)]
      exact ⟨fun c => absurd c (by omega), fun _ => ⟨⟨rfl, fun S'' re => ref _ (fun _ => no _ hr0 (by rw [upE, if_pos rfl]) S'' re) (fun z => absurd hLn z)⟩, rmm⟩⟩
    · obtain ⟨f1, f2, f3, -⟩ := fc.2.2 hLn
      have ff := fck_fl (p := p) (L := P k) (left := left)
      rw [f1, ι_lt (by omega) (by omega)]
      refine ⟨fun lt => ⟨L2.t0, h0 + 25, L2.p0_4, L2.t25, h0 + 26, L2.p25_0, L2.t26, ?_⟩, fun ge => ⟨⟨rfl, fun S'' re => ref _ (fun z => absurd z hLn) (fun _ => ⟨fun R' hR e => no R' hR.1 hR.2 S'' re, fun R' j hR hj e => ?_⟩)⟩, rmm⟩⟩
      · rw [show (5 : Int32) = ι 5 from rfl, ι_mul, ι_add, L2.n26, show left * 5 + w = 5 * left + w by omega, ι_cl (by omega), f2 left lt w (by omega)]
        refine ⟨ι_in (by omega) (by omega), ref _ (fun z => absurd z hLn) (fun _ => ⟨fun R' hR e => ?_, fun R' j hR hj e => ?_⟩)⟩
        · rw [ff, List.getElem?_eq_getElem lt] at e; cases e
        · rw [ff] at e
          have ej : (flS p (P k) (lns p)).getD left 0 = j := by rw [List.getD_eq_getElem?_getD, e]; rfl
          rw [ej]
          exact ⟨hR.2, fun _ => rfl, ⟨_, ci2, hv, hR.1⟩⟩
      · rw [ff, List.getElem?_eq_none (by omega)] at e; cases e
  · unfold wp_factor
    refine s_isPlace (fun _ _ _ => ⟨fun c => absurd c (by decide), fun _ => ⟨fun c => absurd c g2, fun _ => s_isInB (b := 0) (c := 4) rfl rfl (by omega) (by omega) (fun w _ hw e => ?_) (fun _ => ⟨fun _ => f34 S'' re, fun c => absurd rfl c⟩)⟩⟩) (fun hne => absurd e1 (hne k hk))
    rw [e, show (5 : Int32) = ι 5 from rfl, ι_lt (by omega) (by omega)] at g4
    omega
  · unfold wp_factor
    exact s_isPlace (fun k hk e => absurd e (hne k hk)) (fun _ => ⟨fun _ => f34 S'' re, fun c => absurd rfl c⟩)
/-! of. -/
theorem call_11 {h0 s0 n : Nat} {S : HS} {R : RS} (hn : n < 512) (y1 y2 : Int32) (v : Int64) (h : Inv h0 s0 n S R) : wq_11 (Mx h0 s0) h0 y1 y2 S R v (Inv h0 s0 (n + 1)) := by
  obtain ⟨⟨p, P, A, T, Tx, ft, Q, B⟩, hc, hv, hr⟩ := h
  have hL := hc.1
  have hroom := hc.room hn
  have hp5 := hc.2.2.1
  have hpp := hv.1
  have hle := hpp.le
  have hX0 := hc.2.1.1
  obtain ⟨p3, p4⟩ := p3_le hpp
  have hr0 := hr.code hv 0
  have hRp : (up R 0 0 0) 0 1 = ι p := hr0.1.1
  have u00 : (up R 0 0 0) 0 0 = 0 := by rw [upE, if_pos rfl]
  have fr : ∀ S'' x, Re S S'' → Inv h0 s0 (n + 1) S'' (up (up R 0 0 0) 0 0 x) := fun S'' x r => ⟨_, hc.re r, hv, hr0.code hv x⟩
  have rm : hX S + 1 ≤ (Mx h0 s0).1 ∧ hS S + 6 ≤ (Mx h0 s0).2 := ⟨by show hX S + 1 ≤ h0 + 601024; omega, by show hS S + 6 ≤ s0 + 7293034; omega⟩
  have fail : ∀ S'', Re S S'' → wp_fail 1 (up R 0 0 0) (fun q R1 => wp_thrown R1 (fun t R2 => t = 1 ∧ ((1 : Int32) = 0 → v = Int32.toInt64 q) ∧ Inv h0 s0 (n + 1) S'' R2)) := fun S'' re => ⟨by rw [upE, if_pos rfl], fun c => absurd c (by decide), fr S'' 1 re⟩
  have cnx : Inv h0 s0 (n + 1) S (up R 0 0 0) := ⟨_, hc.next, hv, hr0⟩
  refine ⟨hL.t0, ?_⟩
  unfold wp_X11_of
  refine ⟨hL.t0, c_polyAt hL hc.2.2.2.1 rm.1 rm.2 (fun k a hk e1 ka pa => ?_) (fun hne => ⟨rfl, fun S'' re => ?_⟩)⟩
  rotate_left
  · unfold wp_of
    exact s_isPlace (fun k hk e => absurd e (hne k hk)) (fun _ => ⟨fun c => absurd rfl c, fun _ => fail S'' re⟩)
  have wL := hv.2.1 k hk
  have sl := hr0.2.1 k hk
  have w300 := wL.1
  have rd := pa.rd wL
  subst e1
  -- one what after the other
  have ref : ∀ (w : Nat) (K : Int32 → RS → Prop), w ≤ 8 → y2 = ι w → ((w = 0 → K (ι (P k).length) (up R 0 0 0)) ∧ (w = 1 → wp_degreeOf (ι k) (up R 0 0 0) (fun r3 R3 => K r3 R3)) ∧ (w = 2 ∨ w = 3 ∨ w = 4 → wp_degreeIn (ι k) (ι (w - 2)) (up R 0 0 0) (fun r4 R4 => K r4 R4)) ∧ (w = 5 → wp_zeros (ι k) (up R 0 0 0) (fun r7 R7 => K r7 R7)) ∧ (w = 6 → wp_factors (ι k) (ι 0) (up R 0 0 0) (fun r1 R1 => K r1 R1)) ∧ (w = 7 → wp_factors (ι k) (ι 1) (up R 0 0 0) (fun r1 R1 => K r1 R1)) ∧ (w = 8 → wp_isOfOneDegree (ι k) (up R 0 0 0) (fun r8 R8 => (r8 = 0 → K 0 R8) ∧ (¬ (r8 = 0) → K 1 R8)))) → wp_of (ι k) y2 R K := by
    intro w K hw e hh
    subst e
    unfold wp_of
    refine s_isPlace (fun _ _ _ => ⟨fun _ => ?_, fun c => absurd c (by decide)⟩) (fun hne => absurd rfl (hne k hk))
    have lk : (up R 0 0 0) 2 k = ι (P k).length := sl.1
    obtain ⟨k0, k1, k2, k5, k6, k7, k8⟩ := hh
    rw [ι_int (by omega)]
    have q : ∀ (m : Nat), m ≤ 8 → ((@OfNat.ofNat Int32 m Int32.instOfNat) = ι m) := fun m _ => rfl
    refine ⟨fun c => absurd c (by omega), fun z => ?_, fun z => ?_, fun z => ?_, fun z => ?_, fun z => ?_, fun z => ?_, fun z => ?_, fun z => ?_, fun z => ?_⟩
    · rw [show (0 : Int32) = ι 0 from rfl, ι_eq (by omega) (by omega)] at z
      exact ⟨ι_in (by omega) (by omega), by rw [ι_cl (by omega), lk]; exact k0 z⟩
    · rw [show (1 : Int32) = ι 1 from rfl, ι_eq (by omega) (by omega)] at z; exact k1 z
    · rw [show (2 : Int32) = ι 2 from rfl, ι_eq (by omega) (by omega)] at z
      rw [show (2 : Int32) = ι 2 from rfl, ι_sub (by omega)]; exact k2 (by omega)
    · rw [show (3 : Int32) = ι 3 from rfl, ι_eq (by omega) (by omega)] at z
      rw [show (2 : Int32) = ι 2 from rfl, ι_sub (by omega)]; exact k2 (by omega)
    · rw [show (4 : Int32) = ι 4 from rfl, ι_eq (by omega) (by omega)] at z
      rw [show (2 : Int32) = ι 2 from rfl, ι_sub (by omega)]; exact k2 (by omega)
    · rw [show (5 : Int32) = ι 5 from rfl, ι_eq (by omega) (by omega)] at z; exact k5 z
    · rw [show (6 : Int32) = ι 6 from rfl, ι_eq (by omega) (by omega)] at z
      exact ⟨fun _ => k6 z, fun c => by rw [z] at c; exact absurd c (by decide)⟩
    · rw [show (7 : Int32) = ι 7 from rfl, ι_eq (by omega) (by omega)] at z
      exact ⟨fun c => by rw [z] at c; exact absurd rfl c, fun _ => k7 z⟩
    · rw [show (8 : Int32) = ι 8 from rfl, ι_eq (by omega) (by omega)] at z; exact k8 z
  have find : ∀ (K : Int32 → HS → Prop), (∀ S2, CI h0 s0 (n + 1) S2 (p, P, A, T, Tx, ft, Q, B) → FcR p (P k) (hI S2 (h0 + 25)) (hI S2 (h0 + 26)) (hI S2 (h0 + 41)) (hI S2 (h0 + 39) 1) (hI S2 (bxC h0 S2 39)) (hN S2 (bxC h0 S2 39)) → K 0 S2) → wp_X2_find (Mx h0 s0) (h0 + 25) a (hI S (h0 + 5) 0) S K := fun K hK => by
    rw [hp5]
    have tpl : tpR T ≤ 7400 := by unfold tpR; split <;> omega
    refine c_find (g := (p, P, A, T, Tx, ft, Q, B)) hc.r hpp wL ka pa ?_ ?_ (fun S2 hc2 pa2 fc => hK S2 ?_ fc)
    · show h0 + 200 + 1000 * n + 3 ≤ h0 + 601024; omega
    · show s0 + 1400000 + 7400 * n - tpR T + 2000000 ≤ s0 + 7293034; omega
    · have hc2 : CIr h0 (h0 + 200 + 1000 * n + 2) (s0 + 1400000 + 7400 * n - tpR T) S2 (p, P, A, T, Tx, ft, Q, B) := hc2
      exact hc2.ci (by omega) (by show _ + tpR T ≤ _; omega)
  have facts : ∀ (all : Nat) (K : Int32 → RS → Prop) (r : Nat) (S2 : HS), all ≤ 1 → CI h0 s0 (n + 1) S2 (p, P, A, T, Tx, ft, Q, B) → (P k = [] → r = 0) → (P k ≠ [] → r = fcN p (P k) all) → (∀ R', RI R' (p, P, A, T, Tx, ft, Q, B) → R' 0 0 = 0 → K (ι r) R') → wp_factors (ι k) (ι all) (up R 0 0 0) K := fun all K r S2 hall hc2 hr1 hr2 hK => by
    refine s_factors hpp hRp (by omega) wL sl hall (fun z => ?_) (fun R' z f => ?_)
    · have := hK _ hr0 u00; rw [hr1 z] at this; exact this
    · have ri := fcs_ri hr0 hv f
      rw [← hr2 z]; exact hK R' ri.1 (by rw [ri.2]; exact u00)
  have deg : ∀ w, w = 2 ∨ w = 3 ∨ w = 4 → y2 = ι w → wp_X6_degreeIn (Mx h0 s0) a (y2 - 2) S (fun r6 S6 => wp_of (ι k) y2 R (fun q R1 => wp_thrown R1 (fun t R2 => t = 0 ∧ ((0 : Int32) = 0 → Int32.toInt64 r6 = Int32.toInt64 q) ∧ Inv h0 s0 (n + 1) S6 R2))) := fun w hw e => by
    have ey : y2 - 2 = ι (w - 2) := by rw [e, show (2 : Int32) = ι 2 from rfl, ι_sub (by omega)]
    refine c_degR wL rd ey (by omega) (ref w _ (by omega) e ⟨fun c => by omega, fun c => by omega, fun _ => s_degreeIn rfl rfl (by omega) (by omega) wL sl ⟨u00, fun _ => rfl, cnx⟩, fun c => by omega, fun c => by omega, fun c => by omega, fun c => by omega⟩)
  refine ⟨fun z => ⟨⟨rfl, fun S'' re => ?_⟩, rm⟩, fun z => ⟨a, rfl, pa.2.1, ?_⟩, fun z => ⟨a, rfl, pa.2.1, ?_⟩, fun z => ⟨a, rfl, pa.2.1, deg 2 (by omega) z⟩, fun z => ⟨a, rfl, pa.2.1, deg 3 (by omega) z⟩, fun z => ⟨a, rfl, pa.2.1, deg 4 (by omega) z⟩, fun z => ?_, fun z => ?_, fun z => ?_, fun z => ⟨a, rfl, pa.2.1, ?_⟩⟩
  · unfold wp_of
    exact s_isPlace (fun _ _ _ => ⟨fun _ => ⟨fun _ => fail S'' re, fun c => by rw [c] at z; exact absurd z (by decide), fun c => by rw [c] at z; exact absurd z (by decide), fun c => by rw [c] at z; exact absurd z (by decide), fun c => by rw [c] at z; exact absurd z (by decide), fun c => by rw [c] at z; exact absurd z (by decide), fun c => by rw [c] at z; exact absurd z (by decide), fun c => by rw [c] at z; exact absurd z (by decide), fun c => by rw [c] at z; exact absurd z (by decide), fun c => by rw [c] at z; exact absurd z (by decide)⟩, fun c => absurd c (by decide)⟩) (fun hne => absurd rfl (hne k hk))
  · rw [pa.2.2.2.2.2.2.2.2.1]
    exact ref 0 _ (by omega) z ⟨fun _ => ⟨u00, fun _ => rfl, cnx⟩, fun c => by omega, fun c => by omega, fun c => by omega, fun c => by omega, fun c => by omega, fun c => by omega⟩
  · exact c_degree wL rd (ref 1 _ (by omega) z ⟨fun c => by omega, fun _ => s_degreeOf rfl (by omega) wL sl ⟨u00, fun _ => rfl, cnx⟩, fun c => by omega, fun c => by omega, fun c => by omega, fun c => by omega, fun c => by omega⟩)
  · -- zeros
    have pz : PolyAt S (h0 + 1) [] := hc.2.1.2.2.1
    have hb := hc.2.2.2.2.2.2.2.2.2.1
    have sa := rs_ka ka pa hb
    have n22 := sa.n (o := 22) (by omega)
    have n23 := sa.n (o := 23) (by omega)
    have n24 := sa.n (o := 24) (by omega)
    refine ⟨hL.t0, h0 + 22, hL.p0_3, a, rfl, hL.t0, h0 + 1, hL.p0_0, hL.t0, h0 + 5, hL.p0_2, hL.t5, hL.t22, ?_⟩
    rw [hp5]
    refine c_load hpp (PtL.q22 hL hX0) wL (wf_nil p) rd (pz.rd (wf_nil p)) (fun j hj => by
      have : j = 0 ∨ j = 1 ∨ j = 2 := by omega
      rcases this with rfl | rfl | rfl <;> omega) (fun j hj => by omega) rfl (fun S2 ld => ?_)
    have e2 := ld.1
    have L2 := hL.go hX0 e2 (fun _ _ c => c)
    refine ⟨L2.t0, h0 + 22, L2.p0_3, L2.t22, c_zeros hpp ld ?_⟩
    refine ref 5 _ (by omega) z ⟨fun c => by omega, fun c => by omega, fun c => by omega, fun _ => s_zeros hpp hRp wL sl (by omega) (fun R' r' => ⟨?_, fun _ => rfl, ⟨_, hc.scr (e2.mo (fun b k w => by unfold Wq at w; unfold Wz; omega) (fun _ _ c => c)) (hc.2.1.tp e2 ld.2.1) (by have := ld.2.1; omega) (by have := ld.2.2.1; omega), hv, hr0.fr8 hv r'⟩⟩), fun c => by omega, fun c => by omega, fun c => by omega⟩
    rw [r'.2 0 (by simp)]; exact u00
  · -- factors
    refine ⟨hL.t0, h0 + 25, hL.p0_4, a, rfl, hL.t0, h0 + 5, hL.p0_2, hL.t5, hL.t25, find _ (fun S2 c2 fc => ⟨c2.1.t0, h0 + 25, c2.1.p0_4, c2.1.t25, ?_⟩)⟩
    by_cases hLn : P k = []
    · rw [fc.2.1 hLn]
      exact ref 6 _ (by omega) z ⟨fun c => by omega, fun c => by omega, fun c => by omega, fun c => by omega, fun _ => facts 0 _ 0 S2 (by omega) c2 (fun _ => rfl) (fun w => absurd hLn w) (fun R' hR h00 => ⟨h00, fun _ => rfl, ⟨_, c2, hv, hR⟩⟩), fun c => by omega, fun c => by omega⟩
    · rw [(fc.2.2 hLn).1]
      exact ref 6 _ (by omega) z ⟨fun c => by omega, fun c => by omega, fun c => by omega, fun c => by omega, fun _ => facts 0 _ _ S2 (by omega) c2 (fun w => absurd w hLn) (fun _ => fcN_0.symm) (fun R' hR h00 => ⟨h00, fun _ => rfl, ⟨_, c2, hv, hR⟩⟩), fun c => by omega, fun c => by omega⟩
  · -- all of them
    refine ⟨hL.t0, h0 + 25, hL.p0_4, a, rfl, hL.t0, h0 + 5, hL.p0_2, hL.t5, hL.t25, find _ (fun S2 c2 fc => ⟨c2.1.t0, h0 + 25, c2.1.p0_4, c2.1.t25, ?_⟩)⟩
    by_cases hLn : P k = []
    · refine c_inAll c2.1 0 (fun _ => 0) (by omega) (fc.2.1 hLn) (fun i hi => absurd hi (by omega)) ?_
      exact ref 7 _ (by omega) z ⟨fun c => by omega, fun c => by omega, fun c => by omega, fun c => by omega, fun c => by omega, fun _ => facts 1 _ 0 S2 (by omega) c2 (fun _ => rfl) (fun w => absurd hLn w) (fun R' hR h00 => ⟨h00, fun _ => rfl, ⟨_, c2, hv, hR⟩⟩), fun c => by omega⟩
    · obtain ⟨f1, f2, f3, -⟩ := fc.2.2 hLn
      refine c_inAll c2.1 _ (fun i => mk3 p (P k) ((flS p (P k) (lns p)).getD i 0)) f3 f1 (fun i hi => f2 i hi 4 (by omega)) ?_
      exact ref 7 _ (by omega) z ⟨fun c => by omega, fun c => by omega, fun c => by omega, fun c => by omega, fun c => by omega, fun _ => facts 1 _ _ S2 (by omega) c2 (fun w => absurd w hLn) (fun _ => fcN_1.symm) (fun R' hR h00 => ⟨h00, fun _ => rfl, ⟨_, c2, hv, hR⟩⟩), fun c => by omega⟩
  · -- one degree
    refine c_oneDegree wL rd (fun g => ⟨fun c => absurd c (by decide), fun _ => ?_⟩) (fun g => ⟨fun _ => ?_, fun c => absurd rfl c⟩)
    · exact ref 8 _ (by omega) z ⟨fun c => by omega, fun c => by omega, fun c => by omega, fun c => by omega, fun c => by omega, fun c => by omega, fun _ => s_oneDegree rfl (by omega) wL sl ⟨fun _ => ⟨fun c => absurd c (by decide), fun _ => ⟨u00, fun _ => rfl, cnx⟩⟩, fun w => absurd g w⟩⟩
    · exact ref 8 _ (by omega) z ⟨fun c => by omega, fun c => by omega, fun c => by omega, fun c => by omega, fun c => by omega, fun c => by omega, fun _ => s_oneDegree rfl (by omega) wL sl ⟨fun w => absurd w g, fun _ => ⟨fun _ => ⟨u00, fun _ => rfl, cnx⟩, fun c => absurd rfl c⟩⟩⟩
