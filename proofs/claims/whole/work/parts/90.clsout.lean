/-! A line taken out as often as it goes in; a polynomial laid out. -/
section TKO
variable {M : Nat × Nat} {S S1 : HS} {K : Int32 → HS → Prop} {h0 X0 S0 p q a b c d X Y Z : Nat} {D : Nat → Nat} {F : N3}
/-- where Factors keeps what a division leaves alone -/
def Kp (h0 : Nat) (S S' : HS) : Prop := ∀ x, x = h0 + 25 ∨ x = h0 + 26 ∨ x = h0 + 46 ∨ (h0 + 27 ≤ x ∧ x ≤ h0 + 38) → ∀ k, hI S' x k = hI S x k ∧ hP S' x k = hP S x k
theorem c_takeOut (h60 : h0 + 60 ≤ hX S) (ft : FT h0 X0 S0 S S1 X Y Z) (fa : FA h0 S1 p D X Y Z F) (hln : Ln p a b c d) (hq : LnAt S1 q a b c d) (hqo : Qo h0 S1 q) (r1 : X0 + 2 ≤ M.1) (r2 : S0 + 2000000 ≤ M.2)
    (h : ∀ n S2 D' F', n ≤ 40 → FT h0 X0 S0 S S2 X Y Z → FA h0 S2 p D' X Y Z F' → LnAt S2 q a b c d → Qo h0 S2 q → Al (p : Int) (nz3 F) (lmn (lv a b c d) n (nz3 F')) → ¬ Dv (p : Int) (lv a b c d) (nz3 F') → D' 0 + D' 1 + D' 2 + n ≤ D 0 + D 1 + D 2 → Kp h0 S1 S2 → K (ι n) S2) : wp_X2_takeOut M (h0 + 25) q S1 K := by
  have hl2 := led_le (a := a) (b := b)
  have hp := fa.1.2.2.2.2.2.2.le
  have d40 : D (led a b) ≤ 40 := fa.2.2.1.1 _ hl2
  have loop : ∀ k t S2 D' F', D' (led a b) = k → D' (led a b) + t = D (led a b) → FT h0 X0 S0 S S2 X Y Z → FA h0 S2 p D' X Y Z F' → LnAt S2 q a b c d → Qo h0 S2 q → Al (p : Int) (nz3 F) (lmn (lv a b c d) t (nz3 F')) → D' 0 + D' 1 + D' 2 + t ≤ D 0 + D 1 + D 2 → Kp h0 S1 S2 → wl_X2_takeOut_2 M K (k + 1) (h0 + 25) q (ι t) S2 := by
    intro k
    induction k with
    | zero =>
      intro t S2 D' F' hk ht ft2 fa2 hq2 hqo2 al sm kp
      show wb_X2_takeOut_2 _ _ _ _ _ _ _
      unfold wb_X2_takeOut_2
      rw [show (40 : Int32) = ι 40 from rfl, ι_lt (by omega) (by omega)]
      refine ⟨fun w => absurd w (by omega), fun _ => ⟨fa2.1.1.t25, c_divide h60 ft2 fa2 hln hq2 hqo2 r1 r2 (fun S3 ft3 fa3 hq3 hqo3 cg al3 kp3 => ?_) (fun S3 ft3 fa3 hq3 hqo3 nd kp3 => ⟨fun _ => ?_, fun w => absurd rfl w⟩)⟩⟩
      · unfold cgo at cg; omega
      · exact h t S3 D' F' (by omega) ft3 fa3 hq3 hqo3 al nd sm (fun x hx k => ⟨(kp3 x hx k).1.trans (kp x hx k).1, (kp3 x hx k).2.trans (kp x hx k).2⟩)
    | succ k ih =>
      intro t S2 D' F' hk ht ft2 fa2 hq2 hqo2 al sm kp
      show wb_X2_takeOut_2 _ _ _ _ _ _ _
      unfold wb_X2_takeOut_2
      rw [show (40 : Int32) = ι 40 from rfl, ι_lt (by omega) (by omega)]
      refine ⟨fun w => absurd w (by omega), fun _ => ⟨fa2.1.1.t25, c_divide h60 ft2 fa2 hln hq2 hqo2 r1 r2 (fun S3 ft3 fa3 hq3 hqo3 cg al3 kp3 => ⟨fun w => absurd w (by decide), fun _ => ?_⟩) (fun S3 ft3 fa3 hq3 hqo3 nd kp3 => ⟨fun _ => ?_, fun w => absurd rfl w⟩)⟩⟩
      · rw [show (1 : Int32) = ι 1 from rfl, ι_add]
        have dl : dcD D' a b c (led a b) = D' (led a b) - 1 := by unfold dcD; rw [if_pos rfl]
        have dle : ∀ v, dcD D' a b c v ≤ D' v := fun v => by unfold dcD; omega
        refine ih (t + 1) S3 (dcD D' a b c) (dvF p a b c d D' F') (by omega) (by omega) ft3 fa3 hq3 hqo3 ?_ ?_ (fun x hx k => ⟨(kp3 x hx k).1.trans (kp x hx k).1, (kp3 x hx k).2.trans (kp x hx k).2⟩)
        · have := al.tr (al3.lmn (L := lv a b c d) t)
          rw [← lmn_com] at this
          exact this
        · have e0 := dle 0
          have e1 := dle 1
          have e2 := dle 2
          have h3 : led a b = 0 ∨ led a b = 1 ∨ led a b = 2 := by omega
          rcases h3 with g | g | g <;> rw [g] at dl hk <;> omega
      · exact h t S3 D' F' (by omega) ft3 fa3 hq3 hqo3 al nd sm (fun x hx k => ⟨(kp3 x hx k).1.trans (kp x hx k).1, (kp3 x hx k).2.trans (kp x hx k).2⟩)
  exact ⟨D (led a b) + 1, loop _ 0 S1 D F rfl (by omega) ft fa hq hqo Al.rf (by omega) (fun _ _ _ => ⟨rfl, rfl⟩)⟩
end TKO
/-- degrees of a polynomial, 0 of none -/
def dgL (L : Po) (v : Nat) : Nat := mA L v - 1
theorem mR_id {A : Po} : mR (fun t => t) A A.length = cf A := by
  funext x y z
  have := sumTo_rev A.length (fun i => if isAt (tm A i) x y z then (tm A i).n else 0)
  exact this
theorem sp_cf {p : Nat} {L : Po} (hpp : PrP p) (hw : wf p L) : Sp3 p (dgL L) (cf L) := by
  have hp := hpp.le
  refine ⟨fun v _ => by have := mA_le (v := v) hw; unfold dgL; omega, fun x y z => ⟨cf_lt (by omega) hw x y z, fun k => cf_none (fun i hi w => ?_)⟩⟩
  have u0 : (tm L i).x + 1 ≤ mA L 0 := mA_tm (v := 0) hi
  have u1 : (tm L i).y + 1 ≤ mA L 1 := mA_tm (v := 1) hi
  have u2 : (tm L i).z + 1 ≤ mA L 2 := mA_tm (v := 2) hi
  unfold dgL at k
  obtain ⟨w1, w2, w3⟩ := w
  omega
def Wla (h0 b _k : Nat) : Prop := b = h0 + 25 ∨ b = h0 + 45
section LAYO
variable {M : Nat × Nat} {S : HS} {K : Int32 → HS → Prop} {h0 X0 S0 p a : Nat} {L : Po}
theorem c_layOutF (hL : Lay h0 S) (h60 : h0 + 60 ≤ hX S) (fs : FS h0 X0 S0 S S) (hpp : PrP p) (hw : wf p L) (ka : Ka h0 a) (pa : PolyAt S a L) (r1 : X0 + 2 ≤ M.1) (r2 : S0 + 2000000 ≤ M.2)
    (h : ∀ S2, FS h0 (X0 + 1) S0 S S2 → FL h0 S2 p (dgL L) (dgL L 0) (dgL L 1) (dgL L 2) → Bo h0 S2 39 (dgL L 0) (dgL L 1) (dgL L 2) (cf L) → K 0 S2) : wp_X2_layOut M (h0 + 25) a (ι p) S K := by
  have hp := hpp.le
  have rd := pa.rd hw
  have hb := fs.2.2.1
  have b39 := hb.1.2.2.1
  have p39 := b39.2.2.2.2.1
  have rm := fs.2.2.2.2.2.room hb
  have sa := rs_ka ka pa hb
  have hmv : ∀ v, dgL L v ≤ 40 := fun v => by have := mA_le (v := v) hw; unfold dgL; omega
  have rdg : ∀ S1, Ext S S1 (Wla h0) V0 → Rd S1 a L := fun S1 e => rd.go e (fun k => by
    have n1 := sa.n (o := 45) (by omega)
    have k25 : a ≠ h0 + 25 ∧ a + 1 ≠ h0 + 25 ∧ a + 2 ≠ h0 + 25 := by unfold Ka at ka; omega
    unfold Wla
    exact ⟨by omega, by omega, by omega, fun c => c⟩)
  unfold wp_X2_layOut
  -- the degrees
  have stp : ∀ (v : Nat), v < 3 → ∀ (m : Nat) (S1 : HS), Ext S S1 (Wla h0) V0 → wl_X2_layOut_7 M K m (h0 + 25) a (ι (v + 1)) (sI S1 (h0 + 45) v (ι (dgL L v))) → wl_X2_layOut_7 M K (m + 1) (h0 + 25) a (ι v) S1 := by
    intro v hv m S1 e1 hh
    have L1 := hL.go h60 e1 (fun _ _ c => c)
    have r := rdg S1 e1
    show wb_X2_layOut_7 _ _ _ _ _ _ _
    unfold wb_X2_layOut_7
    rw [show (3 : Int32) = ι 3 from rfl, ι_le (by omega) (by omega), show (1 : Int32) = ι 1 from rfl, ι_add]
    exact ⟨fun w => absurd w (by omega), fun _ => ⟨L1.t25, h0 + 45, L1.p25_8, r.2.1, c_roomIn hw r rfl hv ⟨L1.t45, by rw [L1.n45]; exact ι_in (by omega) (by omega), by rw [ι_cl (by omega)]; exact hh⟩⟩⟩
  have ee0 : Ext S (sI S (h0 + 25) 10 (ι p)) (Wla h0) V0 := (Ext.rf S _ _).sI (Or.inl rfl)
  refine ⟨hL.t25, 4, stp 0 (by omega) 3 _ ee0 (stp 1 (by omega) 2 _ (ee0.sI (Or.inr rfl)) (stp 2 (by omega) 1 _ ((ee0.sI (Or.inr rfl)).sI (Or.inr rfl)) ?_))⟩
  generalize hS1 : sI (sI (sI (sI S (h0 + 25) 10 (ι p)) (h0 + 45) 0 (ι (dgL L 0))) (h0 + 45) 1 (ι (dgL L 1))) (h0 + 45) 2 (ι (dgL L 2)) = S1
  have e1 : Ext S S1 (Wla h0) V0 := by rw [← hS1]; exact ((ee0.sI (Or.inr rfl)).sI (Or.inr rfl)).sI (Or.inr rfl)
  have x1 : hX S1 = hX S := by rw [← hS1]; rfl
  have y1 : hS S1 = hS S := by rw [← hS1]; rfl
  have L1 := hL.go h60 e1 (fun _ _ c => c)
  have p10 : hI S1 (h0 + 25) 10 = ι p := by rw [← hS1, sI_ne (by omega), sI_ne (by omega), sI_ne (by omega), sI_eq, if_pos rfl]
  have dv : ∀ v, v ≤ 2 → hI S1 (h0 + 45) v = ι (dgL L v) := fun v hv => by
    rw [← hS1, sI_eq, sI_eq, sI_eq]
    have : v = 0 ∨ v = 1 ∨ v = 2 := by omega
    rcases this with rfl | rfl | rfl
    · rw [if_neg (by omega), if_neg (by omega), if_pos rfl]
    · rw [if_neg (by omega), if_pos rfl]
    · rw [if_pos rfl]
  have fs1 : FS h0 X0 S0 S S1 := fs.scr h60 e1 (fun b k w => by unfold Wla at w; unfold Wy; omega) x1 y1
  have hb1 := fs1.2.2.1
  have p391 := hb1.1.2.2.1.2.2.2.2.1
  have hus := usd_le (hmv 0) (hmv 1) (hmv 2)
  show wb_X2_layOut_7 _ _ _ _ _ _ _
  unfold wb_X2_layOut_7
  refine ⟨fun _ => ⟨L1.t25, h0 + 39, L1.p25_6, L1.t25, h0 + 45, L1.p25_8, L1.t45, by rw [L1.n45]; exact ι_in (a := 0) (by omega) (by omega), L1.t25, h0 + 45, L1.p25_8, L1.t45, by rw [L1.n45]; exact ι_in (a := 1) (by omega) (by omega), L1.t25, h0 + 45, L1.p25_8, L1.t45, by rw [L1.n45]; exact ι_in (a := 2) (by omega) (by omega), L1.t39, c_open (o := 39) (X := dgL L 0) (Y := dgL L 1) (Z := dgL L 2) (dv 0 (by omega)) (dv 1 (by omega)) (dv 2 (by omega)) (by have := hmv 0; omega) (by have := hmv 1; omega) (by have := hmv 2; omega) (by omega) L1.t39 L1.p39_2 L1.t41 L1.n41 hb1.1.2.2.1 (by omega) (by omega) (by omega) (by omega) (by omega) (fun S2 op => ⟨L.length + 1, ?_⟩)⟩, fun w => absurd (by decide) w⟩
  have h61 : h0 + 60 ≤ hX S1 := by omega
  have fs2 := fs1.open9 h60 op hus
  have hb2 := fs2.2.2.1
  have e2 := op.1
  have h62 : h0 + 60 ≤ hX S2 := by have := e2.1; omega
  have L2 := fs2.lay hL h60
  have rd1 := rdg S1 e1
  have sa1 : Rs h0 S1 a := sa.go h60 e1 (fun o ho => Or.inl ((e1.2.2.1 _ (by omega)).2.2.2 0 (fun c => c)))
  have rd2 := op.rd (by omega) sa1 rd1
  have sa2 := op.rs h61 sa1
  have c3 := sa2.b (o := 39) (by omega)
  have b2p := hb2.1.2.2.1.2.2.2.2.1
  have fl2 : FL h0 S2 p (dgL L) (dgL L 0) (dgL L 1) (dgL L 2) := ⟨L2, h62, hb2, by rw [(e2.2.2.1 (h0 + 25) (by omega)).2.2.1 10 (by unfold Wo; omega)]; exact p10, fun v hv => ⟨by rw [(e2.2.2.1 (h0 + 45) (by omega)).2.2.1 v (by unfold Wo; omega)]; exact dv v hv, by
    have : v = 0 ∨ v = 1 ∨ v = 2 := by omega
    rcases this with rfl | rfl | rfl <;> exact Nat.le_refl _⟩, ⟨hmv 0, hmv 1, hmv 2⟩, hpp⟩
  have hin : ∀ i, i < L.length → (rt L i).x ≤ dgL L 0 ∧ (rt L i).y ≤ dgL L 1 ∧ (rt L i).z ≤ dgL L 2 := fun i hi => by
    have u0 : (rt L i).x + 1 ≤ mA L 0 := mA_rt (v := 0) hi
    have u1 : (rt L i).y + 1 ≤ mA L 1 := mA_rt (v := 1) hi
    have u2 : (rt L i).z + 1 ≤ mA L 2 := mA_rt (v := 2) hi
    unfold dgL; omega
  have hnew : ∀ i, i < L.length → mR (fun t => t) L i (rt L i).x (rt L i).y (rt L i).z = 0 := fun i hi => sumTo_zero (fun j hj => if_neg (fun w => by
    have := k6_fall hw hj hi
    have e2 : k6 (rt L j) = k6 (rt L i) := k6_eq w
    unfold rt at e2
    omega))
  have key : ∀ (k i : Nat) (S3 : HS), i + k = L.length → Ext S2 S3 (Wc (bxC h0 S2 39)) V0 → hX S3 = hX S2 → hS S3 = hS S2 → Bo h0 S3 39 (dgL L 0) (dgL L 1) (dgL L 2) (mR (fun t => t) L i) → wl_X2_layOut_56 M K (k + 1) (h0 + 25) a (ι i) S3 := by
    intro k
    induction k with
    | zero =>
      intro i S3 hi e3 x3 y3 bo3
      obtain ⟨-, q2, q3, q4, q5, q6, q7, q8, q7', q8', q9, q11⟩ := rd2.go e3 (fun k => ⟨c3.1, c3.2.1, c3.2.2, fun c => c⟩)
      have hi' : i = L.length := by omega
      subst hi'
      rw [mR_id] at bo3
      show wb_X2_layOut_56 _ _ _ _ _ _ _
      unfold wb_X2_layOut_56
      rw [q9]
      exact ⟨q2, fun _ => h S3 (fs2.scr h60 e3 (fun b k w => by unfold Wc at w; unfold Wy; omega) x3 y3) (fl2.go (Or.inl rfl) e3) bo3, fun w => absurd (by rw [ι_le (by omega) (by omega)]; omega) w⟩
    | succ k ih =>
      intro i S3 hi e3 x3 y3 bo3
      obtain ⟨-, q2, q3, q4, q5, q6, q7, q8, q7', q8', q9, q11⟩ := rd2.go e3 (fun k => ⟨c3.1, c3.2.1, c3.2.2, fun c => c⟩)
      have L3 := L2.go h62 e3 (fun _ _ c => c)
      have c39 : bxC h0 S3 39 = bxC h0 S2 39 := bxC.go ((e3.2.2.1 _ (by omega)).2.2.2 0 (fun c => c))
      have b3 := hb2.1.2.2.1.go e3 ((e3.2.2.1 _ (by omega)).2.2.2 0 (fun c => c))
      have hsm := rt_sm hw (i := i) (by omega)
      have hi3 := hin i (by omega)
      have hlt := cx_lt hi3.1 hi3.2.1 hi3.2.2
      have hun := bo3.2.2.2.1
      have hN9 := b3.2.2.2.1
      show wb_X2_layOut_56 _ _ _ _ _ _ _
      unfold wb_X2_layOut_56
      rw [q9]
      refine ⟨q2, fun w => absurd w (by rw [ι_le (by omega) (by omega)]; omega), fun _ => ⟨L3.t25, h0 + 39, L3.p25_6, L3.t39, bxC h0 S3 39, b3.1, L3.t25, h0 + 39, L3.p25_6, q2, a + 1, q3, q5, ι_in (by omega) (by omega), L3.t39, ?_⟩⟩
      rw [ι_cl (by omega), (q11 i (by omega)).1]
      refine c_cellOf (t := rt L i) bo3 L3.t39 L3.p39_2 L3.t41 L3.n41 hsm rfl ⟨q2, a + 2, q4, q6, ι_in (by omega) (by omega), b3.2.2.1, ι_in (by omega) (by omega), ?_⟩
      rw [ι_cl (by omega), (q11 i (by omega)).2, show (1 : Int32) = ι 1 from rfl, ι_add]
      refine ih (i + 1) _ (by omega) (e3.sI c39) x3 y3 ?_
      rw [← mR_set, hnew i (by omega), Nat.zero_add]
      exact bo3.set (by rw [c39]; omega) hi3.1 hi3.2.1 hi3.2.2
  exact key L.length 0 S2 (by omega) (Ext.rf _ _ _) rfl rfl op.2.1
end LAYO
/-- A line that goes in: the values are 0 on it -/
theorem dv_van {p a b c d : Nat} {L : Po} (hpp : PrP p) (hw : wf p L) (h : Dv (p : Int) (lv a b c d) (nz3 (cf L))) : van p a b c d (vF p L) := by
  intro x y z hx hy hz on
  obtain ⟨N, Q, hs, hA⟩ := h
  have hp := hpp.le
  have hA : Al (p : Int) (cz L) (lm ((a : Int), (b : Int), (c : Int), (d : Int)) Q) := hA
  have sQ : Su (p : Int) (N + 41) Q := hs.mo (by omega)
  have e1 := ev_al (N := N + 41 + 1) (w := w3 p x y z) hA
  have e2 := ev_lm (a := (a : Int)) (b := (b : Int)) (c := (c : Int)) (d := (d : Int)) sQ (w3_x (p := p) (x := x) (y := y) (z := z)) w3_y w3_z
  have e3 : (p : Int) ∣ ((a : Int) * x + (b : Int) * y + (c : Int) * z + (d : Int)) * ev (N + 41 + 1) Q (w3 p x y z) := by
    refine Int.dvd_mul_of_dvd_left ?_
    have : (p : Int) ∣ ((a * x + b * y + c * z + d : Nat) : Int) := Int.natCast_dvd_natCast.2 (Nat.dvd_of_mod_eq_zero on)
    simpa [Int.natCast_add, Int.natCast_mul] using this
  rw [ev_vS hw (by omega)] at e1
  have e4 : (p : Int) ∣ ((vS p L x y z : Nat) : Int) := by
    have := Int.dvd_add (Int.dvd_add e1 e2) e3
    rw [show ∀ A B C : Int, (A - B) + (B - C) + C = A from fun A B C => by omega] at this
    exact this
  exact Nat.mod_eq_zero_of_dvd (Int.natCast_dvd_natCast.1 e4)
section FSE
variable {h0 X0 S0 X1 Y1 : Nat} {S S1 S2 : HS} {g : Gh}
theorem FS.start (hc : CIr h0 X0 S0 S g) : FS h0 X0 S0 S S := by
  obtain ⟨p, P, A, T, Tx, ft, Q, B⟩ := g
  obtain ⟨c1, c2, c3, c4, c5, c6, c7, c8, c9, c10, c11, c12⟩ := hc
  exact ⟨Ext.rf S _ _, c2.2.2.2.2, c10, fun o _ => Or.inl rfl, c11.1, c12⟩
theorem FS.pk (fs : FS h0 X0 S0 S S1) (hb : CBx h0 S) : PK h0 S S1 := PK.of fs.1 (fun a L ka pa => ka_wk ka pa hb)
theorem FS.cir (hc : CIr h0 X0 S0 S g) (fs : FS h0 X1 Y1 S S2) (cf : CFc h0 S2 g.1) : CIr h0 X1 Y1 S2 g := by
  obtain ⟨p, P, A, T, Tx, ft, Q, B⟩ := g
  obtain ⟨c1, c2, c3, c4, c5, c6, c7, c8, c9, c10, c11, c12⟩ := hc
  have pk := fs.pk c10
  have h60 := c2.1
  obtain ⟨e, tp, bx, bp, st, rr⟩ := fs
  have b12 := c10.1.1.2.2.2.2.1
  have b15 := c10.1.2.1.2.2.2.2.1
  have b42 := c10.1.2.2.2.2.2.2.2.1
  have b39 := c10.1.2.2.1.2.2.2.2.1
  have nI : ∀ b k, b < hX S → ¬ Wk h0 S b k → hI S2 b k = hI S b k := fun b k hb w => (e.2.2.1 b hb).2.2.1 k w
  have nP : ∀ b k, b < hX S → ¬ Vk h0 b k → hP S2 b k = hP S b k := fun b k hb w => (e.2.2.1 b hb).2.2.2 k w
  refine ⟨c1.go h60 e vk_ptr, c2.go e pk tp, by rw [nI _ _ (by omega) (by unfold Wk; omega)]; exact c3, c4.go pk (fun k hk => nP _ _ (by omega) (by unfold Vk; omega)), c5.go pk (fun k => nI _ _ (by omega) (by unfold Wk; omega)) (fun k => nI _ _ (by omega) (by unfold Wk; omega)) (fun k => nP _ _ (by omega) (by unfold Vk; omega)), c6.go (nI _ _ (by omega) (by unfold Wk; omega)) (fun i => nI _ _ (by omega) (by unfold Wk; omega)), c7.go (nI _ _ (by omega) (by unfold Wk; omega)) (fun i => nI _ _ (by omega) (by unfold Wk; omega)), by rw [nI _ _ (by omega) (by unfold Wk; omega)]; exact c8, c9.go2 pk e (nP _ _ (by omega) (by unfold Vk; omega)) bp (fun g hg s1 s2 s3 s4 f k hf => ?_), bx, cf, rr⟩
  unfold Wk Vk
  omega
/-- the pointer to what was found -/
theorem FS.sp {r : Option Nat} (fs : FS h0 X0 S0 S S1) (h60 : h0 + 60 ≤ hX S) : FS h0 X0 S0 S (sP S1 (h0 + 25) 11 r) := by
  obtain ⟨e, tp, bx, bp, st, rr⟩ := fs
  have e1 : Ext S1 (sP S1 (h0 + 25) 11 r) (fun _ _ => False) (fun b k => b = h0 + 25 ∧ k = 11) := (Ext.rf S1 _ _).sP ⟨rfl, rfl⟩
  have h61 : h0 + 60 ≤ hX S1 := by have := e.1; omega
  have ho : ∀ o, o = 12 ∨ o = 15 ∨ o = 39 ∨ o = 42 → hP (sP S1 (h0 + 25) 11 r) (h0 + o) 0 = hP S1 (h0 + o) 0 := fun o ho => by rw [sP_ne (by omega)]
  refine ⟨e.tr2 e1 (fun b k hb w => absurd w (fun c => c)) (fun b k hb w => Or.inr w), tp_same tp h61 e1 rfl, bx.go e1 ho, fun o ho2 => ?_, st, ?_⟩
  · rw [ho o ho2, bxC.go (ho o ho2)]; exact bp o ho2
  · have := rr.go (a := 0) (b := 0) e1 bx ho (by rw [sP_X]; omega) (by rw [sP_S]; omega)
    exact this
theorem FL.sp {p X Y Z : Nat} {D : Nat → Nat} {r : Option Nat} (h : FL h0 S p D X Y Z) : FL h0 (sP S (h0 + 25) 11 r) p D X Y Z := by
  obtain ⟨a1, a2, a3, a4, a5, a6, a7⟩ := h
  have e1 : Ext S (sP S (h0 + 25) 11 r) (fun _ _ => False) (fun b k => b = h0 + 25 ∧ k = 11) := (Ext.rf S _ _).sP ⟨rfl, rfl⟩
  exact ⟨a1.go a2 e1 (fun q hq => by have := vk_ptr (h0 := h0) q hq; unfold Vk at this; omega), a2, a3.go e1 (fun o ho => by rw [sP_ne (by omega)]), a4, a5, a6, a7⟩
theorem Bo.sp {X Y Z : Nat} {F : N3} {r : Option Nat} (h : Bo h0 S 39 X Y Z F) : Bo h0 (sP S (h0 + 25) 11 r) 39 X Y Z F := by
  have e : bxC h0 (sP S (h0 + 25) 11 r) 39 = bxC h0 S 39 := bxC.go (by rw [sP_ne (by omega)])
  obtain ⟨o1, o2, o3, o4, o5, o6⟩ := h
  exact ⟨o1, o2, o3, by rw [e]; exact o4, o5, by rw [e]; exact o6⟩
theorem Qo.sp {q : Nat} {r : Option Nat} (h : Qo h0 S q) : Qo h0 (sP S (h0 + 25) 11 r) q := by
  have e : ∀ o, o = 39 ∨ o = 42 → bxC h0 (sP S (h0 + 25) 11 r) o = bxC h0 S o := fun o ho => bxC.go (by rw [sP_ne (by omega)])
  obtain ⟨h1, h2, h3, h4⟩ := h
  exact ⟨h1, h2, by rw [e 39 (by omega)]; exact h3, by rw [e 42 (by omega)]; exact h4⟩
end FSE
section TIM
variable {M : Nat × Nat} {S : HS} {K : Int32 → HS → Prop} {h0 X0 S0 p a q α β γ δ : Nat} {L : Po} {g : Gh}
theorem c_timesOf (hc : CIr h0 X0 S0 S g) (hpp : PrP g.1) (hw : wf g.1 L) (hL : L ≠ []) (ka : Ka h0 a) (pa : PolyAt S a L) (hln : Ln g.1 α β γ δ) (hq : LnAt S q α β γ δ) (hqo : Qo h0 S q) (q55 : h0 + 55 ≤ q) (qb : q ≠ bxC h0 S 12 ∧ q ≠ bxC h0 S 15) (r1 : X0 + 3 ≤ M.1) (r2 : S0 + 2000000 ≤ M.2)
    (h : ∀ n S2, CIr h0 (X0 + 2) S0 S2 g → n ≤ 40 → Cn (g.1 : Int) (lv α β γ δ) n (nz3 (cf L)) → K (ι n) S2) : wp_X2_timesOf M (h0 + 25) a (ι g.1) q S K := by
  have fs := FS.start hc
  have hLy := hc.bs hpp
  have h60 := hLy.2.1.1
  have hp := hpp.le
  unfold wp_X2_timesOf
  refine ⟨hLy.1.t25, c_layOutF hLy.1 h60 fs hpp hw ka pa (by omega) r2 (fun S2 fs2 fl2 bo2 => ?_)⟩
  have qw : ∀ k, ¬ Wk h0 S q k := fun k => by
    have := hqo.2.2
    unfold Wk; omega
  have hq2 := hq.go hqo.1 fs2.1 qw
  have hqo2 := hqo.go h60 fs2.1 (fun o ho => fs2.bx (by omega))
  refine ⟨fl2.1.t25, fl2.1.t25, c_takeOut h60 (Or.inl (fs2.sp h60)) ⟨fl2.sp, bo2.sp, sp_cf hpp hw, cf_nn hw hL⟩ hln (show LnAt _ q α β γ δ from hq2) hqo2.sp (by omega) r2 (fun n S3 D' F' hn ft3 fa3 hq3 hqo3 al nd sm kp => ?_)⟩
  have fs3 : FS h0 (X0 + 2) S0 S S3 := ft3.fs
  refine h n S3 (fs3.cir hc ⟨fs3.2.2.2.2.1, Or.inl ?_⟩) hn ?_
  · rw [(kp (h0 + 25) (Or.inl rfl) 11).2, sP_eq, if_pos rfl]
  · have := (Cn.lmk hpp.pq (hln.nz (by omega)) fa3.2.2.1.bd.su (k := 0) n).mpr (Cn.no fa3.2.2.1.bd.su nd)
    rw [Nat.zero_add] at this
    exact this.al al.sy
end TIM
