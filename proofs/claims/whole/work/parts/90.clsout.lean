/-! A line taken out as often as it goes in; a polynomial laid out. -/
theorem c_leastIn {M : Nat × Nat} {a p v : Nat} {y : Int32} {L : Po} {S : HS} {K : Int32 → HS → Prop} (hw : wf p L) (pa : Rd S a L) (hy : y = ι v) (hv : v < 3) (h : K (ι (lsL L v)) S) : wp_X6_leastIn M a y S K := by
  subst hy
  have hle := hw.1
  obtain ⟨p1, p2, p3, p4, p5, p6, p7, p8, p7', p8', p9, p11⟩ := pa
  have key : ∀ (k i : Nat), i + k = L.length → L.length ≠ 0 → wl_X6_leastIn_16 M K (k + 1) a (ι v) (ι (mnr L (fun t => exv t v) i)) (ι i) S := by
    intro k
    induction k with
    | zero =>
      intro i hi hl
      show wb_X6_leastIn_16 _ _ _ _ _ _ _ _
      unfold wb_X6_leastIn_16
      rw [p9, ι_le (by omega) (by omega)]
      refine ⟨p2, fun _ => ?_, fun q => absurd (by omega) q⟩
      unfold lsL at h
      rw [if_neg hl] at h
      rw [show i = L.length by omega]; exact h
    | succ k ih =>
      intro i hi hl
      have hs := rt_sm hw (i := i) (by omega)
      have hc := exv_le hs v
      have hb := mnr_40 (L := L) (g := fun t => exv t v) i
      show wb_X6_leastIn_16 _ _ _ _ _ _ _ _
      unfold wb_X6_leastIn_16
      rw [p9, ι_le (by omega) (by omega), show (1 : Int32) = ι 1 from rfl, ι_add]
      refine ⟨p2, fun q => absurd q (by omega), fun _ => ⟨p2, a + 1, p3, p5, ι_in (by omega) (by omega), ?_⟩⟩
      rw [ι_cl (by omega)]
      refine c_exp hs (p11 i (by omega)).1 rfl hv (fun v3 e3 => ?_)
      have nx := ih (i + 1) (by omega) hl
      have e : v3 = ι (mnr L (fun t => exv t v) (i + 1)) := by
        rw [e3]
        show _ = ι (if exv (rt L i) v < mnr L (fun t => exv t v) i then exv (rt L i) v else mnr L (fun t => exv t v) i)
        by_cases c : exv (rt L i) v < mnr L (fun t => exv t v) i
        · rw [if_pos ((ι_lt (by omega) (by omega)).mpr c), if_pos c]
        · rw [if_neg (fun w => c ((ι_lt (by omega) (by omega)).mp w)), if_neg c]
      rw [e]; exact nx
  unfold wp_X6_leastIn
  rw [p9, show (0 : Int32) = ι 0 from rfl, ι_eq (by omega) (by omega)]
  refine ⟨p2, fun c => ⟨L.length + 1, key L.length 0 (by omega) c⟩, fun c => ⟨1, ?_⟩⟩
  show wb_X6_leastIn_16 _ _ _ _ _ _ _ _
  unfold wb_X6_leastIn_16
  rw [p9, ι_le (by omega) (by omega)]
  refine ⟨p2, fun _ => ?_, fun q => absurd (by omega) q⟩
  unfold lsL at h
  rw [if_pos c] at h; exact h
section TKO
variable {M : Nat × Nat} {S S1 : HS} {K : Int32 → HS → Prop} {h0 X0 S0 p q a b c d T X Y Z : Nat} {D : Nat → Nat} {F : N3}
/-- a line that is a variable alone -/
abbrev isV (a b c d : Nat) : Prop := l1 a b = 0 ∧ l2 a b c = 0 ∧ d = 0
theorem c_isVar (hp : p ≤ 13) (hln : Ln p a b c d) (hq : LnAt S q a b c d) (h1 : isV a b c d → K 1 S) (hn : ¬ isV a b c d → K 0 S) : wp_X3_isVariable M q S K := by
  have lb := hln.lb
  obtain ⟨q0, q1, q2, q3, q4, q5, q6⟩ := hq
  unfold wp_X3_isVariable
  rw [q4, q5, q6, show (0 : Int32) = ι 0 from rfl, ι_eq (by omega) (by omega), ι_eq (by omega) (by omega), ι_eq (by omega) (by omega)]
  exact ⟨q0, fun z => hn (fun w => z w.1), fun z1 => ⟨q0, fun z => hn (fun w => z w.2.1), fun z2 => ⟨q0, fun z => hn (fun w => z w.2.2), fun z3 => h1 ⟨z1, z2, z3⟩⟩⟩⟩
theorem c_takeOut (h60 : h0 + 60 ≤ hX S) (ft : FT h0 X0 S0 S S1 X Y Z) (fa : FA h0 S1 p D T X Y Z F) (hln : Ln p a b c d) (hq : LnAt S1 q a b c d) (hqo : Qo h0 S1 q) (r1 : X0 + 2 ≤ M.1) (r2 : S0 + 2000000 ≤ M.2)
    (hV : isV a b c d → K (hI S1 (h0 + 46) (led a b)) S1)
    (h : ¬ isV a b c d → ∀ n S2 D' T' F', n ≤ 40 → FT h0 X0 S0 S S2 X Y Z → FA h0 S2 p D' T' X Y Z F' → LnAt S2 q a b c d → Qo h0 S2 q → Al (p : Int) (nz3 F) (lmn (lv a b c d) n (nz3 F')) → ¬ Dv (p : Int) (lv a b c d) (nz3 F') → D' 0 + D' 1 + D' 2 + n ≤ D 0 + D 1 + D 2 → (∀ v, D' v ≤ D v) → Kp h0 S1 S2 → K (ι n) S2) : wp_X2_takeOut M (h0 + 25) q S1 K := by
  have hl2 := led_le (a := a) (b := b)
  have hp := fa.1.2.2.2.2.2.2.1.le
  have L1 := fa.1.1
  have d40 : D (led a b) ≤ 40 := fa.2.2.1.1 _ hl2
  have loop : ¬ isV a b c d → ∀ k t S2 D' T' F', D' (led a b) = k → D' (led a b) + t = D (led a b) → FT h0 X0 S0 S S2 X Y Z → FA h0 S2 p D' T' X Y Z F' → LnAt S2 q a b c d → Qo h0 S2 q → Al (p : Int) (nz3 F) (lmn (lv a b c d) t (nz3 F')) → D' 0 + D' 1 + D' 2 + t ≤ D 0 + D 1 + D 2 → (∀ v, D' v ≤ D v) → Kp h0 S1 S2 → wl_X2_takeOut_19 M K (k + 1) (h0 + 25) q (ι t) S2 := by
    intro nv k
    have h := h nv
    induction k with
    | zero =>
      intro t S2 D' T' F' hk ht ft2 fa2 hq2 hqo2 al sm dl kp
      show wb_X2_takeOut_19 _ _ _ _ _ _ _
      unfold wb_X2_takeOut_19
      rw [show (40 : Int32) = ι 40 from rfl, ι_lt (by omega) (by omega)]
      refine ⟨fun w => absurd w (by omega), fun _ => ⟨fa2.1.1.t25, c_divide h60 ft2 fa2 hln hq2 hqo2 r1 r2 (fun S3 ft3 fa3 hq3 hqo3 cg al3 kp3 => ?_) (fun S3 ft3 fa3 hq3 hqo3 nd kp3 => ⟨fun _ => ?_, fun w => absurd rfl w⟩)⟩⟩
      · unfold cgo at cg; omega
      · exact h t S3 D' T' F' (by omega) ft3 fa3 hq3 hqo3 al nd sm dl (kp.tr kp3)
    | succ k ih =>
      intro t S2 D' T' F' hk ht ft2 fa2 hq2 hqo2 al sm dl kp
      show wb_X2_takeOut_19 _ _ _ _ _ _ _
      unfold wb_X2_takeOut_19
      rw [show (40 : Int32) = ι 40 from rfl, ι_lt (by omega) (by omega)]
      refine ⟨fun w => absurd w (by omega), fun _ => ⟨fa2.1.1.t25, c_divide h60 ft2 fa2 hln hq2 hqo2 r1 r2 (fun S3 ft3 fa3 hq3 hqo3 cg al3 kp3 => ⟨fun w => absurd w (by decide), fun _ => ?_⟩) (fun S3 ft3 fa3 hq3 hqo3 nd kp3 => ⟨fun _ => ?_, fun w => absurd rfl w⟩)⟩⟩
      · rw [show (1 : Int32) = ι 1 from rfl, ι_add]
        have dl1 : dcD D' a b c (led a b) = D' (led a b) - 1 := by unfold dcD; rw [if_pos rfl]
        have dle : ∀ v, dcD D' a b c v ≤ D' v := fun v => by unfold dcD; omega
        refine ih (t + 1) S3 (dcD D' a b c) (T' - 1) (dvF p a b c d D' F') (by omega) (by omega) ft3 fa3 hq3 hqo3 ?_ ?_ (fun v => Nat.le_trans (dle v) (dl v)) (kp.tr kp3)
        · have := al.tr (al3.lmn (L := lv a b c d) t)
          rw [← lmn_com] at this
          exact this
        · have e0 := dle 0
          have e1 := dle 1
          have e2 := dle 2
          have h3 : led a b = 0 ∨ led a b = 1 ∨ led a b = 2 := by omega
          rcases h3 with g | g | g <;> rw [g] at dl1 hk <;> omega
      · exact h t S3 D' T' F' (by omega) ft3 fa3 hq3 hqo3 al nd sm dl (kp.tr kp3)
  unfold wp_X2_takeOut
  refine ⟨hq.1, c_isVar (by omega) hln hq (fun w => ⟨fun z => absurd z (by decide), fun _ => ⟨L1.t25, h0 + 46, L1.p25_10, hq.1, L1.t46, ?_, ?_⟩⟩) (fun w => ⟨fun _ => ⟨D (led a b) + 1, loop w _ 0 S1 D T F rfl (by omega) ft fa hq hqo Al.rf (by omega) (fun _ => Nat.le_refl _) Kp.rf⟩, fun z => absurd rfl z⟩)⟩
  · rw [hq.2.1, L1.n46]; exact ι_in (by omega) (by omega)
  · rw [hq.2.1, ι_cl (by omega)]; exact hV w
end TKO
/-- degrees of a polynomial, 0 of none -/
def dgL (L : Po) (v : Nat) : Nat := mA L v - 1
theorem mR_id {A : Po} : mR (fun t => t) A A.length = cf A := by
  funext x y z
  have := sumTo_rev A.length (fun i => if isAt (tm A i) x y z then (tm A i).n else 0)
  exact this
theorem sp_cf {p : Nat} {L : Po} (hpp : PrP p) (hw : wf p L) : Sp3 p (dgL L) (cf L) := by
  have hp := hpp.le
  refine ⟨fun v _ => by have := mA_le (v := v) hw; unfold dgL; omega, fun x y z => ⟨cf_lt (by omega) hw x y z, fun k => cf_none (fun i hi w => ?_)⟩⟩
  have u0 : (tm L i).x + 1 ≤ mA L 0 := mA_tm (v := 0) hi
  have u1 : (tm L i).y + 1 ≤ mA L 1 := mA_tm (v := 1) hi
  have u2 : (tm L i).z + 1 ≤ mA L 2 := mA_tm (v := 2) hi
  unfold dgL at k
  obtain ⟨w1, w2, w3⟩ := w
  omega
/-- a term without the variables that go in -/
def sdT (L : Po) (t : Tm) : Tm := (t.x - lsL L 0, t.y - lsL L 1, t.z - lsL L 2, t.n)
/-- what the variables that go in make of a key, up to v -/
def gnK (L : Po) (v : Nat) : Nat := (if 0 < v then lsL L 0 * 4096 else 0) + (if 1 < v then lsL L 1 * 64 else 0) + (if 2 < v then lsL L 2 else 0)
theorem gnK_s {L : Po} {v : Nat} (hv : v < 3) : gnK L v + lsL L v * un v = gnK L (v + 1) := by
  have : v = 0 ∨ v = 1 ∨ v = 2 := by omega
  unfold gnK un
  rcases this with rfl | rfl | rfl <;> simp
theorem gnK_3 {L : Po} : gnK L 3 = lsL L 0 * 4096 + lsL L 1 * 64 + lsL L 2 := by
  unfold gnK
  rw [if_pos (by omega), if_pos (by omega), if_pos (by omega)]
section SDT
variable {p : Nat} {L : Po}
theorem rt_ls {i : Nat} (hi : i < L.length) : lsL L 0 ≤ (rt L i).x ∧ lsL L 1 ≤ (rt L i).y ∧ lsL L 2 ≤ (rt L i).z := ⟨lsL_le (v := 0) hi, lsL_le (v := 1) hi, lsL_le (v := 2) hi⟩
theorem k6_sd {i : Nat} (hi : i < L.length) : gnK L 3 ≤ k6 (rt L i) ∧ k6 (rt L i) - gnK L 3 = k6 (sdT L (rt L i)) := by
  obtain ⟨a0, a1, a2⟩ := rt_ls hi
  rw [gnK_3]
  show _ ≤ (rt L i).x * 4096 + (rt L i).y * 64 + (rt L i).z ∧ (rt L i).x * 4096 + (rt L i).y * 64 + (rt L i).z - _ = ((rt L i).x - lsL L 0) * 4096 + ((rt L i).y - lsL L 1) * 64 + ((rt L i).z - lsL L 2)
  omega
theorem mR_sd : mR (sdT L) L L.length = dnL L := by
  funext x y z
  unfold dnL
  rw [← mR_id]
  unfold mR
  refine sumTo_congr (fun i hi => ?_)
  obtain ⟨a0, a1, a2⟩ := rt_ls hi
  have e : isAt (sdT L (rt L i)) x y z ↔ isAt (rt L i) (x + lsL L 0) (y + lsL L 1) (z + lsL L 2) := by
    show ((rt L i).x - lsL L 0 = x ∧ (rt L i).y - lsL L 1 = y ∧ (rt L i).z - lsL L 2 = z) ↔ ((rt L i).x = x + lsL L 0 ∧ (rt L i).y = y + lsL L 1 ∧ (rt L i).z = z + lsL L 2)
    omega
  by_cases c : isAt (sdT L (rt L i)) x y z
  · rw [if_pos c, if_pos (e.mp c)]; rfl
  · rw [if_neg c, if_neg (fun w => c (e.mpr w))]
theorem mR_new (hw : wf p L) {i : Nat} (hi : i < L.length) : mR (sdT L) L i (sdT L (rt L i)).x (sdT L (rt L i)).y (sdT L (rt L i)).z = 0 := sumTo_zero (fun j hj => if_neg (fun w => by
  obtain ⟨a0, a1, a2⟩ := rt_ls hi
  obtain ⟨b0, b1, b2⟩ := rt_ls (L := L) (i := j) (by omega)
  have w : (rt L j).x - lsL L 0 = (rt L i).x - lsL L 0 ∧ (rt L j).y - lsL L 1 = (rt L i).y - lsL L 1 ∧ (rt L j).z - lsL L 2 = (rt L i).z - lsL L 2 := w
  have fall := k6_fall hw hj hi
  have e2 : k6 (rt L j) = k6 (rt L i) := k6_eq (show isAt (rt L j) (rt L i).x (rt L i).y (rt L i).z from ⟨by omega, by omega, by omega⟩)
  unfold rt at e2
  omega))
theorem sd_in (hw : wf p L) {i : Nat} (hi : i < L.length) : (sdT L (rt L i)).x ≤ dlL L 0 ∧ (sdT L (rt L i)).y ≤ dlL L 1 ∧ (sdT L (rt L i)).z ≤ dlL L 2 := by
  have u0 : (rt L i).x + 1 ≤ mA L 0 := mA_rt (v := 0) hi
  have u1 : (rt L i).y + 1 ≤ mA L 1 := mA_rt (v := 1) hi
  have u2 : (rt L i).z + 1 ≤ mA L 2 := mA_rt (v := 2) hi
  show (rt L i).x - lsL L 0 ≤ mA L 0 - 1 - lsL L 0 ∧ (rt L i).y - lsL L 1 ≤ mA L 1 - 1 - lsL L 1 ∧ (rt L i).z - lsL L 2 ≤ mA L 2 - 1 - lsL L 2
  omega
theorem sd_sm (hw : wf p L) {i : Nat} (hi : i < L.length) : sm (sdT L (rt L i)) := by
  have s := rt_sm hw hi
  show (rt L i).x - lsL L 0 ≤ 40 ∧ (rt L i).y - lsL L 1 ≤ 40 ∧ (rt L i).z - lsL L 2 ≤ 40
  have s : (rt L i).x ≤ 40 ∧ (rt L i).y ≤ 40 ∧ (rt L i).z ≤ 40 := s
  omega
/-- the degree of what is left -/
theorem dtL_ι (hw : wf p L) (hL : L ≠ []) : ιm (mx L dgt L.length) - ι (lsL L 0 + lsL L 1 + lsL L 2) = ι (dtL L) ∧ dtL L ≤ 120 := by
  have h0 : 0 < L.length := List.length_pos_iff.2 hL
  have u : dgt (tm L 0) + 1 ≤ mx L dgt L.length := mx_ge h0
  have e : dgt (tm L 0) = (tm L 0).x + (tm L 0).y + (tm L 0).z := rfl
  have a0 : lsL L 0 ≤ (tm L 0).x := lsL_tm (v := 0) h0
  have a1 : lsL L 1 ≤ (tm L 0).y := lsL_tm (v := 1) h0
  have a2 : lsL L 2 ≤ (tm L 0).z := lsL_tm (v := 2) h0
  have mx120 : mx L dgt L.length ≤ 121 := mx_le (L := L) (g := dgt) (B := 120) (n := L.length) (fun i hi => by have := hw.sm hi; unfold dgt; obtain ⟨h1, h2, h3⟩ := this; omega)
  refine ⟨?_, by unfold dtL; omega⟩
  unfold ιm dtL
  rw [if_neg (by omega), ι_sub (by omega)]
end SDT
def Wla (h0 b _k : Nat) : Prop := b = h0 + 25 ∨ b = h0 + 45 ∨ b = h0 + 46
section LAYO
variable {M : Nat × Nat} {S : HS} {K : Int32 → HS → Prop} {h0 X0 S0 p a : Nat} {L : Po}
theorem c_layOutF (hL : Lay h0 S) (h60 : h0 + 60 ≤ hX S) (fs : FS h0 X0 S0 S S) (hpp : PrP p) (hw : wf p L) (ka : Ka h0 a) (pa : PolyAt S a L) (r1 : X0 + 2 ≤ M.1) (r2 : S0 + 2000000 ≤ M.2)
    (h : ∀ S2, FS h0 (X0 + 1) S0 S S2 → Lay h0 S2 → hI S2 (h0 + 25) 12 = ι p → (L ≠ [] → FL h0 S2 p (dlL L) (dtL L) (dlL L 0) (dlL L 1) (dlL L 2)) → Bu h0 S2 39 (dlL L 0) (dlL L 1) (dlL L 2) (ub (dlL L) (dlL L 1) (dlL L 2)) (dnL L) → (∀ v, v ≤ 2 → hI S2 (h0 + 46) v = ι (lsL L v)) → K 0 S2) : wp_X2_layOut M (h0 + 25) a (ι p) S K := by
  have hp := hpp.le
  have hle := hw.1
  have rd := pa.rd hw
  have hb := fs.2.2.1
  have b39 := hb.1.2.2.1
  have p39 := b39.2.2.2.2.1
  have rm := fs.2.2.2.2.2.room hb
  have sa := rs_ka ka pa hb
  have hm41 : ∀ v, mA L v ≤ 41 := fun v => mA_le (v := v) hw
  have hls : ∀ v, lsL L v ≤ mA L v - 1 := fun v => lsL_dg v
  have hmv : ∀ v, dlL L v ≤ 40 := fun v => by have := hm41 v; unfold dlL; omega
  have hl40 : ∀ v, lsL L v ≤ 40 := fun v => by have := hm41 v; have := hls v; omega
  have l0 := hl40 0
  have l1 := hl40 1
  have l2 := hl40 2
  have an : ∀ k, ¬ Wla h0 a k ∧ ¬ Wla h0 (a + 1) k ∧ ¬ Wla h0 (a + 2) k ∧ ¬ V0 a k := fun k => by
    unfold Ka at ka
    unfold Wla
    exact ⟨by omega, by omega, by omega, fun c => c⟩
  have rdg : ∀ S1, Ext S S1 (Wla h0) V0 → Rd S1 a L := fun S1 e => rd.go e an
  unfold wp_X2_layOut
  have one : (1 : Int32) = ι 1 := rfl
  -- behind the degrees
  have tail : ∀ S1, Ext S S1 (Wla h0) V0 → hX S1 = hX S → hS S1 = hS S → hI S1 (h0 + 25) 12 = ι p → (∀ v, v < 3 → hI S1 (h0 + 46) v = ι (lsL L v) ∧ hI S1 (h0 + 45) v = ι (dlL L v)) → ∀ m, wl_X2_layOut_10 M K (m + 1) (h0 + 25) a (ι (gnK L 3)) (ι 3) S1 := by
    intro S1 e1 x1 y1 p1 f1 m
    have L1 := hL.go h60 e1 (fun _ _ c => c)
    have r := rdg S1 e1
    show wb_X2_layOut_10 _ _ _ _ _ _ _ _
    unfold wb_X2_layOut_10
    refine ⟨fun _ => ⟨r.2.1, c_degree hw r (c_degreeOf (t := (lsL L 0, lsL L 1, lsL L 2, 0)) ⟨l0, l1, l2⟩ (by rw [gnK_3]; rfl) ⟨L1.t25, ?_⟩)⟩, fun w => absurd (by decide) w⟩
    generalize hS2 : sI S1 (h0 + 25) 9 (ιm (mx L dgt L.length) - ι (dgt (lsL L 0, lsL L 1, lsL L 2, 0))) = S2
    have e2 : Ext S S2 (Wla h0) V0 := by rw [← hS2]; exact e1.sI (Or.inl rfl)
    have x2 : hX S2 = hX S := by rw [← hS2]; exact x1
    have y2 : hS S2 = hS S := by rw [← hS2]; exact y1
    have p2 : hI S2 (h0 + 25) 12 = ι p := by rw [← hS2, sI_eq, if_neg (by omega)]; exact p1
    have t2 : hI S2 (h0 + 25) 9 = ιm (mx L dgt L.length) - ι (lsL L 0 + lsL L 1 + lsL L 2) := by rw [← hS2, sI_eq, if_pos rfl]; rfl
    have f2 : ∀ v, v < 3 → hI S2 (h0 + 46) v = ι (lsL L v) ∧ hI S2 (h0 + 45) v = ι (dlL L v) := fun v hv => by rw [← hS2, sI_ne (by omega), sI_ne (by omega)]; exact f1 v hv
    have L2 := hL.go h60 e2 (fun _ _ c => c)
    have fs2 : FS h0 X0 S0 S S2 := fs.scr h60 e2 (fun b k w => by unfold Wla at w; unfold Wy; omega) x2 y2
    have hb2 := fs2.2.2.1
    have p392 := hb2.1.2.2.1.2.2.2.2.1
    have hus := usd_le (hmv 0) (hmv 1) (hmv 2)
    refine ⟨L2.t25, h0 + 39, L2.p25_6, L2.t25, h0 + 45, L2.p25_8, L2.t45, by rw [L2.n45]; exact ι_in (a := 0) (by omega) (by omega), L2.t25, h0 + 45, L2.p25_8, L2.t45, by rw [L2.n45]; exact ι_in (a := 1) (by omega) (by omega), L2.t25, h0 + 45, L2.p25_8, L2.t45, by rw [L2.n45]; exact ι_in (a := 2) (by omega) (by omega), L2.t39, c_open (o := 39) (X := dlL L 0) (Y := dlL L 1) (Z := dlL L 2) (f2 0 (by omega)).2 (f2 1 (by omega)).2 (f2 2 (by omega)).2 (by have := hmv 0; omega) (by have := hmv 1; omega) (by have := hmv 2; omega) (by omega) L2.t39 L2.p39_2 L2.t41 L2.n41 hb2.1.2.2.1 (by omega) (by omega) (by omega) (by omega) (by omega) (fun S3 op => ⟨L.length + 1, ?_⟩)⟩
    have h62 : h0 + 60 ≤ hX S2 := by omega
    have fs3 := fs2.open9 h60 op hus
    have hb3 := fs3.2.2.1
    have e3 := op.1
    have h63 : h0 + 60 ≤ hX S3 := by have := e3.1; omega
    have L3 := fs3.lay hL h60
    have rd2 := rdg S2 e2
    have sa2 : Rs h0 S2 a := sa.go h60 e2 (fun o ho => Or.inl ((e2.2.2.1 _ (by omega)).2.2.2 0 (fun c => c)))
    have rd3 := op.rd (by omega) sa2 rd2
    have sa3 := op.rs h62 sa2
    have c3 := sa3.b (o := 39) (by omega)
    have b3p := hb3.1.2.2.1.2.2.2.2.1
    have nI3 : ∀ b k, b < hX S2 → ¬ Wo h0 39 (bxC h0 S2 39) b k → hI S3 b k = hI S2 b k := fun b k hb w => (e3.2.2.1 b hb).2.2.1 k w
    have p3 : hI S3 (h0 + 25) 12 = ι p := by rw [nI3 _ _ (by omega) (by unfold Wo; omega)]; exact p2
    have f3 : ∀ v, v < 3 → hI S3 (h0 + 46) v = ι (lsL L v) ∧ hI S3 (h0 + 45) v = ι (dlL L v) := fun v hv => by rw [nI3 _ _ (by omega) (by unfold Wo; omega), nI3 _ _ (by omega) (by unfold Wo; omega)]; exact f2 v hv
    have fl3 : L ≠ [] → FL h0 S3 p (dlL L) (dtL L) (dlL L 0) (dlL L 1) (dlL L 2) := fun hne => ⟨L3, h63, hb3, p3, fun v hv => ⟨(f3 v (by omega)).2, by
      have : v = 0 ∨ v = 1 ∨ v = 2 := by omega
      rcases this with rfl | rfl | rfl <;> exact Nat.le_refl _⟩, ⟨hmv 0, hmv 1, hmv 2⟩, hpp, by
      rw [nI3 _ _ (by omega) (by unfold Wo; omega), t2]; exact (dtL_ι hw hne).1, (dtL_ι hw hne).2⟩
    have key : ∀ (k i : Nat) (S4 : HS), i + k = L.length → Ext S3 S4 (Wc (bxC h0 S3 39)) V0 → hX S4 = hX S3 → hS S4 = hS S3 → Bo h0 S4 39 (dlL L 0) (dlL L 1) (dlL L 2) (mR (sdT L) L i) → wl_X2_layOut_107 M K (k + 1) (h0 + 25) a (ι (gnK L 3)) (ι i) S4 := by
      intro k
      induction k with
      | zero =>
        intro i S4 hi e4 x4 y4 bo4
        obtain ⟨-, q2, q3, q4, q5, q6, q7, q8, q7', q8', q9, q11⟩ := rd3.go e4 (fun k => ⟨c3.1, c3.2.1, c3.2.2, fun c => c⟩)
        have hi' : i = L.length := by omega
        subst hi'
        rw [mR_sd] at bo4
        have bo5 : Bu h0 S4 39 (dlL L 0) (dlL L 1) (dlL L 2) (ub (dlL L) (dlL L 1) (dlL L 2)) (dnL L) := by rw [ub_usd (X := dlL L 0) (Y := dlL L 1) (Z := dlL L 2) rfl rfl rfl]; exact bo4
        show wb_X2_layOut_107 _ _ _ _ _ _ _ _
        unfold wb_X2_layOut_107
        rw [q9]
        refine ⟨q2, fun _ => h S4 (fs3.scr h60 e4 (fun b k w => by unfold Wc at w; unfold Wy; omega) x4 y4) (L3.go h63 e4 (fun _ _ c => c)) ?_ (fun hne => (fl3 hne).go (Or.inl rfl) e4) bo5 (fun v hv => ?_), fun w => absurd (by rw [ι_le (by omega) (by omega)]; omega) w⟩
        · rw [(e4.2.2.1 (h0 + 25) (by omega)).2.2.1 12 (by unfold Wc; omega)]; exact p3
        · rw [(e4.2.2.1 (h0 + 46) (by omega)).2.2.1 v (by unfold Wc; omega)]; exact (f3 v (by omega)).1
      | succ k ih =>
        intro i S4 hi e4 x4 y4 bo4
        obtain ⟨-, q2, q3, q4, q5, q6, q7, q8, q7', q8', q9, q11⟩ := rd3.go e4 (fun k => ⟨c3.1, c3.2.1, c3.2.2, fun c => c⟩)
        have L4 := L3.go h63 e4 (fun _ _ c => c)
        have c39 : bxC h0 S4 39 = bxC h0 S3 39 := bxC.go ((e4.2.2.1 _ (by omega)).2.2.2 0 (fun c => c))
        have b4 := hb3.1.2.2.1.go e4 ((e4.2.2.1 _ (by omega)).2.2.2 0 (fun c => c))
        have hsm := sd_sm hw (i := i) (by omega)
        have hi3 := sd_in hw (i := i) (by omega)
        have hk6 := k6_sd (L := L) (i := i) (by omega)
        have hlt := cx_lt hi3.1 hi3.2.1 hi3.2.2
        have hun := bo4.2.2.2.1
        have hN9 := b4.2.2.2.1
        show wb_X2_layOut_107 _ _ _ _ _ _ _ _
        unfold wb_X2_layOut_107
        rw [q9]
        refine ⟨q2, fun w => absurd w (by rw [ι_le (by omega) (by omega)]; omega), fun _ => ⟨L4.t25, h0 + 39, L4.p25_6, L4.t39, bxC h0 S4 39, b4.1, L4.t25, h0 + 39, L4.p25_6, q2, a + 1, q3, q5, ι_in (by omega) (by omega), L4.t39, ?_⟩⟩
        rw [ι_cl (by omega), (q11 i (by omega)).1, ι_sub hk6.1, hk6.2]
        refine c_cellOf (t := sdT L (rt L i)) bo4 L4.t39 L4.p39_2 L4.t41 L4.n41 hsm rfl ⟨q2, a + 2, q4, q6, ι_in (by omega) (by omega), b4.2.2.1, ι_in (by omega) (by omega), ?_⟩
        rw [ι_cl (by omega), (q11 i (by omega)).2, one, ι_add]
        refine ih (i + 1) _ (by omega) (e4.sI c39) x4 y4 ?_
        rw [← mR_set, mR_new hw (by omega), Nat.zero_add]
        exact bo4.set (by rw [c39]; omega) hi3.1 hi3.2.1 hi3.2.2
    exact key L.length 0 S3 (by omega) (Ext.rf _ _ _) rfl rfl op.2.1
  -- the degrees
  have loop : ∀ k v S1, v + k = 3 → Ext S S1 (Wla h0) V0 → hX S1 = hX S → hS S1 = hS S → hI S1 (h0 + 25) 12 = ι p → (∀ w, w < v → hI S1 (h0 + 46) w = ι (lsL L w) ∧ hI S1 (h0 + 45) w = ι (dlL L w)) → wl_X2_layOut_10 M K (k + 1) (h0 + 25) a (ι (gnK L v)) (ι v) S1 := by
    intro k
    induction k with
    | zero =>
      intro v S1 hv e1 x1 y1 p1 f1
      have ev : v = 3 := by omega
      subst ev
      exact tail S1 e1 x1 y1 p1 f1 0
    | succ k ih =>
      intro v S1 hv e1 x1 y1 p1 f1
      have hv3 : v < 3 := by omega
      have L1 := hL.go h60 e1 (fun _ _ c => c)
      have r := rdg S1 e1
      have e2 : Ext S (sI S1 (h0 + 46) v (ι (lsL L v))) (Wla h0) V0 := e1.sI (Or.inr (Or.inr rfl))
      have r2 := rdg _ e2
      show wb_X2_layOut_10 _ _ _ _ _ _ _ _
      unfold wb_X2_layOut_10
      rw [show (3 : Int32) = ι 3 from rfl, ι_le (by omega) (by omega), one, ι_add, ι_cl (a := v) (by omega)]
      refine ⟨fun w => absurd w (by omega), fun _ => ⟨r.2.1, c_leastIn hw r rfl hv3 ⟨L1.t25, h0 + 46, L1.p25_10, L1.t46, by rw [L1.n46]; exact ι_in (by omega) (by omega), L1.t25, h0 + 45, L1.p25_8, r2.2.1, c_roomIn hw r2 rfl hv3 ⟨L1.t45, by show vp_in _ (hN S1 (h0 + 45)); rw [L1.n45]; exact ι_in (by omega) (by omega), c_unit rfl hv3 ?_⟩⟩⟩⟩
      rw [ι_mul, ι_add, gnK_s hv3, ι_sub (hls v)]
      refine ih (v + 1) _ (by omega) (e2.sI (Or.inr (Or.inl rfl))) x1 y1 ?_ (fun w hw' => ?_)
      · rw [sI_ne (by omega), sI_ne (by omega)]; exact p1
      · rw [sI_ne (by omega), sI_eq, sI_eq, sI_ne (by omega)]
        by_cases c : w = v
        · subst c; rw [if_pos rfl, if_pos rfl]; exact ⟨rfl, rfl⟩
        · rw [if_neg c, if_neg c]; exact f1 w (by omega)
  refine ⟨hL.t25, 4, ?_⟩
  have := loop 3 0 (sI S (h0 + 25) 12 (ι p)) (by omega) ((Ext.rf S _ _).sI (Or.inl rfl)) rfl rfl (by rw [sI_eq, if_pos rfl]) (fun w hw' => absurd hw' (by omega))
  rw [show gnK L 0 = 0 from rfl] at this
  exact this
end LAYO
/-- A line that goes in: the values are 0 on it -/
theorem dv_van {p a b c d : Nat} {L : Po} (hpp : PrP p) (hw : wf p L) (h : Dv (p : Int) (lv a b c d) (nz3 (cf L))) : van p a b c d (vF p L) := by
  intro x y z hx hy hz on
  obtain ⟨N, Q, hs, hA⟩ := h
  have hp := hpp.le
  have hA : Al (p : Int) (cz L) (lm ((a : Int), (b : Int), (c : Int), (d : Int)) Q) := hA
  have sQ : Su (p : Int) (N + 41) Q := hs.mo (by omega)
  have e1 := ev_al (N := N + 41 + 1) (w := w3 p x y z) hA
  have e2 := ev_lm (a := (a : Int)) (b := (b : Int)) (c := (c : Int)) (d := (d : Int)) sQ (w3_x (p := p) (x := x) (y := y) (z := z)) w3_y w3_z
  have e3 : (p : Int) ∣ ((a : Int) * x + (b : Int) * y + (c : Int) * z + (d : Int)) * ev (N + 41 + 1) Q (w3 p x y z) := by
    refine Int.dvd_mul_of_dvd_left ?_
    have : (p : Int) ∣ ((a * x + b * y + c * z + d : Nat) : Int) := Int.natCast_dvd_natCast.2 (Nat.dvd_of_mod_eq_zero on)
    simpa [Int.natCast_add, Int.natCast_mul] using this
  rw [ev_vS hw (by omega)] at e1
  have e4 : (p : Int) ∣ ((vS p L x y z : Nat) : Int) := by
    have := Int.dvd_add (Int.dvd_add e1 e2) e3
    rw [show ∀ A B C : Int, (A - B) + (B - C) + C = A from fun A B C => by omega] at this
    exact this
  exact Nat.mod_eq_zero_of_dvd (Int.natCast_dvd_natCast.1 e4)
section FSE
variable {h0 X0 S0 X1 Y1 : Nat} {S S1 S2 : HS} {g : Gh}
theorem FS.start (hc : CIr h0 X0 S0 S g) : FS h0 X0 S0 S S := by
  obtain ⟨p, P, A, T, Tx, ft, Q, B⟩ := g
  obtain ⟨c1, c2, c3, c4, c5, c6, c7, c8, c9, c10, c11, c12⟩ := hc
  exact ⟨Ext.rf S _ _, c2.2.2.2.2, c10, fun o _ => Or.inl rfl, c11.1, c12⟩
theorem FS.pk (fs : FS h0 X0 S0 S S1) (hb : CBx h0 S) : PK h0 S S1 := PK.of fs.1 (fun a L ka pa => ka_wk ka pa hb)
theorem FS.cir (hc : CIr h0 X0 S0 S g) (fs : FS h0 X1 Y1 S S2) (cf : CFc h0 S2 g.1) : CIr h0 X1 Y1 S2 g := by
  obtain ⟨p, P, A, T, Tx, ft, Q, B⟩ := g
  obtain ⟨c1, c2, c3, c4, c5, c6, c7, c8, c9, c10, c11, c12⟩ := hc
  have pk := fs.pk c10
  have h60 := c2.1
  obtain ⟨e, tp, bx, bp, st, rr⟩ := fs
  have b12 := c10.1.1.2.2.2.2.1
  have b15 := c10.1.2.1.2.2.2.2.1
  have b42 := c10.1.2.2.2.2.2.2.2.1
  have b39 := c10.1.2.2.1.2.2.2.2.1
  have nI : ∀ b k, b < hX S → ¬ Wk h0 S b k → hI S2 b k = hI S b k := fun b k hb w => (e.2.2.1 b hb).2.2.1 k w
  have nP : ∀ b k, b < hX S → ¬ Vk h0 b k → hP S2 b k = hP S b k := fun b k hb w => (e.2.2.1 b hb).2.2.2 k w
  refine ⟨c1.go h60 e vk_ptr, c2.go e pk tp, by rw [nI _ _ (by omega) (by unfold Wk; omega)]; exact c3, c4.go pk (fun k hk => nP _ _ (by omega) (by unfold Vk; omega)), c5.go pk (fun k => nI _ _ (by omega) (by unfold Wk; omega)) (fun k => nI _ _ (by omega) (by unfold Wk; omega)) (fun k => nP _ _ (by omega) (by unfold Vk; omega)), c6.go (nI _ _ (by omega) (by unfold Wk; omega)) (fun i => nI _ _ (by omega) (by unfold Wk; omega)), c7.go (nI _ _ (by omega) (by unfold Wk; omega)) (fun i => nI _ _ (by omega) (by unfold Wk; omega)), by rw [nI _ _ (by omega) (by unfold Wk; omega)]; exact c8, c9.go2 pk e (nP _ _ (by omega) (by unfold Vk; omega)) bp (fun g hg s1 s2 s3 s4 f k hf => ?_), bx, cf, rr⟩
  unfold Wk Vk
  omega
/-- the pointer to what was found -/
theorem FS.sp {r : Option Nat} (fs : FS h0 X0 S0 S S1) (h60 : h0 + 60 ≤ hX S) : FS h0 X0 S0 S (sP S1 (h0 + 25) 13 r) := by
  obtain ⟨e, tp, bx, bp, st, rr⟩ := fs
  have e1 : Ext S1 (sP S1 (h0 + 25) 13 r) (fun _ _ => False) (fun b k => b = h0 + 25 ∧ k = 13) := (Ext.rf S1 _ _).sP ⟨rfl, rfl⟩
  have h61 : h0 + 60 ≤ hX S1 := by have := e.1; omega
  have ho : ∀ o, o = 12 ∨ o = 15 ∨ o = 39 ∨ o = 42 → hP (sP S1 (h0 + 25) 13 r) (h0 + o) 0 = hP S1 (h0 + o) 0 := fun o ho => by rw [sP_ne (by omega)]
  refine ⟨e.tr2 e1 (fun b k hb w => absurd w (fun c => c)) (fun b k hb w => Or.inr w), tp_same tp h61 e1 rfl, bx.go e1 ho, fun o ho2 => ?_, st, ?_⟩
  · rw [ho o ho2, bxC.go (ho o ho2)]; exact bp o ho2
  · have := rr.go (a := 0) (b := 0) e1 bx ho (by rw [sP_X]; omega) (by rw [sP_S]; omega)
    exact this
theorem FL.sp {p T X Y Z : Nat} {D : Nat → Nat} {r : Option Nat} (h : FL h0 S p D T X Y Z) : FL h0 (sP S (h0 + 25) 13 r) p D T X Y Z := by
  obtain ⟨a1, a2, a3, a4, a5, a6, a7, a8⟩ := h
  have e1 : Ext S (sP S (h0 + 25) 13 r) (fun _ _ => False) (fun b k => b = h0 + 25 ∧ k = 13) := (Ext.rf S _ _).sP ⟨rfl, rfl⟩
  exact ⟨a1.go a2 e1 (fun q hq => by have := vk_ptr (h0 := h0) q hq; unfold Vk at this; omega), a2, a3.go e1 (fun o ho => by rw [sP_ne (by omega)]), a4, a5, a6, a7, a8⟩
theorem Bu.sp {X Y Z u : Nat} {F : N3} {r : Option Nat} (h : Bu h0 S 39 X Y Z u F) : Bu h0 (sP S (h0 + 25) 13 r) 39 X Y Z u F := by
  have e : bxC h0 (sP S (h0 + 25) 13 r) 39 = bxC h0 S 39 := bxC.go (by rw [sP_ne (by omega)])
  obtain ⟨o1, o2, o3, o4, o5, o6⟩ := h
  exact ⟨o1, o2, o3, by rw [e]; exact o4, o5, by rw [e]; exact o6⟩
theorem Qo.sp {q : Nat} {r : Option Nat} (h : Qo h0 S q) : Qo h0 (sP S (h0 + 25) 13 r) q := by
  have e : ∀ o, o = 39 ∨ o = 42 → bxC h0 (sP S (h0 + 25) 13 r) o = bxC h0 S o := fun o ho => bxC.go (by rw [sP_ne (by omega)])
  obtain ⟨h1, h2, h3, h4⟩ := h
  exact ⟨h1, h2, by rw [e 39 (by omega)]; exact h3, by rw [e 42 (by omega)]; exact h4⟩
end FSE
/-- a line that is a variable; one that isn't -/
theorem isV_vl {p a b c d : Nat} (hln : Ln p a b c d) (h : isV a b c d) : lv a b c d = vl (led a b) := by
  obtain ⟨h1, h2, rfl⟩ := h
  obtain ⟨g | g | g, -⟩ := hln
  · obtain ⟨rfl, hb, hc⟩ := g
    have h1 : b = 0 := h1
    have h2 : c = 0 := h2
    subst h1 h2; rfl
  · obtain ⟨rfl, rfl, hc⟩ := g
    have h2 : c = 0 := h2
    subst h2; rfl
  · obtain ⟨rfl, rfl, rfl⟩ := g; rfl
theorem ap_vl {p a b c d : Nat} (hpp : PrP p) (hln : Ln p a b c d) (h : ¬ isV a b c d) : ∀ v, v ≤ 2 → Ap (p : Int) (lv a b c d) (vl v) := fun v hv => by
  have hp := hpp.le
  obtain ⟨a', b', c', hl, e, -, e1, e2⟩ := vl_ln (p := p) (by omega) hv
  rw [e]
  refine hln.ap hpp.pq (by omega) hl (fun w => h ?_)
  obtain ⟨w1, w2, w3, w4⟩ := w
  rw [w1, w2, w3, w4]
  exact ⟨e1, e2, rfl⟩
section TIM
variable {M : Nat × Nat} {S : HS} {K : Int32 → HS → Prop} {h0 X0 S0 p a q α β γ δ : Nat} {L : Po} {g : Gh}
theorem c_timesOf (hc : CIr h0 X0 S0 S g) (hpp : PrP g.1) (hw : wf g.1 L) (hL : L ≠ []) (ka : Ka h0 a) (pa : PolyAt S a L) (hln : Ln g.1 α β γ δ) (hq : LnAt S q α β γ δ) (hqo : Qo h0 S q) (q55 : h0 + 56 ≤ q) (qb : q ≠ bxC h0 S 12 ∧ q ≠ bxC h0 S 15) (r1 : X0 + 3 ≤ M.1) (r2 : S0 + 2000000 ≤ M.2)
    (h : ∀ n S2, CIr h0 (X0 + 2) S0 S2 g → n ≤ 40 → Cn (g.1 : Int) (lv α β γ δ) n (nz3 (cf L)) → K (ι n) S2) : wp_X2_timesOf M (h0 + 25) a (ι g.1) q S K := by
  have fs := FS.start hc
  have hLy := hc.bs hpp
  have h60 := hLy.2.1.1
  have hp := hpp.le
  unfold wp_X2_timesOf
  refine ⟨hLy.1.t25, c_layOutF hLy.1 h60 fs hpp hw ka pa (by omega) r2 (fun S2 fs2 _ _ fl2' bo2 ls2 => ?_)⟩
  have fl2 := fl2' hL
  have qw : ∀ k, ¬ Wk h0 S q k := fun k => by
    have := hqo.2.2
    unfold Wk; omega
  have hq2 := hq.go hqo.1 fs2.1 qw
  have hqo2 := hqo.go h60 fs2.1 (fun o ho => fs2.bx (by omega))
  have l40 : lsL L (led α β) ≤ 40 := by
    have := mA_le (v := led α β) hw
    have := lsL_dg (L := L) (led α β)
    omega
  refine ⟨fl2.1.t25, fl2.1.t25, c_takeOut h60 (Or.inl (fs2.sp h60)) ⟨fl2.sp, bo2.sp, dnL_sp hpp hw, dnL_nn hw hL, dnL_dg⟩ hln (show LnAt _ q α β γ δ from hq2) hqo2.sp (by omega) r2 (fun isv => ?_) (fun nv n S3 D' T' F' hn ft3 fa3 hq3 hqo3 al nd sm dl kp => ?_)⟩
  · -- a variable
    have fs3 : FS h0 (X0 + 2) S0 S (sP S2 (h0 + 25) 13 none) := (fs2.sp h60).mo (by omega) (by omega)
    rw [sP_I, ls2 _ led_le]
    refine h (lsL L (led α β)) _ (fs3.cir hc ⟨fs3.2.2.2.2.1, Or.inl ?_⟩) l40 ?_
    · rw [sP_eq, if_pos rfl]
    · rw [isV_vl hln isv]; exact cn_var hpp hw hL led_le
  · have fs3 : FS h0 (X0 + 2) S0 S S3 := ft3.fs
    refine h n S3 (fs3.cir hc ⟨fs3.2.2.2.2.1, Or.inl ?_⟩) hn ?_
    · rw [(kp (h0 + 25) (Or.inl rfl) 13).2, sP_eq, if_pos rfl]
    · have := (Cn.lmk hpp.pq (hln.nz (by omega)) fa3.2.2.1.bd.su (k := 0) n).mpr (Cn.no fa3.2.2.1.bd.su nd)
      rw [Nat.zero_add] at this
      have c0 := this.al al.sy
      rw [← dnL_sh]
      exact (she_cn hpp.pq (hln.nz (by omega)) (ap_vl hpp hln nv) (dnL_sp hpp hw).bd.su).mpr c0
end TIM
