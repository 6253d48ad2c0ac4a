/-! The highest part loaded; all lines. -/
theorem pf_no {t : Nat → Tm} : ∀ k, k ≤ 300 → (pf t k).2 = false ∧ (pf t k).1.length ≤ k := by
  intro k
  induction k with
  | zero => intro _; exact ⟨rfl, Nat.le_refl _⟩
  | succ k ih =>
    intro hk
    obtain ⟨h1, h2⟩ := ih (by omega)
    rw [pf]
    unfold psD
    split
    · exact ⟨h1, Nat.le_succ_of_le h2⟩
    · rw [if_pos (by omega)]
      exact ⟨h1, by rw [List.length_append, List.length_singleton]; omega⟩
theorem mF_pt {p e x y z : Nat} {A : Po} (hpp : PrP p) (hw : wf p A) : mF p (gPt e) A x y z = if x + y + z = e then cf A x y z else 0 := by
  have hp := hpp.le
  unfold mF mS
  by_cases g : x + y + z = e
  · rw [if_pos g, ← Nat.mod_eq_of_lt (cf_lt (p := p) (by omega) hw x y z)]
    unfold cf
    congr 1
    refine sumTo_congr (fun i hi => ?_)
    by_cases w : isAt (tm A i) x y z
    · rw [if_pos (show isAt (gPt e (tm A i)) x y z from w), if_pos w]
      show (if dgt (tm A i) = e then (tm A i).n else 0) = _
      rw [if_pos (by unfold dgt; obtain ⟨w1, w2, w3⟩ := w; omega)]
    · rw [if_neg (show ¬ isAt (gPt e (tm A i)) x y z from w), if_neg w]
  · rw [if_neg g, sumTo_zero (fun i hi => ?_), Nat.zero_mod]
    by_cases w : isAt (tm A i) x y z
    · rw [if_pos (show isAt (gPt e (tm A i)) x y z from w)]
      show (if dgt (tm A i) = e then (tm A i).n else 0) = 0
      rw [if_neg (by unfold dgt; obtain ⟨w1, w2, w3⟩ := w; omega)]
    · rw [if_neg (show ¬ isAt (gPt e (tm A i)) x y z from w)]
def Wh3 (h0 b _k : Nat) : Prop := h0 + 30 ≤ b ∧ b ≤ h0 + 38
section LHI
variable {M : Nat × Nat} {S : HS} {K : Int32 → HS → Prop} {h0 p a : Nat} {A : Po}
theorem c_loadHighest {e : Nat} (hL : Lay h0 S) (h60 : h0 + 60 ≤ hX S) (hpp : PrP p) (hp10 : hI S (h0 + 25) 12 = ι p) (hw : wf p A) (ka : Ka h0 a) (rd : Rd S a A) (sa : Rs h0 S a) (nil : Rd S (h0 + 27) []) (he : mx A dgt A.length = e + 1)
    (h : ∀ S' Lt, Ext S S' (Wh3 h0) V0 → hX S' = hX S → hS S' = hS S → Can p (mF p (gPt e) A) Lt → (∀ b k, b < h0 + 30 ∨ (h0 + 33 ≤ b ∧ b ≤ h0 + 35) → b < hX S → hI S' b k = hI S b k) → Pts S' (h0 + 36) p Lt → K 0 S') : wp_X2_loadHighest M (h0 + 25) a S K := by
  have hp := hpp.le
  have hle := hw.1
  have hs : ∀ i, i < A.length → (fg p (gPt e) A i).n ≠ 0 → sm (fg p (gPt e) A i) ∧ (fg p (gPt e) A i).n < p := fun i hi _ => ⟨hw.sm (i := A.length - 1 - i) (by omega), Nat.mod_lt _ (by omega)⟩
  have ho : ∀ i j, i < j → j < A.length → (fg p (gPt e) A i).n ≠ 0 → (fg p (gPt e) A j).n ≠ 0 → k6 (fg p (gPt e) A j) < k6 (fg p (gPt e) A i) := fun i j hij hj _ _ => k6_fall hw hij hj
  have hF := fg_mF (g := gPt e) (A := A) (fF_lt (by omega) hs ho)
  have hF' : fF (fg p (gPt e) A) A.length = mF p (gPt e) A := by funext x y z; exact hF x y z
  have pc := pf_can (p := p) (by omega) hs ho
  rw [hF'] at pc
  have no := pf_no (t := fg p (gPt e) A) A.length hle
  have can := pc.1 no.1
  have he120 : e ≤ 120 := by
    have := mx_le (L := A) (g := dgt) (B := 120) (n := A.length) (fun i hi => by have := hw.sm hi; unfold dgt; obtain ⟨h1, h2, h3⟩ := this; omega)
    omega
  have w36 : ∀ b k, W3 h0 30 b k → Wh3 h0 b k := fun b k w => by unfold W3 at w; unfold Wh3; omega
  have an : ∀ k, ¬ W3 h0 30 a k ∧ ¬ W3 h0 30 (a + 1) k ∧ ¬ W3 h0 30 (a + 2) k ∧ ¬ V0 a k := fun k => by
    unfold Ka at ka
    unfold W3
    exact ⟨by omega, by omega, by omega, fun c => c⟩
  have key : ∀ (k i : Nat) (S1 : HS), i + k = A.length → Ext S S1 (W3 h0 30) V0 → hX S1 = hX S → hS S1 = hS S → Dr h0 S1 30 (pf (fg p (gPt e) A) i).1 (pf (fg p (gPt e) A) i).2 → wl_X2_loadHighest_14 M K (k + 1) (h0 + 25) a (ι e) (ι i) S1 := by
    intro k
    induction k with
    | zero =>
      intro i S1 hi e1 x1 s1 d1
      obtain ⟨p1, p2, p3, p4, p5, p6, p7, p8, p7', p8', p9, p11⟩ := rd.go e1 an
      have hL1 := hL.go h60 e1 (fun _ _ c => c)
      rw [show i = A.length by omega] at d1 ⊢
      have rs1 := d1.rd (DL.d30 hL1) (by omega)
      have nil1 : Rd S1 (h0 + 27) [] := nil.go e1 (fun k => by unfold W3; exact ⟨by omega, by omega, by omega, fun c => c⟩)
      show wb_X2_loadHighest_14 _ _ _ _ _ _ _ _
      unfold wb_X2_loadHighest_14
      rw [p9, ι_le (by omega) (by omega)]
      refine ⟨p2, fun _ => ⟨hL1.t25, h0 + 36, hL1.p25_5, hL1.t25, h0 + 30, hL1.p25_3, hL1.t25, h0 + 27, hL1.p25_2, hL1.t25, hL1.t36, ?_⟩, fun w => absurd (by omega) w⟩
      refine c_load hpp (PtL.q36 hL1 (by omega)) can.1 (wf_nil p) rs1 nil1 (fun j hj => by omega) (fun j hj => by omega) (by rw [(e1.2.2.1 (h0 + 25) (by omega)).2.2.1 12 (by unfold W3; omega)]; exact hp10) (fun S2 ld => ?_)
      obtain ⟨e2, x2, y2, -, l2, -, lv⟩ := ld
      have e12 : Ext S S2 (Wh3 h0) V0 := (e1.mo w36 (fun _ _ c => c)).tr (e2.mo (fun b k w => by unfold Wq at w; unfold Wh3; omega) (fun _ _ c => c))
      refine h S2 _ e12 (by omega) (by omega) can (fun b k hb hbx => ?_) ⟨l2, fun x y z hx hy hz => by rw [lv x y z hx hy hz, dfF_nil]⟩
      rw [(e2.2.2.1 b (by omega)).2.2.1 k (by unfold Wq; omega), (e1.2.2.1 b hbx).2.2.1 k (by unfold W3; omega)]
    | succ k ih =>
      intro i S1 hi e1 x1 s1 d1
      obtain ⟨p1, p2, p3, p4, p5, p6, p7, p8, p7', p8', p9, p11⟩ := rd.go e1 an
      have hL1 := hL.go h60 e1 (fun _ _ c => c)
      have hsm := hw.sm (i := A.length - 1 - i) (by omega)
      have hn := hw.2.1 (A.length - 1 - i) (by omega)
      have hdg : dgt (rt A i) ≤ 120 := by unfold rt dgt; omega
      have one : (1 : Int32) = ι 1 := rfl
      show wb_X2_loadHighest_14 _ _ _ _ _ _ _ _
      unfold wb_X2_loadHighest_14
      rw [p9, ι_le (by omega) (by omega), one, ι_add, ι_cl (by omega)]
      refine ⟨p2, fun c => absurd c (by omega), fun _ => ⟨p2, a + 1, p3, p5, ι_in (by omega) (by omega), ?_⟩⟩
      refine c_degreeOf (t := rt A i) hsm (p11 i (by omega)).1 ?_
      rw [ι_eq (by omega) (by omega)]
      refine ⟨fun c => ?_, fun c => ?_⟩ <;> unfold rt at c
      · refine ih (i + 1) S1 (by omega) e1 x1 s1 ?_
        rw [pf_skip (t := fg p (gPt e) A) (i := i) (show (if dgt (tm A (A.length - 1 - i)) = e then (tm A (A.length - 1 - i)).n else 0) % p = 0 by rw [if_neg c]; exact Nat.zero_mod _)]
        exact d1
      · refine ⟨hL1.t25, h0 + 30, hL1.p25_3, p2, a + 1, p3, p5, ι_in (by omega) (by omega), p2, a + 2, p4, p6, ι_in (by omega) (by omega), hL1.t30, ?_⟩
        have en : (fg p (gPt e) A i).n = (tm A (A.length - 1 - i)).n := by
          show (if dgt (tm A (A.length - 1 - i)) = e then (tm A (A.length - 1 - i)).n else 0) % p = _
          rw [if_pos c, Nat.mod_eq_of_lt (by omega)]
        refine c_psh (t := fg p (gPt e) A i) (DL.d30 hL1) d1 (p11 i (by omega)).1 (by rw [en]; exact (p11 i (by omega)).2) (by rw [en]; omega) (fun S2 e2 x2 s2 d2 => ?_)
        exact ih (i + 1) S2 (by omega) (e1.tr e2) (by omega) (by omega) d2
  unfold wp_X2_loadHighest
  refine ⟨rd.2.1, c_degree hw rd ⟨hL.t25, h0 + 30, hL.p25_3, hL.t30, c_clear (DL.d30 hL) (fun S1 e1 x1 s1 d1 => ⟨A.length + 1, ?_⟩)⟩⟩
  rw [he, ιm_s]
  exact key A.length 0 S1 (by omega) e1 x1 s1 d1
end LHI
/-! The factors of a polynomial are found. -/
theorem PolyAt.un {p a : Nat} {S : HS} {L L' : Po} (h : PolyAt S a L) (h' : PolyAt S a L') (hw : wf p L) (hw' : wf p L') (hp : p < 2147483648) : L = L' := by
  obtain ⟨-, -, -, -, -, -, n1, -, -, -, t1⟩ := h
  obtain ⟨-, -, -, -, -, -, n2, -, -, -, t2⟩ := h'
  have hl : L.length = L'.length := n1.symm.trans n2
  have w300 := hw.1
  refine tm_ext hl (fun i hi => ?_)
  have a1 := t1 (L.length - 1 - i) (by omega)
  have a2 := t2 (L.length - 1 - i) (by omega)
  rw [← hl, show L.length - 1 - (L.length - 1 - i) = i by omega] at a2
  rw [show L.length - 1 - (L.length - 1 - i) = i by omega] at a1
  have s1 := hw.2.1 i hi
  have s2 := hw'.2.1 i (by omega)
  have k1 : k6 (tm L i) = k6 (tm L' i) := by
    have := a1.1.symm.trans a2.1
    rw [ι_eq (by unfold k6; omega) (by unfold k6; omega)] at this
    exact this
  have m1 : (tm L i).n = (tm L' i).n := by
    have := a1.2.symm.trans a2.2
    have l1 := s1.2.2.2.2
    have l2 := s2.2.2.2.2
    have c := congrArg Int32.toInt this
    rw [ι_int (by omega), ι_int (by omega)] at c
    omega
  have e := k6_inj (hw.sm hi) (hw'.sm (by omega)) k1
  exact Tm.ext4 e.1 e.2.1 e.2.2 m1
section FIND
variable {M : Nat × Nat} {S S1 : HS} {K : Int32 → HS → Prop} {h0 X0 S0 p k a T X Y Z : Nat} {L Lt : Po} {D : Nat → Nat} {F : N3} {g : Gh}
theorem FT.sp {r : Option Nat} (h : FT h0 X0 S0 S S1 X Y Z) (h60 : h0 + 60 ≤ hX S) : FT h0 X0 S0 S (sP S1 (h0 + 25) 13 r) X Y Z := by
  have e : bxC h0 (sP S1 (h0 + 25) 13 r) 42 = bxC h0 S1 42 := bxC.go (by rw [sP_ne (by omega)])
  rcases h with h | ⟨h, h2⟩
  · exact Or.inl (h.sp h60)
  · exact Or.inr ⟨h.sp h60, by rw [e]; exact h2⟩
/-- the work is done -/
theorem FI.fin (hc : CIr h0 X0 S0 S g) (hw : wf g.1 L) (hL : L ≠ []) (ka : Ka h0 a) (pa : PolyAt S a L) (fi : FI h0 (X0 + 1) S0 S S1 g.1 L (lns g.1) X Y Z Lt D T F) : CIr h0 (X0 + 2) S0 (sP S1 (h0 + 25) 13 (some a)) g ∧ FcR g.1 L (hI (sP S1 (h0 + 25) 13 (some a)) (h0 + 25)) (hI (sP S1 (h0 + 25) 13 (some a)) (h0 + 26)) (hI (sP S1 (h0 + 25) 13 (some a)) (h0 + 41)) (hI (sP S1 (h0 + 25) 13 (some a)) (h0 + 39) 1) (hI (sP S1 (h0 + 25) 13 (some a)) (bxC h0 (sP S1 (h0 + 25) 13 (some a)) 39)) (hN (sP S1 (h0 + 25) 13 (some a)) (bxC h0 (sP S1 (h0 + 25) 13 (some a)) 39)) := by
  obtain ⟨ft, fa, rk, fr, sz, -⟩ := fi
  have hp := fa.1.2.2.2.2.2.2.1.le
  have eF : she (Ek g.1 L (lns g.1)) F = F := by rw [she_cg (E' := fun _ => 0) (fun v hv => Ek_end (by omega) hv)]; exact sh_0
  rw [eF] at rk
  have hb : CBx h0 S := (FS.start hc).2.2.1
  have hct : CTop h0 S := by obtain ⟨p, P, A, T, Tx, ft, Q, B⟩ := g; exact hc.2.1
  have h60 := hct.1
  have ft2 := ft.sp (r := some a) h60
  have fs2 := ft2.fs
  have e : bxC h0 (sP S1 (h0 + 25) 13 (some a)) 39 = bxC h0 S1 39 := bxC.go (by rw [sP_ne (by omega)])
  obtain ⟨o1, o2, o3, o4, o5, o6⟩ := fa.2.1
  obtain ⟨l1, l2, l3, l4, l5, l6, l7, -⟩ := fa.1
  have fc : FcR g.1 L (hI (sP S1 (h0 + 25) 13 (some a)) (h0 + 25)) (hI (sP S1 (h0 + 25) 13 (some a)) (h0 + 26)) (hI (sP S1 (h0 + 25) 13 (some a)) (h0 + 41)) (hI (sP S1 (h0 + 25) 13 (some a)) (h0 + 39) 1) (hI (sP S1 (h0 + 25) 13 (some a)) (bxC h0 (sP S1 (h0 + 25) 13 (some a)) 39)) (hN (sP S1 (h0 + 25) 13 (some a)) (bxC h0 (sP S1 (h0 + 25) 13 (some a)) 39)) := by
    rw [e]
    refine ⟨l4, fun z => absurd z hL, fun _ => ⟨fr.1, fr.2.1, by omega, X, Y, Z, ub D Y Z, F, l6.1, l6.2.1, l6.2.2, ⟨by unfold ub; omega, ub_le (fun v hv => (l5 v hv).2)⟩, fa.2.2.1.bd, rk, o1, o2, o3, o4, o6, fun x y z k => (fa.2.2.1.2 x y z).2 ?_⟩⟩
    have d0 := (l5 0 (by omega)).2
    have d1 := (l5 1 (by omega)).2
    have d2 := (l5 2 (by omega)).2
    have d0 : D 0 ≤ X := d0
    have d1 : D 1 ≤ Y := d1
    have d2 : D 2 ≤ Z := d2
    refine Classical.byContradiction fun n => ?_
    have mo := cx_mo (Y := Y) (Z := Z) (x := x) (y := y) (z := z) (x' := D 0) (y' := D 1) (z' := D 2) (by omega) (by omega) (by omega)
    unfold ub at k
    omega
  refine ⟨(fs2.cir hc ⟨fs2.2.2.2.2.1, Or.inr ⟨a, L, by rw [sP_eq, if_pos rfl], ka, fs2.pk hb a L ka pa, hw, fc⟩⟩), fc⟩
/-- nothing to look for -/
theorem lk0 (hpp : PrP p) (hw : wf p L) (hL : L ≠ []) (hz : ∀ v, v ≤ 2 → dgL L v = 0) : ∀ k, k ≤ lns p → RoK p L k (cf L) ∧ flS p L k = [] := by
  intro k
  induction k with
  | zero => intro _; exact ⟨rfl, rfl⟩
  | succ k ih =>
    intro hk
    have hp := hpp.le
    obtain ⟨r, f⟩ := ih (by omega)
    have nd : ¬ Dv (p : Int) (lk p k) (nz3 (cf L)) := dv_cgo hpp (lnK_ln (by omega) (by show k < lns p; omega)) (sp_cf hpp hw) (cf_nn hw hL) (fun w => by
      have := w.1
      rw [hz _ led_le] at this
      omega)
    obtain ⟨r2, m0⟩ := r.skip hpp (by omega) (cf_bd hpp hw) nd
    exact ⟨r2, by rw [flS_s0 m0]; exact f⟩
theorem c_find (hc : CIr h0 X0 S0 S g) (hpp : PrP g.1) (hw : wf g.1 L) (ka : Ka h0 a) (pa : PolyAt S a L) (r1 : X0 + 3 ≤ M.1) (r2 : S0 + 2000000 ≤ M.2)
    (h : ∀ S2, CIr h0 (X0 + 2) S0 S2 g → PolyAt S2 a L → FcR g.1 L (hI S2 (h0 + 25)) (hI S2 (h0 + 26)) (hI S2 (h0 + 41)) (hI S2 (h0 + 39) 1) (hI S2 (bxC h0 S2 39)) (hN S2 (bxC h0 S2 39)) → K 0 S2) : wp_X2_find M (h0 + 25) a (ι g.1) S K := by
  have fs := FS.start hc
  have bs := hc.bs hpp
  have h60 := bs.2.1.1
  have hp := hpp.le
  have hb := bs.2.2.1
  obtain ⟨p3, p4⟩ := p3_le hpp
  have nul : (0 : Int32) = ι 0 := rfl
  have one : (1 : Int32) = ι 1 := rfl
  unfold wp_X2_find
  refine ⟨bs.1.t25, fun _ => ⟨bs.1.t25, c_layOutF bs.1 h60 fs hpp hw ka pa (by omega) r2 (fun S1 fs1 ly1 p1 fl1 bo1 ls1 => ?_)⟩, fun hit => ?_⟩
  rotate_left
  · -- found before
    have cf : CFc h0 S g.1 := by obtain ⟨p, P, A, T, Tx, ft, Q, B⟩ := g; exact hc.2.2.2.2.2.2.2.2.2.2.1
    rcases cf.2 with c | ⟨a', L', c1, c2, c3, c4, c5⟩
    · rw [c] at hit; cases hit
    · rw [c1] at hit
      cases hit
      have e := pa.un c3 hw c4 (by omega)
      subst e
      exact h S (hc.mo (by omega) (by omega)) pa c5
  -- the number of factors is 0
  have e2 : Ext S1 (sI S1 (h0 + 25) 1 0) (fun b k => b = h0 + 25 ∧ k = 1) V0 := (Ext.rf S1 _ _).sI ⟨rfl, rfl⟩
  have fs2 : FS h0 (X0 + 1) S0 S (sI S1 (h0 + 25) 1 0) := fs1.scr h60 e2 (fun b k w => Or.inl w.1) rfl rfl
  have z2 : hI (sI S1 (h0 + 25) 1 0) (h0 + 25) 1 = 0 := by rw [sI_eq, if_pos rfl]
  have z10 : hI (sI S1 (h0 + 25) 1 0) (h0 + 25) 12 = ι g.1 := by rw [sI_eq, if_neg (by omega)]; exact p1
  have zz : ∀ b, b ≠ h0 + 25 → hI (sI S1 (h0 + 25) 1 0) b = hI S1 b := fun b hb => sI_ne hb
  have b39 := fs1.2.2.1.1.2.2.1
  have p39 := b39.2.2.2.2.1
  have h61 : h0 + 60 ≤ hX S1 := by have := fs1.1.1; omega
  have bo2 : Bu h0 (sI S1 (h0 + 25) 1 0) 39 (dlL L 0) (dlL L 1) (dlL L 2) (ub (dlL L) (dlL L 1) (dlL L 2)) (dnL L) := by
    obtain ⟨o1, o2, o3, o4, o5, o6⟩ := bo1
    exact ⟨by rw [zz _ (by omega)]; exact o1, by rw [zz _ (by omega)]; exact o2, by rw [zz _ (by omega)]; exact o3, o4, o5, fun x y z hx hy hz => by
      show hI (sI S1 (h0 + 25) 1 0) (bxC h0 S1 39) _ = _
      rw [zz _ (by omega)]; exact o6 x y z hx hy hz⟩
  have fl2 : L ≠ [] → FL h0 (sI S1 (h0 + 25) 1 0) g.1 (dlL L) (dtL L) (dlL L 0) (dlL L 1) (dlL L 2) := fun hne => by
    obtain ⟨l1, l2, l3, l4, l5, l6, l7, l8, l9⟩ := fl1 hne
    exact ⟨l1, l2, fs2.2.2.1, z10, fun v hv => ⟨by rw [zz _ (by omega)]; exact (l5 v hv).1, (l5 v hv).2⟩, l6, l7, by rw [sI_eq, if_neg (by omega)]; exact l8, l9⟩
  have ls2 : ∀ v, v ≤ 2 → hI (sI S1 (h0 + 25) 1 0) (h0 + 46) v = ι (lsL L v) := fun v hv => by rw [zz _ (by omega)]; exact ls1 v hv
  have ly2 : Lay h0 (sI S1 (h0 + 25) 1 0) := ly1.go h61 e2 (fun _ _ c => c)
  have h62 : h0 + 60 ≤ hX (sI S1 (h0 + 25) 1 0) := h61
  generalize sI S1 (h0 + 25) 1 0 = S2 at fs2 z2 z10 bo2 fl2 ls2 ly2 h62
  have pa2 : PolyAt S2 a L := fs2.pk hb a L ka pa
  have rd2 := pa2.rd hw
  refine ⟨ly1.t25, ?_, c_degree hw rd2 ?_⟩
  · exact rd2.2.1
  have hle := hw.1
  have mx120 : mx L dgt L.length ≤ 121 := mx_le (L := L) (g := dgt) (B := 120) (n := L.length) (fun i hi => by have := hw.sm hi; unfold dgt; obtain ⟨h1, h2, h3⟩ := this; omega)
  by_cases hd : mx L dgt L.length ≤ 1
  · -- a number alone, or 0
    have h0' : ιm (mx L dgt L.length) ≤ 0 := by
      unfold ιm
      by_cases m0 : mx L dgt L.length = 0
      · rw [if_pos m0]; decide
      · rw [if_neg m0, nul, ι_le (by omega) (by omega)]; omega
    refine ⟨fun _ => ⟨ly2.t25, ?_⟩, fun w => absurd h0' w⟩
    by_cases hL : L = []
    · have fs3 := fs2.sp (r := some a) h60
      have fc : FcR g.1 L (hI (sP S2 (h0 + 25) 13 (some a)) (h0 + 25)) (hI (sP S2 (h0 + 25) 13 (some a)) (h0 + 26)) (hI (sP S2 (h0 + 25) 13 (some a)) (h0 + 41)) (hI (sP S2 (h0 + 25) 13 (some a)) (h0 + 39) 1) (hI (sP S2 (h0 + 25) 13 (some a)) (bxC h0 (sP S2 (h0 + 25) 13 (some a)) 39)) (hN (sP S2 (h0 + 25) 13 (some a)) (bxC h0 (sP S2 (h0 + 25) 13 (some a)) 39)) := ⟨z10, fun _ => z2, fun w => absurd hL w⟩
      have pa3 := fs3.pk hb a L ka pa
      exact h _ ((fs3.cir hc ⟨fs3.2.2.2.2.1, Or.inr ⟨a, L, by rw [sP_eq, if_pos rfl], ka, pa3, hw, fc⟩⟩).mo (by omega) (by omega)) pa3 fc
    · have hz : ∀ v, v ≤ 2 → dgL L v = 0 := fun v hv => by
        obtain ⟨i, hi, he⟩ := mx_ex (L := L) (g := fun t => exv t v) (n := L.length) (List.length_pos_iff.mpr hL)
        have g1 := mx_ge (L := L) (g := dgt) hi
        have : exv (tm L i) v ≤ dgt (tm L i) := by
          have : v = 0 ∨ v = 1 ∨ v = 2 := by omega
          rcases this with rfl | rfl | rfl <;> unfold exv dgt <;> simp <;> omega
        unfold dgL mA
        omega
      obtain ⟨rk, fe⟩ := lk0 hpp hw hL hz (lns g.1) (Nat.le_refl _)
      have fs3 := fs2.sp (r := some a) h60
      have e : bxC h0 (sP S2 (h0 + 25) 13 (some a)) 39 = bxC h0 S2 39 := bxC.go (by rw [sP_ne (by omega)])
      have fc : FcR g.1 L (hI (sP S2 (h0 + 25) 13 (some a)) (h0 + 25)) (hI (sP S2 (h0 + 25) 13 (some a)) (h0 + 26)) (hI (sP S2 (h0 + 25) 13 (some a)) (h0 + 41)) (hI (sP S2 (h0 + 25) 13 (some a)) (h0 + 39) 1) (hI (sP S2 (h0 + 25) 13 (some a)) (bxC h0 (sP S2 (h0 + 25) 13 (some a)) 39)) (hN (sP S2 (h0 + 25) 13 (some a)) (bxC h0 (sP S2 (h0 + 25) 13 (some a)) 39)) := by
        rw [e]
        have hls : ∀ v, v ≤ 2 → lsL L v = 0 := fun v hv => by
          have a1 := lsL_dg (L := L) v
          have a2 : mA L v - 1 = 0 := hz v hv
          omega
        have eF : dnL L = cf L := by
          funext x y z
          unfold dnL
          rw [hls 0 (by omega), hls 1 (by omega), hls 2 (by omega)]
          rfl
        have sp := dnL_sp hpp hw
        rw [eF] at bo2 sp
        obtain ⟨o1, o2, o3, o4, o5, o6⟩ := bo2
        obtain ⟨-, -, -, -, l5, l6, -⟩ := fl2 hL
        refine ⟨z10, fun w => absurd w hL, fun _ => ?_⟩
        rw [fe]
        exact ⟨z2, fun i hi => absurd hi (by simp), by simp, _, _, _, _, cf L, l6.1, l6.2.1, l6.2.2, ⟨by unfold ub; omega, ub_le (fun v hv => (l5 v hv).2)⟩, cf_bd hpp hw, rk, o1, o2, o3, o4, o6, fun x y z k => (sp.2 x y z).2 (by
          refine Classical.byContradiction fun n => ?_
          have mo := cx_mo (Y := dlL L 1) (Z := dlL L 2) (x := x) (y := y) (z := z) (x' := dlL L 0) (y' := dlL L 1) (z' := dlL L 2) (by omega) (by omega) (by omega)
          unfold ub at k
          omega)⟩
      have pa3 := fs3.pk hb a L ka pa
      exact h _ ((fs3.cir hc ⟨fs3.2.2.2.2.1, Or.inr ⟨a, L, by rw [sP_eq, if_pos rfl], ka, pa3, hw, fc⟩⟩).mo (by omega) (by omega)) pa3 fc
  · -- lines are tried
    have hL : L ≠ [] := fun z => by rw [z] at hd; exact hd (by show (0 : Nat) ≤ 1; omega)
    obtain ⟨e, he⟩ : ∃ e, mx L dgt L.length = e + 1 := ⟨mx L dgt L.length - 1, by omega⟩
    rw [he, ιm_s]
    refine ⟨fun w => absurd w (by rw [nul, ι_le (by omega) (by omega)]; omega), fun _ => ?_⟩
    have fl2 := fl2 hL
    have hb2 := fs2.2.2.1
    have nil2 : Rd S2 (h0 + 27) [] := (fs2.pk hb (h0 + 27) [] (Or.inr (Or.inl rfl)) bs.2.1.2.2.2.1).rd (wf_nil 2)
    have sa2 := rs_ka ka pa2 hb2
    have n33 := sa2.n (o := 33) (by omega)
    have n34 := sa2.n (o := 34) (by omega)
    have n35 := sa2.n (o := 35) (by omega)
    refine ⟨fl2.1.t25, h0 + 33, fl2.1.p25_4, fl2.1.t25, h0 + 27, fl2.1.p25_2, fl2.1.t25, fl2.1.t33, c_load hpp (PtL.q33 fl2.1 h62) hw (wf_nil _) rd2 nil2 (fun j hj => by
      have : j = 0 ∨ j = 1 ∨ j = 2 := by omega
      rcases this with rfl | rfl | rfl <;> omega) (fun j hj => by omega) z10 (fun S5 ld => ?_)⟩
    obtain ⟨e5, x5, y5, -, l5, -, v5⟩ := ld
    have w5 : ∀ b k, Wq (h0 + 33) b k → (h0 + 30 ≤ b ∧ b ≤ h0 + 38) := fun b k w => by unfold Wq at w; omega
    have fs5 := fs2.scr h60 e5 (fun b k w => by have := w5 b k w; unfold Wy; omega) x5 y5
    have fa2 : FA h0 S2 g.1 (dlL L) (dtL L) (dlL L 0) (dlL L 1) (dlL L 2) (dnL L) := ⟨fl2, bo2, dnL_sp hpp hw, dnL_nn hw hL, dnL_dg⟩
    have fa5 := fa2.go e5 (fun b k w => Or.inr (Or.inr (Or.inr (w5 b k w)))) x5
    have pa5 : PolyAt S5 a L := fs5.pk hb a L ka pa
    have nil5 : Rd S5 (h0 + 27) [] := (fs5.pk hb (h0 + 27) [] (Or.inr (Or.inl rfl)) bs.2.1.2.2.2.1).rd (wf_nil 2)
    have hb5 := fs5.2.2.1
    refine ⟨fa5.1.1.t25, c_loadHighest fa5.1.1 fa5.1.2.1 hpp fa5.1.2.2.2.1 hw ka (pa5.rd hw) (rs_ka ka pa5 hb5) nil5 he (fun S6 Lt e6 x6 y6 can kp6 pt6 => ?_)⟩
    have w6 : ∀ b k, Wh3 h0 b k → (h0 + 30 ≤ b ∧ b ≤ h0 + 38) := fun b k w => w
    have fs6 := fs5.scr h60 e6 (fun b k w => by have := w6 b k w; unfold Wy; omega) x6 y6
    have fa6 := fa5.go e6 (fun b k w => Or.inr (Or.inr (Or.inr (w6 b k w)))) x6
    have pa6 : PolyAt S6 a L := fs6.pk hb a L ka pa
    have h65 := fa5.1.2.1
    have hi : HiP g.1 L Lt := by
      refine ⟨can.1, e, by omega, fun x y z k => cf_none (fun i hi w => ?_), fun x y z => by rw [can.2, mF_pt hpp hw]⟩
      have g1 := mx_ge (L := L) (g := dgt) hi
      have g2 : dgt (tm L i) = (tm L i).x + (tm L i).y + (tm L i).z := rfl
      obtain ⟨w1, w2, w3⟩ := w
      omega
    have hm41 : ∀ v, mA L v ≤ 41 := fun v => mA_le (v := v) hw
    have hls : ∀ v, lsL L v ≤ mA L v - 1 := fun v => lsL_dg v
    have fi0 : FI h0 (X0 + 1) S0 S S6 g.1 L 0 (dlL L 0) (dlL L 1) (dlL L 2) Lt (dlL L) (dtL L) (dnL L) := by
      refine ⟨Or.inl fs6, fa6, by rw [she_cg (E' := lsL L) (fun v _ => Ek_0)]; exact dnL_sh, ⟨?_, fun i hi => absurd hi (by show ¬ i < 0; omega), ⟨?_, fun x y z hx hy hz => ?_⟩, pt6⟩, ?_, fun v hv => ?_, fun v hv => ?_⟩
      · rw [kp6 _ _ (by omega) (by omega), (e5.2.2.1 (h0 + 25) (by omega)).2.2.1 1 (by unfold Wq; omega)]; exact z2
      · rw [kp6 _ _ (by omega) (by omega)]; exact l5
      · rw [kp6 _ _ (by omega) (by omega), v5 x y z hx hy hz, dfF_nil]
      · rw [Ek_0, Ek_0, Ek_0]
        show 0 + (mA L 0 - 1 - lsL L 0 + (mA L 1 - 1 - lsL L 1) + (mA L 2 - 1 - lsL L 2)) + (lsL L 0 + lsL L 1 + lsL L 2) ≤ 120
        have a0 := hm41 0
        have a1 := hm41 1
        have a2 := hm41 2
        have b0 := hls 0
        have b1 := hls 1
        have b2 := hls 2
        omega
      · rw [(e6.2.2.1 (h0 + 46) (by omega)).2.2.1 v (by unfold Wh3; omega), (e5.2.2.1 (h0 + 46) (by omega)).2.2.1 v (by unfold Wq; omega)]; exact ls2 v hv
      · have a0 := hm41 v
        have b0 := hls v
        unfold dlL
        omega
    generalize hX' : dlL L 0 = X at fi0
    generalize hY' : dlL L 1 = Y at fi0
    generalize hZ' : dlL L 2 = Z at fi0
    have rr1 : X0 + 1 + 2 ≤ M.1 := by omega
    -- the end
    have fin : ∀ S7 D7 T7 F7, FI h0 (X0 + 1) S0 S S7 g.1 L (lns g.1) X Y Z Lt D7 T7 F7 → K 0 (sP S7 (h0 + 25) 13 (some a)) := fun S7 D7 T7 F7 fi7 => by
      obtain ⟨c7, f7⟩ := fi7.fin hc hw hL ka pa
      have fs8 := (fi7.1.sp (r := some a) h60).fs
      exact h _ c7 (fs8.pk hb a L ka pa) f7
    have lnsE : g.1 * g.1 * g.1 + g.1 * g.1 + g.1 = lns g.1 := rfl
    have k92 : ∀ r c S7 D7 T7 F7, c + r = g.1 → FI h0 (X0 + 1) S0 S S7 g.1 L (g.1 * g.1 * g.1 + c * g.1) X Y Z Lt D7 T7 F7 → wl_X2_find_92 M K (r + 1) (h0 + 25) a (ι c) S7 := by
      intro r
      induction r with
      | zero =>
        intro c S7 D7 T7 F7 hc' fi7
        have ec : c = g.1 := by omega
        subst ec
        have L7 := fi7.2.1.1.1
        show wb_X2_find_92 _ _ _ _ _ _ _
        unfold wb_X2_find_92
        rw [fi7.2.1.1.2.2.2.1]
        refine ⟨L7.t25, fun _ => ⟨L7.t25, ?_⟩, fun w => absurd (by rw [ι_le (by omega) (by omega)]; omega) w⟩
        refine c_tryLines (a := 0) (b := 0) (c := 1) (k0 := g.1 * g.1 * g.1 + g.1 * g.1) h60 hpp hw hL hi (by rw [lnsE]; exact Nat.le_refl _) (fun d hd => lnK_3 hd) fi7 rr1 r2 (fun S8 D8 T8 F8 fi8 => ?_)
        exact ⟨fi8.2.1.1.1.t25, fin S8 D8 T8 F8 fi8⟩
      | succ r ih =>
        intro c S7 D7 T7 F7 hc' fi7
        have hcp : c < g.1 := by omega
        have L7 := fi7.2.1.1.1
        have le1 : c * g.1 + g.1 ≤ g.1 * g.1 := by
          have := Nat.mul_le_mul_right g.1 (show c + 1 ≤ g.1 by omega)
          rw [Nat.succ_mul] at this; exact this
        show wb_X2_find_92 _ _ _ _ _ _ _
        unfold wb_X2_find_92
        rw [fi7.2.1.1.2.2.2.1, one, ι_add]
        refine ⟨L7.t25, fun w => absurd w (by rw [ι_le (by omega) (by omega)]; omega), fun _ => ⟨L7.t25, ?_⟩⟩
        refine c_tryLines (a := 0) (b := 1) (c := c) (k0 := g.1 * g.1 * g.1 + c * g.1) h60 hpp hw hL hi (by show _ ≤ g.1 * g.1 * g.1 + g.1 * g.1 + g.1; omega) (fun d hd => by rw [Nat.add_assoc]; exact lnK_2 hcp hd) fi7 rr1 r2 (fun S8 D8 T8 F8 fi8 => ih (c + 1) S8 D8 T8 F8 (by omega) ?_)
        rw [Nat.succ_mul, ← Nat.add_assoc]
        exact fi8
    have k61 : ∀ (K50 : Nat → Nat → Int32 → HS → Prop) (b : Nat), b < g.1 → (∀ S7 D7 T7 F7, FI h0 (X0 + 1) S0 S S7 g.1 L (((b + 1) * g.1 + 0) * g.1) X Y Z Lt D7 T7 F7 → K50 (h0 + 25) a (ι (b + 1)) S7) → ∀ r c S7 D7 T7 F7, c + r = g.1 → FI h0 (X0 + 1) S0 S S7 g.1 L ((b * g.1 + c) * g.1) X Y Z Lt D7 T7 F7 → wl_X2_find_61 M K50 K (r + 1) (h0 + 25) a (ι b) (ι c) S7 := by
      intro K50 b hb' hK r
      induction r with
      | zero =>
        intro c S7 D7 T7 F7 hc' fi7
        have ec : c = g.1 := by omega
        rw [ec] at fi7 ⊢
        have L7 := fi7.2.1.1.1
        show wb_X2_find_61 _ _ _ _ _ _ _ _ _
        unfold wb_X2_find_61
        rw [fi7.2.1.1.2.2.2.1, one, ι_add]
        refine ⟨L7.t25, fun _ => hK S7 D7 T7 F7 ?_, fun w => absurd (by rw [ι_le (by omega) (by omega)]; omega) w⟩
        rw [Nat.add_zero, Nat.succ_mul]
        exact fi7
      | succ r ih =>
        intro c S7 D7 T7 F7 hc' fi7
        have hcp : c < g.1 := by omega
        have L7 := fi7.2.1.1.1
        have lt1 := idx_lt hb' hcp (show g.1 - 1 < g.1 by omega)
        show wb_X2_find_61 _ _ _ _ _ _ _ _ _
        unfold wb_X2_find_61
        rw [fi7.2.1.1.2.2.2.1, one, ι_add, ι_add]
        refine ⟨L7.t25, fun w => absurd w (by rw [ι_le (by omega) (by omega)]; omega), fun _ => ⟨L7.t25, ?_⟩⟩
        refine c_tryLines (a := 1) (b := b) (c := c) (k0 := (b * g.1 + c) * g.1) h60 hpp hw hL hi (by show _ ≤ g.1 * g.1 * g.1 + g.1 * g.1 + g.1; omega) (fun d hd => lnK_1 hb' hcp hd) fi7 rr1 r2 (fun S8 D8 T8 F8 fi8 => ih (c + 1) S8 D8 T8 F8 (by omega) ?_)
        rw [← Nat.add_assoc, Nat.succ_mul]
        exact fi8
    have k50 : ∀ r b S7 D7 T7 F7, b + r = g.1 → FI h0 (X0 + 1) S0 S S7 g.1 L ((b * g.1 + 0) * g.1) X Y Z Lt D7 T7 F7 → wl_X2_find_50 M K (r + 1) (h0 + 25) a (ι b) S7 := by
      intro r
      induction r with
      | zero =>
        intro b S7 D7 T7 F7 hb' fi7
        have eb : b = g.1 := by omega
        rw [eb] at fi7 ⊢
        have L7 := fi7.2.1.1.1
        show wb_X2_find_50 _ _ _ _ _ _ _
        unfold wb_X2_find_50
        rw [fi7.2.1.1.2.2.2.1]
        refine ⟨L7.t25, fun _ => ⟨g.1 + 1, k92 g.1 0 S7 D7 T7 F7 (by omega) ?_⟩, fun w => absurd (by rw [ι_le (by omega) (by omega)]; omega) w⟩
        rw [Nat.zero_mul, Nat.add_zero]
        rw [Nat.add_zero] at fi7
        exact fi7
      | succ r ih =>
        intro b S7 D7 T7 F7 hb' fi7
        have L7 := fi7.2.1.1.1
        show wb_X2_find_50 _ _ _ _ _ _ _
        unfold wb_X2_find_50
        rw [fi7.2.1.1.2.2.2.1]
        exact ⟨L7.t25, fun w => absurd w (by rw [ι_le (by omega) (by omega)]; omega), fun _ => ⟨g.1 + 1, k61 _ b (by omega) (fun S8 D8 T8 F8 fi8 => ih (b + 1) S8 D8 T8 F8 (by omega) fi8) g.1 0 S7 D7 T7 F7 (by omega) fi7⟩⟩
    refine ⟨g.1 + 1, k50 g.1 0 S6 (dlL L) (dtL L) (dnL L) (by omega) ?_⟩
    rw [Nat.zero_mul, Nat.add_zero, Nat.zero_mul]
    exact fi0
end FIND
