/-! The ends of makings; product and power of the class. -/
/-- what a making shows, by what it makes -/
def MkO (h0 a b : Nat) (S : HS) (r : Option Po) (K : Option Nat → HS → Prop) : Prop := ∀ S', Go h0 a b S S' → (∀ q L, r = some L → Ka h0 q → PolyAt S' q L → K (some q) S') ∧ (r = none → K none S')
theorem MkO.mk {h0 p a b : Nat} {S : HS} {F : Nat → Nat → Nat → Nat} {K : Option Nat → HS → Prop} (h : MkO h0 a b S (cn p F) K) (ha : 4 ≤ a) (hb : 604 ≤ b) : Mk h0 S p F K := fun S' st => by
  have hh := h S' ((Go.stp st).mo ha hb)
  exact ⟨fun q L k pa c => hh.1 q L (cn_some c) k pa, fun c => hh.2 (cn_none c)⟩
theorem MkO.go {h0 a b c d : Nat} {S S1 : HS} {r : Option Po} {K : Option Nat → HS → Prop} (h : MkO h0 (c + a) (d + b) S r K) (g : Go h0 c d S S1) : MkO h0 a b S1 r K := fun S' g' => h S' (g.tr g')
theorem c_roomIn {M : Nat × Nat} {a p v : Nat} {y : Int32} {L : Po} {S : HS} {K : Int32 → HS → Prop} (hw : wf p L) (pa : Rd S a L) (hy : y = ι v) (hv : v < 3) (h : K (ι (mA L v - 1)) S) : wp_X6_roomIn M a y S K := by
  have hm := mA_le (v := v) hw
  refine ⟨pa.2.1, c_degR hw pa hy hv ?_⟩
  have e : (if 0 < ιm (mx L (fun t => exv t v) L.length) then ιm (mx L (fun t => exv t v) L.length) else 0) = ι (mA L v - 1) := by
    show (if 0 < ιm (mA L v) then ιm (mA L v) else 0) = _
    unfold ιm
    by_cases c : mA L v = 0
    · rw [if_pos c, c]; rfl
    · rw [if_neg c]
      by_cases c2 : mA L v = 1
      · rw [c2]; rfl
      · rw [if_pos]
        rw [show (0 : Int32) = ι 0 from rfl, ι_lt (by omega) (by omega)]
        omega
  rw [e]; exact h
/-- a draft that isn't too much is kept -/
theorem c_keptD {M : Nat × Nat} {h0 p d : Nat} {D : Po} {S : HS} {K : Option Nat → HS → Prop} (bs : Bs h0 S p) (hd : d = 6 ∨ d = 30) (hD : Dr h0 S d D false) (r1 : hX S + 3 ≤ M.1) (r2 : hS S + 604 ≤ M.2) (h : ∀ S' b, Go h0 3 604 S S' → Ka h0 b → PolyAt S' b D.reverse → K (some b) S') : wp_X6_kept M (h0 + d) S K := by
  have h60 := bs.2.1.1
  have dl : DL h0 S d := by rcases hd with rfl | rfl; exact DL.d6 bs.1; exact DL.d30 bs.1
  refine c_kept dl (by omega) hD r1 r2 (fun _ S' ex hx' hs' pa => ?_) (fun c => by cases c)
  have e2 : Ext S S' (Wz h0 S) V0 := ex _ _
  have tp2 : Tp S' := by
    unfold Tp
    rw [hx', show hX S + 3 - 1 = hX S + 2 by omega, show hX S + 3 - 2 = hX S + 1 by omega, pa.2.2.2.2.1, pa.2.2.2.2.2.1]
    decide
  exact h S' (hX S) ⟨PK.of e2 (ka_z bs.2.2.1), by omega, fun X0 S0 g hc => hc.scr e2 tp2 (by omega) hs', Frz.of e2⟩ (Or.inr (Or.inr (by omega))) pa
theorem c_keptN {M : Nat × Nat} {h0 d : Nat} {D : Po} {S : HS} {K : Option Nat → HS → Prop} (hL : Lay h0 S) (h60 : h0 + 60 ≤ hX S) (hd : d = 6 ∨ d = 30) (hD : Dr h0 S d D true) (r1 : hX S + 3 ≤ M.1) (r2 : hS S + 604 ≤ M.2) (h : K none S) : wp_X6_kept M (h0 + d) S K := by
  have dl : DL h0 S d := by rcases hd with rfl | rfl; exact DL.d6 hL; exact DL.d30 hL
  exact c_kept dl (by omega) hD r1 r2 (fun c => by cases c) (fun _ => h)
/-- a Box is read into the draft, and that is kept -/
theorem c_endB {M : Nat × Nat} {h0 p o X Y Z : Nat} {x2 : Int32} {G F : Nat → Nat → Nat → Nat} {S : HS} {K : Option Nat → HS → Prop} (bs : Bs h0 S p) (ho : o = 12 ∨ o = 15) (bo : Bo h0 S o X Y Z G) (hG : ∀ x y z, G x y z < 2147483648) (hY : Y ≤ 80) (hZ : Z ≤ 80) (hx : x2 = ι p) (hF : bF p X Y Z G = F) (r1 : hX S + 3 ≤ M.1) (r2 : hS S + 604 ≤ M.2) (h : MkO h0 3 604 S (cn p F) K) : wp_X1_readInto M (h0 + o) (h0 + 6) x2 S (fun _ S3 => hT S3 (h0 + 5) = 10 ∧ ∃ b4 : Nat, hP S3 (h0 + 5) 1 = some b4 ∧ hT S3 b4 = 7 ∧ wp_X6_kept M b4 S3 (fun r5 S5 => K r5 S5)) := by
  obtain ⟨hL, ht, hb, hp, hpp⟩ := id bs
  have hBD : BD h0 S o 6 := by
    rcases ho with rfl | rfl
    · exact ⟨hL.t12, hL.p12_2, hL.t14, hL.n14, hb.1.1, DL.d6 hL, Or.inl rfl, Or.inl rfl, ht.1⟩
    · exact ⟨hL.t15, hL.p15_2, hL.t17, hL.n17, hb.1.2.1, DL.d6 hL, Or.inr (Or.inl rfl), Or.inl rfl, ht.1⟩
  refine c_readInto bo hBD hG hY hZ hpp hx (fun S1 D ov e1 x1 s1 d1 y1 n1 => ?_)
  rw [hF] at y1 n1
  have e1z : Ext S S1 (Wz h0 S) V0 := e1.mo (W3.z (Or.inl rfl)) (fun _ _ c => c)
  have bs1 := bs.go e1z x1
  have g1 := Go.scr hb ht e1z x1 s1
  refine ⟨bs1.1.t5, h0 + 6, bs1.1.p5_1, bs1.1.t6, ?_⟩
  cases ov with
  | false =>
    refine c_keptD bs1 (Or.inl rfl) d1 (by omega) (by omega) (fun S2 b g2 ka pa => ?_)
    exact (h S2 ((g1.tr g2).mo (by omega) (by omega))).1 b _ (cn_some (y1 rfl)) ka pa
  | true =>
    refine c_keptN bs1.1 bs1.2.1.1 (Or.inl rfl) d1 (by omega) (by omega) ?_
    exact (h S1 (g1.mo (by omega) (by omega))).2 (cn_none (n1 rfl))
theorem c_product {M : Nat × Nat} {h0 a b X0 S0 : Nat} {g : Gh} {A B : Po} {S : HS} {K : Option Nat → HS → Prop} (hc : CIr h0 X0 S0 S g) (hpp : PrP g.1) (wa : wf g.1 A) (wb : wf g.1 B) (kaa : Ka h0 a) (pa : PolyAt S a A) (kab : Ka h0 b) (pb : PolyAt S b B) (r1 : X0 + 4 ≤ M.1) (r2 : S0 + 2000000 ≤ M.2) (h : MkO h0 4 604 S (cn g.1 (prF g.1 A B)) K) : wp_X9_product M (h0 + 5) a b S K := by
  have bs := hc.bs hpp
  unfold wp_X9_product
  refine ⟨bs.1.t5, h0 + 6, bs.1.p5_1, bs.1.t5, ?_⟩
  refine c_multiply hc hpp (Or.inl rfl) wa wb (pa.rd wa) (rs_ka kaa pa bs.2.2.1) (pb.rd wb) (rs_ka kab pb bs.2.2.1) (by omega) r2 (fun S1 g1 _ => ⟨fun D d1 c1 => ⟨fun q => absurd q (by decide), fun _ => ?_⟩, fun c => ⟨fun _ => (h S1 (g1.mo (by omega) (by omega))).2 (cn_none c), fun q => absurd rfl q⟩⟩)
  have hc1 := g1.2.2.1 _ _ _ hc
  have bs1 := hc1.bs hpp
  have rm := hc1.room
  refine ⟨bs1.1.t5, h0 + 6, bs1.1.p5_1, bs1.1.t6, ?_⟩
  refine c_keptD bs1 (Or.inl rfl) d1 (by omega) (by omega) (fun S2 b g2 ka pa => ?_)
  exact (h S2 ((g1.tr g2).mo (by omega) (by omega))).1 b _ (cn_some c1) ka pa
theorem cst_rev (c : Nat) : (cst c).reverse = cst c := by
  unfold cst
  split <;> rfl
/-- one number alone -/
theorem c_push1 {M : Nat × Nat} {h0 d : Nat} {S : HS} {K : Int32 → HS → Prop} (hd : DL h0 S d) (hD : Dr h0 S d [] false) (h : ∀ S', Ext S S' (W3 h0 d) V0 → hX S' = hX S → hS S' = hS S → Dr h0 S' d (cst 1) false → K 0 S') : wp_X6_push M (h0 + d) 0 1 S K := c_psh (t := (0, 0, 0, 1)) hd hD rfl rfl (by decide) h
theorem c_power {M : Nat × Nat} {h0 a n X0 S0 : Nat} {x2 : Int32} {g : Gh} {A : Po} {S : HS} {K : Option Nat → HS → Prop} (hc : CIr h0 X0 S0 S g) (hpp : PrP g.1) (wa : wf g.1 A) (kaa : Ka h0 a) (pa : PolyAt S a A) (hx : x2 = ι n) (hn : n ≤ 9) (r1 : X0 + 12 ≤ M.1) (r2 : S0 + 2000000 ≤ M.2) (h : MkO h0 12 604 S (pw g.1 A n) K) : wp_X9_power M (h0 + 5) a x2 S K := by
  subst hx
  have bs := hc.bs hpp
  have hple := hpp.le
  have key : ∀ (k i : Nat) (S1 : HS) (D : Po), i + k = n → Go h0 i 0 S S1 → Dr h0 S1 6 D false → pw g.1 A i = some D.reverse → wl_X9_power_18 M K (k + 1) (h0 + 5) a (ι n) (ι (i + 1)) S1 := by
    intro k
    induction k with
    | zero =>
      intro i S1 D hi g1 d1 p1
      have hc1 := g1.2.2.1 _ _ _ hc
      have bs1 := hc1.bs hpp
      have rm := hc1.room
      show wb_X9_power_18 _ _ _ _ _ _ _ _
      unfold wb_X9_power_18
      refine ⟨fun _ => ⟨bs1.1.t5, h0 + 6, bs1.1.p5_1, bs1.1.t6, ?_⟩, fun q => absurd (by rw [ι_lt (by omega) (by omega)]; omega) q⟩
      refine c_keptD bs1 (Or.inl rfl) d1 (by omega) (by omega) (fun S2 b g2 ka pa => ?_)
      exact (h S2 ((g1.tr g2).mo (by omega) (by omega))).1 b _ (by rw [show n = i by omega]; exact p1) ka pa
    | succ k ih =>
      intro i S1 D hi g1 d1 p1
      have hc1 := g1.2.2.1 _ _ _ hc
      have bs1 := hc1.bs hpp
      have h60 := bs1.2.1.1
      have pa1 := g1.1 a A kaa pa
      have wD := pw_wf (by omega) p1
      show wb_X9_power_18 _ _ _ _ _ _ _ _
      unfold wb_X9_power_18
      refine ⟨fun q => absurd q (by rw [ι_lt (by omega) (by omega)]; omega), fun _ => ⟨bs1.1.t5, h0 + 6, bs1.1.p5_1, bs1.1.t5, h0 + 6, bs1.1.p5_1, bs1.1.t5, ?_⟩⟩
      rw [show (1 : Int32) = ι 1 from rfl, ι_add]
      refine c_multiply hc1 hpp (Or.inl rfl) wD wa (d1.rd (DL.d6 bs1.1) (by omega)) (rs_d (Or.inl rfl) h60 bs1.2.2.1) (pa1.rd wa) (rs_ka kaa pa1 bs1.2.2.1) (by omega) (by omega) (fun S2 g2 _ => ⟨fun D2 d2 c2 => ⟨fun _ => ?_, fun q => absurd q (by decide)⟩, fun c => ⟨fun q => absurd rfl q, fun _ => ?_⟩⟩)
      · refine ih (i + 1) S2 D2 (by omega) (g1.tr g2) d2 ?_
        rw [pw, p1]
        exact cn_some c2
      · refine (h S2 ((g1.tr g2).mo (by omega) (by omega))).2 (pw_none (k := i + 1) ?_ n (by omega))
        rw [pw, p1]
        exact cn_none c
  unfold wp_X9_power
  have ez : ∀ {S1 S2 : HS}, Ext S1 S2 (W3 h0 6) V0 → Ext S1 S2 (Wz h0 S1) V0 := fun e => e.mo (W3.z (Or.inl rfl)) (fun _ _ c => c)
  refine ⟨bs.1.t5, h0 + 6, bs.1.p5_1, bs.1.t6, c_clear (DL.d6 bs.1) (fun S1 e1 x1 s1 d1 => ?_)⟩
  have bs1 := bs.go (ez e1) x1
  have g1 := Go.scr bs.2.2.1 bs.2.1 (ez e1) x1 s1
  refine ⟨bs1.1.t5, h0 + 6, bs1.1.p5_1, bs1.1.t6, c_push1 (DL.d6 bs1.1) d1 (fun S2 e2 x2 s2 d2 => ⟨n + 1, ?_⟩)⟩
  have g2 := Go.scr bs1.2.2.1 bs1.2.1 (ez e2) x2 s2
  exact key n 0 S2 (cst 1) (by omega) (g1.tr g2) d2 (by rw [cst_rev]; rfl)
/-! reduced and turned of the class. -/
def mR (g : Tm → Tm) (A : Po) (i x y z : Nat) : Nat := sumTo i (fun j => if isAt (g (rt A j)) x y z then (g (rt A j)).n else 0)
theorem mR_le {p i : Nat} {g : Tm → Tm} {A : Po} (hp : p ≤ 13) (hw : wf p A) (hg : ∀ t : Tm, (g t).n = t.n) (hi : i ≤ A.length) (x y z : Nat) : mR g A i x y z ≤ i * 12 := sumTo_le (fun j hj => by
  have := rt_n hw (i := j) (by omega)
  split
  · rw [hg]; omega
  · omega)
theorem mR_end {p X Y Z : Nat} {g : Tm → Tm} {A : Po} (hin : ∀ i, i < A.length → (g (rt A i)).x ≤ X ∧ (g (rt A i)).y ≤ Y ∧ (g (rt A i)).z ≤ Z) : bF p X Y Z (mR g A A.length) = mF p g A := by
  funext x y z
  unfold bF mF
  have e : mS g A A.length x y z = mR g A A.length x y z := (sumTo_rev A.length (fun j => if isAt (g (tm A j)) x y z then (g (tm A j)).n else 0)).symm
  rw [e]
  by_cases c : x ≤ X ∧ y ≤ Y ∧ z ≤ Z
  · rw [if_pos c]
  · rw [if_neg c]
    have : mR g A A.length x y z = 0 := sumTo_zero (fun i hi => if_neg (fun w => c (by
      have := hin i hi
      rw [w.1, w.2.1, w.2.2] at this
      exact this)))
    rw [this, Nat.zero_mod]
/-- one cell is written -/
theorem Bu.set {h0 o X Y Z x y z m u : Nat} {G : Nat → Nat → Nat → Nat} {S : HS} (h : Bu h0 S o X Y Z u G) (hb : bxC h0 S o ≠ h0 + o ∧ bxC h0 S o ≠ h0 + o + 2) (hx : x ≤ X) (hy : y ≤ Y) (hz : z ≤ Z) : Bu h0 (sI S (bxC h0 S o) (cx Y Z x y z) (ι m)) o X Y Z u (fun a b c => if a = x ∧ b = y ∧ c = z then m else G a b c) := by
  obtain ⟨b1, b2, b3, b4, b5, b6⟩ := h
  have hbc : bxC h0 (sI S (bxC h0 S o) (cx Y Z x y z) (ι m)) o = bxC h0 S o := rfl
  have q1 : ¬ h0 + o = bxC h0 S o := fun c => hb.1 c.symm
  have q2 : ¬ h0 + o + 2 = bxC h0 S o := fun c => hb.2 c.symm
  refine ⟨by rw [sI_ne q2]; exact b1, by rw [sI_ne q2]; exact b2, by rw [sI_ne q1]; exact b3, b4, b5, fun a b c ha hb hc => ?_⟩
  rw [hbc, sI_eq]
  show _ = ι (if a = x ∧ b = y ∧ c = z then m else G a b c)
  by_cases e : a = x ∧ b = y ∧ c = z
  · rw [if_pos e, if_pos (by rw [e.1, e.2.1, e.2.2])]
  · rw [if_neg e, if_neg (fun w => e (cx_inj hb hc hy hz w))]
    exact b6 a b c ha hb hc
theorem mR_set {g : Tm → Tm} {A : Po} {i : Nat} : (fun a b c => if a = (g (rt A i)).x ∧ b = (g (rt A i)).y ∧ c = (g (rt A i)).z then mR g A i (g (rt A i)).x (g (rt A i)).y (g (rt A i)).z + (g (rt A i)).n else mR g A i a b c) = mR g A (i + 1) := by
  funext a b c
  unfold mR
  rw [sumTo]
  by_cases e : a = (g (rt A i)).x ∧ b = (g (rt A i)).y ∧ c = (g (rt A i)).z
  · obtain ⟨rfl, rfl, rfl⟩ := e
    rw [if_pos ⟨rfl, rfl, rfl⟩, if_pos ⟨rfl, rfl, rfl⟩]
  · rw [if_neg e, if_neg (fun w => e ⟨w.1.symm, w.2.1.symm, w.2.2.symm⟩), Nat.add_zero]
theorem c_redE {M : Nat × Nat} {p e : Nat} {x1 x2 : Int32} {S : HS} {K : Int32 → HS → Prop} (h1 : x1 = ι e) (h2 : x2 = ι p) (he : e ≤ 40) (hpp : PrP p) (h : K (ι (red p e)) S) : wp_X9_reducedExponent M x1 x2 S K := by
  subst h1 h2
  have hp := hpp.le
  unfold wp_X9_reducedExponent
  unfold red at h
  refine ⟨fun c => ?_, fun c => ?_⟩
  · rw [ι_le (by omega) (by omega)] at c
    rw [if_neg (by omega)] at h
    rw [show (1 : Int32) = ι 1 from rfl, ι_sub (by omega), ι_sub (by omega), ι_rem (by omega) (by omega), ι_add]
    refine ⟨?_, h⟩
    rw [show (0 : Int32) = ι 0 from rfl, ι_eq (by omega) (by omega)]
    omega
  · rw [ι_le (by omega) (by omega)] at c
    rwa [if_pos (by omega)] at h
theorem red_le2 {p e : Nat} (hpp : PrP p) : red p e ≤ e ∧ red p e ≤ p - 1 := by
  have hp := hpp.le
  unfold red
  split
  · omega
  · have h1 := Nat.mod_lt (e - 1) (show 0 < p - 1 by omega)
    have h2 := Nat.mod_le (e - 1) (p - 1)
    omega
theorem usd_le {X Y Z : Nat} (hX : X ≤ 40) (hY : Y ≤ 40) (hZ : Z ≤ 40) : usd X Y Z ≤ 68921 := by
  unfold usd
  have := Nat.mul_le_mul (show X + 1 ≤ 41 by omega) (Nat.mul_le_mul (show Y + 1 ≤ 41 by omega) (show Z + 1 ≤ 41 by omega))
  omega
theorem ι_min {a b : Nat} (ha : a < 2147483648) (hb : b < 2147483648) : (if ι a < ι b then ι a else ι b) = ι (if a < b then a else b) := by
  by_cases c : a < b
  · rw [if_pos ((ι_lt ha hb).mpr c), if_pos c]
  · rw [if_neg (fun q => c ((ι_lt ha hb).mp q)), if_neg c]
/-- the state in the loops that lay terms into the Box of products -/
theorem wz_c {h0 : Nat} {S : HS} : ∀ b k : Nat, b = bxC h0 S 12 → Wz h0 S b k := fun _ _ q => Or.inr (Or.inr (Or.inr (Or.inl q)))
theorem c_reduced {M : Nat × Nat} {h0 a X0 S0 : Nat} {g : Gh} {A : Po} {S : HS} {K : Option Nat → HS → Prop} (hc : CIr h0 X0 S0 S g) (hpp : PrP g.1) (wa : wf g.1 A) (kaa : Ka h0 a) (pa : PolyAt S a A) (r1 : X0 + 4 ≤ M.1) (r2 : S0 + 2000000 ≤ M.2) (h : MkO h0 4 604 S (cn g.1 (mF g.1 (gRd g.1) A)) K) : wp_X9_reduced M (h0 + 5) a S K := by
  have bs := hc.bs hpp
  have rm := hc.room
  have hc1 : ∀ S1, Go h0 1 0 S S1 → Bs h0 S1 g.1 ∧ hX S1 ≤ X0 + 1 ∧ hS S1 ≤ S0 + 1634055 := fun S1 g1 => ⟨(g1.2.2.1 _ _ _ hc).bs hpp, (g1.2.2.1 _ _ _ hc).room.1, (g1.2.2.1 _ _ _ hc).room.2⟩
  clear hc
  generalize g.1 = p at *
  obtain ⟨hL, ht, hb, hp, -⟩ := id bs
  have h60 := ht.1
  have hple := hpp.le
  have hla := wa.1
  have ra := pa.rd wa
  have sa := rs_ka kaa pa hb
  have m0 := mA_le (v := 0) wa
  have m1 := mA_le (v := 1) wa
  have m2 := mA_le (v := 2) wa
  unfold wp_X9_reduced
  refine ⟨hL.t5, hL.t5, h0 + 12, hL.p5_3, ra.2.1, c_roomIn wa ra (v := 0) rfl (by omega) ⟨ra.2.1, c_roomIn wa ra (v := 1) rfl (by omega) ⟨ra.2.1, c_roomIn wa ra (v := 2) rfl (by omega) ⟨hL.t12, ?_⟩⟩⟩⟩
  rw [hp, show (1 : Int32) = ι 1 from rfl, ι_sub (by omega), ι_min (by omega) (by omega), ι_min (by omega) (by omega), ι_min (by omega) (by omega)]
  generalize eX : (if mA A 0 - 1 < p - 1 then mA A 0 - 1 else p - 1) = X
  generalize eY : (if mA A 1 - 1 < p - 1 then mA A 1 - 1 else p - 1) = Y
  generalize eZ : (if mA A 2 - 1 < p - 1 then mA A 2 - 1 else p - 1) = Z
  have hX4 : X ≤ 40 := by rw [← eX]; split <;> omega
  have hY4 : Y ≤ 40 := by rw [← eY]; split <;> omega
  have hZ4 : Z ≤ 40 := by rw [← eZ]; split <;> omega
  have hus := usd_le hX4 hY4 hZ4
  have hin : ∀ i, i < A.length → red p (rt A i).x ≤ X ∧ red p (rt A i).y ≤ Y ∧ red p (rt A i).z ≤ Z := fun i hi => by
    have u0 : (rt A i).x + 1 ≤ mA A 0 := mA_rt (v := 0) hi
    have u1 : (rt A i).y + 1 ≤ mA A 1 := mA_rt (v := 1) hi
    have u2 : (rt A i).z + 1 ≤ mA A 2 := mA_rt (v := 2) hi
    have w0 := red_le2 (e := (rt A i).x) hpp
    have w1 := red_le2 (e := (rt A i).y) hpp
    have w2 := red_le2 (e := (rt A i).z) hpp
    rw [← eX, ← eY, ← eZ]
    refine ⟨?_, ?_, ?_⟩
    · split <;> omega
    · split <;> omega
    · split <;> omega
  have hbb := hb.1.1.2.2.2.2.1
  refine c_open (o := 12) rfl rfl rfl (by omega) (by omega) (by omega) (by omega) hL.t12 hL.p12_2 hL.t14 hL.n14 hb.1.1 (by omega) (by omega) (by omega) (by omega) (by omega) (fun S1 op => ⟨A.length + 1, ?_⟩)
  have go1 := Go.op op (Or.inl ⟨rfl, hus⟩) hb
  obtain ⟨bs1, rx1, rs1⟩ := hc1 S1 go1
  have ra1 := op.rd (by omega) sa ra
  have sa1 := op.rs h60 sa
  have c3 := sa1.b (o := 12) (by omega)
  have hb1 := bs1.2.2.1.1.1.2.2.2.2.1
  have hbx1 : bxC h0 S1 12 ≠ h0 + 12 ∧ bxC h0 S1 12 ≠ h0 + 12 + 2 := by omega
  have hk := h.go (c := 1) (d := 0) (a := 3) (b := 604) go1
  have hbo1 := op.2.1
  have hin' : ∀ i, i < A.length → (gRd p (rt A i)).x ≤ X ∧ (gRd p (rt A i)).y ≤ Y ∧ (gRd p (rt A i)).z ≤ Z := hin
  clear hin op hc1 h go1 m0 m1 m2 eX eY eZ hbb hb1
  have key : ∀ (k i : Nat) (S2 : HS), i + k = A.length → Ext S1 S2 (fun b _ => b = bxC h0 S1 12) V0 → hX S2 = hX S1 → hS S2 = hS S1 → Bo h0 S2 12 X Y Z (mR (gRd p) A i) → wl_X9_reduced_43 M K (k + 1) (h0 + 5) a (ι i) S2 := by
    intro k
    induction k with
    | zero =>
      intro i S2 hi e2 x2 s2 bo2
      have e2z := e2.mo (W' := Wz h0 S1) (V' := V0) wz_c (fun _ _ c => c)
      have bs2 := bs1.go e2z x2
      obtain ⟨hL2, ht2, hb2, hp2, -⟩ := id bs2
      obtain ⟨-, p2, p3, p4, p5, p6, p7, p8, p7', p8', p9, p11⟩ := ra1.go e2 (fun k => ⟨c3.1, c3.2.1, c3.2.2, fun c => c⟩)
      have hi' : i = A.length := by omega
      subst hi'
      show wb_X9_reduced_43 _ _ _ _ _ _ _
      unfold wb_X9_reduced_43
      rw [p9]
      refine ⟨p2, fun _ => ⟨hL2.t5, h0 + 12, hL2.p5_3, hL2.t5, h0 + 6, hL2.p5_1, hL2.t5, hL2.t12, ?_⟩, fun q => absurd (by rw [ι_le (by omega) (by omega)]; omega) q⟩
      refine c_endB bs2 (Or.inl rfl) bo2 (fun x y z => ?_) (by omega) (by omega) hp2 (mR_end hin') (by omega) (by omega) (hk.go (c := 0) (d := 0) ?_)
      · have := mR_le (i := A.length) (g := gRd p) (by omega) wa (fun t => rfl) (Nat.le_refl _) x y z
        omega
      · exact Go.scr bs1.2.2.1 bs1.2.1 e2z x2 s2
    | succ k ih =>
      intro i S2 hi e2 x2 s2 bo2
      have e2z := e2.mo (W' := Wz h0 S1) (V' := V0) wz_c (fun _ _ c => c)
      have bs2 := bs1.go e2z x2
      obtain ⟨hL2, ht2, hb2, hp2, -⟩ := id bs2
      obtain ⟨-, p2, p3, p4, p5, p6, p7, p8, p7', p8', p9, p11⟩ := ra1.go e2 (fun k => ⟨c3.1, c3.2.1, c3.2.2, fun c => c⟩)
      have hsm := rt_sm wa (i := i) (by omega)
      have hi3 := hin' i (by omega)
      have c12 : bxC h0 S2 12 = bxC h0 S1 12 := bxC.go ((e2.2.2.1 _ (by have := bs1.2.1.1; omega)).2.2.2 0 (fun c => c))
      have hT2 := hb2.1.1.2.2.1
      have hlt := cx_lt hi3.1 hi3.2.1 hi3.2.2
      have hun := bo2.2.2.2.1
      have hN9 := hb2.1.1.2.2.2.1
      show wb_X9_reduced_43 _ _ _ _ _ _ _
      unfold wb_X9_reduced_43
      rw [p9]
      refine ⟨p2, fun q => absurd q (by rw [ι_le (by omega) (by omega)]; omega), fun _ => ⟨4, ?_⟩⟩
      have step : ∀ (v : Nat), v < 3 → ∀ (m : Nat) (y : Int32), wl_X9_reduced_57 M (wl_X9_reduced_43 M K (k + 1)) K m (h0 + 5) a (ι i) (y + ι (red p (exv (rt A i) v)) * ι (un v)) (ι (v + 1)) S2 → wl_X9_reduced_57 M (wl_X9_reduced_43 M K (k + 1)) K (m + 1) (h0 + 5) a (ι i) y (ι v) S2 := by
        intro v hv m y hh
        show wb_X9_reduced_57 _ _ _ _ _ _ _ _ _ _
        unfold wb_X9_reduced_57
        refine ⟨fun q => absurd q (by rw [show (3 : Int32) = ι 3 from rfl, ι_le (by omega) (by omega)]; omega), fun _ => ⟨p2, a + 1, p3, p5, ι_in (by omega) (by omega), ?_⟩⟩
        rw [ι_cl (by omega)]
        refine c_exp hsm (p11 i (by omega)).1 rfl hv ⟨hL2.t5, c_redE rfl hp2 (exv_le hsm v) hpp (c_unit rfl hv ?_)⟩
        rw [show (1 : Int32) = ι 1 from rfl, ι_add]
        exact hh
      refine step 0 (by omega) 3 0 (step 1 (by omega) 2 _ (step 2 (by omega) 1 _ ?_))
      show wb_X9_reduced_57 _ _ _ _ _ _ _ _ _ _
      unfold wb_X9_reduced_57
      refine ⟨fun _ => ⟨hL2.t5, h0 + 12, hL2.p5_3, hL2.t12, bxC h0 S2 12, hb2.1.1.1, hL2.t5, h0 + 12, hL2.p5_3, hL2.t12, ?_⟩, fun q => absurd (by decide) q⟩
      have ek : (0 : Int32) + ι (red p (exv (rt A i) 0)) * ι (un 0) + ι (red p (exv (rt A i) 1)) * ι (un 1) + ι (red p (exv (rt A i) 2)) * ι (un 2) = ι (k6 (gRd p (rt A i))) := by
        rw [show (0 : Int32) = ι 0 from rfl, ι_mul, ι_mul, ι_mul, ι_add, ι_add, ι_add]
        congr 1
        show 0 + red p (rt A i).x * 4096 + red p (rt A i).y * 64 + red p (rt A i).z * 1 = red p (rt A i).x * 4096 + red p (rt A i).y * 64 + red p (rt A i).z
        omega
      rw [ek]
      have hsmg : sm (gRd p (rt A i)) := ⟨by omega, by omega, by omega⟩
      have hv : vp_in (ι (cx Y Z (gRd p (rt A i)).x (gRd p (rt A i)).y (gRd p (rt A i)).z)) (hN S2 (bxC h0 S2 12)) := ι_in (by omega) (by omega)
      refine c_cellOf bo2 hL2.t12 hL2.p12_2 hL2.t14 hL2.n14 hsmg rfl ⟨hT2, hv, p2, a + 2, p4, p6, ι_in (by omega) (by omega), hT2, hv, ?_⟩
      have hus9 := bo2.2.2.2.2.1
      rw [ι_cl (by omega), ι_cl (by omega), bo2.2.2.2.2.2 _ _ _ hi3.1 hi3.2.1 hi3.2.2, (p11 i (by omega)).2, ι_add, show (1 : Int32) = ι 1 from rfl, ι_add]
      refine ih (i + 1) _ (by omega) (e2.sI c12) x2 s2 ?_
      rw [← mR_set]
      exact bo2.set (by rw [c12]; exact hbx1) hi3.1 hi3.2.1 hi3.2.2
  exact key A.length 0 S1 (by omega) (Ext.rf _ _ _) rfl rfl hbo1
/-! turned of the class. -/
theorem tb_row : ∀ h, h < 6 → ∀ v, v < 3 → ([0, 1, 2, 0, 2, 1, 1, 0, 2, 1, 2, 0, 2, 0, 1, 2, 1, 0] : List Int32).getD (h * 3 + v) 0 = ι (tb h v) := by decide
theorem tk_sum {h : Nat} (hh : h < 6) (t : Tm) : exv t 0 * un (tb h 0) + exv t 1 * un (tb h 1) + exv t 2 * un (tb h 2) = tk h t 0 * 4096 + tk h t 1 * 64 + tk h t 2 := by
  have : h = 0 ∨ h = 1 ∨ h = 2 ∨ h = 3 ∨ h = 4 ∨ h = 5 := by omega
  rcases this with rfl | rfl | rfl | rfl | rfl | rfl
  · show t.x * 4096 + t.y * 64 + t.z * 1 = t.x * 4096 + t.y * 64 + t.z; omega
  · show t.x * 4096 + t.y * 1 + t.z * 64 = t.x * 4096 + t.z * 64 + t.y; omega
  · show t.x * 64 + t.y * 4096 + t.z * 1 = t.y * 4096 + t.x * 64 + t.z; omega
  · show t.x * 64 + t.y * 1 + t.z * 4096 = t.z * 4096 + t.x * 64 + t.y; omega
  · show t.x * 1 + t.y * 4096 + t.z * 64 = t.y * 4096 + t.z * 64 + t.x; omega
  · show t.x * 1 + t.y * 64 + t.z * 4096 = t.z * 4096 + t.y * 64 + t.x; omega
theorem tk_mono {h : Nat} {s t : Tm} (hx : s.x ≤ t.x) (hy : s.y ≤ t.y) (hz : s.z ≤ t.z) (k : Nat) : tk h s k ≤ tk h t k := by
  have e : ∀ v, exv s v ≤ exv t v := fun v => by
    unfold exv
    split
    · exact hx
    · split
      · exact hy
      · exact hz
  unfold tk
  split
  · exact e 0
  · split
    · exact e 1
    · exact e 2
theorem tk_inj {h : Nat} (hh : h < 6) {s t : Tm} (e0 : tk h s 0 = tk h t 0) (e1 : tk h s 1 = tk h t 1) (e2 : tk h s 2 = tk h t 2) : isAt s t.x t.y t.z := by
  have : h = 0 ∨ h = 1 ∨ h = 2 ∨ h = 3 ∨ h = 4 ∨ h = 5 := by omega
  rcases this with rfl | rfl | rfl | rfl | rfl | rfl
  · exact ⟨e0, e1, e2⟩
  · exact ⟨e0, e2, e1⟩
  · exact ⟨e1, e0, e2⟩
  · exact ⟨e1, e2, e0⟩
  · exact ⟨e2, e0, e1⟩
  · exact ⟨e2, e1, e0⟩
theorem c_turned {M : Nat × Nat} {h0 a n X0 S0 : Nat} {x2 : Int32} {g : Gh} {A : Po} {S : HS} {K : Option Nat → HS → Prop} (hc : CIr h0 X0 S0 S g) (hpp : PrP g.1) (wa : wf g.1 A) (kaa : Ka h0 a) (pa : PolyAt S a A) (hx2 : x2 = ι n) (hn : n < 6) (r1 : X0 + 4 ≤ M.1) (r2 : S0 + 2000000 ≤ M.2) (h : MkO h0 4 604 S (cn g.1 (mF g.1 (gTn n) A)) K) : wp_X9_turned M (h0 + 5) a x2 S K := by
  subst hx2
  have bs := hc.bs hpp
  have rm := hc.room
  have hc1 : ∀ S1, Go h0 1 0 S S1 → Bs h0 S1 g.1 ∧ hX S1 ≤ X0 + 1 ∧ hS S1 ≤ S0 + 1634055 := fun S1 g1 => ⟨(g1.2.2.1 _ _ _ hc).bs hpp, (g1.2.2.1 _ _ _ hc).room.1, (g1.2.2.1 _ _ _ hc).room.2⟩
  clear hc
  generalize g.1 = p at *
  obtain ⟨hL, ht, hb, hp, -⟩ := id bs
  have h60 := ht.1
  have hple := hpp.le
  have hla := wa.1
  have ra := pa.rd wa
  have sa := rs_ka kaa pa hb
  have m0 := mA_le (v := 0) wa
  have m1 := mA_le (v := 1) wa
  have m2 := mA_le (v := 2) wa
  have hmv : ∀ v, mA A v - 1 ≤ 40 := fun v => by have := mA_le (v := v) wa; omega
  unfold wp_X9_turned
  refine ⟨4, ?_⟩
  have idx : ∀ v, v < 3 → ι n * 3 + ι v = ι (n * 3 + v) := fun v hv => by rw [show (3 : Int32) = ι 3 from rfl, ι_mul, ι_add]
  have stp0 : ∀ (v : Nat), v < 3 → ∀ (m : Nat) (y : Int32), wl_X9_turned_5 M K m (h0 + 5) a (ι n) (y + ι (mA A v - 1) * ι (un (tb n v))) (ι (v + 1)) S → wl_X9_turned_5 M K (m + 1) (h0 + 5) a (ι n) y (ι v) S := by
    intro v hv m y hh
    show wb_X9_turned_5 _ _ _ _ _ _ _ _ _
    unfold wb_X9_turned_5
    refine ⟨fun q => absurd q (by rw [show (3 : Int32) = ι 3 from rfl, ι_le (by omega) (by omega)]; omega), fun _ => ⟨ra.2.1, c_roomIn wa ra rfl hv ?_⟩⟩
    rw [idx v hv, ι_cl (by omega), tb_row n hn v hv, show (1 : Int32) = ι 1 from rfl, ι_add]
    exact ⟨ι_in (by omega) (by omega), c_unit rfl (tb_lt hv) hh⟩
  refine stp0 0 (by omega) 3 0 (stp0 1 (by omega) 2 _ (stp0 2 (by omega) 1 _ ?_))
  -- the room's exponents
  generalize eT : ((mA A 0 - 1, mA A 1 - 1, mA A 2 - 1, 0) : Tm) = T
  have hsT : sm T := by rw [← eT]; exact ⟨hmv 0, hmv 1, hmv 2⟩
  have hsm : sm (gTn n T) := ⟨tk_le hsT, tk_le hsT, tk_le hsT⟩
  have ek : (0 : Int32) + ι (mA A 0 - 1) * ι (un (tb n 0)) + ι (mA A 1 - 1) * ι (un (tb n 1)) + ι (mA A 2 - 1) * ι (un (tb n 2)) = ι (k6 (gTn n T)) := by
    rw [show (0 : Int32) = ι 0 from rfl, ι_mul, ι_mul, ι_mul, ι_add, ι_add, ι_add]
    congr 1
    have := tk_sum hn T
    rw [← eT] at this
    have t2 : (mA A 0 - 1) * un (tb n 0) + (mA A 1 - 1) * un (tb n 1) + (mA A 2 - 1) * un (tb n 2) = tk n (mA A 0 - 1, mA A 1 - 1, mA A 2 - 1, 0) 0 * 4096 + tk n (mA A 0 - 1, mA A 1 - 1, mA A 2 - 1, 0) 1 * 64 + tk n (mA A 0 - 1, mA A 1 - 1, mA A 2 - 1, 0) 2 := this
    rw [eT] at t2
    show _ = tk n T 0 * 4096 + tk n T 1 * 64 + tk n T 2
    omega
  show wb_X9_turned_5 _ _ _ _ _ _ _ _ _
  unfold wb_X9_turned_5
  rw [ek]
  refine ⟨fun _ => ⟨hL.t5, h0 + 12, hL.p5_3, c_exp hsm rfl (v := 0) rfl (by omega) (c_exp hsm rfl (v := 1) rfl (by omega) (c_exp hsm rfl (v := 2) rfl (by omega) ⟨hL.t12, ?_⟩))⟩, fun q => absurd (by decide) q⟩
  have hin : ∀ i, i < A.length → (gTn n (rt A i)).x ≤ exv (gTn n T) 0 ∧ (gTn n (rt A i)).y ≤ exv (gTn n T) 1 ∧ (gTn n (rt A i)).z ≤ exv (gTn n T) 2 := fun i hi => by
    have u0 : (rt A i).x + 1 ≤ mA A 0 := mA_rt (v := 0) hi
    have u1 : (rt A i).y + 1 ≤ mA A 1 := mA_rt (v := 1) hi
    have u2 : (rt A i).z + 1 ≤ mA A 2 := mA_rt (v := 2) hi
    have w0 : (rt A i).x ≤ Tm.x T := by rw [← eT]; show _ ≤ mA A 0 - 1; omega
    have w1 : (rt A i).y ≤ Tm.y T := by rw [← eT]; show _ ≤ mA A 1 - 1; omega
    have w2 : (rt A i).z ≤ Tm.z T := by rw [← eT]; show _ ≤ mA A 2 - 1; omega
    exact ⟨tk_mono w0 w1 w2 0, tk_mono w0 w1 w2 1, tk_mono w0 w1 w2 2⟩
  have hX4 := exv_le hsm 0
  have hY4 := exv_le hsm 1
  have hZ4 := exv_le hsm 2
  generalize exv (gTn n T) 0 = X at *
  generalize exv (gTn n T) 1 = Y at *
  generalize exv (gTn n T) 2 = Z at *
  have hus := usd_le hX4 hY4 hZ4
  have hbb := hb.1.1.2.2.2.2.1
  refine c_open (o := 12) rfl rfl rfl (by omega) (by omega) (by omega) (by omega) hL.t12 hL.p12_2 hL.t14 hL.n14 hb.1.1 (by omega) (by omega) (by omega) (by omega) (by omega) (fun S1 op => ⟨A.length + 1, ?_⟩)
  have go1 := Go.op op (Or.inl ⟨rfl, hus⟩) hb
  obtain ⟨bs1, rx1, rs1⟩ := hc1 S1 go1
  have ra1 := op.rd (by omega) sa ra
  have sa1 := op.rs h60 sa
  have c3 := sa1.b (o := 12) (by omega)
  have hb1 := bs1.2.2.1.1.1.2.2.2.2.1
  have hbx1 : bxC h0 S1 12 ≠ h0 + 12 ∧ bxC h0 S1 12 ≠ h0 + 12 + 2 := by omega
  have hk := h.go (c := 1) (d := 0) (a := 3) (b := 604) go1
  have hbo1 := op.2.1
  have hnew : ∀ i, i < A.length → mR (gTn n) A i (gTn n (rt A i)).x (gTn n (rt A i)).y (gTn n (rt A i)).z = 0 := fun i hi => sumTo_zero (fun j hj => if_neg (fun w => by
    have e := tk_inj hn (s := rt A j) (t := rt A i) w.1 w.2.1 w.2.2
    have := k6_fall wa hj hi
    have e2 : k6 (rt A j) = k6 (rt A i) := k6_eq e
    unfold rt at e2
    omega))
  clear op hc1 h go1 m0 m1 m2 eT hbb hb1 stp0 hsT hsm hmv ek
  have key : ∀ (k i : Nat) (S2 : HS), i + k = A.length → Ext S1 S2 (fun b _ => b = bxC h0 S1 12) V0 → hX S2 = hX S1 → hS S2 = hS S1 → Bo h0 S2 12 X Y Z (mR (gTn n) A i) → wl_X9_turned_65 M K (k + 1) (h0 + 5) a (ι n) (ι i) S2 := by
    intro k
    induction k with
    | zero =>
      intro i S2 hi e2 x2 s2 bo2
      have e2z := e2.mo (W' := Wz h0 S1) (V' := V0) wz_c (fun _ _ c => c)
      have bs2 := bs1.go e2z x2
      obtain ⟨hL2, ht2, hb2, hp2, -⟩ := id bs2
      obtain ⟨-, p2, p3, p4, p5, p6, p7, p8, p7', p8', p9, p11⟩ := ra1.go e2 (fun k => ⟨c3.1, c3.2.1, c3.2.2, fun c => c⟩)
      have hi' : i = A.length := by omega
      subst hi'
      show wb_X9_turned_65 _ _ _ _ _ _ _ _
      unfold wb_X9_turned_65
      rw [p9]
      refine ⟨p2, fun _ => ⟨hL2.t5, h0 + 12, hL2.p5_3, hL2.t5, h0 + 6, hL2.p5_1, hL2.t5, hL2.t12, ?_⟩, fun q => absurd (by rw [ι_le (by omega) (by omega)]; omega) q⟩
      refine c_endB bs2 (Or.inl rfl) bo2 (fun x y z => ?_) (by omega) (by omega) hp2 (mR_end hin) (by omega) (by omega) (hk.go (c := 0) (d := 0) ?_)
      · have := mR_le (i := A.length) (g := gTn n) (by omega) wa (fun t => rfl) (Nat.le_refl _) x y z
        omega
      · exact Go.scr bs1.2.2.1 bs1.2.1 e2z x2 s2
    | succ k ih =>
      intro i S2 hi e2 x2 s2 bo2
      have e2z := e2.mo (W' := Wz h0 S1) (V' := V0) wz_c (fun _ _ c => c)
      have bs2 := bs1.go e2z x2
      obtain ⟨hL2, ht2, hb2, hp2, -⟩ := id bs2
      obtain ⟨-, p2, p3, p4, p5, p6, p7, p8, p7', p8', p9, p11⟩ := ra1.go e2 (fun k => ⟨c3.1, c3.2.1, c3.2.2, fun c => c⟩)
      have hsm := rt_sm wa (i := i) (by omega)
      have hi3 := hin i (by omega)
      have c12 : bxC h0 S2 12 = bxC h0 S1 12 := bxC.go ((e2.2.2.1 _ (by have := bs1.2.1.1; omega)).2.2.2 0 (fun c => c))
      have hT2 := hb2.1.1.2.2.1
      have hlt := cx_lt hi3.1 hi3.2.1 hi3.2.2
      have hun := bo2.2.2.2.1
      have hN9 := hb2.1.1.2.2.2.1
      show wb_X9_turned_65 _ _ _ _ _ _ _ _
      unfold wb_X9_turned_65
      rw [p9]
      refine ⟨p2, fun q => absurd q (by rw [ι_le (by omega) (by omega)]; omega), fun _ => ⟨4, ?_⟩⟩
      have step : ∀ (v : Nat), v < 3 → ∀ (m : Nat) (y : Int32), wl_X9_turned_80 M (wl_X9_turned_65 M K (k + 1)) K m (h0 + 5) a (ι n) (ι i) (y + ι (exv (rt A i) v) * ι (un (tb n v))) (ι (v + 1)) S2 → wl_X9_turned_80 M (wl_X9_turned_65 M K (k + 1)) K (m + 1) (h0 + 5) a (ι n) (ι i) y (ι v) S2 := by
        intro v hv m y hh
        show wb_X9_turned_80 _ _ _ _ _ _ _ _ _ _ _
        unfold wb_X9_turned_80
        refine ⟨fun q => absurd q (by rw [show (3 : Int32) = ι 3 from rfl, ι_le (by omega) (by omega)]; omega), fun _ => ⟨p2, a + 1, p3, p5, ι_in (by omega) (by omega), ?_⟩⟩
        rw [ι_cl (by omega), idx v hv, ι_cl (by omega), tb_row n hn v hv, show (1 : Int32) = ι 1 from rfl, ι_add]
        exact c_exp hsm (p11 i (by omega)).1 rfl hv ⟨ι_in (by omega) (by omega), c_unit rfl (tb_lt hv) hh⟩
      refine step 0 (by omega) 3 0 (step 1 (by omega) 2 _ (step 2 (by omega) 1 _ ?_))
      show wb_X9_turned_80 _ _ _ _ _ _ _ _ _ _ _
      unfold wb_X9_turned_80
      refine ⟨fun _ => ⟨hL2.t5, h0 + 12, hL2.p5_3, hL2.t12, bxC h0 S2 12, hb2.1.1.1, hL2.t5, h0 + 12, hL2.p5_3, hL2.t12, ?_⟩, fun q => absurd (by decide) q⟩
      have ek : (0 : Int32) + ι (exv (rt A i) 0) * ι (un (tb n 0)) + ι (exv (rt A i) 1) * ι (un (tb n 1)) + ι (exv (rt A i) 2) * ι (un (tb n 2)) = ι (k6 (gTn n (rt A i))) := by
        rw [show (0 : Int32) = ι 0 from rfl, ι_mul, ι_mul, ι_mul, ι_add, ι_add, ι_add]
        congr 1
        have := tk_sum hn (rt A i)
        show _ = tk n (rt A i) 0 * 4096 + tk n (rt A i) 1 * 64 + tk n (rt A i) 2
        omega
      rw [ek]
      have hsmg : sm (gTn n (rt A i)) := ⟨by omega, by omega, by omega⟩
      have hv : vp_in (ι (cx Y Z (gTn n (rt A i)).x (gTn n (rt A i)).y (gTn n (rt A i)).z)) (hN S2 (bxC h0 S2 12)) := ι_in (by omega) (by omega)
      refine c_cellOf bo2 hL2.t12 hL2.p12_2 hL2.t14 hL2.n14 hsmg rfl ⟨p2, a + 2, p4, p6, ι_in (by omega) (by omega), hT2, hv, ?_⟩
      have hus9 := bo2.2.2.2.2.1
      rw [ι_cl (by omega), ι_cl (by omega), (p11 i (by omega)).2, show (1 : Int32) = ι 1 from rfl, ι_add]
      refine ih (i + 1) _ (by omega) (e2.sI c12) x2 s2 ?_
      rw [← mR_set, hnew i (by omega), Nat.zero_add]
      exact bo2.set (by rw [c12]; exact hbx1) hi3.1 hi3.2.1 hi3.2.2
  exact key A.length 0 S1 (by omega) (Ext.rf _ _ _) rfl rfl hbo1
