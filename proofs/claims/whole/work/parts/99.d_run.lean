/-! The class makes all steps. -/
section CRN
variable {M : Nat × Nat} {h0 X0 S0 g : Nat} {S : HS} {G : Gh} {D : List Sq} {K : Int32 → HS → Prop}
/-- what holds while the steps are made -/
def RnI (h0 X0 S0 : Nat) (G : Gh) (g : Nat) (D : List Sq) (S : HS) (s : Nat) (f : Nat → Po) : Prop := CIr h0 X0 S0 S G ∧ hP S h0 11 ≠ some g ∧ PgL h0 S g ∧ PgD S g D ∧ PgB S g s (bnF D s) ∧ PgM h0 S g s f
theorem RnI.go {a b s s' : Nat} {S' : HS} {B : Nat → Nat} {f : Nat → Po} (hc : CIr h0 X0 S0 S G) (ng : hP S h0 11 ≠ some g) (pl : PgL h0 S g) (pd : PgD S g D) (pb : PgB S g s' B) (pm : PgM h0 S g s f) (e : Go h0 a b S S') : CIr h0 (X0 + a) (S0 + b) S' G ∧ hP S' h0 11 ≠ some g ∧ PgL h0 S' g ∧ PgD S' g D ∧ PgB S' g s' B ∧ PgM h0 S' g s f := ⟨e.2.2.1 _ _ _ hc, by rw [e.2.2.2.2 (by have := pl.1; have := pl.2.1; omega)]; exact ng, pl.go e, pd.go pl e, pb.go pl e, pm.go pl e⟩
theorem c_run (hpp : PrP G.1) (hD : DOk D) (hi : RnI h0 X0 S0 G g D S 0 (fun _ => [])) (r1 : X0 + 18 * 23 + 12 ≤ M.1) (r2 : S0 + 616 * 23 + 2001000 ≤ M.2) (h1 : ∀ S' f, rnP G.1 D D.length = some f → RnI h0 (X0 + 18 * 23) (S0 + 616 * 23) G g D S' D.length f → K 1 S') (h2 : ∀ S', rnP G.1 D D.length = none → CIr h0 (X0 + 18 * 23) (S0 + 616 * 23) S' G → K 0 S') : wp_X7_run M g (h0 + 5) S K := by
  have d23 := hD.1
  have hp := hpp.le
  have loop : ∀ (r s : Nat) (f : Nat → Po) (S1 : HS), s + r = D.length → rnP G.1 D s = some f → RnI h0 (X0 + 18 * s) (S0 + 616 * s) G g D S1 s f → wl_X7_run_2 M K (r + 1) g (h0 + 5) (ι s) S1 := by
    intro r
    induction r with
    | zero =>
      intro s f S1 hs e ⟨hc, ng, pl, pd, pb, pm⟩
      have es : s = D.length := by omega
      subst es
      show wb_X7_run_2 _ _ _ _ _ _ _
      unfold wb_X7_run_2
      rw [pd.1]
      exact ⟨pl.2.2.1, fun _ => h1 S1 f e ⟨hc.mo (by omega) (by omega), ng, pl, pd, pb, pm⟩, fun c => absurd (by rw [ι_le (by omega) (by omega)]; omega) c⟩
    | succ r ih =>
      intro s f S1 hs e ⟨hc, ng, pl, pd, pb, pm⟩
      have g55 := pl.1
      have g9 := pl.2.1
      have wf1 := rnP_wf hpp.le.1 hD s f (by omega) e
      have t5 := pl.2.2.2.2.1 5 (by omega) (by omega)
      rw [if_neg (by omega), if_neg (by omega)] at t5
      show wb_X7_run_2 _ _ _ _ _ _ _
      unfold wb_X7_run_2
      rw [pd.1, ι_cl (by omega)]
      refine ⟨pl.2.2.1, fun c => absurd c (by rw [ι_le (by omega) (by omega)]; omega), fun _ => ⟨pl.2.2.1, g + 5, pl.2.2.2.1 5 (by omega) (by omega), pl.2.2.1, ?_⟩⟩
      refine c_boundOf pl pd (by omega) hD pb (fun k => bnF_le s k) rfl ⟨t5.1, by rw [t5.2]; exact ι_in (by omega) (by omega), ?_⟩
      -- the bound is written
      have eW : Ext S1 (sI S1 (g + 5) s (ι (bdS (bnF D s) (sq D s).2.1 (sq D s).2.2.1 (sq D s).2.2.2))) (W5 g) (V6 g) := (Ext.rf S1 _ _).sI rfl
      have hc2 := hc.wr pl ng eW rfl rfl
      have pl2 := pl.wr eW rfl
      have pd2 := pd.wr pl eW
      have pb2 : PgB (sI S1 (g + 5) s (ι (bdS (bnF D s) (sq D s).2.1 (sq D s).2.2.1 (sq D s).2.2.2))) g (s + 1) (bnF D (s + 1)) := fun k hk => by
        rw [sI_eq, bnF_s]
        by_cases c : k = s
        · rw [if_pos c, if_pos c]
        · rw [if_neg c, if_neg c]; exact pb k (by omega)
      have pm2 : PgM h0 (sI S1 (g + 5) s (ι (bdS (bnF D s) (sq D s).2.1 (sq D s).2.2.1 (sq D s).2.2.2))) g s f := fun k hk => by
        obtain ⟨a, a1, a2, a3⟩ := pm k hk
        exact ⟨a, a1, a2, (PK.wr pl eW) a _ a2 a3⟩
      have ng2 : hP (sI S1 (g + 5) s (ι (bdS (bnF D s) (sq D s).2.1 (sq D s).2.2.1 (sq D s).2.2.2))) h0 11 ≠ some g := ng
      generalize sI S1 (g + 5) s (ι (bdS (bnF D s) (sq D s).2.1 (sq D s).2.2.1 (sq D s).2.2.2)) = S2 at hc2 pl2 pd2 pb2 pm2 ng2 ⊢
      clear eW t5 pm pb pd pl ng hc
      -- the end of a step
      have endS : ∀ (S5 : HS) (q : Nat) (L : Po), CIr h0 (X0 + 18 * s + 18) (S0 + 616 * s + 616) S5 G → hP S5 h0 11 ≠ some g → PgL h0 S5 g → PgD S5 g D → PgB S5 g (s + 1) (bnF D (s + 1)) → PgM h0 S5 g s f → stpF G.1 f (sq D s) = some L → Ka h0 q → PolyAt S5 q L → w_X7_run_146 M (wl_X7_run_2 M K (r + 1)) K g (h0 + 5) (ι s) (some q) S5 := fun S5 q L hc5 ng5 pl5 pd5 pb5 pm5 eL ka pa => by
        have t6 := pl5.2.2.2.2.1 6 (by omega) (by omega)
        rw [if_pos rfl, if_neg (by omega)] at t6
        unfold w_X7_run_146
        refine ⟨fun b1 eb => ⟨pl5.2.2.1, g + 6, pl5.2.2.2.1 6 (by omega) (by omega), q, rfl, t6.1, by rw [t6.2]; exact ι_in (by omega) (by omega), pa.2.1, ?_⟩, fun c => by cases c⟩
        rw [ι_cl (by omega), show (1 : Int32) = ι 1 from rfl, ι_add]
        have eV : Ext S5 (sP S5 (g + 6) s (some q)) (W5 g) (V6 g) := (Ext.rf S5 _ _).sP rfl
        have pk := PK.wr pl5 eV
        refine ih (s + 1) (fst1 f s L) _ (by omega) (rnP_s e eL) ⟨(hc5.wr pl5 ng5 eV rfl rfl).mo (by omega) (by omega), ?_, pl5.wr eV rfl, pd5.wr pl5 eV, pb5, fun k hk => ?_⟩
        · rw [sP_ne (by omega)]; exact ng5
        · rw [sP_eq]
          unfold fst1
          by_cases c : k = s
          · rw [if_pos c, if_pos c]; exact ⟨q, rfl, ka, pk q _ ka pa⟩
          · rw [if_neg c, if_neg c]
            obtain ⟨a, a1, a2, a3⟩ := pm5 k (by omega)
            exact ⟨a, a1, a2, pk a _ a2 a3⟩
      have endN : ∀ (S5 : HS), CIr h0 (X0 + 18 * s + 18) (S0 + 616 * s + 616) S5 G → stpF G.1 f (sq D s) = none → w_X7_run_146 M (wl_X7_run_2 M K (r + 1)) K g (h0 + 5) (ι s) none S5 := fun S5 hc5 eN => by
        unfold w_X7_run_146
        exact ⟨fun b1 eb => (by cases eb), fun _ => h2 S5 (rnP_no (rnP_n e eN) _ (by omega)) (hc5.mo (by omega) (by omega))⟩
      obtain ⟨-, d2, d3, d4⟩ := pd2.2 s (by omega)
      obtain ⟨o1, o2, o3, o4, o5⟩ := (hD.2.2 s (by omega)).2
      generalize sq D s = c at d2 d3 d4 o1 o2 o3 o4 o5 endS endN
      obtain ⟨nm, sg, l, r'⟩ := c
      simp only at d2 d3 d4 o1 o2 o3 o4 o5
      have sle : sg ≤ 94 := by unfold isTwo at o1; omega
      have wl := atP_wf (a := l) hpp.le.1 wf1 o2
      have v23 : ∀ {S5 : HS}, PgL h0 S5 g → ∀ f, (f = 2 ∨ f = 3 ∨ f = 4) → vp_in (ι s) (hN S5 (g + f)) := fun pl5 f hf => by
        rw [(pl5.2.2.2.2.1 f (by omega) (by omega)).2, if_neg (by omega)]; exact ι_in (by omega) (by omega)
      have t21 : ∀ {S5 : HS}, PgL h0 S5 g → ∀ f, (f = 2 ∨ f = 3 ∨ f = 4) → hT S5 (g + f) = 21 := fun pl5 f hf => by
        rw [(pl5.2.2.2.2.1 f (by omega) (by omega)).1, if_neg (by omega)]
      have ptr : ∀ {S5 : HS}, PgL h0 S5 g → ∀ f, (f = 2 ∨ f = 3 ∨ f = 4) → hP S5 g f = some (g + f) := fun pl5 f hf => pl5.2.2.2.1 f (by omega) (by omega)
      have bs2 := hc2.bs hpp
      have rm2 := hc2.room
      refine ⟨pl2.2.2.1, g + 3, ptr pl2 3 (by omega), t21 pl2 3 (by omega), v23 pl2 3 (by omega), bs2.1.t5, pl2.2.2.1, ?_⟩
      refine c_atomPoly hc2 hpp pl2 pm2 d3 o2 (by omega) bs2.2.2.2.1 (by omega) (by omega) (fun S4 q go4 ka pa => ?_)
      obtain ⟨hc4, ng4, pl4, pd4, pb4, pm4⟩ := RnI.go hc2 ng2 pl2 pd2 pb2 pm2 go4
      have i2 : hI S4 (g + 2) s = ι sg := by rw [(pl2.cell go4 (j := 2) (by omega)).1.2.2.1]; exact d2
      have i4 : hI S4 (g + 4) s = ι r' := by rw [(pl2.cell go4 (j := 4) (by omega)).1.2.2.1]; exact d4
      have bs4 := hc4.bs hpp
      have rm4 := hc4.room
      refine ⟨pl4.2.2.1, g + 2, ptr pl4 2 (by omega), t21 pl4 2 (by omega), v23 pl4 2 (by omega), ?_⟩
      rw [i2, show (94 : Int32) = ι 94 from rfl, ι_eq (by omega) (by omega)]
      refine ⟨fun n94 => ⟨pl4.2.2.1, g + 2, ptr pl4 2 (by omega), t21 pl4 2 (by omega), v23 pl4 2 (by omega), ?_⟩, fun e94 => ⟨q, rfl, pl4.2.2.1, g + 4, ptr pl4 4 (by omega), t21 pl4 4 (by omega), v23 pl4 4 (by omega), bs4.1.t5, ?_⟩⟩
      rotate_left
      · -- a power
        have st : stpF G.1 f (nm, sg, l, r') = pw G.1 (atP G.1 f l) r' := by unfold stpF; rw [if_pos e94]
        have r9 := o4 e94
        rw [i4]
        refine c_power hc4 hpp wl ka pa rfl r9 (by omega) (by omega) (fun S5 go5 => ⟨fun q5 L eL ka5 pa5 => ?_, fun eN => ?_⟩)
        · obtain ⟨hc5, ng5, pl5, pd5, pb5, pm5⟩ := RnI.go hc4 ng4 pl4 pd4 pb4 pm4 go5
          exact endS S5 q5 L (hc5.mo (by omega) (by omega)) ng5 pl5 pd5 pb5 pm5 (by rw [st]; exact eL) ka5 pa5
        · exact endN S5 ((go5.2.2.1 _ _ _ hc4).mo (by omega) (by omega)) (by rw [st]; exact eN)
      rw [i2, show (42 : Int32) = ι 42 from rfl, ι_eq (by omega) (by omega)]
      refine ⟨fun n42 => ⟨pl4.2.2.1, g + 2, ptr pl4 2 (by omega), t21 pl4 2 (by omega), v23 pl4 2 (by omega), ?_⟩, fun e42 => ⟨q, rfl, pl4.2.2.1, g + 4, ptr pl4 4 (by omega), t21 pl4 4 (by omega), v23 pl4 4 (by omega), bs4.1.t5, pl4.2.2.1, ?_⟩⟩
      rotate_left
      · -- a product
        have tw : isTwo sg := by unfold isTwo; omega
        have wr := atP_wf (a := r') hpp.le.1 wf1 (o3 tw)
        have st : stpF G.1 f (nm, sg, l, r') = cn G.1 (prF G.1 (atP G.1 f l) (atP G.1 f r')) := by unfold stpF; rw [if_neg n94, if_pos e42]
        refine c_atomPoly hc4 hpp pl4 pm4 i4 (o3 tw) (by omega) bs4.2.2.2.1 (by omega) (by omega) (fun S5 q2 go5 ka2 pa2 => ?_)
        obtain ⟨hc5, ng5, pl5, pd5, pb5, pm5⟩ := RnI.go hc4 ng4 pl4 pd4 pb4 pm4 go5
        have pa' := go5.1 q _ ka pa
        refine ⟨q2, rfl, (hc5.bs hpp).1.t5, c_product hc5 hpp wl wr ka pa' ka2 pa2 (by omega) (by omega) (fun S6 go6 => ⟨fun q6 L eL ka6 pa6 => ?_, fun eN => ?_⟩)⟩
        · obtain ⟨hc6, ng6, pl6, pd6, pb6, pm6⟩ := RnI.go hc5 ng5 pl5 pd5 pb5 pm5 go6
          exact endS S6 q6 L (hc6.mo (by omega) (by omega)) ng6 pl6 pd6 pb6 pm6 (by rw [st]; exact eL) ka6 pa6
        · exact endN S6 ((go6.2.2.1 _ _ _ hc5).mo (by omega) (by omega)) (by rw [st]; exact eN)
      rw [i2, show ∀ x : Nat, (ι x = (0 : Int32)) = (ι x = ι 0) from fun _ => rfl, ι_eq (by omega) (by omega)]
      refine ⟨fun e0 => ?_, fun n0 => ⟨q, rfl, pl4.2.2.1, g + 4, ptr pl4 4 (by omega), t21 pl4 4 (by omega), v23 pl4 4 (by omega), bs4.1.t5, pl4.2.2.1, ?_⟩⟩
      · have st : stpF G.1 f (nm, sg, l, r') = some (atP G.1 f l) := by unfold stpF; rw [if_neg n94, if_neg n42, if_pos e0]
        exact endS S4 q _ (hc4.mo (by omega) (by omega)) ng4 pl4 pd4 pb4 pm4 st ka pa
      · -- a sum
        have tw : isTwo sg := by rcases o1 with c | c | c; exact absurd c n0; exact absurd c n94; exact c
        have wr := atP_wf (a := r') hpp.le.1 wf1 (o3 tw)
        refine c_atomPoly hc4 hpp pl4 pm4 i4 (o3 tw) (by omega) bs4.2.2.2.1 (by omega) (by omega) (fun S5 q2 go5 ka2 pa2 => ?_)
        obtain ⟨hc5, ng5, pl5, pd5, pb5, pm5⟩ := RnI.go hc4 ng4 pl4 pd4 pb4 pm4 go5
        have pa' := go5.1 q _ ka pa
        have bs5 := hc5.bs hpp
        have rm5 := hc5.room
        have j2 : hI S5 (g + 2) s = ι sg := by rw [(pl4.cell go5 (j := 2) (by omega)).1.2.2.1]; exact i2
        have sumX : ∀ (m : Nat) (x : Int32), x = ι m → m ≤ 12 → stpF G.1 f (nm, sg, l, r') = cn G.1 (sumF G.1 m (atP G.1 f l) (atP G.1 f r')) → w_X7_run_142 M (wl_X7_run_2 M K (r + 1)) K g (h0 + 5) (ι s) x q2 q (h0 + 5) S5 := fun m x hx hm st => by
          unfold w_X7_run_142
          refine ⟨bs5.1.t5, c_sum bs5 wl wr ka pa' ka2 pa2 hx hm (by omega) (by omega) (fun S6 stc => ⟨fun q6 L ka6 pa6 cL => ?_, fun cN => ?_⟩)⟩
          · obtain ⟨hc6, ng6, pl6, pd6, pb6, pm6⟩ := RnI.go hc5 ng5 pl5 pd5 pb5 pm5 (Go.stp stc)
            exact endS S6 q6 L (hc6.mo (by omega) (by omega)) ng6 pl6 pd6 pb6 pm6 (by rw [st]; exact cn_some cL) ka6 pa6
          · exact endN S6 (((Go.stp stc).2.2.1 _ _ _ hc5).mo (by omega) (by omega)) (by rw [st]; exact cn_none cN)
        refine ⟨q2, rfl, pl5.2.2.1, g + 2, ptr pl5 2 (by omega), t21 pl5 2 (by omega), v23 pl5 2 (by omega), ?_⟩
        rw [j2, show (43 : Int32) = ι 43 from rfl, ι_eq (by omega) (by omega)]
        refine ⟨fun n43 => ⟨bs5.1.t5, sumX (G.1 - 1) _ (by rw [bs5.2.2.2.1, show (1 : Int32) = ι 1 from rfl, ι_sub (by omega)]) (by omega) ?_⟩, fun e43 => sumX 1 1 rfl (by omega) ?_⟩
        · unfold stpF; simp only; rw [if_neg n94, if_neg n42, if_neg n0, if_neg n43]
        · unfold stpF; simp only; rw [if_neg n94, if_neg n42, if_neg n0, if_pos e43]
  exact ⟨D.length + 1, loop D.length 0 (fun _ => []) S (by omega) rfl hi⟩
end CRN
