/-! Polynomials that are being written. -/
/-- a new Poly with room for m lies at b -/
def NewP (S S' : HS) (b m : Nat) : Prop := b = hX S ∧ (∀ W V, Ext S S' W V) ∧ hX S' = hX S + 3 ∧ hS S' = hS S + 4 + 2 * m ∧ hT S' b = 7 ∧ hP S' b 0 = some (b + 1) ∧ hP S' b 1 = some (b + 2) ∧ hT S' (b + 1) = 21 ∧ hT S' (b + 2) = 21 ∧ hN S' (b + 1) = m ∧ hN S' (b + 2) = m ∧ hI S' b 2 = ι 0 ∧ hI S' b 3 = ι 0
theorem ext_nO {S : HS} {t n : Nat} (W V : Nat → Nat → Prop) : Ext S (nO S t n) W V := (Ext.rf S W V).nO
theorem ext_new {S S1 : HS} {W V : Nat → Nat → Prop} {a k : Nat} {v : Int32} (h : Ext S S1 W V) (ha : hX S ≤ a) : Ext S (sI S1 a k v) W V := ⟨h.1, h.2.1, fun b hb => by
  rw [sI_ne (by omega)]
  exact h.2.2.1 b hb, h.2.2.2⟩
theorem ext_newP {S S1 : HS} {W V : Nat → Nat → Prop} {a k : Nat} {r : Option Nat} (h : Ext S S1 W V) (ha : hX S ≤ a) : Ext S (sP S1 a k r) W V := ⟨h.1, h.2.1, fun b hb => by
  rw [sP_ne (by omega)]
  exact h.2.2.1 b hb, h.2.2.2⟩
theorem ext_newR {S S1 : HS} {W V : Nat → Nat → Prop} {a : Nat} {g : Nat → Int32} (h : Ext S S1 W V) (ha : hX S ≤ a) : Ext S (sR S1 a g) W V := ⟨h.1, h.2.1, fun b hb => by
  rw [sR_ne (by omega)]
  exact h.2.2.1 b hb, h.2.2.2⟩
theorem c_newPoly {M : Nat × Nat} {m : Nat} {x : Int32} {S : HS} {K : Int32 → HS → Prop} (hx : x = ι m) (hm : m ≤ 1000) (r1 : hX S + 3 ≤ M.1) (r2 : hS S + 4 + 2 * m ≤ M.2) (h : ∀ S', NewP S S' (hX S) m → K 0 S') : wp_X6_init M (hX S) x (nO S 7 4) K := by
  subst hx
  unfold wp_X6_init
  have hn := ι_nn (a := m) (by omega)
  refine ⟨nO_T2, nO_T2, hn, by rw [ι_cl (by omega)]; omega, by show hX S + 1 + 1 ≤ M.1; omega, by rw [ι_cl (by omega)]; show hS S + 4 + m ≤ M.2; omega, fun b1 S1 e1 e2 => ?_⟩
  have e1' : b1 = hX S + 1 := e1
  subst e1' 
  rw [ι_cl (by omega)] at e2
  subst e2
  refine ⟨?_, hn, by rw [ι_cl (by omega)]; omega, ?_, ?_, fun b2 S2 e3 e4 => ?_⟩
  · rw [nO_T1 (by show ¬ hX S = hX S + 1; omega)]; exact nO_T2
  · show hX S + 1 + 1 + 1 ≤ M.1; omega
  · rw [ι_cl (by omega)]; show hS S + 4 + m + m ≤ M.2; omega
  have e3' : b2 = hX S + 2 := e3
  subst e3'
  rw [ι_cl (by omega)] at e4
  subst e4
  have hb0 : ∀ {S1 : HS} {t n : Nat}, hX S1 = hX S + 1 ∨ hX S1 = hX S + 2 → ¬ hX S = hX S1 := fun h => by omega
  refine ⟨?_, h _ ⟨rfl, fun W V => ?_, rfl, ?_, ?_, ?_, ?_, ?_, ?_, ?_, ?_, ?_, ?_⟩⟩
  · rw [nO_T1 (by show ¬ hX S = hX S + 2; omega), sP_T, nO_T1 (by show ¬ hX S = hX S + 1; omega)]; exact nO_T2
  · exact ext_newP (Ext.nO (ext_newP (Ext.nO (ext_new (ext_new (ext_nO W V) (Nat.le_refl _)) (Nat.le_refl _))) (Nat.le_refl _))) (Nat.le_refl _)
  · show hS S + 4 + m + m = hS S + 4 + 2 * m; omega
  · rw [sP_T, nO_T1 (by show ¬ hX S = hX S + 2; omega), sP_T, nO_T1 (by show ¬ hX S = hX S + 1; omega)]; exact nO_T2
  · rw [sP_eq, if_neg (by omega), nO_P1 (by show ¬ hX S = hX S + 2; omega), sP_eq, if_pos rfl]
  · rw [sP_eq, if_pos rfl]
  · rw [sP_T, nO_T1 (by show ¬ hX S + 1 = hX S + 2; omega), sP_T]; exact nO_T2
  · rw [sP_T]; exact nO_T2
  · rw [sP_N, nO_N1 (by show ¬ hX S + 1 = hX S + 2; omega), sP_N]; exact nO_N2
  · rw [sP_N]; exact nO_N2
  · rw [sP_I, nO_I1 (by show ¬ hX S = hX S + 2; omega), sP_I, nO_I1 (by show ¬ hX S = hX S + 1; omega), sI_eq, if_neg (by omega), sI_eq, if_pos rfl]; rfl
  · rw [sP_I, nO_I1 (by show ¬ hX S = hX S + 2; omega), sP_I, nO_I1 (by show ¬ hX S = hX S + 1; omega), sI_eq, if_pos rfl]; rfl
/-- the Poly at h0 + d is being written: D so far, in falling order -/
def Dr (h0 : Nat) (S : HS) (d : Nat) (D : Po) (ov : Bool) : Prop := D.length ≤ 300 ∧ hI S (h0 + d) 2 = ι D.length ∧ hI S (h0 + d) 3 = ιb ov ∧ ∀ i, i < D.length → hI S (h0 + d + 1) i = ι (k6 (tm D i)) ∧ hI S (h0 + d + 2) i = ι (tm D i).n
def psD (D : Po) (ov : Bool) (t : Tm) : Po × Bool := if t.n = 0 then (D, ov) else if D.length < 300 then (D ++ [t], ov) else (D, true)
/-- what a written Poly looks like -/
def DL (h0 : Nat) (S : HS) (d : Nat) : Prop := hT S (h0 + d) = 7 ∧ hP S (h0 + d) 0 = some (h0 + d + 1) ∧ hP S (h0 + d) 1 = some (h0 + d + 2) ∧ hT S (h0 + d + 1) = 21 ∧ hT S (h0 + d + 2) = 21 ∧ hN S (h0 + d + 1) = 300 ∧ hN S (h0 + d + 2) = 300
theorem DL.d6 {h0 : Nat} {S : HS} (h : Lay h0 S) : DL h0 S 6 := ⟨h.t6, h.p6_0, h.p6_1, h.t7, h.t8, h.n7, h.n8⟩
theorem DL.d9 {h0 : Nat} {S : HS} (h : Lay h0 S) : DL h0 S 9 := ⟨h.t9, h.p9_0, h.p9_1, h.t10, h.t11, h.n10, h.n11⟩
theorem DL.d30 {h0 : Nat} {S : HS} (h : Lay h0 S) : DL h0 S 30 := ⟨h.t30, h.p30_0, h.p30_1, h.t31, h.t32, h.n31, h.n32⟩
def W3 (h0 d b _k : Nat) : Prop := b = h0 + d ∨ b = h0 + d + 1 ∨ b = h0 + d + 2
theorem c_clear {M : Nat × Nat} {h0 d : Nat} {S : HS} {K : Int32 → HS → Prop} (hd : DL h0 S d) (h : ∀ S', Ext S S' (W3 h0 d) V0 → hX S' = hX S → hS S' = hS S → Dr h0 S' d [] false → K 0 S') : wp_X6_clear M (h0 + d) S K := by
  unfold wp_X6_clear
  refine ⟨hd.1, hd.1, h _ (((Ext.rf S (W3 h0 d) V0).sI (Or.inl rfl)).sI (Or.inl rfl)) rfl rfl ⟨by simp, ?_, ?_, fun i hi => by simp at hi⟩⟩
  · rw [sI_eq, if_neg (by omega), sI_eq, if_pos rfl]; rfl
  · rw [sI_eq, if_pos rfl]; rfl
theorem c_psh {M : Nat × Nat} {h0 d : Nat} {x1 x2 : Int32} {t : Tm} {D : Po} {ov : Bool} {S : HS} {K : Int32 → HS → Prop} (hd : DL h0 S d) (hD : Dr h0 S d D ov) (h1 : x1 = ι (k6 t)) (h2 : x2 = ι t.n) (ht : t.n < 2147483648) (h : ∀ S', Ext S S' (W3 h0 d) V0 → hX S' = hX S → hS S' = hS S → Dr h0 S' d (psD D ov t).1 (psD D ov t).2 → K 0 S') : wp_X6_push M (h0 + d) x1 x2 S K := by
  subst h1 h2
  obtain ⟨g1, g2, g3, g4⟩ := hD
  obtain ⟨l1, l2, l3, l4, l5, l6, l7⟩ := hd
  unfold wp_X6_push
  unfold psD at h
  refine ⟨fun c => ?_, fun c => ?_⟩
  · have hn0 : t.n ≠ 0 := fun e => c (by rw [e]; rfl)
    rw [if_neg hn0] at h
    refine ⟨l1, l1, h0 + d + 1, l2, Or.inl l4, fun c2 => ⟨l1, h0 + d + 1, l2, l1, l4, ?_, l1, h0 + d + 2, l3, l1, l5, ?_, l1, l1, ?_⟩, fun c2 => ⟨l1, ?_⟩⟩
    · rw [g2, l6]
      rw [g2, l6, ι_of, ι_lt (by omega) (by omega)] at c2
      exact ι_in c2 (by omega)
    · rw [sI_ne (by omega), g2]
      rw [g2, l6, ι_of, ι_lt (by omega) (by omega)] at c2
      show vp_in _ (hN S (h0 + d + 2))
      rw [l7]; exact ι_in c2 (by omega)
    · rw [g2, l6, ι_of, ι_lt (by omega) (by omega)] at c2
      rw [if_pos c2] at h
      rw [g2, ι_cl (by omega), sI_ne (by omega), g2, ι_cl (by omega), sI_ne (by omega), sI_ne (by omega), g2, show (1 : Int32) = ι 1 from rfl, ι_add]
      refine h _ ((((Ext.rf S (W3 h0 d) V0).sI (Or.inr (Or.inl rfl))).sI (Or.inr (Or.inr rfl))).sI (Or.inl rfl)) rfl rfl ⟨by rw [List.length_append, List.length_singleton]; omega, ?_, ?_, fun i hi => ?_⟩
      · rw [sI_eq, if_pos rfl, List.length_append, List.length_singleton]
      · rw [sI_eq, if_neg (by omega), sI_ne (by omega), sI_ne (by omega)]; exact g3
      · rw [List.length_append, List.length_singleton] at hi
        rw [sI_ne (by omega), sI_ne (by omega), sI_eq, sI_ne (by omega), sI_eq, sI_ne (by omega)]
        by_cases e : i = D.length
        · rw [if_pos e, if_pos e, e, tm_app_r]; exact ⟨rfl, rfl⟩
        · rw [if_neg e, if_neg e, tm_app_l (by omega)]; exact g4 i (by omega)
    · rw [g2, l6, ι_of, ι_lt (by omega) (by omega)] at c2
      rw [if_neg c2] at h
      refine h _ ((Ext.rf S (W3 h0 d) V0).sI (Or.inl rfl)) rfl rfl ⟨g1, ?_, ?_, fun i hi => ?_⟩
      · rw [sI_eq, if_neg (by omega)]; exact g2
      · rw [sI_eq, if_pos rfl]; rfl
      · rw [sI_ne (by omega), sI_ne (by omega)]; exact g4 i hi
  · rw [show (0 : Int32) = ι 0 from rfl, ι_eq ht (by omega)] at c
    rw [if_pos c] at h
    exact h S (Ext.rf _ _ _) rfl rfl ⟨g1, g2, g3, g4⟩
theorem tm_rev {D : Po} {i : Nat} (h : i < D.length) : tm D.reverse (D.length - 1 - i) = tm D i := by
  unfold tm
  rw [List.getD_eq_getElem?_getD, List.getD_eq_getElem?_getD, List.getElem?_reverse (by omega), show D.length - 1 - (D.length - 1 - i) = i by omega]
theorem c_kept {M : Nat × Nat} {h0 d : Nat} {D : Po} {ov : Bool} {S : HS} {K : Option Nat → HS → Prop} (hd : DL h0 S d) (hx : h0 + d + 2 < hX S) (hD : Dr h0 S d D ov) (r1 : hX S + 3 ≤ M.1) (r2 : hS S + 604 ≤ M.2) (h1 : ov = false → ∀ S', (∀ W V, Ext S S' W V) → hX S' = hX S + 3 → hS S' ≤ hS S + 604 → PolyAt S' (hX S) D.reverse → K (some (hX S)) S') (h2 : ov = true → K none S) : wp_X6_kept M (h0 + d) S K := by
  obtain ⟨g1, g2, g3, g4⟩ := hD
  obtain ⟨l1, l2, l3, l4, l5, l6, l7⟩ := hd
  unfold wp_X6_kept
  refine ⟨l1, fun c => ⟨by omega, by omega, fun b1 S1 e1 e2 => ?_⟩, fun c => ?_⟩
  · subst e1 e2
    have hov : ov = false := (ιb_0 ov).mp (by rw [← g3]; exact c)
    have hne : ¬ h0 + d = hX S := by omega
    refine ⟨by rw [nO_T1 hne]; exact l1, ?_⟩
    rw [nO_I1 hne, g2]
    refine c_newPoly (m := D.length) rfl (by omega) r1 (by omega) (fun S2 np => ?_)
    obtain ⟨-, n2, n3, n4, n5, n6, n7, n8, n9, n10, n11, n12, n13⟩ := np
    have ee := (n2 (fun _ _ => False) (fun _ _ => False)).2.2.1
    have x0T : hT S2 (h0 + d) = 7 := by rw [(ee _ (by omega)).1]; exact l1
    have x0P : ∀ k, hP S2 (h0 + d) k = hP S (h0 + d) k := fun k => (ee _ (by omega)).2.2.2 k (fun c => c)
    have x0I : ∀ k, hI S2 (h0 + d) k = hI S (h0 + d) k := fun k => (ee _ (by omega)).2.2.1 k (fun c => c)
    have x1T : hT S2 (h0 + d + 1) = 21 := by rw [(ee _ (by omega)).1]; exact l4
    have x2T : hT S2 (h0 + d + 2) = 21 := by rw [(ee _ (by omega)).1]; exact l5
    have x1N : hN S2 (h0 + d + 1) = 300 := by rw [(ee _ (by omega)).2.1]; exact l6
    have x2N : hN S2 (h0 + d + 2) = 300 := by rw [(ee _ (by omega)).2.1]; exact l7
    have x1I : ∀ k, hI S2 (h0 + d + 1) k = hI S (h0 + d + 1) k := fun k => (ee _ (by omega)).2.2.1 k (fun c => c)
    have x2I : ∀ k, hI S2 (h0 + d + 2) k = hI S (h0 + d + 2) k := fun k => (ee _ (by omega)).2.2.1 k (fun c => c)
    have e2 : hI S2 (h0 + d) 2 = ι D.length := by rw [x0I]; exact g2
    have z0 : ¬ (0 : Int32) < 0 := by decide
    have z1 : Int32.toNatClampNeg 0 = 0 := rfl
    have zn : ¬ ι D.length < 0 := ι_nn (by omega)
    refine ⟨x0T, h0 + d + 1, by rw [x0P]; exact l2, n5, hX S + 1, n6, x0T, x1T, n8, z0, z0, by rw [e2]; exact zn, by rw [e2, z1, ι_cl (by omega), x1N]; omega, by rw [e2, z1, ι_cl (by omega), n10]; omega, x0T, h0 + d + 2, by rw [sR_P, x0P]; exact l3, n5, hX S + 2, n7, x0T, x2T, n9, z0, z0, ?_, ?_, ?_, x0T, n5, ?_⟩
    · rw [sR_ne (by omega), e2]; exact zn
    · rw [sR_ne (by omega), e2, z1, ι_cl (by omega), sR_N, x2N]; omega
    · rw [sR_ne (by omega), e2, z1, ι_cl (by omega), sR_N, n11]; omega
    · rw [sR_ne (by omega), sR_ne (by omega), sR_ne (by omega), sR_ne (by omega), e2, z1, ι_cl (by omega)]
      refine h1 hov _ (fun W V => ext_new (ext_newR (ext_newR (n2 W V) (by omega)) (by omega)) (by omega)) n3 (by show hS S2 ≤ _; omega) ?_
      refine ⟨by show hX S + 2 < hX S2; omega, n5, n6, n7, n8, n9, by rw [List.length_reverse]; exact n10, by rw [List.length_reverse]; exact n11, by rw [sI_eq, if_pos rfl, List.length_reverse, sR_ne (by omega), e2], by rw [sI_eq, if_neg (by omega), sR_ne (by omega), sR_ne (by omega)]; exact n13, fun i hi => ?_⟩
      rw [List.length_reverse] at hi
      rw [List.length_reverse, tm_rev hi, sI_ne (by omega), sR_ne (by omega), sR_eq, sI_ne (by omega), sR_eq]
      unfold va_cpy
      rw [if_pos ⟨by omega, by omega⟩, if_pos ⟨by omega, by omega⟩, Nat.zero_add, Nat.sub_zero, x1I, x2I]
      exact g4 i hi
  · have hov : ov = true := by
      cases ov with
      | false => exact absurd (by rw [g3]; rfl) c
      | true => rfl
    exact h2 hov
/-! A falling row of terms that is pushed makes what its numbers say. -/
def pf (t : Nat → Tm) : Nat → Po × Bool
  | 0 => ([], false)
  | i + 1 => psD (pf t i).1 (pf t i).2 (t i)
def fF (t : Nat → Tm) (m x y z : Nat) : Nat := sumTo m (fun i => if isAt (t i) x y z then (t i).n else 0)
theorem k6_eq {s t : Tm} (h : isAt s t.x t.y t.z) : k6 s = k6 t := by unfold k6; rw [h.1, h.2.1, h.2.2]
section PFC
variable {p m : Nat} {t : Nat → Tm}
theorem fF_at (ho : ∀ i j, i < j → j < m → (t i).n ≠ 0 → (t j).n ≠ 0 → k6 (t j) < k6 (t i)) {i : Nat} (hi : i < m) (hn : (t i).n ≠ 0) : fF t m (t i).x (t i).y (t i).z = (t i).n := by
  unfold fF
  rw [sumTo_single i hi (fun j hj ne => ?_), if_pos ⟨rfl, rfl, rfl⟩]
  by_cases h0 : (t j).n = 0
  · rw [h0]; exact ite_self _
  rw [if_neg]
  intro w
  have e := k6_eq w
  rcases Nat.lt_or_gt_of_ne ne with q | q
  · have := ho j i q hi h0 hn; omega
  · have := ho i j q hj hn h0; omega
theorem fF_ne {x y z : Nat} (h : fF t m x y z ≠ 0) : ∃ i, i < m ∧ isAt (t i) x y z ∧ (t i).n ≠ 0 := Classical.byContradiction fun q => h (sumTo_zero (fun i hi => by
  by_cases w : isAt (t i) x y z
  · rw [if_pos w]
    exact Classical.byContradiction fun c => q ⟨i, hi, w, c⟩
  · exact if_neg w))
theorem fF_lt (hp : 0 < p) (hs : ∀ i, i < m → (t i).n ≠ 0 → sm (t i) ∧ (t i).n < p) (ho : ∀ i j, i < j → j < m → (t i).n ≠ 0 → (t j).n ≠ 0 → k6 (t j) < k6 (t i)) (x y z : Nat) : fF t m x y z < p := by
  by_cases e : fF t m x y z = 0
  · omega
  · obtain ⟨i, hi, w, hn⟩ := fF_ne e
    have := fF_at ho hi hn
    rw [w.1, w.2.1, w.2.2] at this
    rw [this]
    exact (hs i hi hn).2
theorem pf_inv (hs : ∀ i, i < m → (t i).n ≠ 0 → sm (t i) ∧ (t i).n < p) (ho : ∀ i j, i < j → j < m → (t i).n ≠ 0 → (t j).n ≠ 0 → k6 (t j) < k6 (t i)) : ∀ k, k ≤ m → (pf t k).1.length ≤ 300 ∧ (∀ j, j < (pf t k).1.length → ∃ i, i < k ∧ tm (pf t k).1 j = t i ∧ (t i).n ≠ 0) ∧ (∀ a b, a < b → b < (pf t k).1.length → k6 (tm (pf t k).1 b) < k6 (tm (pf t k).1 a)) ∧ ((pf t k).2 = false → ∀ i, i < k → (t i).n ≠ 0 → ∃ j, j < (pf t k).1.length ∧ tm (pf t k).1 j = t i) ∧ ((pf t k).2 = true → (pf t k).1.length = 300 ∧ ∃ i, i < k ∧ (t i).n ≠ 0 ∧ ∀ j, j < 300 → k6 (t i) < k6 (tm (pf t k).1 j)) := by
  intro k
  induction k with
  | zero => intro _; exact ⟨by simp [pf], fun j hj => by simp [pf] at hj, fun a b _ hb => by simp [pf] at hb, fun _ i hi => by omega, fun h => by simp [pf] at h⟩
  | succ k ih =>
    intro hk
    obtain ⟨i1, i2, i3, i4, i5⟩ := ih (by omega)
    rw [pf]
    generalize hD : (pf t k).1 = D at *
    generalize hv : (pf t k).2 = ov at *
    unfold psD
    by_cases c : (t k).n = 0
    · rw [if_pos c]
      refine ⟨i1, fun j hj => ?_, i3, fun h i hi hn => ?_, fun h => ?_⟩
      · obtain ⟨i, a, b⟩ := i2 j hj; exact ⟨i, by omega, b⟩
      · by_cases e : i = k
        · subst e; exact absurd c hn
        · exact i4 h i (by omega) hn
      · obtain ⟨a, i, b, d⟩ := i5 h; exact ⟨a, i, by omega, d⟩
    · rw [if_neg c]
      have below : ∀ j, j < D.length → k6 (t k) < k6 (tm D j) := fun j hj => by
        obtain ⟨i, a, b, hn⟩ := i2 j hj
        rw [b]; exact ho i k a (by omega) hn c
      by_cases c2 : D.length < 300
      · rw [if_pos c2]
        refine ⟨by rw [List.length_append, List.length_singleton]; omega, fun j hj => ?_, fun a b hab hb => ?_, fun h i hi hn => ?_, fun h => ?_⟩
        · rw [List.length_append, List.length_singleton] at hj
          by_cases e : j < D.length
          · obtain ⟨i, a, b⟩ := i2 j e; exact ⟨i, by omega, by rw [tm_app_l e]; exact b⟩
          · exact ⟨k, by omega, by rw [show j = D.length by omega, tm_app_r], c⟩
        · rw [List.length_append, List.length_singleton] at hb
          rw [tm_app_l (i := a) (by omega)]
          by_cases e : b < D.length
          · rw [tm_app_l e]; exact i3 a b hab e
          · rw [show b = D.length by omega, tm_app_r]; exact below a (by omega)
        · by_cases e : i = k
          · subst e; exact ⟨D.length, by rw [List.length_append, List.length_singleton]; omega, tm_app_r⟩
          · obtain ⟨j, a, b⟩ := i4 h i (by omega) hn
            exact ⟨j, by rw [List.length_append]; omega, by rw [tm_app_l a]; exact b⟩
        · have := (i5 h).1; omega
      · rw [if_neg c2]
        refine ⟨i1, fun j hj => ?_, i3, fun h => (by cases h), fun _ => ⟨(by show D.length = 300; omega), k, by omega, c, fun j hj => below j (by omega)⟩⟩
        obtain ⟨i, a, b⟩ := i2 j hj; exact ⟨i, by omega, b⟩
theorem pf_can (hp : 0 < p) (hs : ∀ i, i < m → (t i).n ≠ 0 → sm (t i) ∧ (t i).n < p) (ho : ∀ i j, i < j → j < m → (t i).n ≠ 0 → (t j).n ≠ 0 → k6 (t j) < k6 (t i)) : ((pf t m).2 = false → Can p (fF t m) (pf t m).1.reverse) ∧ ((pf t m).2 = true → ¬ ∃ L, Can p (fF t m) L) := by
  obtain ⟨i1, i2, i3, i4, i5⟩ := pf_inv hs ho m (Nat.le_refl _)
  generalize hD : (pf t m).1 = D at *
  generalize hv : (pf t m).2 = ov at *
  have each : ∀ j, j < D.length → sm (tm D j) ∧ fF t m (tm D j).x (tm D j).y (tm D j).z = (tm D j).n ∧ (tm D j).n ≠ 0 ∧ True := fun j hj => by
    obtain ⟨i, a, b, c⟩ := i2 j hj
    rw [b]
    exact ⟨(hs i a c).1, fF_at ho a c, c, trivial⟩
  have dist : ∀ i j, i < j → j < D.length → k41 (tm D i) ≠ k41 (tm D j) := fun i j hij hj e => by
    have h1 := i3 i j hij hj
    have h2 := (k41_lt_k6 (each j hj).1 (each i (by omega)).1).mpr h1
    omega
  have hC : Col (fF t m) (fun _ _ _ => True) D := ⟨each, dist⟩
  refine ⟨fun h => ?_, fun h => ?_⟩
  · refine can_of hC i1 (fF_lt hp hs ho) (fun x y z q => ?_) (by rw [List.length_reverse]) (fun s => List.mem_reverse) (fun a b hab hb => ?_)
    · obtain ⟨i, hi, w, hn⟩ := fF_ne q
      have e := fF_at ho hi hn
      rw [w.1, w.2.1, w.2.2] at e
      obtain ⟨j, hj, e2⟩ := i4 h i hi (by rw [← e]; exact q)
      exact ⟨j, hj, by rw [e2]; exact w⟩
    · rw [List.length_reverse] at hb
      have ea := tm_rev (D := D) (i := D.length - 1 - a) (by omega)
      have eb := tm_rev (D := D) (i := D.length - 1 - b) (by omega)
      rw [show D.length - 1 - (D.length - 1 - a) = a by omega] at ea
      rw [show D.length - 1 - (D.length - 1 - b) = b by omega] at eb
      rw [ea, eb]
      have h1 := i3 (D.length - 1 - b) (D.length - 1 - a) (by omega) (by omega)
      exact (k41_lt_k6 (each _ (by omega)).1 (each _ (by omega)).1).mpr h1
  · obtain ⟨a, i, b, c, d⟩ := i5 h
    refine no_can_many (C := D ++ [t i]) (col_app hC (hs i b c).1 (fF_at ho b c) c trivial (fun j hj e => ?_)) (by rw [List.length_append, List.length_singleton]; omega)
    have h1 := d j (by omega)
    have h2 := (k41_lt_k6 (hs i b c).1 (each j hj).1).mpr h1
    omega
end PFC
/-! The class's state with its room counted by hand; steps of a computation. -/
def CRr (h0 X0 S0 : Nat) (S : HS) : Prop := hX S ≤ X0 ∧ ∃ b1 b2 b3 b4, hS S ≤ S0 + b1 + b2 + b3 + b4 ∧ b1 ≤ 2 * hN S (bxC h0 S 12) ∧ hN S (bxC h0 S 12) ≤ 137842 ∧ (b2 ≤ 2 * hN S (bxC h0 S 15) ∨ (hN S (bxC h0 S 15) = 269001 ∧ b2 ≤ 807003)) ∧ b3 ≤ 2 * hN S (bxC h0 S 39) ∧ hN S (bxC h0 S 39) ≤ 137842 ∧ b4 ≤ 2 * hN S (bxC h0 S 42) ∧ hN S (bxC h0 S 42) ≤ 137842 ∧ (hN S (bxC h0 S 42) = hN S (bxC h0 S 39) ∨ 2 * hN S (bxC h0 S 42) ≤ hN S (bxC h0 S 39))
def CIr (h0 X0 S0 : Nat) (S : HS) (g : Gh) : Prop := match g with
  | (p, P, A, T, Tx, ft, Q, B) => Lay h0 S ∧ CTop h0 S ∧ hI S (h0 + 5) 0 = ι p ∧ CPl h0 S P ∧ CAc h0 S A ∧ CTp h0 S T ∧ CSp h0 S Tx ∧ hI S h0 10 = ft ∧ CPg h0 S Q B ∧ CBx h0 S ∧ CFc h0 S p ∧ CRr h0 X0 S0 S
def tpR (T : List Nat) : Nat := if T = [] then 0 else 7400
theorem CI.r {h0 s0 n : Nat} {S : HS} {g : Gh} (h : CI h0 s0 n S g) : CIr h0 (h0 + 200 + 1000 * n) (s0 + 1400000 + 7400 * n - tpR g.2.2.2.1) S g := by
  obtain ⟨p, P, A, T, Tx, ft, Q, B⟩ := g
  obtain ⟨c1, c2, c3, c4, c5, c6, c7, c8, c9, c10, c11, q0, b1, b2, b3, b4, q1, q2⟩ := h
  refine ⟨c1, c2, c3, c4, c5, c6, c7, c8, c9, c10, c11, q0, b1, b2, b3, b4, ?_, q2⟩
  show hS S ≤ s0 + 1400000 + 7400 * n - (if T = [] then 0 else 7400) + b1 + b2 + b3 + b4
  by_cases c : T = []
  · rw [if_pos c] at q1 ⊢; omega
  · rw [if_neg c] at q1 ⊢; omega
theorem CIr.ci {h0 s0 n X0 S0 : Nat} {S : HS} {g : Gh} (h : CIr h0 X0 S0 S g) (hx : X0 ≤ h0 + 200 + 1000 * n) (hs : S0 + tpR g.2.2.2.1 ≤ s0 + 1400000 + 7400 * n) : CI h0 s0 n S g := by
  obtain ⟨p, P, A, T, Tx, ft, Q, B⟩ := g
  obtain ⟨c1, c2, c3, c4, c5, c6, c7, c8, c9, c10, c11, q0, b1, b2, b3, b4, q1, q2⟩ := h
  refine ⟨c1, c2, c3, c4, c5, c6, c7, c8, c9, c10, c11, by omega, b1, b2, b3, b4, ?_, q2⟩
  have hs : S0 + (if T = [] then 0 else 7400) ≤ s0 + 1400000 + 7400 * n := hs
  omega
theorem CRr.go {h0 X0 S0 a b : Nat} {S S' : HS} {W V : Nat → Nat → Prop} (h : CRr h0 X0 S0 S) (e : Ext S S' W V) (hb : CBx h0 S) (ho : ∀ o, o = 12 ∨ o = 15 ∨ o = 39 ∨ o = 42 → hP S' (h0 + o) 0 = hP S (h0 + o) 0) (hx : hX S' ≤ hX S + a) (hs : hS S' ≤ hS S + b) : CRr h0 (X0 + a) (S0 + b) S' := by
  obtain ⟨q0, b1, b2, b3, b4, q1, q2⟩ := h
  obtain ⟨⟨c1, c2, c3, c4⟩, -⟩ := hb
  refine ⟨by omega, b1, b2, b3, b4, by omega, ?_⟩
  rw [bxC.go (ho 12 (by omega)), bxC.go (ho 15 (by omega)), bxC.go (ho 39 (by omega)), bxC.go (ho 42 (by omega)), (e.2.2.1 _ c1.2.1).2.1, (e.2.2.1 _ c2.2.1).2.1, (e.2.2.1 _ c3.2.1).2.1, (e.2.2.1 _ c4.2.1).2.1]
  exact q2
theorem CIr.scr {h0 X0 S0 a b : Nat} {S S' : HS} {g : Gh} (h : CIr h0 X0 S0 S g) (e : Ext S S' (Wz h0 S) V0) (tp : Tp S') (hx' : hX S' ≤ hX S + a) (hs' : hS S' ≤ hS S + b) : CIr h0 (X0 + a) (S0 + b) S' g := by
  obtain ⟨p, P, A, T, Tx, ft, Q, B⟩ := g
  obtain ⟨c1, c2, c3, c4, c5, c6, c7, c8, c9, c10, c11, c12⟩ := h
  have hx := c2.1
  have pk : PK h0 S S' := PK.of e (ka_z c10)
  have b12 := c10.1.1.2.2.2.2.1
  have b15 := c10.1.2.1.2.2.2.2.1
  have b42 := c10.1.2.2.2.2.2.2.2.1
  have b39 := c10.1.2.2.1.2.2.2.2.1
  have nI : ∀ b k, b < hX S → ¬ Wz h0 S b k → hI S' b k = hI S b k := fun b k hb w => (e.2.2.1 b hb).2.2.1 k w
  have nP : ∀ b k, b < hX S → hP S' b k = hP S b k := fun b k hb => (e.2.2.1 b hb).2.2.2 k (fun c => c)
  have ho : ∀ o, o = 12 ∨ o = 15 ∨ o = 39 ∨ o = 42 → hP S' (h0 + o) 0 = hP S (h0 + o) 0 := fun o ho => nP _ _ (by omega)
  refine ⟨c1.go c2.1 e (fun q hq c => c), c2.go e pk tp, by rw [nI _ _ (by omega) (by unfold Wz; omega)]; exact c3, c4.go pk (fun k hk => nP _ _ (by omega)), c5.go pk (fun k => nI _ _ (by omega) (by unfold Wz; omega)) (fun k => nI _ _ (by omega) (by unfold Wz; omega)) (fun k => nP _ _ (by omega)), c6.go (nI _ _ (by omega) (by unfold Wz; omega)) (fun i => nI _ _ (by omega) (by unfold Wz; omega)), c7.go (nI _ _ (by omega) (by unfold Wz; omega)) (fun i => nI _ _ (by omega) (by unfold Wz; omega)), by rw [nI _ _ (by omega) (by unfold Wz; omega)]; exact c8, ?_, c10.go e ho, c11.go (e.2.2.1 _ c10.1.2.2.1.2.1).2.1 pk (nP _ _ (by omega)) (ho 39 (by omega)) (fun k => nI _ _ (by omega) (by unfold Wz; omega)) (fun k => nI _ _ (by omega) (by unfold Wz; omega)) (fun k => nI _ _ (by omega) (by unfold Wz; omega)) (nI _ _ (by omega) (by unfold Wz; omega)) (nI _ _ (by omega) (by unfold Wz; omega)) (fun k => nI _ _ c10.1.2.2.1.2.1 ?_), c12.go e c10 ho hx' hs'⟩
  · rcases c9 with ⟨q1, q2⟩ | ⟨g, q1, q2, q3, q4⟩
    · exact Or.inl ⟨by rw [nP _ _ (by omega)]; exact q1, q2⟩
    · have hx2 : g + 9 < hX S := q3.2.1
      have hg55 := q3.1
      have ee := e.2.2.1
      refine Or.inr ⟨g, by rw [nP _ _ (by omega)]; exact q1, q2, ?_, by rw [bxC.go (ho 12 (by omega)), bxC.go (ho 15 (by omega)), bxC.go (ho 39 (by omega)), bxC.go (ho 42 (by omega))]; exact q4⟩
      obtain ⟨w1, w2, w3, w4, w5, w6, w7⟩ := q3
      have gi : ∀ f s, f ≤ 6 → hI S' (g + f) s = hI S (g + f) s := fun f s hf => nI _ _ (by omega) (by unfold Wz; omega)
      refine ⟨w1, by have := e.1; omega, by rw [(ee g (by omega)).1]; exact w3, fun f f1 f2 => by rw [nP _ _ (by omega)]; exact w4 f f1 f2, fun f f1 f2 => by rw [(ee (g + f) (by omega)).1, (ee (g + f) (by omega)).2.1]; exact w5 f f1 f2, by rw [show hI S' g 0 = hI S g 0 from gi 0 0 (by omega)]; exact w6, fun s hs => ?_⟩
      obtain ⟨u1, u2, u3, u4, u5, a, u6, u7, u8⟩ := w7 s hs
      rw [gi 1 s (by omega), gi 2 s (by omega), gi 3 s (by omega), gi 4 s (by omega), gi 5 s (by omega)]
      exact ⟨u1, u2, u3, u4, u5, a, by rw [nP _ _ (by omega)]; exact u6, u7, pk a _ u7 u8⟩
  · have := c10.2
    unfold Wz; omega
/-- a cell that is no Box's -/
def nBx (h0 : Nat) (S : HS) (q : Nat) : Prop := q ≠ bxC h0 S 12 ∧ q ≠ bxC h0 S 15 ∧ q ≠ bxC h0 S 39 ∧ q ≠ bxC h0 S 42
/-- cells behind the fixed ones that are no Box's stay -/
def Frz (h0 : Nat) (S S' : HS) : Prop := (∀ q, h0 + 56 ≤ q → q < hX S → nBx h0 S q → (hT S' q = hT S q ∧ hN S' q = hN S q ∧ hI S' q = hI S q ∧ hP S' q = hP S q) ∧ nBx h0 S' q) ∧ (h0 < hX S → hP S' h0 11 = hP S h0 11)
theorem Frz.rf (h0 : Nat) (S : HS) : Frz h0 S S := ⟨fun _ _ _ h => ⟨⟨rfl, rfl, rfl, rfl⟩, h⟩, fun _ => rfl⟩
theorem Frz.tr {h0 : Nat} {S S1 S2 : HS} (h : Frz h0 S S1) (g : Frz h0 S1 S2) (hx : hX S ≤ hX S1) : Frz h0 S S2 := ⟨fun q h1 h2 h3 => by
  obtain ⟨⟨a1, a2, a3, a4⟩, a5⟩ := h.1 q h1 h2 h3
  obtain ⟨⟨b1, b2, b3, b4⟩, b5⟩ := g.1 q h1 (by omega) a5
  exact ⟨⟨b1.trans a1, b2.trans a2, b3.trans a3, b4.trans a4⟩, b5⟩, fun c => (g.2 (by omega)).trans (h.2 c)⟩
theorem Frz.ext {h0 : Nat} {S S' : HS} {W V : Nat → Nat → Prop} (e : Ext S S' W V) (hw : ∀ q k, h0 + 56 ≤ q → q < hX S → nBx h0 S q → ¬ W q k ∧ ¬ V q k) (hp : ¬ V h0 11) (hv : ∀ o, h0 + 56 < hX S → o = 12 ∨ o = 15 ∨ o = 39 ∨ o = 42 → hP S' (h0 + o) 0 = hP S (h0 + o) 0 ∨ hX S ≤ bxC h0 S' o) : Frz h0 S S' := ⟨fun q h1 h2 h3 => by
  have ee := e.2.2.1 q h2
  have nb : ∀ o, o = 12 ∨ o = 15 ∨ o = 39 ∨ o = 42 → q ≠ bxC h0 S o → q ≠ bxC h0 S' o := fun o ho c => by
    rcases hv o (by omega) ho with w | w
    · rw [bxC.go w]; exact c
    · omega
  exact ⟨⟨ee.1, ee.2.1, funext fun k => ee.2.2.1 k (hw q k h1 h2 h3).1, funext fun k => ee.2.2.2 k (hw q k h1 h2 h3).2⟩, nb 12 (by omega) h3.1, nb 15 (by omega) h3.2.1, nb 39 (by omega) h3.2.2.1, nb 42 (by omega) h3.2.2.2⟩, fun c => (e.2.2.1 h0 c).2.2.2 11 hp⟩
theorem Frz.of {h0 : Nat} {S S' : HS} (e : Ext S S' (Wz h0 S) V0) : Frz h0 S S' := Frz.ext e (fun q k h1 h2 h3 => by
  unfold nBx at h3
  exact ⟨by unfold Wz; omega, fun c => c⟩) (fun c => c) (fun o hx ho => Or.inl ((e.2.2.1 _ (by omega)).2.2.2 0 (fun c => c)))
/-- a computation's step: kept polynomials stay, the state is as it was, four cells and 604 slots more at most -/
def StpC (h0 : Nat) (S S' : HS) : Prop := PK h0 S S' ∧ hX S ≤ hX S' ∧ (∀ X0 S0 g, CIr h0 X0 S0 S g → CIr h0 (X0 + 4) (S0 + 604) S' g) ∧ Frz h0 S S'
/-- what a method that makes a polynomial must show -/
def Mk (h0 : Nat) (S : HS) (p : Nat) (F : Nat → Nat → Nat → Nat) (K : Option Nat → HS → Prop) : Prop := ∀ S', StpC h0 S S' → (∀ b L, Ka h0 b → PolyAt S' b L → Can p F L → K (some b) S') ∧ ((¬ ∃ L, Can p F L) → K none S')
/-- what is laid out, and where the ring stands -/
def Bs (h0 : Nat) (S : HS) (p : Nat) : Prop := Lay h0 S ∧ CTop h0 S ∧ CBx h0 S ∧ hI S (h0 + 5) 0 = ι p ∧ PrP p
theorem Bs.go {h0 p : Nat} {S S' : HS} (h : Bs h0 S p) (e : Ext S S' (Wz h0 S) V0) (hxe : hX S' = hX S) : Bs h0 S' p := by
  obtain ⟨c1, c2, c3, c4, c5⟩ := h
  have hx := c2.1
  have b12 := c3.1.1.2.2.2.2.1
  have b15 := c3.1.2.1.2.2.2.2.1
  have b42 := c3.1.2.2.2.2.2.2.2.1
  refine ⟨c1.go c2.1 e (fun q hq c => c), c2.go e (PK.of e (ka_z c3)) (c2.tp e hxe), c3.go e (fun o ho => (e.2.2.1 _ (by omega)).2.2.2 0 (fun c => c)), ?_, c5⟩
  rw [(e.2.2.1 (h0 + 5) (by omega)).2.2.1 0 (by unfold Wz; omega)]; exact c4
theorem W3.z {h0 d : Nat} {S : HS} (hd : d = 6 ∨ d = 9 ∨ d = 30) : ∀ b k, W3 h0 d b k → Wz h0 S b k := fun b k h => by
  unfold W3 at h
  unfold Wz
  omega
/-- the draft is kept: the end of a making -/
theorem c_end {M : Nat × Nat} {h0 p m : Nat} {t : Nat → Tm} {F : Nat → Nat → Nat → Nat} {S S1 : HS} {K : Option Nat → HS → Prop} (hb : Bs h0 S p) (e : Ext S S1 (Wz h0 S) V0) (x1 : hX S1 = hX S) (s1 : hS S1 = hS S) (hD : Dr h0 S1 6 (pf t m).1 (pf t m).2) (hs : ∀ i, i < m → (t i).n ≠ 0 → sm (t i) ∧ (t i).n < p) (ho : ∀ i j, i < j → j < m → (t i).n ≠ 0 → (t j).n ≠ 0 → k6 (t j) < k6 (t i)) (hF : ∀ x y z, fF t m x y z = F x y z) (r1 : hX S + 3 ≤ M.1) (r2 : hS S + 604 ≤ M.2) (h : Mk h0 S p F K) : wp_X6_kept M (h0 + 6) S1 (fun r S' => K r S') := by
  have hF' : fF t m = F := by funext x y z; exact hF x y z
  have hpp := hb.2.2.2.2.le
  have b1 := hb.go e x1
  have pc := pf_can (p := p) (m := m) (t := t) (by omega) hs ho
  rw [hF'] at pc
  have pk1 : PK h0 S S1 := PK.of e (ka_z hb.2.2.1)
  refine c_kept (DL.d6 b1.1) (by have := b1.2.1.1; omega) hD (by omega) (by omega) (fun hov S' ex hx' hs' pa => ?_) (fun hov => ?_)
  · have e2 : Ext S1 S' (Wz h0 S1) V0 := ex _ _
    have pk2 : PK h0 S1 S' := PK.of e2 (ka_z b1.2.2.1)
    refine (h S' ⟨fun a L ka q => pk2 a L ka (pk1 a L ka q), by omega, fun X0 S0 g hc => ?_, (Frz.of e).tr (Frz.of e2) (by omega)⟩).1 (hX S1) _ (Or.inr (Or.inr (by have := b1.2.1.1; omega))) pa (pc.1 hov)
    have h1 := hc.scr (a := 0) (b := 0) e b1.2.1.2.2.2.2 (by omega) (by omega)
    have tp2 : Tp S' := by
      unfold Tp
      rw [hx', show hX S1 + 3 - 1 = hX S1 + 2 by omega, show hX S1 + 3 - 2 = hX S1 + 1 by omega, pa.2.2.2.2.1, pa.2.2.2.2.2.1]
      decide
    have h2 := h1.scr (a := 4) (b := 604) e2 tp2 (by omega) (by omega)
    exact h2
  · refine (h S1 ⟨pk1, by omega, fun X0 S0 g hc => hc.scr (a := 4) (b := 604) e b1.2.1.2.2.2.2 (by omega) (by omega), Frz.of e⟩).2 (pc.2 hov)
