/-! One polynomial put into another one: what comes out; the reference's side. -/
def gone (v : Nat) (t : Tm) : Tm := (if v = 0 then 0 else t.x, if v = 1 then 0 else t.y, if v = 2 then 0 else t.z, t.n)
theorem gone_le {v : Nat} {t : Tm} : (gone v t).x ≤ t.x ∧ (gone v t).y ≤ t.y ∧ (gone v t).z ≤ t.z := by
  refine ⟨?_, ?_, ?_⟩
  · show (if v = 0 then 0 else t.x) ≤ t.x; split <;> omega
  · show (if v = 1 then 0 else t.y) ≤ t.y; split <;> omega
  · show (if v = 2 then 0 else t.z) ≤ t.z; split <;> omega
noncomputable def PW (p : Nat) (B : Po) (e : Nat) : Po := (pw p B e).getD []
theorem PW_some {p e : Nat} {B L : Po} (h : pw p B e = some L) : PW p B e = L := by unfold PW; rw [h]; rfl
noncomputable def pE (p : Nat) (A : Po) (v : Nat) (B : Po) (i e x y z : Nat) : Nat := sumTo i (fun j => if exv (tm A j) v = e then qS (gone v (tm A j)) (PW p B e) (PW p B e).length x y z else 0)
noncomputable def pT (p : Nat) (A : Po) (v : Nat) (B : Po) (N x y z : Nat) : Nat := sumTo N (fun e => pE p A v B A.length e x y z)
noncomputable def ptF (p : Nat) (A : Po) (v : Nat) (B : Po) : Nat → Nat → Nat → Nat := fun x y z => pT p A v B (mA A v) x y z % p
noncomputable def ptO (p : Nat) (A : Po) (v : Nat) (B : Po) : Option Po := (pw p B (mA A v - 1)).bind (fun _ => cn p (ptF p A v B))
theorem qS_ne {u : Tm} {L : Po} {i x y z : Nat} (h : qS u L i x y z ≠ 0) : ∃ j, j < i ∧ u.x + (tm L j).x = x ∧ u.y + (tm L j).y = y ∧ u.z + (tm L j).z = z := Classical.byContradiction fun q => h (sumTo_zero (fun j hj => if_neg (fun w => q ⟨j, hj, w⟩)))
theorem pE_ne {p v i e x y z : Nat} {A B : Po} (h : pE p A v B i e x y z ≠ 0) : ∃ j k, j < i ∧ k < (PW p B e).length ∧ exv (tm A j) v = e ∧ (gone v (tm A j)).x + (tm (PW p B e) k).x = x ∧ (gone v (tm A j)).y + (tm (PW p B e) k).y = y ∧ (gone v (tm A j)).z + (tm (PW p B e) k).z = z := Classical.byContradiction fun q => h (sumTo_zero (fun j hj => by
  by_cases c : exv (tm A j) v = e
  · rw [if_pos c]
    exact Classical.byContradiction fun w => by
      obtain ⟨k, hk, w1, w2, w3⟩ := qS_ne w
      exact q ⟨j, k, hj, hk, c, w1, w2, w3⟩
  · exact if_neg c))
theorem pT_ne {p v N x y z : Nat} {A B : Po} (h : pT p A v B N x y z ≠ 0) : ∃ e, e < N ∧ pE p A v B A.length e x y z ≠ 0 := Classical.byContradiction fun q => h (sumTo_zero (fun e he => Classical.byContradiction fun w => q ⟨e, he, w⟩))
theorem pw_some_le {p n : Nat} {B L : Po} (h : pw p B n = some L) {k : Nat} (hk : k ≤ n) : ∃ M, pw p B k = some M := by
  cases e : pw p B k with
  | none => rw [pw_none e n hk] at h; cases h
  | some M => exact ⟨M, rfl⟩
/-- the cube of put holds F -/
def Gp (R : RS) (p : Nat) (F : Nat → Nat → Nat → Nat) : Prop := (∀ x y z, x ≤ 80 → y ≤ 80 → z ≤ 80 → R 26 (c81 x y z) = ι (F x y z)) ∧ ∀ x y z, F x y z < p
theorem s_putsTerm {p v : Nat} {x1 x2 x3 : Int32} {u : Tm} {L : Po} {F : Nat → Nat → Nat → Nat} {R : RS} {K : Int32 → RS → Prop} (hpp : PrP p) (hp : R 0 1 = ι p) (hu : sm u) (hn : u.n < p) (hv : v < 3) (h1 : x1 = ι (k41 u)) (h2 : x2 = ι u.n) (h3 : x3 = ι v) (hw : wf p L) (hl : Sl R 54 L) (hG : Gp R p F) (h : ∀ R', Fr R R' [26] [] → Gp R' p (fun x y z => (F x y z + qS (gone v u) L L.length x y z) % p) → K 0 R') : wp_putsTerm x1 x2 x3 R K := by
  subst h1 h2 h3
  have hle := hw.1
  have hple := hpp.le
  have key : ∀ (k i : Nat) (R1 : RS), i + k = L.length → Fr R R1 [26] [] → Gp R1 p (fun x y z => (F x y z + qS (gone v u) L i x y z) % p) → wl_putsTerm_3 K (k + 1) (ι (k41 u)) (ι u.n) (ι v) (ι i) R1 := by
    intro k
    induction k with
    | zero =>
      intro i R1 hi r1 g1
      have e2 : R1 2 54 = ι L.length := by rw [r1.1 2 (by omega) (by simp)]; exact hl.1
      show wb_putsTerm_3 _ _ _ _ _ _ _
      unfold wb_putsTerm_3
      simp (disch := omega) only [ι_lit, ι_of, ι_add, ι_mul, ι_lt, ι_le, ι_eq, ι_cl, ι_rem, ι_div, ι_vin, ι_ne1', ι_1ne', ι_1lt', ι_lt1', ι_1le', ι_le1', ι_sub', ι_sub, upN, upE, Nat.reduceEqDiff, ne_eq, not_true_eq_false, not_false_eq_true, false_imp_iff, true_imp_iff, true_and, and_true, imp_self, forall_eq, reduceIte, Nat.reduceMul, Nat.reduceAdd, Nat.reduceSub, e2]
      refine ⟨fun _ => h R1 r1 ?_, fun q => absurd (by omega) q⟩
      rw [show i = L.length by omega] at g1
      exact g1
    | succ k ih =>
      intro i R1 hi r1 g1
      have e2 : R1 2 54 = ι L.length := by rw [r1.1 2 (by omega) (by simp)]; exact hl.1
      have e3 : R1 3 (300 * 54 + i) = ι (k41 (tm L i)) := by rw [r1.1 3 (by omega) (by simp)]; exact (hl.2 i (by omega)).1
      have e4 : R1 4 (300 * 54 + i) = ι (tm L i).n := by rw [r1.1 4 (by omega) (by simp)]; exact (hl.2 i (by omega)).2
      have hp1 : R1 0 1 = ι p := by rw [r1.2 1 (by simp)]; exact hp
      have ht := hw.sm (i := i) (by omega)
      have hn2 := hw.2.1 i (by omega)
      have gl := gone_le (v := v) (t := u)
      -- the last piece
      have fin : ∀ x y : Int32, x = ι ((gone v u).x + (tm L i).x) → y = ι ((gone v u).y + (tm L i).y) → ∀ s0 : Int32, s0 = ι (gone v u).z → w_putsTerm_90 (wl_putsTerm_3 K (k + 1)) K (ι (k41 u)) (ι u.n) (ι v) (ι i) x y s0 (ι (tm L i).z) R1 := by
        intro x y hx hy s0 hs0
        subst hx hy hs0
        unfold w_putsTerm_90
        intro w hw2
        have ew : w = ι (c81 ((gone v u).x + (tm L i).x) ((gone v u).y + (tm L i).y) ((gone v u).z + (tm L i).z)) := by
          rw [hw2, show (81 : Int32) = ι 81 from rfl, ι_mul, ι_add, ι_mul, ι_add, ι_add]
          congr 1
          unfold c81
          omega
        clear hw2
        subst ew
        have hx8 : (gone v u).x + (tm L i).x ≤ 80 := by omega
        have hy8 : (gone v u).y + (tm L i).y ≤ 80 := by omega
        have hz8 : (gone v u).z + (tm L i).z ≤ 80 := by omega
        have hc := c81_lt hx8 hy8 hz8
        refine ⟨ι_in (by omega) (by omega), s_numAt (s := 54) rfl rfl (by omega) (by omega) ?_⟩
        rw [e4, ι_cl (by omega), g1.1 _ _ _ hx8 hy8 hz8, ι_mul, ι_add]
        have hmul : u.n * (tm L i).n ≤ 13 * 13 := Nat.mul_le_mul (by omega) (by omega)
        have hm := g1.2 ((gone v u).x + (tm L i).x) ((gone v u).y + (tm L i).y) ((gone v u).z + (tm L i).z)
        refine s_mod hp1 hpp rfl (by omega) ⟨ι_in (by omega) (by omega), ?_⟩
        rw [show (1 : Int32) = ι 1 from rfl, ι_add]
        refine ih (i + 1) _ (by omega) (r1.w (by simp) (by omega)) ⟨fun a b c ha hb hcc => ?_, fun a b c => Nat.mod_lt _ (by omega)⟩
        rw [upE]
        show _ = ι ((F a b c + qS (gone v u) L (i + 1) a b c) % p)
        by_cases e : a = (gone v u).x + (tm L i).x ∧ b = (gone v u).y + (tm L i).y ∧ c = (gone v u).z + (tm L i).z
        · obtain ⟨rfl, rfl, rfl⟩ := e
          rw [if_pos rfl]
          show ι (((F _ _ _ + qS (gone v u) L i _ _ _) % p + u.n * (tm L i).n) % p) = _
          rw [Nat.mod_add_mod]
          unfold qS
          rw [sumTo, if_pos ⟨rfl, rfl, rfl⟩, Nat.add_assoc]
          rfl
        · rw [if_neg (fun q => e (c81_inj ⟨hb, hcc⟩ ⟨hy8, hz8⟩ q)), g1.1 a b c ha hb hcc]
          unfold qS
          rw [sumTo, if_neg (fun w => e ⟨w.1.symm, w.2.1.symm, w.2.2.symm⟩), Nat.add_zero]
      show wb_putsTerm_3 _ _ _ _ _ _ _
      unfold wb_putsTerm_3
      simp (disch := omega) only [ι_lit, ι_of, ι_add, ι_mul, ι_lt, ι_le, ι_eq, ι_cl, ι_rem, ι_div, ι_vin, ι_ne1', ι_1ne', ι_1lt', ι_lt1', ι_1le', ι_le1', ι_sub', ι_sub, upN, upE, Nat.reduceEqDiff, ne_eq, not_true_eq_false, not_false_eq_true, false_imp_iff, true_imp_iff, true_and, and_true, imp_self, forall_eq, reduceIte, Nat.reduceMul, Nat.reduceAdd, Nat.reduceSub, e2]
      refine ⟨fun q => absurd q (by omega), fun _ => s_keyAt (s := 54) rfl rfl (by omega) (by omega) ?_⟩
      rw [e3]
      have g0 : (gone v u).x = if v = 0 then 0 else u.x := rfl
      have g1' : (gone v u).y = if v = 1 then 0 else u.y := rfl
      have g2' : (gone v u).z = if v = 2 then 0 else u.z := rfl
      have ex0 : exv u 0 = u.x := rfl
      have ex1 : exv u 1 = u.y := rfl
      have ex2 : exv u 2 = u.z := rfl
      have z : ∀ x y : Int32, x = ι ((gone v u).x + (tm L i).x) → ∀ s0 : Int32, s0 = ι (gone v u).y → w_putsTerm_67 (wl_putsTerm_3 K (k + 1)) K (ι (k41 u)) (ι u.n) (ι v) (ι i) (ι (k41 (tm L i))) x s0 (ι (tm L i).y) R1 := by
        intro x y hx s0 hs0
        subst hs0
        unfold w_putsTerm_67
        refine s_ex ht rfl (v := 2) rfl (by omega) ?_
        have hy : ι (tm L i).y + ι (gone v u).y = ι ((gone v u).y + (tm L i).y) := by rw [ι_add, Nat.add_comm]
        simp (disch := omega) only [ι_lit, ι_of, ι_add, ι_mul, ι_lt, ι_le, ι_eq, ι_cl, ι_rem, ι_div, ι_vin, ι_ne1', ι_1ne', ι_1lt', ι_lt1', ι_1le', ι_le1', ι_sub', ι_sub, upN, upE, Nat.reduceEqDiff, ne_eq, not_true_eq_false, not_false_eq_true, false_imp_iff, true_imp_iff, true_and, and_true, imp_self, forall_eq, reduceIte, Nat.reduceMul, Nat.reduceAdd, Nat.reduceSub]
        refine ⟨fun c => s_ex hu rfl (v := 2) rfl (by omega) (fin _ _ hx (by rw [Nat.add_comm]) _ (by rw [g2', if_neg c, ex2])), fun c => fin _ _ hx (by rw [Nat.add_comm]) _ (by rw [g2', if_pos c])⟩
      have y : ∀ s0 : Int32, s0 = ι (gone v u).x → w_putsTerm_44 (wl_putsTerm_3 K (k + 1)) K (ι (k41 u)) (ι u.n) (ι v) (ι i) (ι (k41 (tm L i))) s0 (ι (tm L i).x) R1 := by
        intro s0 hs0
        subst hs0
        unfold w_putsTerm_44
        refine s_ex ht rfl (v := 1) rfl (by omega) ?_
        simp (disch := omega) only [ι_lit, ι_of, ι_add, ι_mul, ι_lt, ι_le, ι_eq, ι_cl, ι_rem, ι_div, ι_vin, ι_ne1', ι_1ne', ι_1lt', ι_lt1', ι_1le', ι_le1', ι_sub', ι_sub, upN, upE, Nat.reduceEqDiff, ne_eq, not_true_eq_false, not_false_eq_true, false_imp_iff, true_imp_iff, true_and, and_true, imp_self, forall_eq, reduceIte, Nat.reduceMul, Nat.reduceAdd, Nat.reduceSub]
        refine ⟨fun c => s_ex hu rfl (v := 1) rfl (by omega) (z _ 0 (by rw [Nat.add_comm]) _ (by rw [g1', if_neg c, ex1])), fun c => z _ 0 (by rw [Nat.add_comm]) _ (by rw [g1', if_pos c])⟩
      refine s_ex ht rfl (v := 0) rfl (by omega) ?_
      refine ⟨fun c => s_ex hu rfl (v := 0) rfl (by omega) (y _ (by rw [g0, if_neg c, ex0])), fun c => y _ (by rw [g0, if_pos c])⟩
  unfold wp_putsTerm
  refine ⟨L.length + 1, key L.length 0 R (by omega) (Fr.rf _ _ _) ⟨fun x y z hx hy hz => ?_, fun x y z => Nat.mod_lt _ (by omega)⟩⟩
  show R 26 _ = ι ((F x y z + 0) % p)
  rw [Nat.add_zero, Nat.mod_eq_of_lt (hG.2 x y z)]
  exact hG.1 x y z hx hy hz
theorem c81_k41 {s t : Tm} (hs : sm s) (ht : sm t) (h : c81 s.x s.y s.z < c81 t.x t.y t.z) : k41 s < k41 t := by
  unfold c81 at h
  unfold k41
  omega
theorem s_gathersPuts {p : Nat} {F : Nat → Nat → Nat → Nat} {R : RS} {K : Int32 → RS → Prop} (hp : p ≤ 13) (hG : Gp R p F) (h80 : ∀ x y z, F x y z ≠ 0 → x ≤ 80 ∧ y ≤ 80 ∧ z ≤ 80) (h : ∀ R', Fr R R' [2, 3, 4] [] → Fs R R' [54] → (∀ L, Can p F L → Sl R' 54 L → K 1 R') ∧ ((¬ ∃ L, Can p F L) → K 0 R')) : wp_gathersPuts 54 R K := by
  have key : ∀ (k c : Nat) (C : Po) (R1 : RS), c + k = 531441 → Fr R R1 [2, 3, 4] [] → Fs R R1 [54] → C.length ≤ 300 → Col F (fun x y z => c81 x y z < c) C → (∀ a b, a < b → b < C.length → k41 (tm C a) < k41 (tm C b)) → (∀ x y z, F x y z ≠ 0 → c81 x y z < c → ∃ j, j < C.length ∧ isAt (tm C j) x y z) → Ro R1 54 (tm C) 0 C.length → wl_gathersPuts_4 K (k + 1) (ι 54) (ι C.length) (ι c) R1 := by
    intro k
    induction k with
    | zero =>
      intro c C R1 hc r1 f1 hl hC hs hall hro
      show wb_gathersPuts_4 _ _ _ _ _ _
      unfold wb_gathersPuts_4
      simp (disch := omega) only [ι_lit, ι_of, ι_add, ι_mul, ι_lt, ι_le, ι_eq, ι_cl, ι_rem, ι_div, ι_vin, ι_ne1', ι_1ne', ι_1lt', ι_lt1', ι_1le', ι_le1', ι_sub', ι_sub, upN, upE, Nat.reduceEqDiff, ne_eq, not_true_eq_false, not_false_eq_true, false_imp_iff, true_imp_iff, true_and, and_true, imp_self, forall_eq, reduceIte, Nat.reduceMul, Nat.reduceAdd, Nat.reduceSub]
      refine ⟨fun _ => ?_, fun q => absurd (by omega) q⟩
      refine (h _ (r1.w (by simp) (by omega)) (fun s hs2 => ?_)).1 C (can_of hC hl hG.2 (fun x y z q => hall x y z q ?_) rfl (fun t => Iff.rfl) hs) ⟨by rw [upE, if_pos rfl], fun i hi => by rw [upN (by omega), upN (by omega)]; exact hro i (by omega) hi⟩
      · have : s ≠ 54 := fun e => hs2 (by simp [e])
        rw [upE, if_neg this, upN (by omega), upN (by omega)]
        exact f1 s hs2
      · obtain ⟨q1, q2, q3⟩ := h80 x y z q
        have := c81_lt q1 q2 q3
        omega
    | succ k ih =>
      intro c C R1 hc r1 f1 hl hC hs hall hro
      have hx : c / 6561 ≤ 80 := by omega
      have hy : c / 81 % 81 ≤ 80 := by omega
      have hz : c % 81 ≤ 80 := by omega
      have ec : c81 (c / 6561) (c / 81 % 81) (c % 81) = c := by unfold c81; omega
      have ev : R1 26 c = ι (F (c / 6561) (c / 81 % 81) (c % 81)) := by
        rw [r1.1 26 (by omega) (by simp)]
        have := hG.1 _ _ _ hx hy hz
        rwa [ec] at this
      have hFl := hG.2 (c / 6561) (c / 81 % 81) (c % 81)
      have hmo : ∀ x y z, c81 x y z < c → c81 x y z < c + 1 := fun x y z q => by omega
      have huniq : ∀ x y z, F x y z ≠ 0 → c81 x y z < c + 1 → c81 x y z < c ∨ (x = c / 6561 ∧ y = c / 81 % 81 ∧ z = c % 81) := fun x y z hF hlt => by
        obtain ⟨q1, q2, q3⟩ := h80 x y z hF
        by_cases e : c81 x y z = c
        · rw [← ec] at e
          exact Or.inr (c81_inj ⟨q2, q3⟩ ⟨hy, hz⟩ e)
        · exact Or.inl (by omega)
      show wb_gathersPuts_4 _ _ _ _ _ _
      unfold wb_gathersPuts_4
      simp (disch := omega) only [ι_lit, ι_of, ι_add, ι_mul, ι_lt, ι_le, ι_eq, ι_cl, ι_rem, ι_div, ι_vin, ι_ne1', ι_1ne', ι_1lt', ι_lt1', ι_1le', ι_le1', ι_sub', ι_sub, upN, upE, Nat.reduceEqDiff, ne_eq, not_true_eq_false, not_false_eq_true, false_imp_iff, true_imp_iff, true_and, and_true, imp_self, forall_eq, reduceIte, Nat.reduceMul, Nat.reduceAdd, Nat.reduceSub, ev]
      refine ⟨fun q => absurd q (by omega), fun _ => ⟨fun hF => ?_, fun hF => ?_⟩⟩
      · -- a number
        generalize eX : c / 6561 = X at *
        generalize eY : c / 81 % 81 = Y at *
        generalize eZ : c % 81 = Z at *
        have far : (40 < X ∨ 40 < Y ∨ 40 < Z) → K 0 R1 := fun q => (h R1 r1 f1).2 (no_can_far hF q)
        have hsm : ¬ (40 < X ∨ 40 < Y ∨ 40 < Z) → sm (X, Y, Z, F X Y Z) := fun q => ⟨by show X ≤ 40; omega, by show Y ≤ 40; omega, by show Z ≤ 40; omega⟩
        have hnew : ¬ (40 < X ∨ 40 < Y ∨ 40 < Z) → ∀ j, j < C.length → k41 (tm C j) < k41 (X, Y, Z, F X Y Z) := fun q j hj => by
          have := hC.1 j hj
          refine c81_k41 this.1 (hsm q) ?_
          have h3 := this.2.2.2
          show _ < c81 X Y Z
          omega
        refine ⟨fun q => ?_, fun q => ⟨fun q2 => far (by omega), fun q2 => ⟨fun q3 => far (by omega), fun q3 => ⟨fun q4 => ?_, fun q4 => far (by omega)⟩⟩⟩⟩
        · -- too many
          by_cases c2 : 40 < X ∨ 40 < Y ∨ 40 < Z
          · exact far c2
          · refine (h R1 r1 f1).2 (no_can_many (C := C ++ [(X, Y, Z, F X Y Z)]) (col_app (col_mo hC (V' := fun _ _ _ => True) (fun _ _ _ _ => trivial)) (hsm c2) rfl hF trivial (fun j hj => Nat.ne_of_lt (hnew c2 j hj))) ?_)
            rw [List.length_append, List.length_singleton]
            omega
        · have c2 : ¬ (40 < X ∨ 40 < Y ∨ 40 < Z) := by omega
          refine s_keyOf (t := (X, Y, Z, F X Y Z)) rfl rfl rfl ?_
          simp (disch := omega) only [ι_lit, ι_of, ι_add, ι_mul, ι_lt, ι_le, ι_eq, ι_cl, ι_rem, ι_div, ι_vin, ι_ne1', ι_1ne', ι_1lt', ι_lt1', ι_1le', ι_le1', ι_sub', ι_sub, upN, upE, Nat.reduceEqDiff, ne_eq, not_true_eq_false, not_false_eq_true, false_imp_iff, true_imp_iff, true_and, and_true, imp_self, forall_eq, reduceIte, Nat.reduceMul, Nat.reduceAdd, Nat.reduceSub, ev]
          have := ih (c + 1) (C ++ [(X, Y, Z, F X Y Z)]) (up (up R1 3 (16200 + C.length) (ι (k41 (X, Y, Z, F X Y Z)))) 4 (16200 + C.length) (ι (F X Y Z))) (by omega) ((r1.w (by simp) (by omega)).w (by simp) (by omega)) (fun s hs2 => ?_) ?_ (col_app (col_mo hC hmo) (hsm c2) rfl hF (by show c81 X Y Z < c + 1; omega) (fun j hj => Nat.ne_of_lt (hnew c2 j hj))) (fun a b hab hb => ?_) (fun x y z hF2 hlt => ?_) (fun j _ hj => ?_)
          · rw [List.length_append, List.length_singleton] at this
            exact this
          · have : s ≠ 54 := fun e => hs2 (by simp [e])
            refine ⟨by rw [upN (by omega), upN (by omega)]; exact (f1 s hs2).1, fun i hi => ?_⟩
            rw [upN (by omega), upE, if_neg (by omega), upE, if_neg (by omega), upN (by omega)]
            exact (f1 s hs2).2 i hi
          · rw [List.length_append, List.length_singleton]
            omega
          · rw [List.length_append, List.length_singleton] at hb
            rw [tm_app_l (i := a) (by omega)]
            by_cases e : b < C.length
            · rw [tm_app_l e]; exact hs a b hab e
            · rw [show b = C.length by omega, tm_app_r]; exact hnew c2 a (by omega)
          · rcases huniq x y z hF2 hlt with q5 | ⟨rfl, rfl, rfl⟩
            · obtain ⟨j, hj, w⟩ := hall x y z hF2 q5
              exact ⟨j, by rw [List.length_append]; omega, by rw [tm_app_l hj]; exact w⟩
            · exact ⟨C.length, by rw [List.length_append, List.length_singleton]; omega, by rw [tm_app_r]; exact ⟨rfl, rfl, rfl⟩⟩
          · rw [List.length_append, List.length_singleton] at hj
            rw [upN (by omega), upE, upE, upN (by omega)]
            by_cases e : j < C.length
            · rw [tm_app_l e, if_neg (by omega), if_neg (by omega)]; exact hro j (by omega) e
            · rw [show j = C.length by omega, tm_app_r, if_pos rfl, if_pos rfl]; exact ⟨rfl, rfl⟩
      · refine ih (c + 1) C R1 (by omega) r1 f1 hl (col_mo hC hmo) hs (fun x y z hF2 hlt => ?_) hro
        rcases huniq x y z hF2 hlt with q5 | ⟨rfl, rfl, rfl⟩
        · exact hall x y z hF2 q5
        · exact absurd hF hF2
  unfold wp_gathersPuts
  exact ⟨531442, key 531441 0 [] R (by omega) (Fr.rf _ _ _) (Fs.rf _ _) (by simp) ⟨fun j hj => by simp at hj, fun i j _ hj => by simp at hj⟩ (fun a b _ hb => by simp at hb) (fun x y z _ q => by omega) (fun i _ hi => by simp at hi)⟩
/-! put of the reference. -/
theorem pE_all {p v e i x y z : Nat} {A B : Po} : pE p A v B (i + 1) e x y z = pE p A v B i e x y z + (if exv (tm A i) v = e then qS (gone v (tm A i)) (PW p B e) (PW p B e).length x y z else 0) := rfl
theorem ptF_80 {p v N x y z : Nat} {A B : Po} (hw : wf p A) (hp : 1 < p) (h : pT p A v B N x y z ≠ 0) : x ≤ 80 ∧ y ≤ 80 ∧ z ≤ 80 := by
  obtain ⟨e, he, h1⟩ := pT_ne h
  obtain ⟨j, k, hj, hk, -, w1, w2, w3⟩ := pE_ne h1
  have s1 := hw.sm hj
  have gl := gone_le (v := v) (t := tm A j)
  have s2 : sm (tm (PW p B e) k) := by
    cases q : pw p B e with
    | none => unfold PW at hk; rw [q] at hk; exact absurd hk (Nat.not_lt_zero _)
    | some M => rw [PW_some q] at hk ⊢; exact (pw_wf hp q).sm hk
  omega
theorem s_put41 {p q i v j : Nat} {A B : Po} {R : RS} {K : Int32 → RS → Prop} (hpp : PrP p) (hi : i < 6) (hj : j < 6) (hv : v < 3) (wa : wf p A) (wb : wf p B) (la : Sl R i A) (lb : Sl R j B) (hG : G0 R p) (h : ∀ R', Fr R R' [2, 3, 4, 5, 6, 26] [7] → Fs R R' [54, 55] → G0 R' p → (∀ L, ptO p A v B = some L → Sl R' 54 L → wp_become (ι q) 54 R' (fun r2 R2 => K r2 R2)) ∧ (ptO p A v B = none → K (-2) R')) : ∃ nn, wl_put_41 K nn (ι q) (ι i) (ι v) (ι j) 0 R := by
  have hple := hpp.le
  have hla := wa.1
  have mle := mA_le (v := v) wa
  -- the terms with exponent e
  have key3 : ∀ (e : Nat) (L : Po), pw p B e = some L → e ≤ 40 → ∀ (K83 : Int32 → Int32 → Int32 → Int32 → Int32 → Int32 → RS → Prop) (x5 : Int32), (∀ R2, Fr R R2 [2, 3, 4, 5, 6, 26] [7] → Fs R R2 [54, 55] → G0 R2 p → Sl R2 54 L → Gp R2 p (fun x y z => pT p A v B (e + 1) x y z % p) → K83 (ι q) (ι i) (ι v) (ι j) x5 (ι (e + 1)) R2) → ∀ (k t : Nat) (R1 : RS), t + k = A.length → Fr R R1 [2, 3, 4, 5, 6, 26] [7] → Fs R R1 [54, 55] → G0 R1 p → Sl R1 54 L → Gp R1 p (fun x y z => (pT p A v B e x y z + pE p A v B t e x y z) % p) → wl_put_140 K83 K (k + 1) (ι q) (ι i) (ι v) (ι j) x5 (ι e) (ι t) R1 := by
    intro e L hL he K83 x5 hK k
    have wL := pw_wf (by omega) hL
    induction k with
    | zero =>
      intro t R1 ht r1 f1 g1 l1 gp1
      have la1 := la.go hla f1 (by simp; omega)
      show wb_put_140 _ _ _ _ _ _ _ _ _ _ _
      unfold wb_put_140
      simp (disch := omega) only [ι_lit, ι_of, ι_add, ι_mul, ι_lt, ι_le, ι_eq, ι_cl, ι_rem, ι_div, ι_vin, ι_ne1', ι_1ne', ι_1lt', ι_lt1', ι_1le', ι_le1', ι_sub', ι_sub, upN, upE, Nat.reduceEqDiff, ne_eq, not_true_eq_false, not_false_eq_true, false_imp_iff, true_imp_iff, true_and, and_true, imp_self, forall_eq, reduceIte, Nat.reduceMul, Nat.reduceAdd, Nat.reduceSub, la1.1]
      refine ⟨fun _ => hK R1 r1 f1 g1 l1 ?_, fun c => absurd (by omega) c⟩
      rw [show t = A.length by omega] at gp1
      exact gp1
    | succ k ih =>
      intro t R1 ht r1 f1 g1 l1 gp1
      have la1 := la.go hla f1 (by simp; omega)
      have hs := wa.sm (i := t) (by omega)
      have hn := wa.2.1 t (by omega)
      have e3 := (la1.2 t (by omega)).1
      have e4 := (la1.2 t (by omega)).2
      have hel := exv_le hs v
      show wb_put_140 _ _ _ _ _ _ _ _ _ _ _
      unfold wb_put_140
      simp (disch := omega) only [ι_lit, ι_of, ι_add, ι_mul, ι_lt, ι_le, ι_eq, ι_cl, ι_rem, ι_div, ι_vin, ι_ne1', ι_1ne', ι_1lt', ι_lt1', ι_1le', ι_le1', ι_sub', ι_sub, upN, upE, Nat.reduceEqDiff, ne_eq, not_true_eq_false, not_false_eq_true, false_imp_iff, true_imp_iff, true_and, and_true, imp_self, forall_eq, reduceIte, Nat.reduceMul, Nat.reduceAdd, Nat.reduceSub, la1.1]
      refine ⟨fun c => absurd c (by omega), fun _ => s_keyAt rfl rfl (by omega) (by omega) (s_ex hs e3 rfl hv ?_)⟩
      simp (disch := omega) only [ι_lit, ι_of, ι_add, ι_mul, ι_lt, ι_le, ι_eq, ι_cl, ι_rem, ι_div, ι_vin, ι_ne1', ι_1ne', ι_1lt', ι_lt1', ι_1le', ι_le1', ι_sub', ι_sub, upN, upE, Nat.reduceEqDiff, ne_eq, not_true_eq_false, not_false_eq_true, false_imp_iff, true_imp_iff, true_and, and_true, imp_self, forall_eq, reduceIte, Nat.reduceMul, Nat.reduceAdd, Nat.reduceSub]
      refine ⟨fun c => ?_, fun c => ?_⟩
      · refine ih (t + 1) R1 (by omega) r1 f1 g1 l1 ?_
        have : (fun x y z => (pT p A v B e x y z + pE p A v B (t + 1) e x y z) % p) = (fun x y z => (pT p A v B e x y z + pE p A v B t e x y z) % p) := by
          funext x y z
          rw [pE_all, if_neg c, Nat.add_zero]
        rw [this]; exact gp1
      · refine s_keyAt rfl rfl (by omega) (by omega) (s_numAt rfl rfl (by omega) (by omega) ?_)
        refine s_putsTerm (u := tm A t) hpp g1.1 hs hn.2.2.2.2 hv e3 e4 rfl wL l1 gp1 (fun R2 r2 gp2 => ?_)
        refine ih (t + 1) R2 (by omega) (r1.tr (r2.mo (by decide) (by decide))) (f1.tr (r2.fs [54, 55] (by simp))) (g1.fr r2 (by simp) (by simp) (by simp) (by simp)) (l1.go wL.1 (r2.fs [] (by simp)) (by simp)) ?_
        have : (fun x y z => (pT p A v B e x y z + pE p A v B (t + 1) e x y z) % p) = (fun x y z => ((pT p A v B e x y z + pE p A v B t e x y z) % p + qS (gone v (tm A t)) L L.length x y z) % p) := by
          funext x y z
          rw [pE_all, if_pos c, Nat.mod_add_mod, PW_some hL, Nat.add_assoc]
        rw [this]; exact gp2
  -- the powers
  have key2 : ∀ (k e : Nat) (L : Po) (R1 : RS), e + k = mA A v → (0 < e → pw p B (e - 1) = some L) → (e = 0 → L = cst 1) → Fr R R1 [2, 3, 4, 5, 6, 26] [7] → Fs R R1 [54, 55] → G0 R1 p → Sl R1 54 L → Gp R1 p (fun x y z => pT p A v B e x y z % p) → wl_put_83 K (k + 1) (ι q) (ι i) (ι v) (ι j) (ιm (mA A v)) (ι e) R1 := by
    intro k
    induction k with
    | zero =>
      intro e L R1 he hL hL0 r1 f1 g1 l1 gp1
      show wb_put_83 _ _ _ _ _ _ _ _ _
      unfold wb_put_83
      refine ⟨fun _ => ?_, fun c => absurd ((ιm_lt (by omega) (by omega)).mpr (by omega)) c⟩
      have hO : ptO p A v B = cn p (ptF p A v B) := by
        unfold ptO
        by_cases c : mA A v = 0
        · rw [c]; rfl
        · rw [show mA A v - 1 = e - 1 by omega, hL (by omega)]; rfl
      have he' : e = mA A v := by omega
      subst he'
      refine s_gathersPuts (F := ptF p A v B) (by omega) gp1 (fun x y z hF => ptF_80 wa (by omega) (fun c => hF (by unfold ptF; rw [c, Nat.zero_mod]))) (fun R2 r2 f2 => ?_)
      have hh := h R2 (r1.tr (r2.mo (by decide) (by decide))) (f1.tr (f2.mo (by simp))) (g1.fr r2 (by simp) (by simp) (by simp) (by simp))
      refine ⟨fun L2 c2 l2 => ⟨fun c => absurd c (by decide), fun _ => hh.1 L2 (by rw [hO]; exact cn_some c2) l2⟩, fun c2 => ⟨fun _ => hh.2 (by rw [hO]; exact cn_none c2), fun c => absurd rfl c⟩⟩
    | succ k ih =>
      intro e L R1 he hL hL0 r1 f1 g1 l1 gp1
      have la1 := la.go hla f1 (by simp; omega)
      have lb1 := lb.go wb.1 f1 (by simp; omega)
      -- one round with the power at hand
      have round : ∀ (L2 : Po) (R2 : RS), pw p B e = some L2 → Fr R R2 [2, 3, 4, 5, 6, 26] [7] → Fs R R2 [54, 55] → G0 R2 p → Sl R2 54 L2 → Gp R2 p (fun x y z => pT p A v B e x y z % p) → ∃ nn, wl_put_140 (wl_put_83 K (k + 1)) K nn (ι q) (ι i) (ι v) (ι j) (ιm (mA A v)) (ι e) 0 R2 := by
        intro L2 R2 h2 r2 f2 g2 l2 gp2
        refine ⟨A.length + 1, key3 e L2 h2 (by omega) _ _ (fun R3 r3 f3 g3 l3 gp3 => ih (e + 1) L2 R3 (by omega) (fun _ => h2) (fun c => by omega) r3 f3 g3 l3 gp3) A.length 0 R2 (by omega) r2 f2 g2 l2 ?_⟩
        exact gp2
      show wb_put_83 _ _ _ _ _ _ _ _ _
      unfold wb_put_83
      refine ⟨fun c => absurd ((ιm_lt (by omega) (by omega)).mp c) (by omega), fun _ => ⟨fun c1 => ⟨fun c2 => ?_, fun c2 => ?_⟩, fun c1 => ?_⟩⟩
      · rw [show (1 : Int32) = ι 1 from rfl, ι_le (by omega) (by omega)] at c2
        rw [show (1 : Int32) = ι 1 from rfl, ι_eq (by omega) (by omega)] at c1
        have e0 : e = 0 := by omega
        subst e0
        exact round L R1 (by rw [hL0 rfl]; rfl) r1 f1 g1 l1 gp1
      · rw [show (1 : Int32) = ι 1 from rfl, ι_le (by omega) (by omega)] at c2
        have hL' := hL (by omega)
        have wL := pw_wf (by omega) hL'
        refine s_copy (a := 55) (b := 54) rfl rfl (by omega) (by omega) (by omega) wL.1 l1 (fun R2 r2 f2 l2 => ?_)
        refine s_product (d := 54) (a := 55) (b := j) rfl rfl rfl (by omega) (by omega) (by omega) hpp wL wb l2 (lb1.go wb.1 f2 (by simp; omega)) (g1.fr r2 (by simp) (by simp) (by simp) (by simp)) (fun R3 r3 f3 g3 => ?_)
        have r13 : Fr R R3 [2, 3, 4, 5, 6, 26] [7] := (r1.tr (r2.mo (by decide) (by decide))).tr (r3.mo (by decide) (by decide))
        have f13 : Fs R R3 [54, 55] := (f1.tr (f2.mo (by simp))).tr (f3.mo (by simp))
        have hpw : pw p B e = cn p (prF p L B) := by
          have : pw p B (e - 1 + 1) = cn p (prF p L B) := by rw [pw, hL']; rfl
          rwa [show e - 1 + 1 = e by omega] at this
        refine ⟨fun M c l => ⟨fun _ => round M R3 (by rw [hpw]; exact cn_some c) r13 f13 g3 l ⟨fun x y z hx hy hz => ?_, gp1.2⟩, fun c => absurd c (by decide)⟩, fun c => ⟨fun c => absurd rfl c, fun _ => (h R3 r13 f13 g3).2 ?_⟩⟩
        · rw [r3.1 26 (by omega) (by simp), r2.1 26 (by omega) (by simp)]; exact gp1.1 x y z hx hy hz
        · unfold ptO
          rw [pw_none (k := e) (by rw [hpw]; exact cn_none c) (mA A v - 1) (by omega)]
          rfl
      · rw [show (1 : Int32) = ι 1 from rfl, ι_eq (by omega) (by omega)] at c1
        refine s_copy (a := 54) (b := j) rfl rfl (by omega) (by omega) (by omega) wb.1 lb1 (fun R2 r2 f2 l2 => ?_)
        subst c1
        exact round B R2 (pw_1 wb (by omega)) (r1.tr (r2.mo (by decide) (by decide))) (f1.tr (f2.mo (by simp))) (g1.fr r2 (by simp) (by simp) (by simp) (by simp)) l2 ⟨fun x y z hx hy hz => by rw [r2.1 26 (by omega) (by simp)]; exact gp1.1 x y z hx hy hz, gp1.2⟩
  have key1 : ∀ (k c : Nat) (R1 : RS), c + k = 531441 → Fr R R1 [26] [] → (∀ b, b < c → R1 26 b = ι 0) → wl_put_41 K (k + 1) (ι q) (ι i) (ι v) (ι j) (ι c) R1 := by
    intro k
    induction k with
    | zero =>
      intro c R1 hc r1 z1
      show wb_put_41 _ _ _ _ _ _ _ _
      unfold wb_put_41
      refine ⟨fun _ => ?_, fun q => absurd (by rw [show (531441 : Int32) = ι 531441 from rfl, ι_le (by omega) (by omega)]; omega) q⟩
      have gz := hG.fr r1 (by simp) (by simp) (by simp) (by simp)
      refine s_number (d := 54) (a := 1) rfl rfl (by omega) (by omega) hpp gz (fun R2 r2 f2 g2 l2 => ?_)
      have r12 : Fr R R2 [2, 3, 4, 5, 6, 26] [7] := (r1.mo (by decide) (by decide)).tr (r2.mo (by decide) (by decide))
      have f12 : Fs R R2 [54, 55] := (r1.fs [54, 55] (by simp)).tr (f2.mo (by simp))
      refine s_degreeIn rfl rfl hv (by omega) wa (la.go hla f12 (by simp; omega)) ⟨mA A v + 1, ?_⟩
      rw [Nat.mod_eq_of_lt (by omega)] at l2
      refine key2 (mA A v) 0 (cst 1) R2 (by omega) (fun c => by omega) (fun _ => rfl) r12 f12 g2 l2 ⟨fun x y z hx hy hz => ?_, fun x y z => Nat.mod_lt _ (by omega)⟩
      rw [r2.1 26 (by omega) (by simp), z1 _ (by have := c81_lt hx hy hz; omega)]
      show ι 0 = ι (0 % p)
      rw [Nat.zero_mod]
    | succ k ih =>
      intro c R1 hc r1 z1
      show wb_put_41 _ _ _ _ _ _ _ _
      unfold wb_put_41
      refine ⟨fun q => absurd q (by rw [show (531441 : Int32) = ι 531441 from rfl, ι_le (by omega) (by omega)]; omega), fun _ => ⟨ι_in (by omega) (by omega), ?_⟩⟩
      rw [ι_cl (by omega), show (1 : Int32) = ι 1 from rfl, ι_add]
      refine ih (c + 1) _ (by omega) (r1.w (by simp) (by omega)) (fun b hb => ?_)
      rw [upE]
      by_cases e : b = c
      · rw [if_pos e]; rfl
      · rw [if_neg e]; exact z1 b (by omega)
  exact ⟨531442, key1 531441 0 R (by omega) (Fr.rf _ _ _) (fun b hb => by omega)⟩
/-! Powers' exponents; putting of the class. -/
theorem cf_mem {L : Po} {x y z v : Nat} (h : cf L x y z ≠ 0) : (if v = 0 then x else if v = 1 then y else z) + 1 ≤ mA L v := by
  obtain ⟨i, hi, w⟩ := cf_ne h
  have := mA_tm (L := L) (v := v) hi
  unfold exv at this
  rw [w.1, w.2.1, w.2.2] at this
  exact this
theorem mA_cf {p v m : Nat} {L : Po} (hw : wf p L) (h : ∀ x y z, cf L x y z ≠ 0 → (if v = 0 then x else if v = 1 then y else z) + 1 ≤ m) : mA L v ≤ m := by
  by_cases e : L.length = 0
  · unfold mA
    rw [e]; exact Nat.zero_le _
  · obtain ⟨i, hi, h1⟩ := mx_ex (L := L) (g := fun t => exv t v) (n := L.length) (by omega)
    have h2 := h (tm L i).x (tm L i).y (tm L i).z (by rw [cf_at hw hi]; have := (hw.2.1 i hi).2.2.2.1; omega)
    show mx L (fun t => exv t v) L.length ≤ m
    rw [h1]
    exact h2
theorem pw_hi {p v : Nat} {B : Po} (hp : 1 < p) (wb : wf p B) : ∀ {e : Nat} {L : Po}, pw p B e = some L → mA L v ≤ e * (mA B v - 1) + 1 := by
  intro e
  induction e with
  | zero =>
    intro L h
    cases h
    refine mA_cf (cst_wf hp) (fun x y z h => ?_)
    rw [cst_cf] at h
    by_cases c : x = 0 ∧ y = 0 ∧ z = 0
    · obtain ⟨rfl, rfl, rfl⟩ := c
      rw [ite_self, ite_self]; omega
    · rw [if_neg c] at h; exact absurd rfl h
  | succ e ih =>
    intro L h
    obtain ⟨M, hM⟩ := pw_some_le h (show e ≤ e + 1 by omega)
    have h1 := ih hM
    rw [pw, hM] at h
    have hc := cn_can h
    refine mA_cf hc.1 (fun x y z hx => ?_)
    rw [hc.2] at hx
    obtain ⟨i, j, hi, hj, w1, w2, w3⟩ := prS_ne (A := M) (B := B) (fun c => hx (by unfold prF; rw [c, Nat.zero_mod]))
    have a1 := mA_tm (L := M) (v := v) hi
    have a2 := mA_tm (L := B) (v := v) hj
    have a3 := exv_add (v := v) w1 w2 w3
    rw [Nat.succ_mul]
    omega
theorem pw_lo {p v : Nat} {B : Po} (hpp : PrP p) (wb : wf p B) (hb : 0 < B.length) : ∀ {e : Nat} {L : Po}, pw p B e = some L → 0 < L.length ∧ e * (mA B v - 1) + 1 ≤ mA L v := by
  have hp := hpp.le
  intro e
  induction e with
  | zero =>
    intro L h
    cases h
    have : cst 1 = [(0, 0, 0, 1)] := rfl
    rw [this]
    refine ⟨by simp, ?_⟩
    have := mA_tm (L := [(0, 0, 0, 1)]) (v := v) (i := 0) (by simp)
    omega
  | succ e ih =>
    intro L h
    obtain ⟨M, hM⟩ := pw_some_le h (show e ≤ e + 1 by omega)
    obtain ⟨h0, h1⟩ := ih hM
    have wM := pw_wf (by omega) hM
    rw [pw, hM] at h
    have hc := cn_can h
    obtain ⟨x, y, z, hn, he⟩ := pr_top (v := v) hpp wM wb h0 hb
    rw [← hc.2] at hn
    have h2 := cf_mem (v := v) hn
    have he : (if v = 0 then x else if v = 1 then y else z) + 2 = mA M v + mA B v := he
    have hB := mA_tm (L := B) (v := v) hb
    obtain ⟨i, hi, -⟩ := cf_ne hn
    refine ⟨by omega, ?_⟩
    rw [Nat.succ_mul]
    omega
/-- a power that reaches too far isn't there -/
theorem pw_too {p v e : Nat} {B : Po} (hpp : PrP p) (wb : wf p B) (h : 40 < e * (mA B v - 1)) : pw p B e = none := by
  have hp := hpp.le
  cases q : pw p B e with
  | none => rfl
  | some L =>
    exfalso
    have hb : 0 < B.length := by
      apply Nat.pos_of_ne_zero
      intro c
      have : mA B v = 0 := by unfold mA; rw [c]; rfl
      rw [this, Nat.mul_zero] at h
      omega
    have h1 := (pw_lo (v := v) hpp wb hb q).2
    have h2 := mA_le (v := v) (pw_wf (by omega) q)
    omega
def mz (f : Nat → Nat) : Nat → Nat
  | 0 => 0
  | n + 1 => if mz f n < f n then f n else mz f n
theorem mz_ge {f : Nat → Nat} : ∀ {n i : Nat}, i < n → f i ≤ mz f n := by
  intro n
  induction n with
  | zero => intro i hi; omega
  | succ n ih =>
    intro i hi
    unfold mz
    by_cases e : i = n
    · subst e; split <;> omega
    · have := ih (i := i) (by omega)
      split <;> omega
theorem mz_le {f : Nat → Nat} {B : Nat} : ∀ {n : Nat}, (∀ i, i < n → f i ≤ B) → mz f n ≤ B := by
  intro n
  induction n with
  | zero => intro _; exact Nat.zero_le _
  | succ n ih =>
    intro h
    have h1 := ih (fun i hi => h i (by omega))
    have h2 := h n (by omega)
    unfold mz
    split <;> omega
/-- how far variable w goes in what is put -/
def pf1 (A B : Po) (v w i : Nat) : Nat := (if w = v then 0 else exv (rt A i) w) + (mA B w - 1) * exv (rt A i) v
theorem c_putRoom {M : Nat × Nat} {a b p v w : Nat} {x1 x3 : Int32} {A B : Po} {S : HS} {K : Int32 → HS → Prop} (wa : wf p A) (wb : wf p B) (ra : Rd S a A) (rb : Rd S b B) (h1 : x1 = ι v) (h3 : x3 = ι w) (hv : v < 3) (hw : w < 3) (hm : (mA A v - 1) * (mA B w - 1) ≤ 40) (h : K (ι (mz (pf1 A B v w) A.length)) S) : wp_X9_putRoom M a x1 b x3 S K := by
  subst h1 h3
  have hla := wa.1
  obtain ⟨-, p2, p3, p4, p5, p6, p7, p8, p7', p8', p9, p11⟩ := ra
  have hf : ∀ i, i < A.length → pf1 A B v w i ≤ 80 := fun i hi => by
    have u1 := mA_rt (v := v) hi
    have u2 := exv_le (rt_sm wa hi) w
    have u3 : (mA B w - 1) * exv (rt A i) v ≤ (mA A v - 1) * (mA B w - 1) := by rw [Nat.mul_comm]; exact Nat.mul_le_mul_right _ (by omega)
    unfold pf1
    split <;> omega
  have key : ∀ (k i : Nat), i + k = A.length → wl_X9_putRoom_13 M K (k + 1) a (ι v) (ι w) (ι (mA B w - 1)) (ι (mz (pf1 A B v w) i)) (ι i) S := by
    intro k
    induction k with
    | zero =>
      intro i hi
      show wb_X9_putRoom_13 _ _ _ _ _ _ _ _ _ _
      unfold wb_X9_putRoom_13
      rw [p9]
      simp (disch := omega) only [ι_lit, ι_of, ι_add, ι_mul, ι_lt, ι_le, ι_eq, ι_cl, ι_rem, ι_div, ι_vin, ι_ne1', ι_1ne', ι_1lt', ι_lt1', ι_1le', ι_le1', ι_sub', ι_sub, upN, upE, Nat.reduceEqDiff, ne_eq, not_true_eq_false, not_false_eq_true, false_imp_iff, true_imp_iff, true_and, and_true, imp_self, forall_eq, reduceIte, Nat.reduceMul, Nat.reduceAdd, Nat.reduceSub]
      refine ⟨p2, fun _ => ?_, fun q => absurd (by omega) q⟩
      rw [show i = A.length by omega]; exact h
    | succ k ih =>
      intro i hi
      have hs := rt_sm wa (i := i) (by omega)
      have hz : mz (pf1 A B v w) i ≤ 80 := mz_le (fun j hj => hf j (by omega))
      have hfi := hf i (by omega)
      have fin : ∀ s0 : Int32, s0 = ι (if w = v then 0 else exv (rt A i) w) → w_X9_putRoom_42 M (wl_X9_putRoom_13 M K (k + 1)) K a (ι v) (ι w) (ι (mA B w - 1)) (ι (mz (pf1 A B v w) i)) (ι i) s0 S := by
        intro s0 hs0
        subst hs0
        unfold w_X9_putRoom_42
        rw [ι_cl (by omega)]
        refine ⟨p2, a + 1, p3, p5, ι_in (by omega) (by omega), c_exp hs (p11 i (by omega)).1 rfl hv (fun v3 e3 => ?_)⟩
        have : v3 = ι (mz (pf1 A B v w) (i + 1)) := by
          rw [e3, ι_mul, ι_add]
          show (if ι (mz (pf1 A B v w) i) < ι (pf1 A B v w i) then ι (pf1 A B v w i) else ι (mz (pf1 A B v w) i)) = ι (if mz (pf1 A B v w) i < pf1 A B v w i then pf1 A B v w i else mz (pf1 A B v w) i)
          by_cases c : mz (pf1 A B v w) i < pf1 A B v w i
          · rw [if_pos c, if_pos ((ι_lt (by omega) (by omega)).mpr c)]
          · rw [if_neg c, if_neg (fun q => c ((ι_lt (by omega) (by omega)).mp q))]
        rw [this, show (1 : Int32) = ι 1 from rfl, ι_add]
        exact ih (i + 1) (by omega)
      show wb_X9_putRoom_13 _ _ _ _ _ _ _ _ _ _
      unfold wb_X9_putRoom_13
      rw [p9, ι_cl (by omega)]
      refine ⟨p2, fun q => absurd q (by rw [ι_le (by omega) (by omega)]; omega), fun _ => ⟨fun c => ⟨p2, a + 1, p3, p5, ι_in (by omega) (by omega), c_exp hs (p11 i (by omega)).1 rfl hw (fin _ ?_)⟩, fun c => fin _ ?_⟩⟩
      · rw [if_neg (fun e => c (by rw [e]))]
      · rw [ι_eq (by omega) (by omega)] at c
        rw [if_pos c]; rfl
  unfold wp_X9_putRoom
  exact ⟨rb.2.1, c_roomIn wb rb rfl hw ⟨A.length + 1, key A.length 0 (by omega)⟩⟩
def pER (A : Po) (v : Nat) (L : Po) (i e x y z : Nat) : Nat := sumTo i (fun j => if exv (rt A j) v = e then qS (gone v (rt A j)) L L.length x y z else 0)
theorem pER_pE {p v e x y z : Nat} {A B L : Po} (h : pw p B e = some L) : pER A v L A.length e x y z = pE p A v B A.length e x y z := by
  unfold pE pER
  rw [PW_some h]
  exact sumTo_rev A.length (fun j => if exv (tm A j) v = e then qS (gone v (tm A j)) L L.length x y z else 0)
theorem k6_gone {v : Nat} (hv : v < 3) (t : Tm) : exv t v * un v ≤ k6 t ∧ k6 t - exv t v * un v = k6 (gone v t) := by
  have hv3 : v = 0 ∨ v = 1 ∨ v = 2 := by omega
  rcases hv3 with rfl | rfl | rfl
  · show t.x * 4096 ≤ t.x * 4096 + t.y * 64 + t.z ∧ t.x * 4096 + t.y * 64 + t.z - t.x * 4096 = 0 * 4096 + t.y * 64 + t.z; omega
  · show t.y * 64 ≤ t.x * 4096 + t.y * 64 + t.z ∧ t.x * 4096 + t.y * 64 + t.z - t.y * 64 = t.x * 4096 + 0 * 64 + t.z; omega
  · show t.z * 1 ≤ t.x * 4096 + t.y * 64 + t.z ∧ t.x * 4096 + t.y * 64 + t.z - t.z * 1 = t.x * 4096 + t.y * 64 + 0; omega
def Wap (h0 : Nat) (S : HS) (b _k : Nat) : Prop := b = h0 + 18 ∨ b = bxC h0 S 15
theorem Wap.z {h0 : Nat} {S : HS} : ∀ b k, Wap h0 S b k → Wz h0 S b k := fun b k h => by
  rcases h with h | h
  · exact Or.inl (by omega)
  · exact Or.inr (Or.inr (Or.inr (Or.inr (Or.inl h))))
theorem c_addPut {M : Nat × Nat} {h0 a p v e X Y Z : Nat} {x2 x3 : Int32} {A D : Po} {G : Nat → Nat → Nat → Nat} {S : HS} {K : Int32 → HS → Prop} (bs : Bs h0 S p) (wa : wf p A) (ra : Rd S a A) (sa : Rs h0 S a) (hD : Dr h0 S 9 D false) (wD : wf p D.reverse) (h2 : x2 = ι v) (h3 : x3 = ι e) (hv : v < 3) (he : e ≤ 40) (hin : ∀ i j, i < A.length → exv (rt A i) v = e → j < D.reverse.length → (gone v (rt A i)).x + (rt D.reverse j).x ≤ X ∧ (gone v (rt A i)).y + (rt D.reverse j).y ≤ Y ∧ (gone v (rt A i)).z + (rt D.reverse j).z ≤ Z) (bo : Bo h0 S 15 X Y Z G) (h : ∀ S', Ext S S' (Wap h0 S) V0 → hX S' = hX S → hS S' = hS S → Bo h0 S' 15 X Y Z (fun x y z => G x y z + pER A v D.reverse A.length e x y z) → K 0 S') : wp_X9_addPut M (h0 + 5) a x2 x3 S K := by
  subst h2 h3
  have hla := wa.1
  obtain ⟨hL, ht, hb, hp, hpp⟩ := id bs
  have h60 := ht.1
  have rd := hD.rd (DL.d9 hL) (by omega)
  have sd := rs_d (d := 9) (by omega) h60 hb
  have b15 := hb.1.2.1.2.2.2.2.1
  unfold wp_X9_addPut
  refine c_unit rfl hv ⟨hL.t5, h0 + 9, hL.p5_2, hL.t5, h0 + 15, hL.p5_4, hL.t5, ?_⟩
  refine c_findOffsets (o := 15) hL h60 (Or.inr rfl) (BL.b15 hL hb) bo wD rd sd (fun S1 e1 x1 s1 of1 => ⟨A.length + 1, ?_⟩)
  have e1z : Ext S S1 (Wz h0 S) V0 := e1.mo (fun b k q => Or.inl (by unfold W18 at q; omega)) (fun _ _ c => c)
  have bs1 := bs.go e1z x1
  have n18a := sa.n (o := 18) (by omega)
  have n18d := sd.n (o := 18) (by omega)
  have ra1 := ra.go e1 (fun k => ⟨n18a.1, n18a.2.1, n18a.2.2, fun c => c⟩)
  have rd1 := rd.go e1 (fun k => ⟨n18d.1, n18d.2.1, n18d.2.2, fun c => c⟩)
  have pt1 : ∀ o, o = 12 ∨ o = 15 ∨ o = 39 ∨ o = 42 → hP S1 (h0 + o) 0 = hP S (h0 + o) 0 ∨ hX S ≤ bxC h0 S1 o := fun o ho => Or.inl ((e1.2.2.1 _ (by omega)).2.2.2 0 (fun c => c))
  have sa1 := sa.go h60 e1 pt1
  have sd1 := sd.go h60 e1 pt1
  have c15 : bxC h0 S1 15 = bxC h0 S 15 := bxC.go ((e1.2.2.1 _ (by omega)).2.2.2 0 (fun c => c))
  have hn15 : ¬ (h0 + 15 = h0 + 18) ∧ ¬ (h0 + 15 + 2 = h0 + 18) ∧ ¬ (bxC h0 S 15 = h0 + 18) := by omega
  have bo1 := bo.go2 hb.1.2.1 (by omega) h60 e1 (fun c => c) (fun k => hn15)
  have hn18 : h0 + 18 ≠ bxC h0 S1 15 := by rw [c15]; omega
  have c3 := sa1.b (o := 15) (by omega)
  have c3d := sd1.b (o := 15) (by omega)
  obtain ⟨hL1, ht1, hb1, hp1, -⟩ := id bs1
  have h601 := ht1.1
  clear rd sd b15 hn15 n18a n18d pt1
  have key : ∀ (k i : Nat) (S3 : HS), i + k = A.length → Ext S1 S3 (fun b _ => b = bxC h0 S1 15) V0 → hX S3 = hX S1 → hS S3 = hS S1 → Bo h0 S3 15 X Y Z (fun x y z => G x y z + pER A v D.reverse i e x y z) → wl_X9_addPut_23 M K (k + 1) (h0 + 5) a (ι v) (ι e) (ι e * ι (un v)) (ι i) S3 := by
    intro k
    induction k with
    | zero =>
      intro i S3 hi e3 x3 s3 bo3
      obtain ⟨-, p2, p3, p4, p5, p6, p7, p8, p7', p8', p9, p11⟩ := ra1.go e3 (fun k => ⟨c3.1, c3.2.1, c3.2.2, fun c => c⟩)
      show wb_X9_addPut_23 _ _ _ _ _ _ _ _ _ _
      unfold wb_X9_addPut_23
      rw [p9]
      refine ⟨p2, fun _ => h S3 ((e1.mo (fun b k q => Or.inl q) (fun _ _ c => c)).tr (e3.mo (fun b k q => Or.inr (by rw [← c15]; exact q)) (fun _ _ c => c))) (by omega) (by omega) ?_, fun q => absurd (by rw [ι_le (by omega) (by omega)]; omega) q⟩
      rw [show i = A.length by omega] at bo3
      exact bo3
    | succ k ih =>
      intro i S3 hi e3 x3 s3 bo3
      have e3z : Ext S1 S3 (Wz h0 S1) V0 := e3.mo (fun b k q => Or.inr (Or.inr (Or.inr (Or.inr (Or.inl q))))) (fun _ _ c => c)
      have bs3 := bs1.go e3z x3
      obtain ⟨hL3, ht3, hb3, hp3, -⟩ := id bs3
      obtain ⟨-, p2, p3, p4, p5, p6, p7, p8, p7', p8', p9, p11⟩ := ra1.go e3 (fun k => ⟨c3.1, c3.2.1, c3.2.2, fun c => c⟩)
      have hs := rt_sm wa (i := i) (by omega)
      have hel := exv_le hs v
      show wb_X9_addPut_23 _ _ _ _ _ _ _ _ _ _
      unfold wb_X9_addPut_23
      rw [p9, ι_cl (by omega)]
      refine ⟨p2, fun q => absurd q (by rw [ι_le (by omega) (by omega)]; omega), fun _ => ⟨p2, a + 1, p3, p5, ι_in (by omega) (by omega), c_exp hs (p11 i (by omega)).1 rfl hv ⟨fun c => ?_, fun c => ?_⟩⟩⟩
      · rw [show (1 : Int32) = ι 1 from rfl, ι_add]
        refine ih (i + 1) S3 (by omega) e3 x3 s3 ?_
        have : (fun x y z => G x y z + pER A v D.reverse (i + 1) e x y z) = (fun x y z => G x y z + pER A v D.reverse i e x y z) := by
          funext x y z
          unfold pER
          rw [sumTo, if_neg (fun q => c (by rw [q])), Nat.add_zero]
        rw [this]; exact bo3
      · rw [ι_eq (by omega) (by omega)] at c
        have kg := k6_gone hv (rt A i)
        rw [c] at kg
        have gl := gone_le (v := v) (t := rt A i)
        have hsg : sm (gone v (rt A i)) := ⟨by omega, by omega, by omega⟩
        refine ⟨hL3.t5, h0 + 15, hL3.p5_4, hL3.t5, h0 + 15, hL3.p5_4, p2, a + 1, p3, p5, ι_in (by omega) (by omega), hL3.t15, ?_⟩
        refine c_cellOf bo3 hL3.t15 hL3.p15_2 hL3.t17 hL3.n17 hsg (by rw [(p11 i (by omega)).1, ι_mul, ι_sub kg.1, kg.2]) ⟨p2, a + 2, p4, p6, ι_in (by omega) (by omega), hL3.t5, h0 + 9, hL3.p5_2, hL3.t5, ?_⟩
        rw [(p11 i (by omega)).2]
        have rd3 := rd1.go e3 (fun k => ⟨c3d.1, c3d.2.1, c3d.2.2, fun c => c⟩)
        have pt3 : ∀ o, o = 12 ∨ o = 15 ∨ o = 39 ∨ o = 42 → hP S3 (h0 + o) 0 = hP S1 (h0 + o) 0 ∨ hX S1 ≤ bxC h0 S3 o := fun o ho => Or.inl ((e3.2.2.1 _ (by omega)).2.2.2 0 (fun c => c))
        have sd3 := sd1.go h601 e3 pt3
        have c33 : bxC h0 S3 15 = bxC h0 S1 15 := bxC.go ((e3.2.2.1 _ (by omega)).2.2.2 0 (fun c => c))
        have of3 : ∀ i, i < D.reverse.length → hI S3 (h0 + 18) i = ι (cx Y Z (rt D.reverse i).x (rt D.reverse i).y (rt D.reverse i).z) := fun i hi => by
          rw [(e3.2.2.1 _ (by omega)).2.2.1 i hn18]; exact of1 i hi
        refine c_addTimes (o := 15) (u := gone v (rt A i)) hL3 ht3.1 (Or.inr rfl) (BL.b15 hL3 hb3) bo3 wD rd3 sd3 of3 (fun j hj => hin i j (by omega) c hj) rfl rfl (fun S4 e4 x4 s4 bo4 => ?_)
        rw [show (1 : Int32) = ι 1 from rfl, ι_add]
        refine ih (i + 1) S4 (by omega) (e3.tr (e4.mo (fun b k q => by rw [← c33]; exact q) (fun _ _ c => c))) (by omega) (by omega) ?_
        have : (fun x y z => G x y z + pER A v D.reverse (i + 1) e x y z) = (fun x y z => G x y z + pER A v D.reverse i e x y z + qS (gone v (rt A i)) D.reverse D.reverse.length x y z) := by
          funext x y z
          unfold pER
          rw [sumTo, if_pos c, Nat.add_assoc]
        rw [this]; exact bo4
  refine key A.length 0 S1 (by omega) (Ext.rf _ _ _) rfl rfl ?_
  exact bo1
/-! putInto of the class. -/
theorem pT_le {p v N : Nat} {A B : Po} (hp : p ≤ 13) (hp1 : 1 < p) (wa : wf p A) (x y z : Nat) : pT p A v B N x y z ≤ 300 * (300 * 144) := by
  unfold pT pE
  rw [sumTo_swap]
  have h1 : ∀ j, j < A.length → sumTo N (fun e => if exv (tm A j) v = e then qS (gone v (tm A j)) (PW p B e) (PW p B e).length x y z else 0) ≤ 300 * 144 := fun j hj => by
    have hq : ∀ e, qS (gone v (tm A j)) (PW p B e) (PW p B e).length x y z ≤ 300 * 144 := fun e => by
      have wP : wf p (PW p B e) := by
        cases q : pw p B e with
        | none => unfold PW; rw [q]; exact wf_nil p
        | some M => rw [PW_some q]; exact pw_wf hp1 q
      have h2 : qS (gone v (tm A j)) (PW p B e) (PW p B e).length x y z ≤ (PW p B e).length * 144 := sumTo_le (fun k hk => by
        have na := wa.2.1 j hj
        have nb := wP.2.1 k hk
        split
        · exact Nat.mul_le_mul (show (tm A j).n ≤ 12 by omega) (show (tm (PW p B e) k).n ≤ 12 by omega)
        · omega)
      exact Nat.le_trans h2 (Nat.mul_le_mul_right 144 wP.1)
    by_cases c : exv (tm A j) v < N
    · rw [sumTo_single (exv (tm A j) v) c (fun e he ne => if_neg (fun q => ne q.symm)), if_pos rfl]
      exact hq _
    · rw [sumTo_zero (fun e he => if_neg (by omega))]
      omega
  exact Nat.le_trans (sumTo_le h1) (Nat.mul_le_mul_right (300 * 144) wa.1)
theorem pf1_in {p v e : Nat} {A B L : Po} (hp : 1 < p) (hv : v < 3) (wb : wf p B) (hL : pw p B e = some L) {i j : Nat} (hi : i < A.length) (hj : j < L.length) (he : exv (rt A i) v = e) : (gone v (rt A i)).x + (rt L j).x ≤ mz (pf1 A B v 0) A.length ∧ (gone v (rt A i)).y + (rt L j).y ≤ mz (pf1 A B v 1) A.length ∧ (gone v (rt A i)).z + (rt L j).z ≤ mz (pf1 A B v 2) A.length := by
  have g0 := mz_ge (f := pf1 A B v 0) hi
  have g1 := mz_ge (f := pf1 A B v 1) hi
  have g2 := mz_ge (f := pf1 A B v 2) hi
  have u0 : (rt L j).x + 1 ≤ mA L 0 := mA_rt (v := 0) hj
  have u1 : (rt L j).y + 1 ≤ mA L 1 := mA_rt (v := 1) hj
  have u2 : (rt L j).z + 1 ≤ mA L 2 := mA_rt (v := 2) hj
  have w0 := pw_hi (v := 0) hp wb hL
  have w1 := pw_hi (v := 1) hp wb hL
  have w2 := pw_hi (v := 2) hp wb hL
  generalize mz (pf1 A B v 0) A.length = m0 at *
  generalize mz (pf1 A B v 1) A.length = m1 at *
  generalize mz (pf1 A B v 2) A.length = m2 at *
  unfold pf1 at g0 g1 g2
  rw [he, Nat.mul_comm] at g0 g1 g2
  have e0 : (gone v (rt A i)).x = if 0 = v then 0 else exv (rt A i) 0 := by
    show (if v = 0 then 0 else (rt A i).x) = if 0 = v then 0 else (rt A i).x
    by_cases c : v = 0
    · rw [if_pos c, if_pos c.symm]
    · rw [if_neg c, if_neg (fun q => c q.symm)]
  have e1 : (gone v (rt A i)).y = if 1 = v then 0 else exv (rt A i) 1 := by
    show (if v = 1 then 0 else (rt A i).y) = if 1 = v then 0 else (rt A i).y
    by_cases c : v = 1
    · rw [if_pos c, if_pos c.symm]
    · rw [if_neg c, if_neg (fun q => c q.symm)]
  have e2 : (gone v (rt A i)).z = if 2 = v then 0 else exv (rt A i) 2 := by
    show (if v = 2 then 0 else (rt A i).z) = if 2 = v then 0 else (rt A i).z
    by_cases c : v = 2
    · rw [if_pos c, if_pos c.symm]
    · rw [if_neg c, if_neg (fun q => c q.symm)]
  rw [e0, e1, e2]
  omega
theorem pT_in {p v N x y z : Nat} {A B : Po} (hp : 1 < p) (hv : v < 3) (wb : wf p B) (h : pT p A v B N x y z ≠ 0) : x ≤ mz (pf1 A B v 0) A.length ∧ y ≤ mz (pf1 A B v 1) A.length ∧ z ≤ mz (pf1 A B v 2) A.length := by
  obtain ⟨e, he, h1⟩ := pT_ne h
  obtain ⟨j, k, hj, hk, c, w1, w2, w3⟩ := pE_ne h1
  cases q : pw p B e with
  | none => unfold PW at hk; rw [q] at hk; exact absurd hk (Nat.not_lt_zero _)
  | some L =>
    rw [PW_some q] at hk w1 w2 w3
    have rA : rt A (A.length - 1 - j) = tm A j := by unfold rt; rw [show A.length - 1 - (A.length - 1 - j) = j by omega]
    have rL : rt L (L.length - 1 - k) = tm L k := by unfold rt; rw [show L.length - 1 - (L.length - 1 - k) = k by omega]
    have := pf1_in (A := A) (i := A.length - 1 - j) (j := L.length - 1 - k) hp hv wb q (by omega) (by omega) (by rw [rA]; exact c)
    rw [rA, rL] at this
    omega
theorem mz_pf1 {p v w : Nat} {A B : Po} (wa : wf p A) (hm : (mA A v - 1) * (mA B w - 1) ≤ 40) : mz (pf1 A B v w) A.length ≤ (if w = v then 40 else 80) := mz_le (fun i hi => by
  have u1 := mA_rt (v := v) hi
  have u2 := exv_le (rt_sm wa hi) w
  have u3 : (mA B w - 1) * exv (rt A i) v ≤ (mA A v - 1) * (mA B w - 1) := by rw [Nat.mul_comm]; exact Nat.mul_le_mul_right _ (by omega)
  unfold pf1
  split <;> omega)
theorem usd_put {v X Y Z : Nat} (hv : v < 3) (hX : X ≤ (if 0 = v then 40 else 80)) (hY : Y ≤ (if 1 = v then 40 else 80)) (hZ : Z ≤ (if 2 = v then 40 else 80)) : usd X Y Z ≤ 269001 ∧ X ≤ 80 ∧ Y ≤ 80 ∧ Z ≤ 80 := by
  have hv3 : v = 0 ∨ v = 1 ∨ v = 2 := by omega
  unfold usd
  rcases hv3 with rfl | rfl | rfl
  · have hX : X ≤ 40 := hX
    have hY : Y ≤ 80 := hY
    have hZ : Z ≤ 80 := hZ
    have := Nat.mul_le_mul (show X + 1 ≤ 41 by omega) (Nat.mul_le_mul (show Y + 1 ≤ 81 by omega) (show Z + 1 ≤ 81 by omega))
    omega
  · have hX : X ≤ 80 := hX
    have hY : Y ≤ 40 := hY
    have hZ : Z ≤ 80 := hZ
    have := Nat.mul_le_mul (show X + 1 ≤ 81 by omega) (Nat.mul_le_mul (show Y + 1 ≤ 41 by omega) (show Z + 1 ≤ 81 by omega))
    omega
  · have hX : X ≤ 80 := hX
    have hY : Y ≤ 80 := hY
    have hZ : Z ≤ 40 := hZ
    have := Nat.mul_le_mul (show X + 1 ≤ 81 by omega) (Nat.mul_le_mul (show Y + 1 ≤ 81 by omega) (show Z + 1 ≤ 41 by omega))
    omega
theorem pT_one {p v x y z : Nat} {A B : Po} : pT p A v B (mA A v - 1 + 1) x y z = pT p A v B (mA A v) x y z := by
  by_cases c : mA A v = 0
  · have hl : A.length = 0 := Classical.byContradiction fun q => by
      have := mA_tm (L := A) (v := v) (i := 0) (by omega)
      omega
    rw [c]
    show 0 + pE p A v B A.length 0 x y z = 0
    rw [hl]; rfl
  · rw [show mA A v - 1 + 1 = mA A v by omega]
theorem c_put85 {M : Nat × Nat} {h0 a b v X0 S0 X Y Z : Nat} {g : Gh} {A B : Po} {S : HS} {K : Option Nat → HS → Prop} (hc : CIr h0 X0 S0 S g) (hpp : PrP g.1) (wa : wf g.1 A) (wb : wf g.1 B) (kaa : Ka h0 a) (pa : PolyAt S a A) (kab : Ka h0 b) (pb : PolyAt S b B) (hv : v < 3) (eX : mz (pf1 A B v 0) A.length = X) (eY : mz (pf1 A B v 1) A.length = Y) (eZ : mz (pf1 A B v 2) A.length = Z) (hY8 : Y ≤ 80) (hZ8 : Z ≤ 80) (r1 : X0 + 50 ≤ M.1) (r2 : S0 + 2000000 ≤ M.2) (hD : Dr h0 S 9 (cst 1) false) (bo : Bo h0 S 15 X Y Z (fun _ _ _ => 0)) (h : MkO h0 48 604 S (ptO g.1 A v B) K) : wl_X9_putInto_85 M K (mA A v - 1 + 2) (h0 + 5) a (ι v) b (ι (mA A v - 1)) (ι 0) S := by
  have hple := hpp.le
  have mle := mA_le (v := v) wa
  have key : ∀ (k e : Nat) (D : Po) (S1 : HS), e + k = mA A v - 1 + 1 → Go h0 e 0 S S1 → Dr h0 S1 9 D false → (0 < e → pw g.1 B (e - 1) = some D.reverse) → (e = 0 → D = cst 1) → Bo h0 S1 15 X Y Z (fun x y z => pT g.1 A v B e x y z) → wl_X9_putInto_85 M K (k + 1) (h0 + 5) a (ι v) b (ι (mA A v - 1)) (ι e) S1 := by
    intro k
    induction k with
    | zero =>
      intro e D S1 he g1 d1 hp1 hp0 bo1
      have hc1 := g1.2.2.1 _ _ _ hc
      have bs1 := hc1.bs hpp
      have rm := hc1.room
      show wb_X9_putInto_85 _ _ _ _ _ _ _ _ _ _
      unfold wb_X9_putInto_85
      refine ⟨fun _ => ⟨bs1.1.t5, h0 + 15, bs1.1.p5_4, bs1.1.t5, h0 + 6, bs1.1.p5_1, bs1.1.t5, bs1.1.t15, ?_⟩, fun q => absurd (by rw [ι_lt (by omega) (by omega)]; omega) q⟩
      have he' : e = mA A v - 1 + 1 := by omega
      subst he'
      have hO : ptO g.1 A v B = cn g.1 (ptF g.1 A v B) := by
        unfold ptO
        have := hp1 (by omega)
        rw [show mA A v - 1 + 1 - 1 = mA A v - 1 by omega] at this
        rw [this]; rfl
      have hFe : bF g.1 X Y Z (fun x y z => pT g.1 A v B (mA A v - 1 + 1) x y z) = ptF g.1 A v B := by
        funext x y z
        unfold bF ptF
        show (if x ≤ X ∧ y ≤ Y ∧ z ≤ Z then pT g.1 A v B (mA A v - 1 + 1) x y z % g.1 else 0) = _
        rw [pT_one]
        by_cases c : x ≤ X ∧ y ≤ Y ∧ z ≤ Z
        · rw [if_pos c]
        · rw [if_neg c]
          have : pT g.1 A v B (mA A v) x y z = 0 := Classical.byContradiction fun q => by
            have := pT_in (by omega) hv wb q
            rw [eX, eY, eZ] at this
            exact c this
          rw [this, Nat.zero_mod]
      refine c_endB bs1 (Or.inr rfl) bo1 (fun x y z => Nat.lt_of_le_of_lt (pT_le (by omega) (by omega) wa x y z) (by decide)) (by omega) (by omega) bs1.2.2.2.1 hFe (by omega) (by omega) ?_
      rw [← hO]
      exact fun S' g' => h S' ((g1.tr g').mo (by omega) (by omega))
    | succ k ih =>
      intro e D S1 he g1 d1 hp1 hp0 bo1
      have hc1 := g1.2.2.1 _ _ _ hc
      have bs1 := hc1.bs hpp
      have h60 := bs1.2.1.1
      have pa1 := g1.1 a A kaa pa
      have pb1 := g1.1 b B kab pb
      have round : ∀ (D2 : Po) (S2 : HS), Go h0 e 0 S S2 ∨ (Go h0 (e + 1) 0 S S2) → Dr h0 S2 9 D2 false → pw g.1 B e = some D2.reverse → Bo h0 S2 15 X Y Z (fun x y z => pT g.1 A v B e x y z) → w_X9_putInto_115 M (wl_X9_putInto_85 M K (k + 1)) K (h0 + 5) a (ι v) b (ι (mA A v - 1)) (ι e) S2 := by
        intro D2 S2 g2' d2 hpe bo2
        have g2 : Go h0 (e + 1) 0 S S2 := by
          rcases g2' with g | g
          · exact g.mo (by omega) (by omega)
          · exact g
        have hc2 := g2.2.2.1 _ _ _ hc
        have bs2 := hc2.bs hpp
        have pa2 := g2.1 a A kaa pa
        have wD := pw_wf (by omega) hpe
        unfold w_X9_putInto_115
        refine ⟨bs2.1.t5, c_addPut bs2 wa (pa2.rd wa) (rs_ka kaa pa2 bs2.2.2.1) d2 wD rfl rfl hv (by omega) (fun i j hi hex hj => ?_) bo2 (fun S3 e3 x3 s3 bo3 => ?_)⟩
        · have := pf1_in (by omega) hv wb hpe hi hj hex
          rw [eX, eY, eZ] at this
          exact this
        · rw [show (1 : Int32) = ι 1 from rfl, ι_add]
          have e3z : Ext S2 S3 (Wz h0 S2) V0 := e3.mo Wap.z (fun _ _ c => c)
          have g3 := g2.tr (Go.scr bs2.2.2.1 bs2.2.1 e3z x3 s3)
          have h602 := bs2.2.1.1
          have b15 := bs2.2.2.1.1.2.1.2.2.2.2.1
          have n9 : ∀ j, j ≤ 2 → ∀ k, ¬ Wap h0 S2 (h0 + 9 + j) k := fun j hj k => by unfold Wap; omega
          have ee := e3.2.2.1
          refine ih (e + 1) D2 S3 (by omega) (g3.mo (by omega) (by omega)) ⟨d2.1, by rw [(ee _ (by omega)).2.2.1 2 (n9 0 (by omega) 2)]; exact d2.2.1, by rw [(ee _ (by omega)).2.2.1 3 (n9 0 (by omega) 3)]; exact d2.2.2.1, fun i hi => by rw [(ee _ (by omega)).2.2.1 i (n9 1 (by omega) i), (ee _ (by omega)).2.2.1 i (n9 2 (by omega) i)]; exact d2.2.2.2 i hi⟩ (fun _ => hpe) (fun c => by omega) ?_
          have : (fun x y z => pT g.1 A v B (e + 1) x y z) = (fun x y z => pT g.1 A v B e x y z + pER A v D2.reverse A.length e x y z) := by
            funext x y z
            rw [pER_pE hpe]; rfl
          rw [this]; exact bo3
      show wb_X9_putInto_85 _ _ _ _ _ _ _ _ _ _
      unfold wb_X9_putInto_85
      refine ⟨fun q => absurd q (by rw [ι_lt (by omega) (by omega)]; omega), fun _ => ⟨fun q => ?_, fun q => ⟨bs1.1.t5, h0 + 9, bs1.1.p5_2, bs1.1.t5, h0 + 9, bs1.1.p5_2, bs1.1.t5, ?_⟩⟩⟩
      · rw [show (0 : Int32) = ι 0 from rfl, ι_le (by omega) (by omega)] at q
        have e0 : e = 0 := by omega
        subst e0
        exact round D S1 (Or.inl g1) d1 (by rw [hp0 rfl, cst_rev]; rfl) bo1
      · rw [show (0 : Int32) = ι 0 from rfl, ι_le (by omega) (by omega)] at q
        have hpe := hp1 (by omega)
        have wD := pw_wf (by omega) hpe
        have hpw : pw g.1 B e = cn g.1 (prF g.1 D.reverse B) := by
          have : pw g.1 B (e - 1 + 1) = cn g.1 (prF g.1 D.reverse B) := by rw [pw, hpe]; rfl
          rwa [show e - 1 + 1 = e by omega] at this
        refine c_multiply hc1 hpp (Or.inr rfl) wD wb (d1.rd (DL.d9 bs1.1) (by omega)) (rs_d (by omega) h60 bs1.2.2.1) (pb1.rd wb) (rs_ka kab pb1 bs1.2.2.1) (by omega) (by omega) (fun S2 g2 e2 => ⟨fun D2 d2 c2 => ⟨fun _ => round D2 S2 (Or.inr (g1.tr g2)) d2 (by rw [hpw]; exact cn_some c2) ?_, fun q => absurd q (by decide)⟩, fun c => ⟨fun q => absurd rfl q, fun _ => ?_⟩⟩)
        · have b12 := bs1.2.2.1.1.1.2.2.2.2.1
          have b15 := bs1.2.2.1.1.2.1.2.2.2.2.1
          have b1215 := bs1.2.2.1.2.1
          exact bo1.go2 bs1.2.2.1.1.2.1 (by omega) h60 e2 (by unfold Vg; omega) (fun k => by unfold Wmu; omega)
        · refine (h S2 ((g1.tr g2).mo (by omega) (by omega))).2 ?_
          unfold ptO
          rw [pw_none (k := e) (by rw [hpw]; exact cn_none c) (mA A v - 1) (by omega)]
          rfl
  exact key (mA A v - 1 + 1) 0 (cst 1) S (by omega) (Go.rf h0 S) hD (fun c => by omega) (fun _ => rfl) bo
theorem c_putInto {M : Nat × Nat} {h0 a b v X0 S0 : Nat} {x2 : Int32} {g : Gh} {A B : Po} {S : HS} {K : Option Nat → HS → Prop} (hc : CIr h0 X0 S0 S g) (hpp : PrP g.1) (wa : wf g.1 A) (wb : wf g.1 B) (kaa : Ka h0 a) (pa : PolyAt S a A) (kab : Ka h0 b) (pb : PolyAt S b B) (hx : x2 = ι v) (hv : v < 3) (r1 : X0 + 60 ≤ M.1) (r2 : S0 + 2000000 ≤ M.2) (h : MkO h0 50 604 S (ptO g.1 A v B) K) : wp_X9_putInto M (h0 + 5) a x2 b S K := by
  subst hx
  have bs := hc.bs hpp
  have rm := hc.room
  have hple := hpp.le
  have ra := pa.rd wa
  have rb := pb.rd wb
  have h60 := bs.2.1.1
  have hbb := bs.2.2.1.1.2.1.2.2.2.2.1
  have mle := mA_le (v := v) wa
  have mleB : ∀ w, mA B w ≤ 41 := fun w => mA_le wb
  unfold wp_X9_putInto
  refine ⟨ra.2.1, c_roomIn wa ra rfl hv ⟨4, ?_⟩⟩
  have step : ∀ (w : Nat), w < 3 → ∀ m : Nat, ((mA A v - 1) * (mA B w - 1) ≤ 40 → wl_X9_putInto_10 M K m (h0 + 5) a (ι v) b (ι (mA A v - 1)) (ι (w + 1)) S) → wl_X9_putInto_10 M K (m + 1) (h0 + 5) a (ι v) b (ι (mA A v - 1)) (ι w) S := by
    intro w hw m hh
    have mB := mleB w
    have hmul : (mA A v - 1) * (mA B w - 1) ≤ 41 * 41 := Nat.mul_le_mul (by omega) (by omega)
    show wb_X9_putInto_10 _ _ _ _ _ _ _ _ _ _
    unfold wb_X9_putInto_10
    refine ⟨fun q => absurd q (by rw [show (3 : Int32) = ι 3 from rfl, ι_le (by omega) (by omega)]; omega), fun _ => ⟨rb.2.1, c_roomIn wb rb rfl hw ?_⟩⟩
    rw [ι_mul, show (40 : Int32) = ι 40 from rfl, ι_le (by omega) (by omega), show (1 : Int32) = ι 1 from rfl, ι_add]
    refine ⟨hh, fun q => (h S ((Go.rf h0 S).mo (by omega) (by omega))).2 ?_⟩
    unfold ptO
    rw [pw_too (v := w) hpp wb (by omega)]
    rfl
  refine step 0 (by omega) 3 (fun w0 => step 1 (by omega) 2 (fun w1 => step 2 (by omega) 1 (fun w2 => ?_)))
  have z0 := mz_pf1 (w := 0) wa w0
  have z1 := mz_pf1 (w := 1) wa w1
  have z2 := mz_pf1 (w := 2) wa w2
  show wb_X9_putInto_10 _ _ _ _ _ _ _ _ _ _
  unfold wb_X9_putInto_10
  refine ⟨fun _ => ⟨bs.1.t5, h0 + 15, bs.1.p5_4, c_putRoom wa wb ra rb rfl (w := 0) rfl hv (by omega) w0 (c_putRoom wa wb ra rb rfl (w := 1) rfl hv (by omega) w1 (c_putRoom wa wb ra rb rfl (w := 2) rfl hv (by omega) w2 ⟨bs.1.t15, ?_⟩))⟩, fun q => absurd (by decide) q⟩
  generalize eX : mz (pf1 A B v 0) A.length = X at *
  generalize eY : mz (pf1 A B v 1) A.length = Y at *
  generalize eZ : mz (pf1 A B v 2) A.length = Z at *
  obtain ⟨hus, hX8, hY8, hZ8⟩ := usd_put hv z0 z1 z2
  refine c_open (o := 15) rfl rfl rfl hX8 hY8 hZ8 hus bs.1.t15 bs.1.p15_2 bs.1.t17 bs.1.n17 bs.2.2.1.1.2.1 (by omega) (by omega) (by omega) (by omega) (by omega) (fun S1 op => ?_)
  have go1 := Go.op op (Or.inr rfl) bs.2.2.1
  have hc1 := go1.2.2.1 _ _ _ hc
  have bs1 := hc1.bs hpp
  have h601 := bs1.2.1.1
  have b15 := bs1.2.2.1.1.2.1.2.2.2.2.1
  have ez : ∀ {S1 S2 : HS}, Ext S1 S2 (W3 h0 9) V0 → Ext S1 S2 (Wz h0 S1) V0 := fun e => e.mo (W3.z (by omega)) (fun _ _ c => c)
  refine ⟨bs1.1.t5, h0 + 9, bs1.1.p5_2, bs1.1.t9, c_clear (DL.d9 bs1.1) (fun S2 e2 x2 s2 d2 => ?_)⟩
  have bs2 := bs1.go (ez e2) x2
  refine ⟨bs2.1.t5, h0 + 9, bs2.1.p5_2, bs2.1.t9, c_push1 (DL.d9 bs2.1) d2 (fun S3 e3 x3 s3 d3 => ⟨mA A v - 1 + 2, ?_⟩)⟩
  have e23 := e2.tr e3
  have go3 := go1.tr (Go.scr bs1.2.2.1 bs1.2.1 (ez e23) (by omega) (by omega))
  have hc3 := go3.2.2.1 _ _ _ hc
  have pa3 := go3.1 a A kaa pa
  have pb3 := go3.1 b B kab pb
  have bo3 := op.2.1.go2 bs1.2.2.1.1.2.1 (by omega) h601 e23 (fun c => c) (fun k => by unfold W3; omega)
  exact c_put85 hc3 hpp wa wb kaa pa3 kab pb3 hv eX eY eZ hY8 hZ8 (by omega) (by omega) d3 bo3 (fun S' g' => h S' ((go3.tr g').mo (by omega) (by omega)))
/-! Keeping on both sides; put. -/
theorem CI.go {h0 s0 n a b : Nat} {S S' : HS} {g : Gh} (h : CI h0 s0 n S g) (hg : Go h0 a b S S') (ha : a ≤ 1000) (hb : b ≤ 7400) : CI h0 s0 (n + 1) S' g := by
  have h1 := hg.2.2.1 _ _ _ h.r
  refine h1.ci (by omega) ?_
  have : tpR g.2.2.2.1 ≤ 7400 := by unfold tpR; split <;> omega
  omega
theorem psA_len {A : List (Nat × Po)} {q : Nat} {L : Po} (h : A.length ≤ 20) : (psA A q L).length ≤ 20 := by
  have := (shA_len h).1
  unfold psA
  rw [List.length_append, List.length_singleton]
  omega
theorem psA_all {A : List (Nat × Po)} {q : Nat} {L : Po} {Q : Nat × Po → Prop} (h : A.length ≤ 20) (h1 : ∀ k, k < A.length → Q (acA A k)) (h2 : Q (q, L)) : ∀ k, k < (psA A q L).length → Q (acA (psA A q L) k) := by
  intro k hk
  obtain ⟨s1, s2⟩ := shA_len h
  unfold psA at hk ⊢
  rw [List.length_append, List.length_singleton] at hk
  by_cases e : k < (shA A).length
  · rw [acA_l e]
    rcases s2 with ⟨a1, a2, a3⟩ | ⟨a1, a2⟩
    · rw [a3]; exact h1 _ (by omega)
    · rw [a2] at e ⊢; exact h1 k e
  · rw [show k = (shA A).length by omega, acA_r]; exact h2
/-- the reference's place gets it too -/
theorem keepK {h0 s0 n q s p : Nat} {x : Int32} {L : Po} {P : Nat → Po} {A : List (Nat × Po)} {T Tx : List Nat} {ft : Int32} {Q : List Sp} {B : Nat → Nat} {S : HS} {R : RS} {K : Int32 → RS → Prop} (hc' : CI h0 s0 n S (p, upP P q L, psA A q (P q), T, Tx, ft, Q, B)) (hv : VI (p, P, A, T, Tx, ft, Q, B)) (hr : RI R (p, P, A, T, Tx, ft, Q, B)) (hx : x = ι s) (hq : q < 6) (wL : wf p L) (hs : 6 ≤ s) (hs2 : s < 56) (lL : Sl R s L) (hK : ∀ R2, R2 0 0 = R 0 0 → Inv h0 s0 n S R2 → K (ι L.length) R2) : wp_become (ι q) x R K := by
  obtain ⟨v1, v2, v3, v4, v5, v6⟩ := hv
  obtain ⟨u1, u2, u3, u4, u5, u6, u7⟩ := hr
  refine s_become rfl hx hq hs2 hs (v2 q hq) (u2 q hq) wL lL u3 v3.1 (fun k hk => (v3.2 k hk).2.1) (fun R' r1 f1 l1 a1 => hK R' (r1.2 0 (by simp)) ⟨_, hc', ?_, ?_⟩)
  · refine ⟨v1, fun k hk => ?_, ⟨psA_len v3.1, psA_all (Q := fun t => t.1 < 6 ∧ wf p t.2) v3.1 v3.2 ⟨hq, v2 q hq⟩⟩, v4, v5, v6⟩
    show wf p (if k = q then L else P k)
    split
    · exact wL
    · exact v2 k hk
  · refine ⟨u1.fr r1 (by simp) (by simp) (by simp) (by simp), fun k hk => ?_, a1, ⟨by rw [r1.2 43 (by simp)]; exact u4.1, fun i hi => by rw [r1.1 42 (by omega) (by simp)]; exact u4.2 i hi⟩, ⟨by rw [r1.2 28 (by simp)]; exact u5.1, fun i hi => by rw [r1.1 27 (by omega) (by simp)]; exact u5.2 i hi⟩, by rw [r1.2 51 (by simp)]; exact u6, ⟨by rw [r1.2 37 (by simp)]; exact u7.1, fun t ht => ?_⟩⟩
    · show Sl R' k (if k = q then L else P k)
      by_cases c : k = q
      · rw [if_pos c, c]; exact l1
      · rw [if_neg c]; exact (u2 k hk).go (v2 k hk).1 f1 (by simp [c])
    · have q7 := u7.2 t ht
      have h23 : t < 23 := Nat.lt_of_lt_of_le ht v6.1
      rw [r1.1 29 (by omega) (by simp), r1.1 30 (by omega) (by simp), r1.1 31 (by omega) (by simp), r1.1 32 (by omega) (by simp)]
      exact ⟨q7.1.go (v6.2 t ht).1.1 f1 (by simp; omega), q7.2⟩
theorem keepR {h0 s0 n q s p : Nat} {x : Int32} {L : Po} {P : Nat → Po} {A : List (Nat × Po)} {T Tx : List Nat} {ft : Int32} {Q : List Sp} {B : Nat → Nat} {S : HS} {R : RS} (hc' : CI h0 s0 n S (p, upP P q L, psA A q (P q), T, Tx, ft, Q, B)) (hv : VI (p, P, A, T, Tx, ft, Q, B)) (hr : RI R (p, P, A, T, Tx, ft, Q, B)) (hx : x = ι s) (hq : q < 6) (wL : wf p L) (hs : 6 ≤ s) (hs2 : s < 56) (lL : Sl R s L) : wp_become (ι q) x R (fun r2 R2 => ι L.length = r2 ∧ Inv h0 s0 n S R2) := keepK hc' hv hr hx hq wL hs hs2 lL (fun R2 _ hi => ⟨rfl, hi⟩)
theorem place_no {h0 s0 n : Nat} {S : HS} {R : RS} {g : Gh} (hc : CI h0 s0 n S g) (hv : VI g) (hr : RI R g) (x : Int32) : Inv h0 s0 (n + 1) S (up R 0 0 x) := ⟨g, hc.next, hv, hr.code hv x⟩
theorem call_8 {h0 s0 n : Nat} {S : HS} {R : RS} (hn : n < 512) (y1 y2 y3 y4 : Int32) (h : Inv h0 s0 n S R) : wq_8 (Mx h0 s0) h0 y1 y2 y3 y4 S R (Inv h0 s0 (n + 1)) := by
  obtain ⟨⟨p, P, A, T, Tx, ft, Q, B⟩, hc, hv, hr⟩ := h
  have hL := hc.1
  have no := fun x => place_no hc hv hr x
  have hcode : RI (up R 0 0 0) (p, P, A, T, Tx, ft, Q, B) := hr.code hv 0
  refine ⟨hL.t0, ?_⟩
  unfold wp_X11_put
  refine c_isPlace (fun q hq e1 => ⟨fun c => absurd c (by decide), fun _ => ?_⟩) (fun hne => ⟨fun _ => ?_, fun c => absurd rfl c⟩)
  rotate_left
  · unfold wp_put
    exact s_isPlace (fun k hk e => absurd e (hne k hk)) (fun _ => ⟨fun _ => ⟨rfl, no 0⟩, fun c => absurd rfl c⟩)
  refine c_isPlace (fun i hi e2 => ⟨fun c => absurd c (by decide), fun _ => ?_⟩) (fun hne => ⟨fun _ => ?_, fun c => absurd rfl c⟩)
  rotate_left
  · unfold wp_put
    refine s_isPlace (fun k hk e => ⟨fun c => absurd c (by decide), fun _ => ?_⟩) (fun h => absurd e1 (h q hq))
    exact s_isPlace (fun k hk e => absurd e (hne k hk)) (fun _ => ⟨fun _ => ⟨rfl, no 0⟩, fun c => absurd rfl c⟩)
  refine c_isPlace (fun j hj e4 => ⟨fun c => absurd c (by decide), fun _ => ?_⟩) (fun hne => ⟨fun _ => ?_, fun c => absurd rfl c⟩)
  rotate_left
  · unfold wp_put
    refine s_isPlace (fun k hk e => ⟨fun c => absurd c (by decide), fun _ => ?_⟩) (fun h => absurd e1 (h q hq))
    refine s_isPlace (fun k hk e => ⟨fun c => absurd c (by decide), fun _ => ?_⟩) (fun h => absurd e2 (h i hi))
    exact s_isPlace (fun k hk e => absurd e (hne k hk)) (fun _ => ⟨fun _ => ⟨rfl, no 0⟩, fun c => absurd rfl c⟩)
  have bad : (∀ v, v < 3 → ¬ y3 = ι v) → wp_put y1 y2 y3 y4 R (fun q R1 => (-1) = q ∧ Inv h0 s0 (n + 1) S R1) := by
    intro hne
    unfold wp_put
    refine s_isPlace (fun k hk e => ⟨fun c => absurd c (by decide), fun _ => ?_⟩) (fun h => absurd e1 (h q hq))
    refine s_isPlace (fun k hk e => ⟨fun c => absurd c (by decide), fun _ => ?_⟩) (fun h => absurd e2 (h i hi))
    refine s_isPlace (fun k hk e => ⟨fun c => absurd c (by decide), fun _ => ?_⟩) (fun h => absurd e4 (h j hj))
    refine s_isInB (b := 0) (c := 2) rfl rfl (by omega) (by omega) (fun a _ ha e => absurd e (hne a (by omega))) (fun _ => ⟨fun c => absurd rfl c, fun _ => ⟨rfl, no 0⟩⟩)
  refine ⟨fun c => bad (fun v hv e => by rw [e] at c; exact ι_nn (by omega) c), fun c => ?_⟩
  obtain ⟨v, hv31, e3⟩ := ι_ex c
  subst e3
  rw [show (3 : Int32) = ι 3 from rfl, ι_lt hv31 (by omega)]
  refine ⟨fun hv3 => ?_, fun c2 => bad (fun w hw e => by rw [ι_eq hv31 (by omega)] at e; omega)⟩
  subst e1 e2 e4
  obtain ⟨a, w1, w2, w3⟩ := hc.2.2.2.1 i hi
  obtain ⟨b, z1, z2, z3⟩ := hc.2.2.2.1 j hj
  refine ⟨hL.t0, h0 + 5, hL.p0_2, hL.t0, h0 + 4, hL.p0_1, hL.t4, by rw [hL.n4]; exact ι_in (by omega) (by omega), a, by rw [ι_cl (by omega)]; exact w1, hL.t0, h0 + 4, hL.p0_1, hL.t4, by rw [hL.n4]; exact ι_in (by omega) (by omega), b, by rw [ι_cl (by omega)]; exact z1, hL.t5, ?_⟩
  have hvv := hv
  obtain ⟨v1, v2, v3, v4, v5, v6⟩ := hvv
  -- the reference up to its result
  have ref : ∀ (K : Int32 → RS → Prop), (∀ R', RI R' (p, P, A, T, Tx, ft, Q, B) → (∀ L, ptO p (P i) v (P j) = some L → Sl R' 54 L → wp_become (ι q) 54 R' (fun r2 R2 => K r2 R2)) ∧ (ptO p (P i) v (P j) = none → K (-2) R')) → wp_put (ι q) (ι i) (ι v) (ι j) R K := by
    intro K hK
    unfold wp_put
    refine s_isPlace (fun k hk e => ⟨fun c => absurd c (by decide), fun _ => ?_⟩) (fun h => absurd rfl (h q hq))
    refine s_isPlace (fun k hk e => ⟨fun c => absurd c (by decide), fun _ => ?_⟩) (fun h => absurd rfl (h i hi))
    refine s_isPlace (fun k hk e => ⟨fun c => absurd c (by decide), fun _ => ?_⟩) (fun h => absurd rfl (h j hj))
    refine s_isInB (b := 0) (c := 2) rfl rfl (by omega) (by omega) (fun a _ ha e => ⟨fun _ => ?_, fun c => absurd c (by decide)⟩) (fun h => absurd rfl (h v (by omega) (by omega)))
    refine s_put41 v1 hi hj hv3 (v2 i hi) (v2 j hj) (hcode.2.1 i hi) (hcode.2.1 j hj) hcode.1 (fun R' r1 f1 g1 => ?_)
    exact hK R' (hcode.scr hv g1 r1 f1 (by decide) (by decide) (by decide))
  refine c_putInto (g := (p, P, A, T, Tx, ft, Q, B)) hc.r v1 (v2 i hi) (v2 j hj) w2 w3 z2 z3 rfl hv3 ?_ ?_ (fun S1 g1 => ⟨fun b1 L hO ka pa => ?_, fun hO => ?_⟩)
  · show h0 + 200 + 1000 * n + 60 ≤ h0 + 601024; omega
  · show s0 + 1400000 + 7400 * n - tpR T + 2000000 ≤ s0 + 7293034; omega
  · have hc1 := hc.go g1 (by omega) (by omega)
    refine ⟨hc1.1.t0, ?_⟩
    have wL : wf p L := by
      have hO' := hO
      unfold ptO at hO'
      cases e : pw p (P j) (mA (P i) v - 1) with
      | none => rw [e] at hO'; cases hO'
      | some M => rw [e] at hO'; exact (cn_can hO').1
    refine c_keep hc1 v3.1 rfl hq ka pa (fun S' hc' => ?_)
    refine ref _ (fun R' hR => ⟨fun L2 hL2 l2 => ?_, fun c => by rw [hO] at c; cases c⟩)
    rw [hO] at hL2
    cases hL2
    exact keepR hc' hv hR (s := 54) rfl hq wL (by omega) (by omega) l2
  · have hc1 := hc.go g1 (by omega) (by omega)
    refine ⟨hc1.1.t0, c_keep0 (ref _ (fun R' hR => ⟨fun L2 hL2 l2 => ?_, fun _ => ⟨rfl, _, hc1, hv, hR⟩⟩))⟩
    rw [hO] at hL2
    cases hL2
