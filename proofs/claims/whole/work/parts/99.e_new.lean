/-! A new Program, a new Reader. -/
/-- a Program that is being made: m of its rows are there -/
def PI (S1 : HS) (g m : Nat) (S : HS) : Prop := g = hX S1 ∧ (∀ W V, Ext S1 S W V) ∧ hX S = g + 1 + m ∧ hS S ≤ hS S1 + 10 + 23 * m ∧ hT S g = 8 ∧ hI S g 0 = ι 0 ∧ ∀ f, 1 ≤ f → f ≤ m → hP S g f = some (g + f) ∧ hT S (g + f) = (if f = 6 then 23 else 21) ∧ hN S (g + f) = (if f = 9 then 3 else 23) ∧ hI S (g + f) = fun _ => 0
section NEWP
variable {M : Nat × Nat} {S1 S : HS} {h0 g m t n : Nat} {K : Int32 → HS → Prop} {tx : Nat → Nat}
theorem PI.tg (h : PI S1 g m S) : hT (nO S t n) g = 8 := by
  have := h.2.2.1
  rw [nO_T1 (by omega)]; exact h.2.2.2.2.1
theorem PI.step (h : PI S1 g m S) (ht : t = if m + 1 = 6 then 23 else 21) (hn : n = if m + 1 = 9 then 3 else 23) : PI S1 g (m + 1) (sP (nO S t n) g (m + 1) (some (hX S))) := by
  have n23 : n ≤ 23 := by rw [hn]; split <;> omega
  obtain ⟨a1, a2, a3, a4, a5, a6, a7⟩ := h
  refine ⟨a1, fun W V => ext_newP (a2 W V).nO (by omega), by show hX S + 1 = _; omega, by show hS S + n ≤ _; omega, ?_, ?_, fun f f1 f2 => ?_⟩
  · rw [sP_T, nO_T1 (by omega)]; exact a5
  · rw [sP_I, nO_I1 (by omega)]; exact a6
  · rw [sP_eq, sP_T, sP_N, sP_I]
    by_cases c : f = m + 1
    · have e : g + f = hX S := by omega
      rw [if_pos c, e, nO_T2, nO_N2, nO_I2, ht, hn, c]
      exact ⟨rfl, rfl, rfl, rfl⟩
    · rw [if_neg c, nO_P1 (by omega), nO_T1 (by omega), nO_N1 (by omega), nO_I1 (by omega)]
      exact a7 f f1 (by omega)
theorem c_newProg (r1 : hX S1 + 10 ≤ M.1) (r2 : hS S1 + 217 ≤ M.2) (h : ∀ S', PI S1 (hX S1) 9 S' → K 0 S') : wp_X7_init M (hX S1) (nO S1 8 10) K := by
  have z : ¬ (23 : Int32) < 0 := by decide
  have z3 : ¬ (3 : Int32) < 0 := by decide
  have l : (Int32.toNatClampNeg 23) ≤ 100000000 := by decide
  have l3 : (Int32.toNatClampNeg 3) ≤ 100000000 := by decide
  have q23 : Int32.toNatClampNeg 23 = 23 := rfl
  have q3 : Int32.toNatClampNeg 3 = 3 := rfl
  have p0 : PI S1 (hX S1) 0 (sI (nO S1 8 10) (hX S1) 0 0) := ⟨rfl, fun W V => ext_new (ext_nO W V) (Nat.le_refl _), rfl, by show hS S1 + 10 ≤ _; omega, nO_T2, by rw [sI_eq, if_pos rfl]; rfl, fun f f1 f2 => by omega⟩
  have rm : ∀ {m S}, PI S1 (hX S1) m S → m ≤ 8 → hX S + 1 ≤ M.1 ∧ hS S + Int32.toNatClampNeg 23 ≤ M.2 := fun p hm => by
    have x := p.2.2.1
    have y := p.2.2.2.1
    rw [q23]
    omega
  have rm3 : ∀ {S}, PI S1 (hX S1) 8 S → hX S + 1 ≤ M.1 ∧ hS S + Int32.toNatClampNeg 3 ≤ M.2 := fun p => by
    have x := p.2.2.1
    have y := p.2.2.2.1
    rw [q3]
    omega
  unfold wp_X7_init
  generalize hg : hX S1 = g at *
  refine ⟨by rw [← hg]; exact nO_T2, z, l, (rm p0 (by omega)).1, (rm p0 (by omega)).2, fun b1 T1 e1 e2 => ?_⟩
  subst e1 e2
  have p1 := p0.step (t := 21) (n := Int32.toNatClampNeg 23) rfl rfl
  refine ⟨p0.tg, z, l, (rm p1 (by omega)).1, (rm p1 (by omega)).2, fun b2 T2 e1 e2 => ?_⟩
  subst e1 e2
  have p2 := p1.step (t := 21) (n := Int32.toNatClampNeg 23) rfl rfl
  refine ⟨p1.tg, z, l, (rm p2 (by omega)).1, (rm p2 (by omega)).2, fun b3 T3 e1 e2 => ?_⟩
  subst e1 e2
  have p3 := p2.step (t := 21) (n := Int32.toNatClampNeg 23) rfl rfl
  refine ⟨p2.tg, z, l, (rm p3 (by omega)).1, (rm p3 (by omega)).2, fun b4 T4 e1 e2 => ?_⟩
  subst e1 e2
  have p4 := p3.step (t := 21) (n := Int32.toNatClampNeg 23) rfl rfl
  refine ⟨p3.tg, z, l, (rm p4 (by omega)).1, (rm p4 (by omega)).2, fun b5 T5 e1 e2 => ?_⟩
  subst e1 e2
  have p5 := p4.step (t := 21) (n := Int32.toNatClampNeg 23) rfl rfl
  refine ⟨p4.tg, z, l, (rm p5 (by omega)).1, (rm p5 (by omega)).2, fun b6 T6 e1 e2 => ?_⟩
  subst e1 e2
  have p6 := p5.step (t := 23) (n := Int32.toNatClampNeg 23) rfl rfl
  refine ⟨p5.tg, z, l, (rm p6 (by omega)).1, (rm p6 (by omega)).2, fun b7 T7 e1 e2 => ?_⟩
  subst e1 e2
  have p7 := p6.step (t := 21) (n := Int32.toNatClampNeg 23) rfl rfl
  refine ⟨p6.tg, z, l, (rm p7 (by omega)).1, (rm p7 (by omega)).2, fun b8 T8 e1 e2 => ?_⟩
  subst e1 e2
  have p8 := p7.step (t := 21) (n := Int32.toNatClampNeg 23) rfl rfl
  refine ⟨p7.tg, z3, l3, (rm3 p8).1, (rm3 p8).2, fun b9 T9 e1 e2 => ?_⟩
  subst e1 e2
  have p9 := p8.step (t := 21) (n := Int32.toNatClampNeg 3) rfl rfl
  exact ⟨p8.tg, h _ p9⟩
/-- a row is filled with one number -/
theorem c_fillX {c : Nat} {x : Int32} (hc : hT S c = 21) (hN9 : hN S c ≤ 1000000) (h : ∀ S', Ext S S' (fun b _ => b = c) V0 → hX S' = hX S → hS S' = hS S → (∀ k, k < hN S c → hI S' c k = x) → K 0 S') : wp_J7_fill_53178 M c x S K := by
  have key : ∀ (k i : Nat) (S1 : HS), i + k = hN S c → Ext S S1 (fun b _ => b = c) V0 → hX S1 = hX S → hS S1 = hS S → hT S1 c = 21 → hN S1 c = hN S c → (∀ j, j < i → hI S1 c j = x) → wl_J7_fill_53178_5 M K (k + 1) c x (ι i) (ι (hN S c)) S1 := by
    intro k
    induction k with
    | zero =>
      intro i S1 hi e1 x1 s1 t1 n1 f1
      show wb_J7_fill_53178_5 _ _ _ _ _ _ _ _
      unfold wb_J7_fill_53178_5
      rw [ι_le (by omega) (by omega)]
      exact ⟨fun _ => h S1 e1 x1 s1 (fun k hk => f1 k (by omega)), fun q => absurd (by omega) q⟩
    | succ k ih =>
      intro i S1 hi e1 x1 s1 t1 n1 f1
      show wb_J7_fill_53178_5 _ _ _ _ _ _ _ _
      unfold wb_J7_fill_53178_5
      rw [ι_le (by omega) (by omega), ι_cl (by omega), show (1 : Int32) = ι 1 from rfl, ι_add]
      refine ⟨fun q => absurd q (by omega), fun _ => ⟨t1, by rw [n1]; exact ι_in (by omega) (by omega), ?_⟩⟩
      refine ih (i + 1) _ (by omega) (e1.sI rfl) x1 s1 t1 n1 (fun j hj => ?_)
      rw [sI_eq]
      by_cases q : j = i
      · rw [if_pos q]
      · rw [if_neg q]; exact f1 j (by omega)
  unfold wp_J7_fill_53178
  refine ⟨Or.inl hc, hN S c + 1, ?_⟩
  exact key (hN S c) 0 S (by omega) (Ext.rf _ _ _) rfl rfl hc rfl (fun j hj => by omega)
/-- the rows of a Program -/
def PgR (S : HS) (g : Nat) : Prop := hT S g = 8 ∧ ∀ f, 1 ≤ f → f ≤ 9 → hP S g f = some (g + f) ∧ hT S (g + f) = (if f = 6 then 23 else 21) ∧ hN S (g + f) = (if f = 9 then 3 else 23)
theorem c_newRd {x2 : Int32} (hi : PI S1 g 9 S) (hx : x2 = ι n) (hn : n ≤ 200) (g55 : h0 + 56 ≤ g) (t55 : hT S1 (h0 + 55) = 21) (n55 : hN S1 (h0 + 55) = 200) (htx : ∀ i, i < n → hI S1 (h0 + 55) i = ι (tx i) ∧ tx i < 256) (r1 : hX S1 + 12 ≤ M.1) (r2 : hS S1 + 249 ≤ M.2) (h : ∀ S', (∀ W V, Ext S1 S' W V) → hX S' = g + 12 → hS S' ≤ hS S1 + 249 → PgR S' g → RdL h0 S' g n tx → RdM S' g (0, [], (0, 0, 0, 0)) → hI S' (g + 10) 5 = ι 0 → K 0 S') : wp_X8_init M (g + 10) (h0 + 55) x2 g (nO S 9 9) K := by
  subst hx
  obtain ⟨a1, a2, a3, a4, a5, a6, a7⟩ := hi
  have a3 : hX S = g + 10 := by omega
  have z : ¬ (23 : Int32) < 0 := by decide
  have l : (Int32.toNatClampNeg 23) ≤ 100000000 := by decide
  have t9 : hT (nO S 9 9) (g + 10) = 9 := by rw [← a3]; exact nO_T2
  unfold wp_X8_init
  refine ⟨t9, z, l, by show hX S + 1 + 1 ≤ _; omega, by show hS S + 9 + 23 ≤ _; omega, fun b1 T1 e1 e2 => ?_⟩
  have eb : b1 = g + 11 := by rw [e1]; show hX S + 1 = _; omega
  subst eb
  have eX : hX (sI (nO S 9 9) (g + 10) 0 0) = g + 11 := by show hX S + 1 = _; omega
  have t9' : hT T1 (g + 10) = 9 := by rw [e2, nO_T1 (by omega)]; exact t9
  have n11 : hN T1 (g + 11) = 23 := by rw [e2, ← eX]; exact nO_N2
  have t11 : hT T1 (g + 11) = 21 := by rw [e2, ← eX]; exact nO_T2
  have x11 : hX T1 = g + 12 := by rw [e2, nO_X]; omega
  have s11 : hS T1 = hS S + 9 + 23 := by rw [e2]; rfl
  have ex : ∀ W V, Ext S T1 W V := fun W V => by rw [e2]; exact (ext_new (ext_nO W V) (by omega)).nO
  refine ⟨t9', t9', t9', t9', t9', t9', t9', t9', t9', g + 11, ?_, ?_⟩
  · rw [sP_eq, if_neg (by omega), sI_P, sP_eq, if_neg (by omega), sI_P, sI_P, sI_P, sI_P, sP_eq, if_pos rfl]
  generalize eU : sP (sI (sP (sI (sI (sI (sI (sP T1 (g + 10) 4 (some (g + 11))) (g + 10) 5 0) (g + 10) 6 257) (g + 10) 7 0) (g + 10) 8 0) (g + 10) 1 (some (h0 + 55))) (g + 10) 2 (ι n)) (g + 10) 3 (some g) = U
  have uI5 : hI U (g + 10) 5 = ι 0 := by rw [← eU, sP_I, sI_eq, if_neg (by omega), sP_I, sI_eq, if_neg (by omega), sI_eq, if_neg (by omega), sI_eq, if_neg (by omega), sI_eq, if_pos rfl]; rfl
  have uI8 : hI U (g + 10) 8 = ι 0 := by rw [← eU, sP_I, sI_eq, if_neg (by omega), sP_I, sI_eq, if_pos rfl]; rfl
  have uI2 : hI U (g + 10) 2 = ι n := by rw [← eU, sP_I, sI_eq, if_pos rfl]
  have uP1 : hP U (g + 10) 1 = some (h0 + 55) := by rw [← eU, sP_eq, if_neg (by omega), sI_P, sP_eq, if_pos rfl]
  have uP3 : hP U (g + 10) 3 = some g := by rw [← eU, sP_eq, if_pos rfl]
  have uP4 : hP U (g + 10) 4 = some (g + 11) := by rw [← eU, sP_eq, if_neg (by omega), sI_P, sP_eq, if_neg (by omega), sI_P, sI_P, sI_P, sI_P, sP_eq, if_pos rfl]
  have uT : hT U = hT T1 := by rw [← eU]; rfl
  have uN : hN U = hN T1 := by rw [← eU]; rfl
  have uX : hX U = g + 12 := by rw [← eU]; exact x11
  have uS : hS U = hS S + 9 + 23 := by rw [← eU]; exact s11
  have exU : ∀ W V, Ext S U W V := fun W V => by
    rw [← eU]
    exact ext_newP (ext_new (ext_newP (ext_new (ext_new (ext_new (ext_new (ext_newP (ex W V) (by omega)) (by omega)) (by omega)) (by omega)) (by omega)) (by omega)) (by omega)) (by omega)
  refine c_fillX (by rw [uT]; exact t11) (by rw [uN, n11]; omega) (fun S' e' x' s' f' => ?_)
  rw [uN, n11] at f'
  have exS : ∀ W V, Ext S S' W V := fun W V => (exU W V).tr2 e' (fun b k hb w => absurd hb (by omega)) (fun b k hb w => absurd w (fun c => c))
  have ex1 : ∀ W V, Ext S1 S' W V := fun W V => (a2 W V).tr (exS W V)
  have cS : ∀ b, b < g + 10 → hT S' b = hT S b ∧ hN S' b = hN S b ∧ hI S' b = hI S b ∧ hP S' b = hP S b := fun b hb => by
    have := (exS (fun _ _ => False) (fun _ _ => False)).2.2.1 b (by omega)
    exact ⟨this.1, this.2.1, funext fun k => this.2.2.1 k (fun c => c), funext fun k => this.2.2.2 k (fun c => c)⟩
  have cU : ∀ k, hI S' (g + 10) k = hI U (g + 10) k ∧ hP S' (g + 10) k = hP U (g + 10) k := fun k => by
    have := e'.2.2.1 (g + 10) (by omega)
    exact ⟨this.2.2.1 k (by omega), this.2.2.2 k (fun c => c)⟩
  have tU : hT S' (g + 10) = 9 ∧ hT S' (g + 11) = 21 ∧ hN S' (g + 11) = 23 := by
    have q0 := e'.2.2.1 (g + 10) (by omega)
    have q1 := e'.2.2.1 (g + 11) (by omega)
    exact ⟨by rw [q0.1, uT]; exact t9', by rw [q1.1, uT]; exact t11, by rw [q1.2.1, uN]; exact n11⟩
  have c54 : hT S' (h0 + 55) = 21 ∧ hN S' (h0 + 55) = 200 ∧ ∀ i, hI S' (h0 + 55) i = hI S1 (h0 + 55) i := by
    have := (ex1 (fun _ _ => False) (fun _ _ => False)).2.2.1 (h0 + 55) (by omega)
    exact ⟨by rw [this.1]; exact t55, by rw [this.2.1]; exact n55, fun i => this.2.2.1 i (fun c => c)⟩
  have pr : PgR S' g := by
    refine ⟨by rw [(cS g (by omega)).1]; exact a5, fun f f1 f2 => ?_⟩
    rw [(cS g (by omega)).2.2.2, (cS (g + f) (by omega)).1, (cS (g + f) (by omega)).2.1]
    exact ⟨(a7 f f1 f2).1, (a7 f f1 f2).2.1, (a7 f f1 f2).2.2.1⟩
  refine h S' ex1 (by omega) (by omega) pr ⟨tU.1, by rw [(cU 1).2]; exact uP1, by rw [(cU 2).1]; exact uI2, by rw [(cU 3).2]; exact uP3, by rw [(cU 4).2]; exact uP4, tU.2.1, tU.2.2, pr.1, fun f f1 f2 => ?_, c54.1, c54.2.1, fun i hi => by rw [c54.2.2 i]; exact htx i hi, hn, g55, by omega⟩ ⟨by rw [(cU 8).1]; exact uI8, by rw [(cS g (by omega)).2.2.1]; exact a6, fun s hs => ?_, fun v hv => ?_⟩ (by rw [(cU 5).1]; exact uI5)
  · have := pr.2 f f1 (by omega)
    rw [if_neg (by omega), if_neg (by omega)] at this
    exact this
  · have zs : ∀ f, 1 ≤ f → f ≤ 4 → hI S' (g + f) s = ι 0 := fun f f1 f2 => by rw [(cS (g + f) (by omega)).2.2.1, (a7 f f1 (by omega)).2.2.2]; rfl
    rw [zs 1 (by omega) (by omega), zs 2 (by omega) (by omega), zs 3 (by omega) (by omega), zs 4 (by omega) (by omega)]
    have e0 : sqC [] (0, 0, 0, 0) s = (0, 0, 0, 0) := by unfold sqC; split; exact absurd ‹_› (by simp); split <;> rfl
    show ι 0 = ι (sqC [] (0, 0, 0, 0) s).1 ∧ ι 0 = ι (sqC [] (0, 0, 0, 0) s).2.1 ∧ ι 0 = ι (sqC [] (0, 0, 0, 0) s).2.2.1 ∧ ι 0 = ι (sqC [] (0, 0, 0, 0) s).2.2.2
    rw [e0]
    exact ⟨rfl, rfl, rfl, rfl⟩
  · rw [f' v hv]
    show (-1 : Int32) = if lk1 [] (v + 1) = 0 then -1 else _
    rw [if_pos (show lk1 [] (v + 1) = 0 from rfl)]
end NEWP
/-! tell. -/
section TELL
variable {h0 X0 S0 s0 n p g : Nat} {S : HS} {R R' : RS} {P : Nat → Po} {A : List (Nat × Po)} {T Tx : List Nat} {ft : Int32} {Q : List Sp} {B : Nat → Nat} {D : List Sq} {f : Nat → Po}
/-- the tape is empty: its room is there -/
theorem CI.tapeR (h : CI h0 s0 n S (p, P, A, T, Tx, ft, Q, B)) : CIr h0 (h0 + 200 + 1000 * n) (s0 + 1400000 + 7400 * n - tpR T) (sI S h0 9 0) (p, P, A, [], Tx, ft, Q, B) := by
  obtain ⟨c1, c2, c3, c4, c5, c6, c7, c8, c9, c10, c11, -⟩ := h.tape.r
  obtain ⟨-, -, -, -, -, -, -, -, -, -, -, c12⟩ := h.r
  exact ⟨c1, c2, c3, c4, c5, c6, c7, c8, c9, c10, c11, c12⟩
def W10 (h0 b k : Nat) : Prop := b = h0 ∧ k = 10
def V11 (h0 b k : Nat) : Prop := b = h0 ∧ k = 11
theorem CIr.flt {v : Int32} (h : CIr h0 X0 S0 S (p, P, A, T, Tx, ft, Q, B)) : CIr h0 X0 S0 (sI S h0 10 v) (p, P, A, T, Tx, v, Q, B) := by
  obtain ⟨c1, c2, c3, c4, c5, c6, c7, c8, c9, c10, c11, c12⟩ := h
  have h60 := c2.1
  have e : Ext S (sI S h0 10 v) (W10 h0) V0 := (Ext.rf S (W10 h0) V0).sI ⟨rfl, rfl⟩
  have pk : PK h0 S (sI S h0 10 v) := PK.of e (fun a L ka _ k => by unfold Ka at ka; exact ⟨by unfold W10; omega, by unfold W10; omega, by unfold W10; omega, fun c => c⟩)
  have nI : ∀ b k, b < hX S → ¬ W10 h0 b k → hI (sI S h0 10 v) b k = hI S b k := fun b k hb w => (e.2.2.1 b hb).2.2.1 k w
  have ho : ∀ o, o = 12 ∨ o = 15 ∨ o = 39 ∨ o = 42 → hP (sI S h0 10 v) (h0 + o) 0 = hP S (h0 + o) 0 := fun o _ => rfl
  have b39 := c10.1.2.2.1
  exact ⟨c1.go c2.1 e (fun q hq c => c), c2.go e pk (c2.tp e rfl), by rw [nI _ _ (by omega) (by unfold W10; omega)]; exact c3, c4.go pk (fun k hk => rfl), c5.go pk (fun k => nI _ _ (by omega) (by unfold W10; omega)) (fun k => nI _ _ (by omega) (by unfold W10; omega)) (fun k => rfl), c6.go (nI _ _ (by omega) (by unfold W10; omega)) (fun i => nI _ _ (by omega) (by unfold W10; omega)), c7.go (nI _ _ (by omega) (by unfold W10; omega)) (fun i => nI _ _ (by omega) (by unfold W10; omega)), by rw [sI_eq, if_pos rfl], c9.go pk e rfl (fun o ho => Or.inl rfl) (fun g hg _ f k hf => ⟨by unfold W10; omega, fun c => c⟩), c10.go e ho, c11.go (e.2.2.1 _ b39.2.1).2.1 pk rfl rfl (fun k => nI _ _ (by omega) (by unfold W10; omega)) (fun k => nI _ _ (by omega) (by unfold W10; omega)) (fun k => nI _ _ (by omega) (by unfold W10; omega)) (nI _ _ (by omega) (by unfold W10; omega)) (nI _ _ (by omega) (by unfold W10; omega)) (fun k => nI _ _ b39.2.1 (by have := b39.2.2.2.2.1; unfold W10; omega)), c12⟩
theorem CIr.prog (h : CIr h0 X0 S0 S (p, P, A, T, Tx, ft, Q, B)) (pl : PgL h0 S g) (pd : PgD S g D) (pb : PgB S g D.length (bnF D D.length)) (pm : PgM h0 S g D.length f) (ne : D ≠ []) : CIr h0 X0 S0 (sP S h0 11 (some g)) (p, P, A, T, Tx, ft, mkQ D f, bnF D D.length) := by
  obtain ⟨c1, c2, c3, c4, c5, c6, c7, c8, c9, c10, c11, c12⟩ := h
  have h60 := c2.1
  have g55 := pl.1
  have e : Ext S (sP S h0 11 (some g)) (fun _ _ => False) (V11 h0) := (Ext.rf S _ _).sP ⟨rfl, rfl⟩
  have pk : PK h0 S (sP S h0 11 (some g)) := PK.of e (fun a L ka _ k => by unfold Ka at ka; exact ⟨fun c => c, fun c => c, fun c => c, by unfold V11; omega⟩)
  have nP : ∀ b, b ≠ h0 → hP (sP S h0 11 (some g)) b = hP S b := fun b hb => sP_ne hb
  have ho : ∀ o, o = 12 ∨ o = 15 ∨ o = 39 ∨ o = 42 → hP (sP S h0 11 (some g)) (h0 + o) 0 = hP S (h0 + o) 0 := fun o ho => by rw [nP _ (by omega)]
  refine ⟨c1.go c2.1 e (fun q hq c => ?_), c2.go e pk (c2.tp e rfl), c3, c4.go pk (fun k hk => by rw [nP _ (by omega)]), c5.go pk (fun k => rfl) (fun k => rfl) (fun k => by rw [nP _ (by omega)]), c6, c7, c8, Or.inr ⟨g, by rw [sP_eq, if_pos rfl], fun w => ne ?_, ⟨g55, pl.2.1, pl.2.2.1, fun f f1 f2 => by rw [nP _ (by omega)]; exact pl.2.2.2.1 f f1 f2, pl.2.2.2.2.1, by rw [mkQ_len]; exact pd.1, fun s hs => ?_⟩, ?_, ?_, ?_, ?_⟩, c10.go e ho, c11.go rfl pk (by rw [nP _ (by omega)]) (ho 39 (by omega)) (fun k => rfl) (fun k => rfl) (fun k => rfl) rfl rfl (fun k => rfl), ?_⟩
  · have b3 : ∀ q ∈ ptrL, q.1 = 0 → q.2.1 ≠ 11 := by decide
    unfold V11 at c
    exact b3 q hq (by omega) c.2
  · have := mkQ_len (D := D) (f := f)
    rw [w] at this
    exact List.length_eq_zero_iff.mp this.symm
  · rw [mkQ_len] at hs
    rw [stp_mkQ hs]
    obtain ⟨u1, u2, u3, u4⟩ := pd.2 s hs
    obtain ⟨a, a1, a2, a3⟩ := pm s hs
    exact ⟨u1, u2, u3, u4, pb s hs, a, by rw [nP _ (by omega)]; exact a1, a2, pk a _ a2 a3⟩
  all_goals (try rw [bxC.go (ho _ (by omega))])
  · exact Classical.byContradiction fun w => (pl.2.2.2.2.2 (bxC h0 S 12 - g) (by omega)).1 (by omega)
  · exact Classical.byContradiction fun w => (pl.2.2.2.2.2 (bxC h0 S 15 - g) (by omega)).2.1 (by omega)
  · exact Classical.byContradiction fun w => (pl.2.2.2.2.2 (bxC h0 S 39 - g) (by omega)).2.2.1 (by omega)
  · exact Classical.byContradiction fun w => (pl.2.2.2.2.2 (bxC h0 S 42 - g) (by omega)).2.2.2 (by omega)
  · have := c12.go (a := 0) (b := 0) e c10 ho (Nat.le_refl _) (Nat.le_refl _)
    exact this
theorem RI.flt {v : Int32} (h : RI R (p, P, A, T, Tx, ft, Q, B)) : RI (up R 0 51 v) (p, P, A, T, Tx, v, Q, B) := by
  obtain ⟨u1, u2, u3, u4, u5, u6, u7⟩ := h
  have hr : Fr R (up R 0 51 v) [] [51] := (Fr.rf R [] [51]).w0 (by simp)
  have nf : ∀ f, f ≠ 0 → up R 0 51 v f = R f := fun f hf => upN hf
  have n0 : ∀ k, k ≠ 51 → up R 0 51 v 0 k = R 0 k := fun k hk => by rw [upE, if_neg hk]
  refine ⟨u1.fr hr (by simp) (by simp) (by simp) (by simp), fun k hk => ?_, ?_, ?_, ?_, by rw [upE, if_pos rfl], ?_⟩
  · have := u2 k hk
    unfold Sl at this ⊢
    rw [nf 2 (by omega), nf 3 (by omega), nf 4 (by omega)]; exact this
  · unfold RAc at u3 ⊢
    rw [n0 13 (by omega), nf 9 (by omega), nf 10 (by omega), nf 11 (by omega), nf 12 (by omega)]; exact u3
  · rw [n0 43 (by omega), nf 42 (by omega)]; exact u4
  · rw [n0 28 (by omega), nf 27 (by omega)]; exact u5
  · unfold RPg Sl at u7 ⊢
    rw [n0 37 (by omega), nf 2 (by omega), nf 3 (by omega), nf 4 (by omega), nf 29 (by omega), nf 30 (by omega), nf 31 (by omega), nf 32 (by omega)]; exact u7
theorem RI.prog {Q' : List Sp} {B' : Nat → Nat} (h : RI R (p, P, A, T, Tx, ft, Q, B)) (hv : VI (p, P, A, T, Tx, ft, Q, B)) (r : Fr R R' [2, 3, 4, 29, 30, 31, 32] [37]) (fs : Fs R R' (slR 6 23)) (hq : RPg R' Q') : RI R' (p, P, A, T, Tx, ft, Q', B') := by
  obtain ⟨u1, u2, u3, u4, u5, u6, u7⟩ := h
  refine ⟨u1.fr r (by simp) (by simp) (by simp) (by simp), fun k hk => (u2 k hk).go (hv.2.1 k hk).1 fs (by rw [slR_mem]; omega), ?_, ?_, ?_, by rw [r.2 51 (by simp)]; exact u6, hq⟩
  · unfold RAc at u3 ⊢
    rw [r.2 13 (by simp), r.1 9 (by omega) (by simp), r.1 10 (by omega) (by simp), r.1 11 (by omega) (by simp), r.1 12 (by omega) (by simp)]; exact u3
  · rw [r.2 43 (by simp), r.1 42 (by omega) (by simp)]; exact u4
  · rw [r.2 28 (by simp), r.1 27 (by omega) (by simp)]; exact u5
theorem VI.prog {v : Int32} (hv : VI (p, P, A, T, Tx, ft, Q, B)) (hD : DOk D) (hf : ∀ k, k < D.length → wf p (f k)) : VI (p, P, A, T, Tx, v, mkQ D f, bnF D D.length) := by
  obtain ⟨v1, v2, v3, v4, v5, v6⟩ := hv
  refine ⟨v1, v2, v3, v4, v5, by rw [mkQ_len]; exact hD.1, fun s hs => ?_⟩
  rw [mkQ_len] at hs
  rw [stp_mkQ hs]
  have d := hD.2.2 s hs
  obtain ⟨o1, o2, o3, o4, o5⟩ := d.2
  exact ⟨hf s hs, d.1.2, o1, o2, o3, o4, o5, bnF_ok hD s hs⟩
theorem VI.flt {v : Int32} (hv : VI (p, P, A, T, Tx, ft, Q, B)) : VI (p, P, A, T, Tx, v, Q, B) := hv
/-- nothing is no program -/
theorem Jm.nil {tx : Nat → Nat} {o : Ot} (j : Jm tx 0 0 (0, [], (0, 0, 0, 0)) o) : o.1 ≠ 0 := by
  have e : tkc tx 0 0 = 257 := by unfold tkc; rw [if_pos (Nat.zero_le _)]
  have t : tak (0, [], (0, 0, 0, 0)) (tkc tx 0 0) (tkv tx 0 0) = (1, (0, [], (0, 0, 0, 0))) := by
    rw [e]
    rfl
  rw [j.bad t (by omega)]
  simp
theorem Jm.one {tx : Nat → Nat} {n p : Nat} {m : Mt} {o o' : Ot} (j : Jm tx n p m o) (j' : Jm tx n p m o') : o = o' := by
  obtain ⟨hp, f1, h1, e1⟩ := j
  obtain ⟨-, f2, h2, e2⟩ := j'
  have key : ∀ f g p m, p ≤ n → n < f + p → n < g + p → rnM tx n f p m = rnM tx n g p m := by
    intro f
    induction f with
    | zero => intro g p m a b c; omega
    | succ f ih =>
      intro g p m a b c
      obtain ⟨g, rfl⟩ : ∃ k, g = k + 1 := ⟨g - 1, by omega⟩
      rw [rnM, rnM]
      by_cases c1 : (tak m (tkc tx n p) (tkv tx n p)).1 ≠ 0
      · rw [if_pos c1, if_pos c1]
      · rw [if_neg c1, if_neg c1]
        by_cases c2 : tkc tx n p = 257
        · rw [if_pos c2, if_pos c2]
        · rw [if_neg c2, if_neg c2]
          have := tke_le (tx := tx) a
          have := this.2.2 c2
          exact ih g _ _ (by omega) (by omega) (by omega)
  rw [← e1, ← e2]
  exact key f1 f2 p m hp h1 h2
end TELL
