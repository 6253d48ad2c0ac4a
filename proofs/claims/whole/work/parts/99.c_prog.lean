/-! The class's new Program. -/
def PgL (h0 : Nat) (S : HS) (g : Nat) : Prop := h0 + 56 ≤ g ∧ g + 9 < hX S ∧ hT S g = 8 ∧ (∀ f, 1 ≤ f → f ≤ 9 → hP S g f = some (g + f)) ∧ (∀ f, 1 ≤ f → f ≤ 9 → hT S (g + f) = (if f = 6 then 23 else 21) ∧ hN S (g + f) = (if f = 9 then 3 else 23)) ∧ ∀ j, j ≤ 9 → nBx h0 S (g + j)
def PgD (S : HS) (g : Nat) (D : List Sq) : Prop := hI S g 0 = ι D.length ∧ ∀ s, s < D.length → hI S (g + 1) s = ι (sq D s).1 ∧ hI S (g + 2) s = ι (sq D s).2.1 ∧ hI S (g + 3) s = ι (sq D s).2.2.1 ∧ hI S (g + 4) s = ι (sq D s).2.2.2
def PgB (S : HS) (g s : Nat) (B : Nat → Nat) : Prop := ∀ k, k < s → hI S (g + 5) k = ι (B k)
def PgM (h0 : Nat) (S : HS) (g s : Nat) (f : Nat → Po) : Prop := ∀ k, k < s → ∃ a, hP S (g + 6) k = some a ∧ Ka h0 a ∧ PolyAt S a (f k)
/-- bounds of the steps, one after the other -/
def bnF (D : List Sq) : Nat → Nat → Nat
  | 0 => fun _ => 0
  | s + 1 => fun k => if k = s then bdS (bnF D s) (sq D s).2.1 (sq D s).2.2.1 (sq D s).2.2.2 else bnF D s k
theorem bnF_s {D : List Sq} {s k : Nat} : bnF D (s + 1) k = if k = s then bdS (bnF D s) (sq D s).2.1 (sq D s).2.2.1 (sq D s).2.2.2 else bnF D s k := rfl
theorem bnF_le {D : List Sq} : ∀ n k, bnF D n k ≤ 999999 := by
  intro n
  induction n with
  | zero => intro k; show 0 ≤ 999999; omega
  | succ n ih =>
    intro k
    rw [bnF_s]
    split
    · exact bdS_le _ _ _ _
    · exact ih k
theorem bnF_lt {D : List Sq} : ∀ n m k, k < n → n ≤ m → bnF D m k = bnF D n k := by
  intro n m
  induction m with
  | zero => intro k h1 h2; omega
  | succ m ih =>
    intro k h1 h2
    by_cases c : n = m + 1
    · rw [c]
    · rw [bnF_s, if_neg (by omega)]; exact ih k h1 (by omega)
theorem atB_eq {B C : Nat → Nat} {s a : Nat} (h : ∀ k, k < s → B k = C k) (ha : a < 103 + s) : atB B a = atB C a := by
  unfold atB
  split
  · rfl
  · split
    · rfl
    · exact h _ (by omega)
theorem bdS_eq {B C : Nat → Nat} {s : Nat} {c : Sq} (h : ∀ k, k < s → B k = C k) (ok : stOk s c) : bdS B c.2.1 c.2.2.1 c.2.2.2 = bdS C c.2.1 c.2.2.1 c.2.2.2 := by
  obtain ⟨o1, o2, o3, o4, o5⟩ := ok
  unfold bdS
  rw [atB_eq h o2]
  by_cases c1 : c.2.1 = 94
  · rw [if_pos c1, if_pos c1]
  · rw [if_neg c1, if_neg c1]
    by_cases c3 : c.2.1 = 0
    · rw [if_neg (by omega), if_pos c3, if_neg (by omega), if_pos c3]
    · have tw : isTwo c.2.1 := by rcases o1 with q | q | q; exact absurd q c3; exact absurd q c1; exact q
      rw [atB_eq h (o3 tw)]
theorem bnF_ok {D : List Sq} (hD : DOk D) : ∀ s, s < D.length → bnF D D.length s = bdS (bnF D D.length) (sq D s).2.1 (sq D s).2.2.1 (sq D s).2.2.2 := by
  intro s hs
  rw [bnF_lt (s + 1) D.length s (by omega) (by omega), bnF_s, if_pos rfl]
  exact bdS_eq (fun k hk => (bnF_lt s D.length k hk (by omega)).symm) (hD.2.2 s hs).2
section PGN
variable {M : Nat × Nat} {h0 X0 S0 g a b s : Nat} {S S' : HS} {G : Gh} {D : List Sq} {f : Nat → Po} {B : Nat → Nat}
theorem PgL.cell (h : PgL h0 S g) (e : Go h0 a b S S') {j : Nat} (hj : j ≤ 9) : (hT S' (g + j) = hT S (g + j) ∧ hN S' (g + j) = hN S (g + j) ∧ hI S' (g + j) = hI S (g + j) ∧ hP S' (g + j) = hP S (g + j)) ∧ nBx h0 S' (g + j) := by
  have h1 := h.1
  have h2 := h.2.1
  exact e.2.2.2.1 (g + j) (by omega) (by omega) (h.2.2.2.2.2 j hj)
theorem PgL.go (h : PgL h0 S g) (e : Go h0 a b S S') : PgL h0 S' g := by
  have c0 := h.cell e (j := 0) (by omega)
  rw [Nat.add_zero] at c0
  refine ⟨h.1, by have := e.2.1; have := h.2.1; omega, by rw [c0.1.1]; exact h.2.2.1, fun f f1 f2 => by rw [c0.1.2.2.2]; exact h.2.2.2.1 f f1 f2, fun f f1 f2 => ?_, fun j hj => (h.cell e hj).2⟩
  rw [(h.cell e f2).1.1, (h.cell e f2).1.2.1]
  exact h.2.2.2.2.1 f f1 f2
theorem PgD.go (h : PgD S g D) (hl : PgL h0 S g) (e : Go h0 a b S S') : PgD S' g D := by
  have c0 := hl.cell e (j := 0) (by omega)
  rw [Nat.add_zero] at c0
  refine ⟨by rw [c0.1.2.2.1]; exact h.1, fun s hs => ?_⟩
  rw [(hl.cell e (j := 1) (by omega)).1.2.2.1, (hl.cell e (j := 2) (by omega)).1.2.2.1, (hl.cell e (j := 3) (by omega)).1.2.2.1, (hl.cell e (j := 4) (by omega)).1.2.2.1]
  exact h.2 s hs
theorem PgB.go (h : PgB S g s B) (hl : PgL h0 S g) (e : Go h0 a b S S') : PgB S' g s B := fun k hk => by
  rw [(hl.cell e (j := 5) (by omega)).1.2.2.1]; exact h k hk
theorem PgM.go (h : PgM h0 S g s f) (hl : PgL h0 S g) (e : Go h0 a b S S') : PgM h0 S' g s f := fun k hk => by
  obtain ⟨q, q1, q2, q3⟩ := h k hk
  exact ⟨q, by rw [(hl.cell e (j := 6) (by omega)).1.2.2.2]; exact q1, q2, e.1 q _ q2 q3⟩
/-- two Programs lie apart -/
theorem PgL.apart {Q : List Sp} {B : Nat → Nat} {g' : Nat} (h : PgL h0 S g) (h' : PgAt h0 S g' Q B) (ne : g' ≠ g) {i j : Nat} (hi : i ≤ 9) (hj : j ≤ 9) : g' + i ≠ g + j := fun e => by
  obtain ⟨-, -, a3, -, a5, -⟩ := h
  obtain ⟨-, -, b3, -, b5, -⟩ := h'
  by_cases c : g' < g
  · have q := (b5 (g - g') (by omega) (by omega)).1
    rw [show g' + (g - g') = g by omega, a3] at q
    split at q <;> omega
  · have q := (a5 (g' - g) (by omega) (by omega)).1
    rw [show g + (g' - g) = g' by omega, b3] at q
    split at q <;> omega
def W5 (g b _k : Nat) : Prop := b = g + 5
def V6 (g b _k : Nat) : Prop := b = g + 6
theorem CIr.wr (h : CIr h0 X0 S0 S G) (pl : PgL h0 S g) (ng : hP S h0 11 ≠ some g) (e : Ext S S' (W5 g) (V6 g)) (hx : hX S' = hX S) (hs : hS S' = hS S) : CIr h0 X0 S0 S' G := by
  obtain ⟨p, P, A, T, Tx, ft, Q, B⟩ := G
  obtain ⟨c1, c2, c3, c4, c5, c6, c7, c8, c9, c10, c11, c12⟩ := h
  have h60 := c2.1
  have g55 := pl.1
  have gX := pl.2.1
  have tg : ∀ f, 1 ≤ f → f ≤ 9 → hT S (g + f) ≠ 7 := fun f f1 f2 => by
    rw [(pl.2.2.2.2.1 f f1 f2).1]; split <;> decide
  have pk : PK h0 S S' := PK.of e (fun a L ka pa k => by
    have t7 := pa.2.1
    refine ⟨fun w => ?_, fun w => ?_, fun w => ?_, fun w => ?_⟩
    · have w : a = g + 5 := w
      rw [w] at t7; exact tg 5 (by omega) (by omega) t7
    · have w : a + 1 = g + 5 := w
      rw [show a = g + 4 by omega] at t7; exact tg 4 (by omega) (by omega) t7
    · have w : a + 2 = g + 5 := w
      rw [show a = g + 3 by omega] at t7; exact tg 3 (by omega) (by omega) t7
    · have w : a = g + 6 := w
      rw [w] at t7; exact tg 6 (by omega) (by omega) t7)
  have nI : ∀ b k, b < hX S → b ≠ g + 5 → hI S' b k = hI S b k := fun b k hb w => (e.2.2.1 b hb).2.2.1 k w
  have nP : ∀ b k, b < hX S → b ≠ g + 6 → hP S' b k = hP S b k := fun b k hb w => (e.2.2.1 b hb).2.2.2 k w
  have ho : ∀ o, o = 12 ∨ o = 15 ∨ o = 39 ∨ o = 42 → hP S' (h0 + o) 0 = hP S (h0 + o) 0 := fun o ho => nP _ _ (by omega) (by omega)
  have b39 := c10.1.2.2.1
  have n5 := (pl.2.2.2.2.2 5 (by omega)).2.2.1
  refine ⟨c1.go c2.1 e (fun q hq c => ?_), c2.go e pk (c2.tp e hx), by rw [nI _ _ (by omega) (by omega)]; exact c3, c4.go pk (fun k hk => nP _ _ (by omega) (by omega)), c5.go pk (fun k => nI _ _ (by omega) (by omega)) (fun k => nI _ _ (by omega) (by omega)) (fun k => nP _ _ (by omega) (by omega)), c6.go (nI _ _ (by omega) (by omega)) (fun i => nI _ _ (by omega) (by omega)), c7.go (nI _ _ (by omega) (by omega)) (fun i => nI _ _ (by omega) (by omega)), by rw [nI _ _ (by omega) (by omega)]; exact c8, ?_, c10.go e ho, c11.go (e.2.2.1 _ b39.2.1).2.1 pk (nP _ _ (by omega) (by omega)) (ho 39 (by omega)) (fun k => nI _ _ (by omega) (by omega)) (fun k => nI _ _ (by omega) (by omega)) (fun k => nI _ _ (by omega) (by omega)) (nI _ _ (by omega) (by omega)) (nI _ _ (by omega) (by omega)) (fun k => nI _ _ b39.2.1 (fun w => n5 w.symm)), ?_⟩
  · have b2 : ∀ q ∈ ptrL, q.1 < 60 := by decide
    have b3 : ∀ q ∈ ptrL, q.1 < 55 := by decide
    have := b3 q hq
    have c : h0 + q.1 = g + 6 := c
    omega
  · rcases c9 with ⟨q1, q2⟩ | ⟨g', q1, q2, q3, q4⟩
    · exact Or.inl ⟨by rw [nP _ _ (by omega) (by omega)]; exact q1, q2⟩
    · have hx2 : g' + 9 < hX S := q3.2.1
      have ne : g' ≠ g := fun w => ng (by rw [q1, w])
      have ap : ∀ i j, i ≤ 9 → j ≤ 9 → g' + i ≠ g + j := fun i j hi hj => pl.apart q3 ne hi hj
      have ap0 : g' ≠ g + 6 := ap 0 6 (by omega) (by omega)
      have ap5 : g' ≠ g + 5 := ap 0 5 (by omega) (by omega)
      have ee := e.2.2.1
      refine Or.inr ⟨g', by rw [nP _ _ (by omega) (by omega)]; exact q1, q2, ?_, by rw [bxC.go (ho 12 (by omega)), bxC.go (ho 15 (by omega)), bxC.go (ho 39 (by omega)), bxC.go (ho 42 (by omega))]; exact q4⟩
      obtain ⟨w1, w2, w3, w4, w5, w6, w7⟩ := q3
      have gi : ∀ f s, f ≤ 6 → hI S' (g' + f) s = hI S (g' + f) s := fun f s hf => nI _ _ (by omega) (ap f 5 (by omega) (by omega))
      refine ⟨w1, by omega, by rw [(ee g' (by omega)).1]; exact w3, fun f f1 f2 => by rw [nP _ _ (by omega) ap0]; exact w4 f f1 f2, fun f f1 f2 => by rw [(ee (g' + f) (by omega)).1, (ee (g' + f) (by omega)).2.1]; exact w5 f f1 f2, by rw [show hI S' g' 0 = hI S g' 0 from gi 0 0 (by omega)]; exact w6, fun s hs => ?_⟩
      obtain ⟨u1, u2, u3, u4, u5, a, u6, u7, u8⟩ := w7 s hs
      rw [gi 1 s (by omega), gi 2 s (by omega), gi 3 s (by omega), gi 4 s (by omega), gi 5 s (by omega)]
      exact ⟨u1, u2, u3, u4, u5, a, by rw [nP _ _ (by omega) (ap 6 6 (by omega) (by omega))]; exact u6, u7, pk a _ u7 u8⟩
  · have := c12.go (a := 0) (b := 0) e c10 ho (by omega) (by omega)
    exact this
theorem PgL.wr (h : PgL h0 S g) (e : Ext S S' (W5 g) (V6 g)) (hx : hX S' = hX S) : PgL h0 S' g := by
  obtain ⟨a1, a2, a3, a4, a5, a6⟩ := h
  have ee := e.2.2.1
  have ho : ∀ o, o ≤ 42 → bxC h0 S' o = bxC h0 S o := fun o ho => bxC.go ((ee (h0 + o) (by omega)).2.2.2 0 (by unfold V6; omega))
  refine ⟨a1, by omega, by rw [(ee g (by omega)).1]; exact a3, fun f f1 f2 => by rw [(ee g (by omega)).2.2.2 f (by unfold V6; omega)]; exact a4 f f1 f2, fun f f1 f2 => by rw [(ee (g + f) (by omega)).1, (ee (g + f) (by omega)).2.1]; exact a5 f f1 f2, fun j hj => ?_⟩
  unfold nBx
  rw [ho 12 (by omega), ho 15 (by omega), ho 39 (by omega), ho 42 (by omega)]
  exact a6 j hj
theorem PgD.wr (h : PgD S g D) (hl : PgL h0 S g) (e : Ext S S' (W5 g) (V6 g)) : PgD S' g D := by
  have g9 := hl.2.1
  have nI : ∀ j k, j ≤ 4 → hI S' (g + j) k = hI S (g + j) k := fun j k hj => (e.2.2.1 (g + j) (by omega)).2.2.1 k (by unfold W5; omega)
  refine ⟨by rw [show hI S' g 0 = hI S g 0 from nI 0 0 (by omega)]; exact h.1, fun s hs => ?_⟩
  rw [nI 1 s (by omega), nI 2 s (by omega), nI 3 s (by omega), nI 4 s (by omega)]
  exact h.2 s hs
theorem PK.wr (pl : PgL h0 S g) (e : Ext S S' (W5 g) (V6 g)) : PK h0 S S' := by
  have tg : ∀ f, 1 ≤ f → f ≤ 9 → hT S (g + f) ≠ 7 := fun f f1 f2 => by
    rw [(pl.2.2.2.2.1 f f1 f2).1]; split <;> decide
  exact PK.of e (fun a L ka pa k => by
    have t7 := pa.2.1
    refine ⟨fun w => ?_, fun w => ?_, fun w => ?_, fun w => ?_⟩
    · have w : a = g + 5 := w
      rw [w] at t7; exact tg 5 (by omega) (by omega) t7
    · have w : a + 1 = g + 5 := w
      rw [show a = g + 4 by omega] at t7; exact tg 4 (by omega) (by omega) t7
    · have w : a + 2 = g + 5 := w
      rw [show a = g + 3 by omega] at t7; exact tg 3 (by omega) (by omega) t7
    · have w : a = g + 6 := w
      rw [w] at t7; exact tg 6 (by omega) (by omega) t7)
end PGN
/-! The class: single polynomials, atoms, bounds. -/
section CAT
variable {M : Nat × Nat} {h0 X0 S0 g s : Nat} {S : HS} {G : Gh} {D : List Sq} {f : Nat → Po} {B : Nat → Nat}
theorem c_single {t : Tm} {x0 x1 : Int32} {K : Option Nat → HS → Prop} (hb : CBx h0 S) (h60 : h0 + 60 ≤ hX S) (h1 : x0 = ι (k6 t)) (h2 : x1 = ι t.n) (ht : t.n < 2147483648) (r1 : hX S + 3 ≤ M.1) (r2 : hS S + 6 ≤ M.2) (h : ∀ S', Go h0 3 6 S S' → Ka h0 (hX S) → PolyAt S' (hX S) (if t.n = 0 then [] else [t]) → K (some (hX S)) S') : wp_X6_single M x0 x1 S K := by
  subst h1 h2
  have fin : ∀ S', (∀ W V, Ext S S' W V) → hX S' = hX S + 3 → hS S' ≤ hS S + 6 → PolyAt S' (hX S) (if t.n = 0 then [] else [t]) → K (some (hX S)) S' := fun S' ex hx' hs' pa => by
    have e2 : Ext S S' (Wz h0 S) V0 := ex _ _
    have tp2 : Tp S' := by
      unfold Tp
      rw [hx', show hX S + 3 - 1 = hX S + 2 by omega, show hX S + 3 - 2 = hX S + 1 by omega, pa.2.2.2.2.1, pa.2.2.2.2.2.1]
      decide
    exact h S' ⟨PK.of e2 (ka_z hb), by omega, fun X0 S0 g hc => hc.scr e2 tp2 (by omega) hs', Frz.of e2⟩ (Or.inr (Or.inr (by omega))) pa
  unfold wp_X6_single
  refine ⟨by omega, by omega, fun b1 S1 e1 e2 => ⟨fun n0 => ?_, fun z => ?_⟩⟩
  · subst e1 e2
    have hn0 : t.n ≠ 0 := fun e => n0 (by rw [e]; rfl)
    rw [if_neg hn0] at fin
    unfold w_X6_single_13
    refine c_newPoly (m := 1) rfl (by omega) r1 (by omega) (fun S2 np => ?_)
    obtain ⟨-, n2, n3, n4, n5, n6, n7, n8, n9, n10, n11, n12, n13⟩ := np
    refine ⟨n5, ?_⟩
    unfold wp_X6_push
    refine ⟨fun _ => ⟨n5, n5, hX S + 1, n6, Or.inl n8, fun c2 => ⟨n5, hX S + 1, n6, n5, n8, by rw [n12, n10]; exact ι_in (by omega) (by omega), n5, hX S + 2, n7, n5, n9, ?_, n5, n5, ?_⟩, fun c2 => absurd ?_ c2⟩, fun c => absurd c n0⟩
    · rw [sI_ne (by omega), n12]
      show vp_in _ (hN S2 (hX S + 2))
      rw [n11]; exact ι_in (by omega) (by omega)
    · rw [n12, ι_cl (by omega), sI_ne (by omega), n12, ι_cl (by omega), sI_ne (by omega), sI_ne (by omega), n12, show (1 : Int32) = ι 1 from rfl, ι_add]
      refine fin _ (fun W V => ext_new (ext_new (ext_new (n2 W V) (by omega)) (by omega)) (by omega)) n3 (by show hS S2 ≤ _; omega) ⟨by show hX S + 2 < hX S2; omega, n5, n6, n7, n8, n9, n10, n11, ?_, ?_, fun i hi => ?_⟩
      · rw [sI_eq, if_pos rfl]; rfl
      · rw [sI_eq, if_neg (by omega), sI_ne (by omega), sI_ne (by omega)]; exact n13
      · have hi : i < 1 := hi
        rw [show i = 0 by omega, sI_ne (by omega), sI_ne (by omega), sI_eq, if_pos rfl, sI_ne (by omega), sI_eq, if_pos rfl]
        exact ⟨rfl, rfl⟩
    · rw [n12, n10, ι_of, ι_lt (by omega) (by omega)]; omega
  · subst e1 e2
    have hn0 : t.n = 0 := by
      rw [show (0 : Int32) = ι 0 from rfl, ι_eq ht (by omega)] at z; exact z
    rw [if_pos hn0] at fin
    unfold w_X6_single_13
    refine c_newPoly (m := 0) rfl (by omega) r1 (by omega) (fun S2 np => ?_)
    obtain ⟨-, n2, n3, n4, n5, n6, n7, n8, n9, n10, n11, n12, n13⟩ := np
    refine ⟨n5, ⟨fun c => absurd z c, fun _ => fin S2 n2 n3 (by omega) ⟨by omega, n5, n6, n7, n8, n9, n10, n11, n12, n13, fun i hi => by simp at hi⟩⟩⟩
theorem un_k6 {v : Nat} (hv : v < 3) : un v = k6 (if v = 0 then 1 else 0, if v = 1 then 1 else 0, if v = 2 then 1 else 0, 1) := by
  have : v = 0 ∨ v = 1 ∨ v = 2 := by omega
  rcases this with rfl | rfl | rfl <;> rfl
theorem c_atomPoly {K : Option Nat → HS → Prop} {x1 x2 : Int32} {a : Nat} (hc : CIr h0 X0 S0 S G) (hpp : PrP G.1) (pl : PgL h0 S g) (pm : PgM h0 S g s f) (hx1 : x1 = ι a) (ha : a < 103 + s) (hs : s ≤ 22) (hx2 : x2 = ι G.1) (r1 : hX S + 3 ≤ M.1) (r2 : hS S + 6 ≤ M.2) (h : ∀ S' q, Go h0 3 6 S S' → Ka h0 q → PolyAt S' q (atP G.1 f a) → K (some q) S') : wp_X7_atomPoly M g x1 x2 S K := by
  subst hx1 hx2
  have bs := hc.bs hpp
  have hp := hpp.le
  have h60 := bs.2.1.1
  unfold wp_X7_atomPoly
  unfold atP at h
  rw [show (100 : Int32) = ι 100 from rfl, show (103 : Int32) = ι 103 from rfl, ι_le (by omega) (by omega), ι_le (by omega) (by omega)]
  refine ⟨fun c1 => ⟨fun c2 => ?_, fun c2 => ?_⟩, fun c1 => ?_⟩
  · rw [if_neg (by omega), if_neg (by omega)] at h
    obtain ⟨q, q1, q2, q3⟩ := pm (a - 103) (by omega)
    rw [ι_sub (by omega), ι_cl (by omega)]
    have t6 := pl.2.2.2.2.1 6 (by omega) (by omega)
    refine ⟨pl.2.2.1, g + 6, pl.2.2.2.1 6 (by omega) (by omega), t6.1, by rw [t6.2, if_neg (by omega)]; exact ι_in (by omega) (by omega), q, q1, h S q ((Go.rf h0 S).mo (by omega) (by omega)) q2 q3⟩
  · rw [if_neg (by omega), if_pos (by omega)] at h
    rw [ι_sub (by omega)]
    refine c_unit (v := a - 100) rfl (by omega) ?_
    refine c_single (t := (if a - 100 = 0 then 1 else 0, if a - 100 = 1 then 1 else 0, if a - 100 = 2 then 1 else 0, 1)) bs.2.2.1 h60 (by rw [un_k6 (by omega)]) rfl (by show 1 < 2147483648; omega) r1 r2 (fun S' g1 ka pa => h S' _ g1 ka pa)
  · rw [if_pos (by omega)] at h
    rw [ι_rem (by omega) (by omega)]
    refine ⟨fun c => ?_, c_single (t := (0, 0, 0, a % G.1)) bs.2.2.1 h60 (by show (0 : Int32) = ι (0 * 4096 + 0 * 64 + 0); rfl) (by show ι (a % G.1) = ι (a % G.1); rfl) (by have := Nat.mod_lt a (show 0 < G.1 by omega); show a % G.1 < _; omega) r1 r2 (fun S' g1 ka pa => h S' _ g1 ka pa)⟩
    rw [show (0 : Int32) = ι 0 from rfl, ι_eq (by omega) (by omega)] at c; omega
theorem c_atomBound {K : Int32 → HS → Prop} {a : Nat} (pl : PgL h0 S g) (pb : PgB S g s B) (ha : a < 103 + s) (hs : s ≤ 22) (h : K (ι (atB B a)) S) : wp_X7_atomBound M g (ι a) S K := by
  unfold wp_X7_atomBound
  unfold atB at h
  rw [show (100 : Int32) = ι 100 from rfl, show (103 : Int32) = ι 103 from rfl, ι_le (by omega) (by omega), ι_le (by omega) (by omega)]
  refine ⟨fun c1 => ⟨fun c2 => ?_, fun c2 => ?_⟩, fun c1 => ?_⟩
  · rw [if_neg (by omega), if_neg (by omega)] at h
    rw [ι_sub (by omega), ι_cl (by omega)]
    have t5 := pl.2.2.2.2.1 5 (by omega) (by omega)
    exact ⟨pl.2.2.1, g + 5, pl.2.2.2.1 5 (by omega) (by omega), t5.1, by rw [t5.2, if_neg (by omega)]; exact ι_in (by omega) (by omega), by rw [pb (a - 103) (by omega)]; exact h⟩
  · rw [if_neg (by omega), if_pos (by omega)] at h; exact h
  · rw [if_pos (by omega)] at h; exact h
theorem atB_all {a : Nat} (hB : ∀ k, B k ≤ 999999) : atB B a ≤ 999999 := by
  unfold atB
  split
  · omega
  · split
    · omega
    · exact hB _
theorem ι_mn9 {a : Nat} (h : a < 2147483648) : (if (999999 : Int32) < ι a then (999999 : Int32) else ι a) = ι (min 999999 a) := by
  by_cases c : 999999 < a
  · rw [if_pos (show (999999 : Int32) < ι a by rw [show (999999 : Int32) = ι 999999 from rfl, ι_lt (by omega) h]; exact c)]; show ι 999999 = _; congr 1; omega
  · rw [if_neg (fun w => c (by rw [show (999999 : Int32) = ι 999999 from rfl, ι_lt (by omega) h] at w; exact w))]; congr 1; omega
theorem ι_mx2 {a b : Nat} (ha : a < 2147483648) (hb : b < 2147483648) : (if ι a < ι b then ι b else ι a) = ι (max a b) := by
  by_cases c : a < b
  · rw [if_pos (show ι a < ι b by rw [ι_lt ha hb]; exact c)]; congr 1; omega
  · rw [if_neg (fun w => c (by rw [ι_lt ha hb] at w; exact w))]; congr 1; omega
theorem c_boundOf {K : Int32 → HS → Prop} {x : Int32} (pl : PgL h0 S g) (pd : PgD S g D) (hs : s < D.length) (hD : DOk D) (pb : PgB S g s B) (hB : ∀ k, B k ≤ 999999) (hx : x = ι s) (h : K (ι (bdS B (sq D s).2.1 (sq D s).2.2.1 (sq D s).2.2.2)) S) : wp_X7_boundOf M g x S K := by
  subst hx
  have d23 := hD.1
  obtain ⟨-, d2, d3, d4⟩ := pd.2 s hs
  obtain ⟨o1, o2, o3, o4, o5⟩ := (hD.2.2 s hs).2
  generalize sq D s = c at *
  obtain ⟨nm, sg, l, r⟩ := c
  simp only at d2 d3 d4 o1 o2 o3 o4 o5 h
  have sle : sg ≤ 94 := by unfold isTwo at o1; omega
  have hr : r < 103 + s := by
    rcases o1 with q | q | q
    · have := o5 q; omega
    · have := o4 q; omega
    · exact o3 q
  have lB := atB_all (a := l) hB
  have rB := atB_all (a := r) hB
  have t2 := pl.2.2.2.2.1 2 (by omega) (by omega)
  have t3 := pl.2.2.2.2.1 3 (by omega) (by omega)
  have t4 := pl.2.2.2.2.1 4 (by omega) (by omega)
  have v23 : ∀ f, (f = 2 ∨ f = 3 ∨ f = 4) → vp_in (ι s) (hN S (g + f)) := fun f hf => by
    rw [(pl.2.2.2.2.1 f (by omega) (by omega)).2, if_neg (by omega)]; exact ι_in (by omega) (by omega)
  unfold wp_X7_boundOf
  rw [ι_cl (by omega)]
  refine ⟨pl.2.2.1, g + 3, pl.2.2.2.1 3 (by omega) (by omega), t3.1, v23 3 (by omega), pl.2.2.1, ?_⟩
  rw [d3]
  refine c_atomBound pl pb o2 (by omega) ⟨pl.2.2.1, g + 4, pl.2.2.2.1 4 (by omega) (by omega), t4.1, v23 4 (by omega), pl.2.2.1, ?_⟩
  rw [d4]
  refine c_atomBound pl pb hr (by omega) ⟨pl.2.2.1, g + 2, pl.2.2.2.1 2 (by omega) (by omega), t2.1, v23 2 (by omega), ?_⟩
  rw [d2, show (42 : Int32) = ι 42 from rfl, show (43 : Int32) = ι 43 from rfl, show (45 : Int32) = ι 45 from rfl, show (94 : Int32) = ι 94 from rfl, ι_eq (by omega) (by omega), ι_eq (by omega) (by omega), ι_eq (by omega) (by omega), ι_eq (by omega) (by omega), ι_add, ι_mn9 (by omega), ι_mx2 (by omega) (by omega)]
  have mx2 : sg ≠ 94 → sg ≠ 42 → sg ≠ 0 → K (ι (max (atB B l) (atB B r))) S := fun n1 n2 n3 => by
    have e : bdS B sg l r = max (atB B l) (atB B r) := by unfold bdS; rw [if_neg n1, if_neg n2, if_neg n3]; omega
    rw [e] at h; exact h
  refine ⟨fun e => ?_, fun e => mx2 (by omega) (by omega) (by omega), fun e => mx2 (by omega) (by omega) (by omega), fun e => ⟨pl.2.2.1, g + 4, pl.2.2.2.1 4 (by omega) (by omega), t4.1, v23 4 (by omega), ?_⟩, fun e => ?_⟩
  · have e2 : bdS B sg l r = min 999999 (atB B l + atB B r) := by unfold bdS; rw [if_neg (by omega), if_pos e]
    rw [e2] at h; exact h
  · have r9 := o4 e
    have mle : atB B l * r ≤ 999999 * 9 := Nat.mul_le_mul lB r9
    have e2 : bdS B sg l r = min 999999 (atB B l * r) := by unfold bdS; rw [if_pos e]
    rw [e2] at h
    rw [d4, ι_mul, ι_mn9 (by omega)]; exact h
  · have e0 : sg = 0 := by unfold isTwo at o1; omega
    have e2 : bdS B sg l r = atB B l := by unfold bdS; rw [if_neg (by omega), if_neg (by omega), if_pos e0]; omega
    rw [e2] at h; exact h
end CAT
