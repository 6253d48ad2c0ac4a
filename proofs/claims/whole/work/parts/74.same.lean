/-! Zeros and witnesses on both sides. -/
abbrev eqA (p : Nat) (A B : Po) (i : Nat) : Prop := vF p A (i / p / p) (i / p % p) (i % p) = vF p B (i / p / p) (i / p % p) (i % p)
def wsc (p : Nat) (A B : Po) : Nat → Nat → Int32
  | 0, _ => -1
  | k + 1, i => if eqA p A B i then wsc p A B k (i + 1) else ι i
def zc (p : Nat) (A : Po) (n : Nat) : Nat := sumTo n (fun i => if vF p A (i / p / p) (i / p % p) (i % p) = 0 then 1 else 0)
theorem zc_le {p n : Nat} {A : Po} : zc p A n ≤ n * 1 := sumTo_le (fun i _ => by split <;> omega)
theorem idx_i {p i : Nat} (hp : 0 < p) (hi : i < p * p * p) : (i / p / p * p + i / p % p) * p + i % p = i ∧ i / p / p < p ∧ i / p % p < p ∧ i % p < p := by
  have h1 := Nat.div_add_mod i p
  have h2 := Nat.div_add_mod (i / p) p
  rw [Nat.mul_comm] at h1 h2
  refine ⟨by rw [h2, h1], ?_, Nat.mod_lt _ hp, Nat.mod_lt _ hp⟩
  rw [Nat.div_div_eq_div_mul]
  exact Nat.div_lt_of_lt_mul hi
theorem Ld.at {S S' : HS} {q p : Nat} {A B : Po} (h : Ld S S' q p A B) (hp : 0 < p) {i : Nat} (hi : i < p * p * p) : hI S' (q + 1) i = ι (dfF p A B (i / p / p) (i / p % p) (i % p)) := by
  obtain ⟨e, h1, h2, h3⟩ := idx_i hp hi
  have := h.2.2.2.2.2.2 _ _ _ h1 h2 h3
  rwa [e] at this
theorem dfF_lt {p a b c : Nat} {A B : Po} (hp : 0 < p) : dfF p A B a b c < p := Nat.mod_lt _ hp
theorem c_firstNotZero {M : Nat × Nat} {p q : Nat} {A B : Po} {S0 S : HS} {K : Int32 → HS → Prop} (hpp : PrP p) (hl : Ld S0 S q p A B) (h : K (wsc p A B (p * p * p) 0) S) : wp_X5_firstNotZero M q S K := by
  have hp := hpp.le
  obtain ⟨p3, p4⟩ := p3_le hpp
  obtain ⟨-, -, -, hq, -, i3, -⟩ := id hl
  have key : ∀ (k i : Nat), i + k = p * p * p → K (wsc p A B k i) S → wl_X5_firstNotZero_2 M K (k + 1) q (ι i) S := by
    intro k
    induction k with
    | zero =>
      intro i hi hk
      show wb_X5_firstNotZero_2 _ _ _ _ _ _
      unfold wb_X5_firstNotZero_2
      rw [i3]
      exact ⟨hq.1, fun _ => hk, fun c => absurd (by rw [ι_le (by omega) (by omega)]; omega) c⟩
    | succ k ih =>
      intro i hi hk
      have hd := dfF_lt (p := p) (A := A) (B := B) (a := i / p / p) (b := i / p % p) (c := i % p) (by omega)
      show wb_X5_firstNotZero_2 _ _ _ _ _ _
      unfold wb_X5_firstNotZero_2
      rw [i3, ι_cl (by omega)]
      refine ⟨hq.1, fun c => absurd c (by rw [ι_le (by omega) (by omega)]; omega), fun _ => ⟨hq.1, q + 1, hq.2.1, hq.2.2.2.1, by rw [hq.2.2.2.2.2.1]; exact ι_in (by omega) (by omega), ?_⟩⟩
      rw [hl.at (by omega) (by omega), show (0 : Int32) = ι 0 from rfl, ι_eq (by omega) (by omega), dfF_0 hpp, show (1 : Int32) = ι 1 from rfl, ι_add]
      rw [wsc] at hk
      refine ⟨fun c => ih (i + 1) (by omega) ?_, fun c => ?_⟩
      · rwa [if_pos (show eqA p A B i from c)] at hk
      · rwa [if_neg (show ¬ eqA p A B i from c)] at hk
  exact ⟨p * p * p + 1, key (p * p * p) 0 (by omega) h⟩
theorem c_zeros {M : Nat × Nat} {p q : Nat} {A : Po} {S0 S : HS} {K : Int32 → HS → Prop} (hpp : PrP p) (hl : Ld S0 S q p A []) (h : K (ι (zc p A (p * p * p))) S) : wp_X5_zeros M q S K := by
  have hp := hpp.le
  obtain ⟨p3, p4⟩ := p3_le hpp
  obtain ⟨-, -, -, hq, -, i3, -⟩ := id hl
  have key : ∀ (k i : Nat), i + k = p * p * p → wl_X5_zeros_4 M K (k + 1) q (ι (zc p A i)) (ι i) S := by
    intro k
    induction k with
    | zero =>
      intro i hi
      show wb_X5_zeros_4 _ _ _ _ _ _ _
      unfold wb_X5_zeros_4
      rw [i3]
      exact ⟨hq.1, fun _ => by rw [show i = p * p * p by omega]; exact h, fun c => absurd (by rw [ι_le (by omega) (by omega)]; omega) c⟩
    | succ k ih =>
      intro i hi
      have hd := dfF_lt (p := p) (A := A) (B := []) (a := i / p / p) (b := i / p % p) (c := i % p) (by omega)
      have hz := zc_le (p := p) (A := A) (n := i)
      show wb_X5_zeros_4 _ _ _ _ _ _ _
      unfold wb_X5_zeros_4
      rw [i3, ι_cl (by omega)]
      refine ⟨hq.1, fun c => absurd c (by rw [ι_le (by omega) (by omega)]; omega), fun _ => ⟨hq.1, q + 1, hq.2.1, hq.2.2.2.1, by rw [hq.2.2.2.2.2.1]; exact ι_in (by omega) (by omega), ?_⟩⟩
      rw [hl.at (by omega) (by omega), show (0 : Int32) = ι 0 from rfl, ι_eq (by omega) (by omega), dfF_nil, show (1 : Int32) = ι 1 from rfl, ι_add, ι_add, ι_add]
      have hi1 := ih (i + 1) (by omega)
      unfold zc at hi1 ⊢
      rw [sumTo] at hi1
      refine ⟨fun c => ?_, fun c => ?_⟩
      · rw [if_neg c] at hi1; exact hi1
      · rw [if_pos c] at hi1; exact hi1
  exact ⟨p * p * p + 1, key (p * p * p) 0 (by omega)⟩
theorem idx_step {p x y : Nat} : (x * p + y) * p + p = (x * p + (y + 1)) * p + 0 := by rw [← Nat.add_assoc, Nat.succ_mul]; rfl
theorem idx_step2 {p x : Nat} : (x * p + p) * p + 0 = ((x + 1) * p + 0) * p + 0 := by rw [Nat.succ_mul]; rfl
section WIT
variable {p s1 s2 : Nat} {A B : Po} {R : RS} {K : Int32 → RS → Prop}
theorem s_witnessOf (hpp : PrP p) (hp1 : R 0 1 = ι p) (wa : wf p A) (wb : wf p B) (la : Sl R s1 A) (lb : Sl R s2 B) (h1 : s1 < 56) (h2 : s2 < 56) (h : ∀ R', Fr R R' [8] [] → K (wsc p A B (p * p * p) 0) R') : wp_witnessOf (ι s1) (ι s2) R K := by
  have hp := hpp.le
  obtain ⟨p3, p4⟩ := p3_le hpp
  have goA : ∀ {R1 : RS}, Fr R R1 [8] [] → Sl R1 s1 A := fun r => la.go wa.1 (r.fs [] (by simp)) (by simp)
  have goB : ∀ {R1 : RS}, Fr R R1 [8] [] → Sl R1 s2 B := fun r => lb.go wb.1 (r.fs [] (by simp)) (by simp)
  have goP : ∀ {R1 : RS}, Fr R R1 [8] [] → R1 0 1 = ι p := fun r => by rw [r.2 1 (by simp)]; exact hp1
  -- z
  have kz : ∀ (K2 : Int32 → Int32 → Int32 → RS → Prop) (K13 : Int32 → Int32 → Int32 → Int32 → RS → Prop) (x y : Nat), x < p → y < p → (∀ R1, Fr R R1 [8] [] → wsc p A B (p * p * p) 0 = wsc p A B (p * p * p - ((x * p + (y + 1)) * p + 0)) ((x * p + (y + 1)) * p + 0) → K13 (ι s1) (ι s2) (ι x) (ι (y + 1)) R1) → ∀ (k z : Nat) (R1 : RS), z + k = p → Fr R R1 [8] [] → wsc p A B (p * p * p) 0 = wsc p A B (p * p * p - ((x * p + y) * p + z)) ((x * p + y) * p + z) → wl_witnessOf_25 K2 K13 K (k + 1) (ι s1) (ι s2) (ι x) (ι y) (ι z) R1 := by
    intro K2 K13 x y hx hy hn k
    induction k with
    | zero =>
      intro z R1 hz r1 e
      show wb_witnessOf_25 _ _ _ _ _ _ _ _ _ _
      unfold wb_witnessOf_25
      rw [goP r1, show (1 : Int32) = ι 1 from rfl, ι_add]
      refine ⟨fun _ => hn R1 r1 ?_, fun c => absurd (by rw [ι_le (by omega) (by omega)]; omega) c⟩
      rw [show z = p by omega] at e
      rw [← idx_step]
      exact e
    | succ k ih =>
      intro z R1 hz r1 e
      show wb_witnessOf_25 _ _ _ _ _ _ _ _ _ _
      unfold wb_witnessOf_25
      rw [goP r1]
      refine ⟨fun c => absurd c (by rw [ι_le (by omega) (by omega)]; omega), fun _ => ?_⟩
      refine s_valueOf hpp (goP r1) wa (goA r1) rfl h1 rfl rfl rfl hx hy (by omega) (fun R2 r2 => ?_)
      have r12 := r1.tr r2
      refine s_valueOf hpp (goP r12) wb (goB r12) rfl h2 rfl rfl rfl hx hy (by omega) (fun R3 r3 => ?_)
      have r13 := r12.tr r3
      have hlt := idx_lt hx hy (show z < p by omega)
      obtain ⟨u1, u2, u3⟩ := idx_x (p := p) (x := x) hy (show z < p by omega)
      have va := vF_lt (p := p) (x := x) (y := y) (z := z) (L := A) (by omega)
      have vb := vF_lt (p := p) (x := x) (y := y) (z := z) (L := B) (by omega)
      rw [show p * p * p - ((x * p + y) * p + z) = p * p * p - ((x * p + y) * p + (z + 1)) + 1 by omega, wsc] at e
      have eq : eqA p A B ((x * p + y) * p + z) ↔ vF p A x y z = vF p B x y z := by
        unfold eqA
        rw [u1, u2, u3]
      rw [ι_eq (by omega) (by omega), goP r13, ι_mul, ι_add, ι_mul, ι_add, show (1 : Int32) = ι 1 from rfl, ι_add]
      refine ⟨fun c => ih (z + 1) R3 (by omega) r13 ?_, fun c => ?_⟩
      · rw [if_pos (eq.mpr c)] at e
        exact e
      · rw [if_neg (fun q => c (eq.mp q))] at e
        rw [← e]
        exact h R3 r13
  have ky : ∀ (K2 : Int32 → Int32 → Int32 → RS → Prop) (x : Nat), x < p → (∀ R1, Fr R R1 [8] [] → wsc p A B (p * p * p) 0 = wsc p A B (p * p * p - (((x + 1) * p + 0) * p + 0)) (((x + 1) * p + 0) * p + 0) → K2 (ι s1) (ι s2) (ι (x + 1)) R1) → ∀ (k y : Nat) (R1 : RS), y + k = p → Fr R R1 [8] [] → wsc p A B (p * p * p) 0 = wsc p A B (p * p * p - ((x * p + y) * p + 0)) ((x * p + y) * p + 0) → wl_witnessOf_13 K2 K (k + 1) (ι s1) (ι s2) (ι x) (ι y) R1 := by
    intro K2 x hx hn k
    induction k with
    | zero =>
      intro y R1 hy r1 e
      show wb_witnessOf_13 _ _ _ _ _ _ _ _
      unfold wb_witnessOf_13
      rw [goP r1, show (1 : Int32) = ι 1 from rfl, ι_add]
      refine ⟨fun _ => hn R1 r1 ?_, fun c => absurd (by rw [ι_le (by omega) (by omega)]; omega) c⟩
      rw [show y = p by omega] at e
      rw [← idx_step2]
      exact e
    | succ k ih =>
      intro y R1 hy r1 e
      show wb_witnessOf_13 _ _ _ _ _ _ _ _
      unfold wb_witnessOf_13
      rw [goP r1]
      refine ⟨fun c => absurd c (by rw [ι_le (by omega) (by omega)]; omega), fun _ => ⟨p + 1, ?_⟩⟩
      exact kz K2 _ x y hx (by omega) (fun R2 r2 e2 => ih (y + 1) R2 (by omega) r2 e2) p 0 R1 (by omega) r1 e
  have kx : ∀ (k x : Nat) (R1 : RS), x + k = p → Fr R R1 [8] [] → wsc p A B (p * p * p) 0 = wsc p A B (p * p * p - ((x * p + 0) * p + 0)) ((x * p + 0) * p + 0) → wl_witnessOf_2 K (k + 1) (ι s1) (ι s2) (ι x) R1 := by
    intro k
    induction k with
    | zero =>
      intro x R1 hx r1 e
      show wb_witnessOf_2 _ _ _ _ _ _
      unfold wb_witnessOf_2
      rw [goP r1]
      refine ⟨fun _ => ?_, fun c => absurd (by rw [ι_le (by omega) (by omega)]; omega) c⟩
      have := h R1 r1
      rw [e, show p * p * p - ((x * p + 0) * p + 0) = 0 by rw [show x = p by omega, Nat.add_zero, Nat.add_zero, Nat.sub_self]] at this
      exact this
    | succ k ih =>
      intro x R1 hx r1 e
      show wb_witnessOf_2 _ _ _ _ _ _
      unfold wb_witnessOf_2
      rw [goP r1]
      refine ⟨fun c => absurd c (by rw [ι_le (by omega) (by omega)]; omega), fun _ => ⟨p + 1, ?_⟩⟩
      exact ky _ x (by omega) (fun R2 r2 e2 => ih (x + 1) R2 (by omega) r2 e2) p 0 R1 (by omega) r1 e
  refine ⟨p + 1, kx p 0 R (by omega) (Fr.rf _ _ _) ?_⟩
  rw [Nat.zero_mul, Nat.zero_mul, Nat.sub_zero]
theorem s_zeros (hpp : PrP p) (hp1 : R 0 1 = ι p) (wa : wf p A) (la : Sl R s1 A) (h1 : s1 < 56) (h : ∀ R', Fr R R' [8] [] → K (ι (zc p A (p * p * p))) R') : wp_zeros (ι s1) R K := by
  have hp := hpp.le
  obtain ⟨p3, p4⟩ := p3_le hpp
  have goA : ∀ {R1 : RS}, Fr R R1 [8] [] → Sl R1 s1 A := fun r => la.go wa.1 (r.fs [] (by simp)) (by simp)
  have goP : ∀ {R1 : RS}, Fr R R1 [8] [] → R1 0 1 = ι p := fun r => by rw [r.2 1 (by simp)]; exact hp1
  have kz : ∀ (K4 : Int32 → Int32 → Int32 → RS → Prop) (K15 : Int32 → Int32 → Int32 → Int32 → RS → Prop) (x y : Nat), x < p → y < p → (∀ R1, Fr R R1 [8] [] → K15 (ι s1) (ι (zc p A ((x * p + (y + 1)) * p + 0))) (ι x) (ι (y + 1)) R1) → ∀ (k z : Nat) (R1 : RS), z + k = p → Fr R R1 [8] [] → wl_zeros_27 K4 K15 K (k + 1) (ι s1) (ι (zc p A ((x * p + y) * p + z))) (ι x) (ι y) (ι z) R1 := by
    intro K4 K15 x y hx hy hn k
    induction k with
    | zero =>
      intro z R1 hz r1
      show wb_zeros_27 _ _ _ _ _ _ _ _ _ _
      unfold wb_zeros_27
      rw [goP r1, show (1 : Int32) = ι 1 from rfl, ι_add]
      refine ⟨fun _ => ?_, fun c => absurd (by rw [ι_le (by omega) (by omega)]; omega) c⟩
      rw [show z = p by omega, idx_step]
      exact hn R1 r1
    | succ k ih =>
      intro z R1 hz r1
      show wb_zeros_27 _ _ _ _ _ _ _ _ _ _
      unfold wb_zeros_27
      rw [goP r1]
      refine ⟨fun c => absurd c (by rw [ι_le (by omega) (by omega)]; omega), fun _ => ?_⟩
      refine s_valueOf hpp (goP r1) wa (goA r1) rfl h1 rfl rfl rfl hx hy (by omega) (fun R2 r2 => ?_)
      obtain ⟨u1, u2, u3⟩ := idx_x (p := p) (x := x) hy (show z < p by omega)
      have va := vF_lt (p := p) (x := x) (y := y) (z := z) (L := A) (by omega)
      have hi1 := ih (z + 1) R2 (by omega) (r1.tr r2)
      have e : zc p A ((x * p + y) * p + (z + 1)) = zc p A ((x * p + y) * p + z) + (if vF p A x y z = 0 then 1 else 0) := by
        show sumTo ((x * p + y) * p + z + 1) _ = _
        rw [sumTo, u1, u2, u3]
        rfl
      rw [e] at hi1
      rw [show (0 : Int32) = ι 0 from rfl, ι_eq (by omega) (by omega), show (1 : Int32) = ι 1 from rfl, ι_add, ι_add, ι_add]
      refine ⟨fun c => ?_, fun c => ?_⟩
      · rw [if_neg c] at hi1; exact hi1
      · rw [if_pos c] at hi1; exact hi1
  have ky : ∀ (K4 : Int32 → Int32 → Int32 → RS → Prop) (x : Nat), x < p → (∀ R1, Fr R R1 [8] [] → K4 (ι s1) (ι (zc p A (((x + 1) * p + 0) * p + 0))) (ι (x + 1)) R1) → ∀ (k y : Nat) (R1 : RS), y + k = p → Fr R R1 [8] [] → wl_zeros_15 K4 K (k + 1) (ι s1) (ι (zc p A ((x * p + y) * p + 0))) (ι x) (ι y) R1 := by
    intro K4 x hx hn k
    induction k with
    | zero =>
      intro y R1 hy r1
      show wb_zeros_15 _ _ _ _ _ _ _ _
      unfold wb_zeros_15
      rw [goP r1, show (1 : Int32) = ι 1 from rfl, ι_add]
      refine ⟨fun _ => ?_, fun c => absurd (by rw [ι_le (by omega) (by omega)]; omega) c⟩
      rw [show y = p by omega, idx_step2]
      exact hn R1 r1
    | succ k ih =>
      intro y R1 hy r1
      show wb_zeros_15 _ _ _ _ _ _ _ _
      unfold wb_zeros_15
      rw [goP r1]
      refine ⟨fun c => absurd c (by rw [ι_le (by omega) (by omega)]; omega), fun _ => ⟨p + 1, ?_⟩⟩
      exact kz K4 _ x y hx (by omega) (fun R2 r2 => ih (y + 1) R2 (by omega) r2) p 0 R1 (by omega) r1
  have kx : ∀ (k x : Nat) (R1 : RS), x + k = p → Fr R R1 [8] [] → wl_zeros_4 K (k + 1) (ι s1) (ι (zc p A ((x * p + 0) * p + 0))) (ι x) R1 := by
    intro k
    induction k with
    | zero =>
      intro x R1 hx r1
      show wb_zeros_4 _ _ _ _ _ _
      unfold wb_zeros_4
      rw [goP r1]
      refine ⟨fun _ => ?_, fun c => absurd (by rw [ι_le (by omega) (by omega)]; omega) c⟩
      rw [show x = p by omega, Nat.add_zero, Nat.add_zero]
      exact h R1 r1
    | succ k ih =>
      intro x R1 hx r1
      show wb_zeros_4 _ _ _ _ _ _
      unfold wb_zeros_4
      rw [goP r1]
      refine ⟨fun c => absurd c (by rw [ι_le (by omega) (by omega)]; omega), fun _ => ⟨p + 1, ?_⟩⟩
      exact ky _ x (by omega) (fun R2 r2 => ih (x + 1) R2 (by omega) r2) p 0 R1 (by omega) r1
  have := kx p 0 R (by omega) (Fr.rf _ _ _)
  rw [Nat.zero_mul, Nat.zero_mul] at this
  exact ⟨p + 1, this⟩
end WIT
/-! same, witness. -/
theorem c_isLike {M : Nat × Nat} {a b p : Nat} {A B : Po} {S : HS} {K : Int32 → HS → Prop} (hp : p ≤ 13) (wa : wf p A) (wb : wf p B) (pa : PolyAt S a A) (pb : PolyAt S b B) (h1 : A = B → K 1 S) (h0 : A ≠ B → K 0 S) : wp_X6_isLike M a b S K := by
  obtain ⟨-, p2, p3, p4, p5, p6, p7, p8, p7', p8', p9, p11⟩ := pa.rd wa
  obtain ⟨-, q2, q3, q4, q5, q6, q7, q8, q7', q8', q9, q11⟩ := pb.rd wb
  have la := wa.1
  have lb := wb.1
  unfold wp_X6_isLike
  rw [p9, q9, ι_eq (by omega) (by omega)]
  refine ⟨p2, q2, fun hl => ⟨A.length + 1, ?_⟩, fun c => h0 (fun e => c (by rw [e]))⟩
  have key : ∀ (k i : Nat), i + k = A.length → (∀ j, j < i → rt A j = rt B j) → wl_X6_isLike_15 M K (k + 1) a b (ι i) S := by
    intro k
    induction k with
    | zero =>
      intro i hi he
      show wb_X6_isLike_15 _ _ _ _ _ _ _
      unfold wb_X6_isLike_15
      rw [p9]
      refine ⟨p2, fun _ => h1 (tm_ext hl (fun j hj => ?_)), fun c => absurd (by rw [ι_le (by omega) (by omega)]; omega) c⟩
      have := he (A.length - 1 - j) (by omega)
      unfold rt at this
      rw [← hl, show A.length - 1 - (A.length - 1 - j) = j by omega] at this
      exact this
    | succ k ih =>
      intro i hi he
      have sa := rt_sm wa (i := i) (by omega)
      have sb := rt_sm wb (i := i) (by omega)
      have na := rt_n wa (i := i) (by omega)
      have nb := rt_n wb (i := i) (by omega)
      have ka := k6_lt sa
      have kb := k6_lt sb
      show wb_X6_isLike_15 _ _ _ _ _ _ _
      unfold wb_X6_isLike_15
      rw [p9, ι_cl (by omega)]
      refine ⟨p2, fun c => absurd c (by rw [ι_le (by omega) (by omega)]; omega), fun _ => ⟨p2, a + 1, p3, p5, ι_in (by omega) (by omega), q2, b + 1, q3, q5, ι_in (by omega) (by omega), ?_⟩⟩
      rw [(p11 i (by omega)).1, (q11 i (by omega)).1, ι_eq (by omega) (by omega)]
      refine ⟨fun c => h0 (fun e => c (by rw [e])), fun c => ⟨p2, a + 2, p4, p6, ι_in (by omega) (by omega), q2, b + 2, q4, q6, ι_in (by omega) (by omega), ?_⟩⟩
      rw [(p11 i (by omega)).2, (q11 i (by omega)).2, ι_eq (by omega) (by omega), show (1 : Int32) = ι 1 from rfl, ι_add]
      refine ⟨fun c2 => ih (i + 1) (by omega) (fun j hj => ?_), fun c2 => h0 (fun e => c2 (by rw [e]))⟩
      by_cases e : j = i
      · subst e
        have w := k6_inj sa sb c
        exact Tm.ext4 w.1 w.2.1 w.2.2 c2
      · exact he j (by omega)
  exact key A.length 0 (by omega) (fun j hj => by omega)
theorem rs_q {h0 a d : Nat} {S : HS} (h : Rs h0 S a) (hd : d = 22 ∨ d = 33 ∨ d = 36) : ∀ j, j ≤ 2 → a + j ≠ h0 + d ∧ a + j ≠ h0 + d + 1 ∧ a + j ≠ h0 + d + 2 := by
  intro j hj
  have h1 := (h.2 j hj).1
  have h2 := (h.2 j hj).2.1
  rcases hd with rfl | rfl | rfl
  · clear h2; omega
  · clear h1; omega
  · clear h1; omega
theorem Wq.z {h0 d : Nat} {S : HS} (hd : d = 22 ∨ d = 33 ∨ d = 36) : ∀ b k, Wq (h0 + d) b k → Wz h0 S b k := fun b k h => by
  unfold Wq at h
  unfold Wz
  omega
theorem c_firstUnlike {M : Nat × Nat} {h0 p a b : Nat} {A B : Po} {S : HS} {K : Int32 → HS → Prop} (hb : Bs h0 S p) (wa : wf p A) (wb : wf p B) (kaa : Ka h0 a) (pa : PolyAt S a A) (kab : Ka h0 b) (pb : PolyAt S b B) (h : ∀ S', Ext S S' (Wz h0 S) V0 → hX S' = hX S → hS S' = hS S → K (wsc p A B (p * p * p) 0) S') : wp_X11_firstUnlike M h0 a b S K := by
  obtain ⟨hL, ht, hbb, hp5, hpp⟩ := id hb
  have h60 := ht.1
  unfold wp_X11_firstUnlike
  refine ⟨hL.t0, h0 + 22, hL.p0_3, hL.t0, h0 + 5, hL.p0_2, hL.t5, hL.t22, ?_⟩
  refine c_load (q := h0 + 22) hpp (PtL.q22 hL h60) wa wb (pa.rd wa) (pb.rd wb) (rs_q (rs_ka kaa pa hbb) (by omega)) (rs_q (rs_ka kab pb hbb) (by omega)) hp5 (fun S1 ld => ?_)
  have e1 : Ext S S1 (Wz h0 S) V0 := ld.1.mo (Wq.z (by omega)) (fun _ _ c => c)
  have b1 := hb.go e1 ld.2.1
  refine ⟨b1.1.t0, h0 + 22, b1.1.p0_3, b1.1.t22, c_firstNotZero hpp ld ?_⟩
  exact h S1 e1 ld.2.1 ld.2.2.1
theorem CI.bs {h0 s0 n p : Nat} {P : Nat → Po} {A : List (Nat × Po)} {T Tx : List Nat} {ft : Int32} {Q : List Sp} {B : Nat → Nat} {S : HS} (h : CI h0 s0 n S (p, P, A, T, Tx, ft, Q, B)) (hp : PrP p) : Bs h0 S p := ⟨h.1, h.2.1, h.2.2.2.2.2.2.2.2.2.1, h.2.2.1, hp⟩
theorem RI.fr8 {R R' : RS} {g : Gh} (h : RI R g) (hv : VI g) (r : Fr R R' [8] []) : RI R' g := by
  have hG : G0 R g.1 := h.1
  exact h.scr (ts := []) hv (hG.fr r (by simp) (by simp) (by simp) (by simp)) r (r.fs [] (by simp)) (by decide) (by decide) (by simp)
theorem call_16 {h0 s0 n : Nat} {S : HS} {R : RS} (hn : n < 512) (y1 y2 : Int32) (v : Int64) (h : Inv h0 s0 n S R) : wq_16 (Mx h0 s0) h0 y1 y2 S R v (Inv h0 s0 (n + 1)) := by
  obtain ⟨⟨p, P, A, T, Tx, ft, Q, B⟩, hc, hv, hr⟩ := h
  have hL := hc.1
  have hroom := hc.room hn
  have hpp := hv.1
  have hX0 := hc.2.1.1
  have hr0 := hr.code hv 0
  have fr : ∀ S'' x, Re S S'' → Inv h0 s0 (n + 1) S'' (up R 0 0 x) := fun S'' x r => ⟨_, hc.re r, hv, hr.code hv x⟩
  have rm : hX S + 1 ≤ (Mx h0 s0).1 ∧ hS S + 6 ≤ (Mx h0 s0).2 := ⟨by show hX S + 1 ≤ h0 + 601024; omega, by show hS S + 6 ≤ s0 + 7293034; omega⟩
  have bad : ∀ S'', Re S S'' → w_witness_20 (fun q R1 => wp_thrown R1 (fun t R2 => t = 1 ∧ ((1 : Int32) = 0 → v = Int32.toInt64 q) ∧ Inv h0 s0 (n + 1) S'' R2)) y1 y2 1 R := fun S'' re => by
    unfold w_witness_20
    rw [upE, if_pos rfl]
    exact ⟨fun c => absurd c (by decide), fun _ => ⟨by rw [upE, if_pos rfl], fun c => absurd c (by decide), fr S'' 1 re⟩⟩
  refine ⟨hL.t0, ?_⟩
  unfold wp_X11_witness
  refine ⟨hL.t0, c_polyAt hL hc.2.2.2.1 rm.1 rm.2 (fun i a hi e1 kaa pa => ⟨hL.t0, c_polyAt hL hc.2.2.2.1 rm.1 rm.2 (fun j b hj e2 kab pb => ⟨a, rfl, b, rfl, hL.t0, ?_⟩) (fun hne => ⟨rfl, fun S'' re => ?_⟩)⟩) (fun hne => ⟨rfl, fun S'' re => ?_⟩)⟩
  · refine c_firstUnlike (hc.bs hpp) (hv.2.1 i hi) (hv.2.1 j hj) kaa pa kab pb (fun S1 e3 x3 s3 => ?_)
    unfold wp_witness
    refine s_isPlace (fun _ _ _ => ⟨fun c => absurd c (by decide), fun _ => ?_⟩) (fun h => absurd e1 (h i hi))
    refine s_isPlace (fun _ _ _ => ⟨fun _ => ?_, fun c => absurd c (by decide)⟩) (fun h => absurd e2 (h j hj))
    unfold w_witness_20
    rw [upE, if_pos rfl]
    refine ⟨fun _ => ?_, fun c => absurd (by decide) c⟩
    subst e1 e2
    refine s_witnessOf hpp hr0.1.1 (hv.2.1 i hi) (hv.2.1 j hj) (hr0.2.1 i hi) (hr0.2.1 j hj) (by omega) (by omega) (fun R' r' => ⟨?_, fun _ => rfl, ?_⟩)
    · rw [r'.2 0 (by simp), upE, if_pos rfl]
    · exact ⟨_, hc.scr e3 (hc.2.1.tp e3 x3) (by omega) (by omega), hv, hr0.fr8 hv r'⟩
  · unfold wp_witness
    refine s_isPlace (fun _ _ _ => ⟨fun c => absurd c (by decide), fun _ => ?_⟩) (fun h => absurd e1 (h i hi))
    exact s_isPlace (fun k hk e => absurd e (hne k hk)) (fun _ => ⟨fun c => absurd rfl c, fun _ => bad S'' re⟩)
  · unfold wp_witness
    exact s_isPlace (fun k hk e => absurd e (hne k hk)) (fun _ => ⟨fun _ => bad S'' re, fun c => absurd rfl c⟩)
theorem call_15 {h0 s0 n : Nat} {S : HS} {R : RS} (hn : n < 512) (y1 y2 y3 : Int32) (v : Int64) (h : Inv h0 s0 n S R) : wq_15 (Mx h0 s0) h0 y1 y2 y3 S R v (Inv h0 s0 (n + 1)) := by
  obtain ⟨⟨p, P, A, T, Tx, ft, Q, B⟩, hc, hv, hr⟩ := h
  have hL := hc.1
  have hroom := hc.room hn
  have hpp := hv.1
  have hple := hpp.le
  have hX0 := hc.2.1.1
  have hr0 := hr.code hv 0
  unfold wq_15
  generalize bz y3 = y at *
  have fr : ∀ S'' x, Re S S'' → Inv h0 s0 (n + 1) S'' (up R 0 0 x) := fun S'' x r => ⟨_, hc.re r, hv, hr.code hv x⟩
  have rm : hX S + 1 ≤ (Mx h0 s0).1 ∧ hS S + 6 ≤ (Mx h0 s0).2 := ⟨by show hX S + 1 ≤ h0 + 601024; omega, by show hS S + 6 ≤ s0 + 7293034; omega⟩
  have bad : ∀ S'', Re S S'' → w_same_20 (fun q R1 => wp_thrown R1 (fun t R2 => t = 1 ∧ ((1 : Int32) = 0 → v = bl q) ∧ Inv h0 s0 (n + 1) S'' R2)) y1 y2 y 1 R := fun S'' re => by
    unfold w_same_20
    rw [upE, if_pos rfl]
    exact ⟨fun c => absurd c (by decide), fun _ => ⟨by rw [upE, if_pos rfl], fun c => absurd c (by decide), fr S'' 1 re⟩⟩
  refine ⟨hL.t0, ?_⟩
  unfold wp_X11_same
  refine ⟨hL.t0, c_polyAt hL hc.2.2.2.1 rm.1 rm.2 (fun i a hi e1 kaa pa => ⟨hL.t0, c_polyAt hL hc.2.2.2.1 rm.1 rm.2 (fun j b hj e2 kab pb => ⟨fun hy => ⟨a, rfl, b, rfl, pa.2.1, ?_⟩, fun hy => ⟨a, rfl, b, rfl, hL.t0, ?_⟩⟩) (fun hne => ⟨rfl, fun S'' re => ?_⟩)⟩) (fun hne => ⟨rfl, fun S'' re => ?_⟩)⟩
  · -- equal
    have ref : ∀ K : Int32 → RS → Prop, ((P i = P j → K 1 (up R 0 0 0)) ∧ (P i ≠ P j → K 0 (up R 0 0 0))) → wp_same y1 y2 y R K := fun K hK => by
      unfold wp_same
      refine s_isPlace (fun _ _ _ => ⟨fun c => absurd c (by decide), fun _ => ?_⟩) (fun h => absurd e1 (h i hi))
      refine s_isPlace (fun _ _ _ => ⟨fun _ => ?_, fun c => absurd c (by decide)⟩) (fun h => absurd e2 (h j hj))
      unfold w_same_20
      rw [upE, if_pos rfl]
      refine ⟨fun _ => ⟨fun _ => ?_, fun c => absurd hy c⟩, fun c => absurd (by decide) c⟩
      exact s_areSame e1 e2 (by omega) (by omega) (hv.2.1 i hi) (hv.2.1 j hj) hple.2 hple.2 (hr0.2.1 i hi) (hr0.2.1 j hj) ⟨fun e => ⟨Or.inr rfl, hK.1 e⟩, fun e => ⟨Or.inl rfl, hK.2 e⟩⟩
    have fin : Inv h0 s0 (n + 1) S (up R 0 0 0) := ⟨_, hc.next, hv, hr0⟩
    refine c_isLike hple.2 (hv.2.1 i hi) (hv.2.1 j hj) pa pb (fun e => ⟨Or.inr rfl, fun c => absurd c (by decide), fun _ => ref _ ⟨fun _ => ⟨by rw [upE, if_pos rfl], fun _ => rfl, fin⟩, fun c => absurd e c⟩⟩) (fun e => ⟨Or.inl rfl, fun _ => ref _ ⟨fun c => absurd c e, fun _ => ⟨by rw [upE, if_pos rfl], fun _ => rfl, fin⟩⟩, fun c => absurd rfl c⟩)
  · refine c_firstUnlike (hc.bs hpp) (hv.2.1 i hi) (hv.2.1 j hj) kaa pa kab pb (fun S1 e3 x3 s3 => ?_)
    have ref : ∀ K : Int32 → RS → Prop, (∀ R', Fr (up R 0 0 0) R' [8] [] → (¬ wsc p (P i) (P j) (p * p * p) 0 = -1 → K 0 R') ∧ (wsc p (P i) (P j) (p * p * p) 0 = -1 → K 1 R')) → wp_same y1 y2 y R K := fun K hK => by
      unfold wp_same
      refine s_isPlace (fun _ _ _ => ⟨fun c => absurd c (by decide), fun _ => ?_⟩) (fun h => absurd e1 (h i hi))
      refine s_isPlace (fun _ _ _ => ⟨fun _ => ?_, fun c => absurd c (by decide)⟩) (fun h => absurd e2 (h j hj))
      unfold w_same_20
      rw [upE, if_pos rfl]
      refine ⟨fun _ => ⟨fun c => absurd c hy, fun _ => ?_⟩, fun c => absurd (by decide) c⟩
      subst e1 e2
      exact s_witnessOf hpp hr0.1.1 (hv.2.1 i hi) (hv.2.1 j hj) (hr0.2.1 i hi) (hr0.2.1 j hj) (by omega) (by omega) hK
    have fin : ∀ R', Fr (up R 0 0 0) R' [8] [] → R' 0 0 = 0 ∧ Inv h0 s0 (n + 1) S1 R' := fun R' r' => ⟨by rw [r'.2 0 (by simp), upE, if_pos rfl], _, hc.scr e3 (hc.2.1.tp e3 x3) (by omega) (by omega), hv, hr0.fr8 hv r'⟩
    refine ⟨fun c => ⟨fun _ => ref _ (fun R' r' => ⟨fun _ => ⟨(fin R' r').1, fun _ => rfl, (fin R' r').2⟩, fun c2 => absurd c2 c⟩), fun c => absurd rfl c⟩, fun c => ⟨fun c => absurd c (by decide), fun _ => ref _ (fun R' r' => ⟨fun c2 => absurd c c2, fun _ => ⟨(fin R' r').1, fun _ => rfl, (fin R' r').2⟩⟩)⟩⟩
  · unfold wp_same
    refine s_isPlace (fun _ _ _ => ⟨fun c => absurd c (by decide), fun _ => ?_⟩) (fun h => absurd e1 (h i hi))
    exact s_isPlace (fun k hk e => absurd e (hne k hk)) (fun _ => ⟨fun c => absurd rfl c, fun _ => bad S'' re⟩)
  · unfold wp_same
    exact s_isPlace (fun k hk e => absurd e (hne k hk)) (fun _ => ⟨fun _ => bad S'' re, fun c => absurd rfl c⟩)
