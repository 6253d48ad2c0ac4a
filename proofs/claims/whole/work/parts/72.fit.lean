/-! Polynomials in x alone; fit. -/
def rowF (p N : Nat) (c : Nat → Nat) : Nat → Nat → Nat → Nat := fun x y z => if y = 0 ∧ z = 0 ∧ x < N then c x % p else 0
theorem adF_row {p N k m : Nat} {c : Nat → Nat} (hk : k < N) : adF p (rowF p N c) k 0 0 m = rowF p N (fun x => if x = k then c k + m else c x) := by
  funext x y z
  unfold adF rowF
  show (if x = k ∧ y = 0 ∧ z = 0 then ((if (0 : Nat) = 0 ∧ (0 : Nat) = 0 ∧ k < N then c k % p else 0) + m) % p else _) = (if y = 0 ∧ z = 0 ∧ x < N then (if x = k then c k + m else c x) % p else 0)
  by_cases e : x = k ∧ y = 0 ∧ z = 0
  · obtain ⟨rfl, rfl, rfl⟩ := e
    rw [if_pos ⟨rfl, rfl, rfl⟩, if_pos ⟨rfl, rfl, hk⟩, if_pos ⟨rfl, rfl, hk⟩, Nat.mod_add_mod, if_pos rfl]
  · rw [if_neg e]
    by_cases c2 : y = 0 ∧ z = 0 ∧ x < N
    · rw [if_pos c2, if_pos c2, if_neg (fun q => e ⟨q, c2.1, c2.2.1⟩)]
    · rw [if_neg c2, if_neg c2]
theorem rowF_congr {p N : Nat} {c d : Nat → Nat} (h : ∀ x, x < N → c x % p = d x % p) : rowF p N c = rowF p N d := by
  funext x y z
  unfold rowF
  by_cases q : y = 0 ∧ z = 0 ∧ x < N
  · rw [if_pos q, if_pos q]; exact h x q.2.2
  · rw [if_neg q, if_neg q]
theorem row_fF {p N : Nat} {d : Nat → Nat} (hd : ∀ x, x < N → d x < p) (x y z : Nat) : fF (fun i => (N - 1 - i, 0, 0, d (N - 1 - i))) N x y z = rowF p N d x y z := by
  unfold fF rowF
  by_cases c : y = 0 ∧ z = 0 ∧ x < N
  · obtain ⟨rfl, rfl, hx⟩ := c
    rw [if_pos ⟨rfl, rfl, hx⟩, Nat.mod_eq_of_lt (hd x hx), sumTo_single (N - 1 - x) (by omega) (fun j hj ne => if_neg (fun w => ne ?_)), if_pos ⟨by show N - 1 - (N - 1 - x) = x; omega, rfl, rfl⟩]
    · show d (N - 1 - (N - 1 - x)) = d x
      congr 1
      omega
    · have : N - 1 - j = x := w.1
      omega
  · rw [if_neg c]
    refine sumTo_zero (fun i hi => if_neg (fun w => c ⟨w.2.1.symm, w.2.2.symm, ?_⟩))
    have : N - 1 - i = x := w.1
    omega
theorem c_raised {M : Nat × Nat} {p v n : Nat} {x0 x1 x2 : Int32} {S : HS} {K : Int32 → HS → Prop} (hpp : PrP p) (h0 : x0 = ι v) (h1 : x1 = ι n) (h2 : x2 = ι p) (hv : v < 1000) (hn : n < 1000) (h : K (ι (pm p v n)) S) : wp_X9_raised M x0 x1 x2 S K := by
  subst h0 h1 h2
  have hp := hpp.le
  have key : ∀ (k i : Nat), i + k = n → wl_X9_raised_5 M K (k + 1) (ι v) (ι n) (ι p) (ι (pm p v i)) (ι i) S := by
    intro k
    induction k with
    | zero =>
      intro i hi
      show wb_X9_raised_5 _ _ _ _ _ _ _ _ _
      unfold wb_X9_raised_5
      refine ⟨fun _ => by rw [show i = n by omega]; exact h, fun q => absurd (by rw [ι_le (by omega) (by omega)]; omega) q⟩
    | succ k ih =>
      intro i hi
      have hl := pm_lt (p := p) (v := v) (by omega) i
      have hm : pm p v i * v ≤ 13 * 1000 := Nat.mul_le_mul (by omega) (by omega)
      show wb_X9_raised_5 _ _ _ _ _ _ _ _ _
      unfold wb_X9_raised_5
      refine ⟨fun q => absurd q (by rw [ι_le (by omega) (by omega)]; omega), fun _ => ⟨by rw [show (0 : Int32) = ι 0 from rfl, ι_eq (by omega) (by omega)]; omega, ?_⟩⟩
      rw [ι_mul, ι_rem (by omega) (by omega), show (1 : Int32) = ι 1 from rfl, ι_add]
      exact ih (i + 1) (by omega)
  exact ⟨n + 1, key n 0 (by omega)⟩
theorem s_powerOf {p v n : Nat} {x1 x2 : Int32} {R : RS} {K : Int32 → RS → Prop} (hpp : PrP p) (hp1 : R 0 1 = ι p) (h1 : x1 = ι v) (h2 : x2 = ι n) (hv : v < 1000) (hn : n < 1000) (h : K (ι (pm p v n)) R) : wp_powerOf x1 x2 R K := by
  subst h1 h2
  have hp := hpp.le
  have key : ∀ (k i : Nat), i + k = n → wl_powerOf_5 K (k + 1) (ι v) (ι n) (ι (pm p v i)) (ι i) R := by
    intro k
    induction k with
    | zero =>
      intro i hi
      show wb_powerOf_5 _ _ _ _ _ _ _
      unfold wb_powerOf_5
      refine ⟨fun _ => by rw [show i = n by omega]; exact h, fun q => absurd (by rw [ι_le (by omega) (by omega)]; omega) q⟩
    | succ k ih =>
      intro i hi
      have hl := pm_lt (p := p) (v := v) (by omega) i
      have hm : pm p v i * v ≤ 13 * 1000 := Nat.mul_le_mul (by omega) (by omega)
      show wb_powerOf_5 _ _ _ _ _ _ _
      unfold wb_powerOf_5
      rw [hp1]
      refine ⟨fun q => absurd q (by rw [ι_le (by omega) (by omega)]; omega), fun _ => ⟨by rw [show (0 : Int32) = ι 0 from rfl, ι_eq (by omega) (by omega)]; omega, ?_⟩⟩
      rw [ι_mul, ι_rem (by omega) (by omega), show (1 : Int32) = ι 1 from rfl, ι_add]
      exact ih (i + 1) (by omega)
  exact ⟨n + 1, key n 0 (by omega)⟩
/-- the binomials that the reference goes through -/
def bn (p : Nat) : Nat → Nat
  | 0 => 1
  | j + 1 => bn p j * (p - 1 - j) / (j + 1)
def ng (p i : Nat) : Nat := if i = 0 then 0 else p - i
theorem fit_dec : ∀ p, p ∈ [2, 3, 5, 7, 11, 13] → (∀ j, j < p → bn p j ≤ 1000) ∧ (∀ i, i < p → ∀ j, j < p → (bn p j * pm p (ng p i) j) % p = pm p i j % p) ∧ ∀ i, i < p → (1 + (p - 1) * pm p i (p - 1)) % p = if i = 0 then 1 else 0 := by decide +kernel
theorem PrP.mem {p : Nat} (h : PrP p) : p ∈ [2, 3, 5, 7, 11, 13] := by
  unfold PrP at h
  rcases h with r | r | r | r | r | r <;> subst r <;> decide
theorem rem_neg {m p : Nat} (hp : 0 < p) (hp2 : p < 2147483648) (hm : m < 2147483648) : iRem (-ι m) (ι p) = -ι (m % p) := by
  have hml := Nat.mod_le m p
  rw [← Int32.toInt_inj, rem_int hp hp2 (fun e => ?_), neg_int hm, neg_int (by omega), Int.neg_tmod]
  · rfl
  · have := neg_int hm
    rw [e, show (-2147483648 : Int32).toInt = -2147483648 from rfl] at this
    omega
/-- the weight of a byte in a number of what is fit -/
def ftw (p i x : Nat) : Nat := (if x = 0 then 1 else 0) + (p - 1) * pm p i (p - 1 - x)
def ftC (p : Nat) (t : Nat → Nat) (n x : Nat) : Nat := sumTo n (fun i => t i * ftw p i x)
/-- j steps of the row of byte i are done -/
def ftI (p : Nat) (t : Nat → Nat) (i j x : Nat) : Nat := ftC p t i x + t i * ((if x = 0 then 1 else 0) + (if p ≤ x + j then (p - 1) * pm p i (p - 1 - x) else 0))
theorem s_fit74 {p q : Nat} {t : Nat → Nat} {R : RS} {K : Int32 → RS → Prop} (hpp : PrP p) (hG : G0 R p) (ht : ∀ i, i < p → R 42 i = ι (t i) ∧ t i < p) (h : ∀ R', Fr R R' [2, 3, 4, 5, 6] [7] → Fs R R' [54] → G0 R' p → (∀ L, Can p (rowF p p (ftC p t p)) L → Sl R' 54 L → wp_become (ι q) 54 R' (fun r2 R2 => K r2 R2)) ∧ ((¬ ∃ L, Can p (rowF p p (ftC p t p)) L) → wp_become (ι q) 54 R' (fun r2 R2 => K r2 R2))) : ∃ nn, wl_fit_74 K nn (ι q) 0 R := by
  have hp := hpp.le
  obtain ⟨d1, d2, d3⟩ := fit_dec p hpp.mem
  have key : ∀ (k i n : Nat) (R1 : RS), i + k = p → n ≤ i * (p + 1) → Fr R R1 [5, 6] [7] → Gt R1 p (rowF p p (ftC p t i)) n → wl_fit_74 K (k + 1) (ι q) (ι i) R1 := by
    intro k
    induction k with
    | zero =>
      intro i n R1 hi hn r1 g1
      have hn2 : i * (p + 1) ≤ 13 * 14 := Nat.mul_le_mul (by omega) (by omega)
      show wb_fit_74 _ _ _ _ _
      unfold wb_fit_74
      rw [g1.1]
      refine ⟨fun _ => ?_, fun c => absurd (by rw [ι_le (by omega) (by omega)]; omega) c⟩
      rw [show i = p by omega] at g1
      refine s_gathered (s := 54) rfl (by omega) (by omega) hpp g1 (fun R2 r2 f2 g2 => ?_)
      have hh := h R2 ((r1.mo (by decide) (by decide)).tr (r2.mo (by decide) (by decide))) ((r1.fs [54] (by simp)).tr f2) g2
      exact hh
    | succ k ih =>
      intro i n R1 hi hn r1 g1
      have hn2 : i * (p + 1) ≤ 13 * 14 := Nat.mul_le_mul (by omega) (by omega)
      have hti := (ht i (by omega)).2
      have e42 : ∀ R2 : RS, Fr R R2 [5, 6] [7] → R2 42 i = ι (t i) := fun R2 r2 => by rw [r2.1 42 (by omega) (by simp)]; exact (ht i (by omega)).1
      show wb_fit_74 _ _ _ _ _
      unfold wb_fit_74
      rw [g1.1, ι_cl (by omega), e42 R1 r1]
      refine ⟨fun c => absurd c (by rw [ι_le (by omega) (by omega)]; omega), fun _ => ⟨ι_in (by omega) (by omega), ?_⟩⟩
      have cg := cg_n (p := p) (n := t i) (by omega)
      refine s_gathers (x := 0) (y := 0) (z := 0) (m := t i) rfl rfl rfl hpp (by omega) (by omega) (by omega) (by omega) cg.1 cg.2.1 cg.2.2 g1 (fun R2 r2 g2 => ⟨p + 1, ?_⟩)
      rw [adF_row (by omega)] at g2
      -- the row of one byte
      have key2 : ∀ (k2 j : Nat) (R3 : RS), j + k2 = p → Fr R R3 [5, 6] [7] → Gt R3 p (rowF p p (ftI p t i j)) (n + 1 + j) → wl_fit_105 (wl_fit_74 K (k + 1)) K (k2 + 1) (ι q) (ι i) (ι (bn p j)) (if j < p then ι (p - 1 - j) else -1) R3 := by
        intro k2
        induction k2 with
        | zero =>
          intro j R3 hj r3 g3
          show wb_fit_105 _ _ _ _ _ _ _ _
          unfold wb_fit_105
          rw [if_neg (by omega)]
          refine ⟨fun _ => ?_, fun c => absurd (by decide) c⟩
          rw [show (1 : Int32) = ι 1 from rfl, ι_add]
          refine ih (i + 1) (n + 1 + j) R3 (by omega) (by rw [Nat.succ_mul]; omega) r3 ?_
          have e : rowF p p (ftC p t (i + 1)) = rowF p p (ftI p t i j) := rowF_congr (fun x hx => by
            unfold ftI ftC
            rw [sumTo, if_pos (show p ≤ x + j by omega)]
            rfl)
          rw [e]; exact g3
        | succ k2 ih2 =>
          intro j R3 hj r3 g3
          have hb := d1 j (by omega)
          have hng : ng p i < p := by unfold ng; split <;> omega
          have hpl := pm_lt (p := p) (v := ng p i) (by omega) j
          have hp3 := g3.1
          have htb : t i * bn p j ≤ 13 * 1000 := Nat.mul_le_mul (by omega) hb
          have hml := Nat.mod_lt (t i * bn p j) (show 0 < p by omega)
          have hmp : t i * bn p j % p * pm p (ng p i) j ≤ 13 * 13 := Nat.mul_le_mul (by omega) (by omega)
          show wb_fit_105 _ _ _ _ _ _ _ _
          unfold wb_fit_105
          rw [if_pos (by omega), hp3, ι_cl (by omega), e42 R3 r3]
          refine ⟨fun c => absurd c (ι_nn (by omega)), fun _ => ⟨ι_in (by omega) (by omega), by rw [show (0 : Int32) = ι 0 from rfl, ι_eq (by omega) (by omega)]; omega, ?_⟩⟩
          have hmi : ι ((-ι i).toInt % (p : Int)).toNat = ι (ng p i) := by
            congr 1
            rw [neg_int (by omega)]
            unfold ng
            by_cases c : i = 0
            · rw [if_pos c, c]; simp
            · rw [if_neg c, Int.neg_emod]
              have h1 : (i : Int) % (p : Int) = i := Int.emod_eq_of_lt (by omega) (by omega)
              rw [if_neg (fun q => ?_), h1]
              · simp
              · have := Int.le_of_dvd (by omega) q
                omega
          refine s_modI hp3 hpp (fun e => ?_) ?_
          · have := neg_int (n := i) (by omega)
            rw [e, show (-2147483648 : Int32).toInt = -2147483648 from rfl] at this
            omega
          rw [hmi, hp3, show (1 : Int32) = ι 1 from rfl, ι_sub (by omega), ι_sub (by omega)]
          refine s_powerOf hpp hp3 rfl (n := j) (by congr 1; omega) (by omega) (by omega) ?_
          rw [Int32.neg_mul, ι_mul, rem_neg (by omega) (by omega) (by omega), Int32.neg_mul, ι_mul]
          have hneg := neg_int (n := t i * bn p j % p * pm p (ng p i) j) (by omega)
          refine s_gathers (x := p - 1 - j) (y := 0) (z := 0) (m := (p - 1) * (t i * bn p j % p * pm p (ng p i) j)) rfl rfl rfl hpp (by omega) (by omega) (by omega) (by omega) (by rw [hneg]; exact Cg.neg (by omega)) (by rw [hneg]; omega) (by rw [hneg]; omega) g3 (fun R4 r4 g4 => ?_)
          rw [g4.1, ι_sub (by omega), show p - (p - 1 - j) = j + 1 by omega]
          refine ⟨by rw [show (0 : Int32) = ι 0 from rfl, ι_eq (by omega) (by omega)]; omega, fun v4 e4 => ?_⟩
          have hbm : bn p j * (p - 1 - j) ≤ 1000 * 13 := Nat.mul_le_mul hb (by omega)
          rw [ι_mul, ι_div (by omega) (by omega)] at e4
          subst e4
          have hnx : ι (p - 1 - j) + (-ι 1) = (if j + 1 < p then ι (p - 1 - (j + 1)) else -1) := by
            by_cases c : j + 1 < p
            · rw [if_pos c, ι_sub' (by omega)]
              congr 1
            · rw [if_neg c, show p - 1 - j = 0 by omega]; rfl
          rw [hnx]
          refine ih2 (j + 1) R4 (by omega) (r3.tr r4) ?_
          rw [adF_row (by omega)] at g4
          have e : rowF p p (ftI p t i (j + 1)) = rowF p p (fun x => if x = p - 1 - j then ftI p t i j (p - 1 - j) + (p - 1) * (t i * bn p j % p * pm p (ng p i) j) else ftI p t i j x) := rowF_congr (fun x hx => by
            by_cases c : x = p - 1 - j
            · rw [if_pos c, c]
              unfold ftI
              rw [if_pos (show p ≤ p - 1 - j + (j + 1) by omega), if_neg (show ¬ p ≤ p - 1 - j + j by omega), Nat.add_zero, Nat.mul_add, ← Nat.add_assoc, show p - 1 - (p - 1 - j) = j by omega]
              apply Nat.add_mod_eq_add_mod_left
              have h2 := d2 i (by omega) j (by omega)
              rw [Nat.mul_left_comm (t i), Nat.mul_mod (p - 1), Nat.mul_mod (p - 1) (t i * bn p j % p * pm p (ng p i) j)]
              congr 2
              rw [Nat.mod_mul_mod, Nat.mul_assoc, Nat.mul_mod (t i) (bn p j * pm p (ng p i) j), h2, ← Nat.mul_mod]
            · rw [if_neg c]
              unfold ftI
              have e2 : (if p ≤ x + (j + 1) then (p - 1) * pm p i (p - 1 - x) else 0) = (if p ≤ x + j then (p - 1) * pm p i (p - 1 - x) else 0) := by
                by_cases c2 : p ≤ x + j
                · rw [if_pos c2, if_pos (show p ≤ x + (j + 1) by omega)]
                · rw [if_neg c2, if_neg (show ¬ p ≤ x + (j + 1) by omega)]
              rw [e2])
          rw [e]
          exact g4
      have h0 := key2 p 0 R2 (by omega) (r1.tr r2) ?_
      · rw [if_pos (by omega), show p - 1 - 0 = p - 1 by omega] at h0
        rw [g2.1, show (1 : Int32) = ι 1 from rfl, ι_sub (by omega)]
        exact h0
      · have e : rowF p p (ftI p t i 0) = rowF p p (fun x => if x = 0 then ftC p t i 0 + t i else ftC p t i x) := rowF_congr (fun x hx => by
          unfold ftI
          rw [if_neg (show ¬ p ≤ x + 0 by omega), Nat.add_zero]
          by_cases c : x = 0
          · rw [if_pos c, if_pos c, c, Nat.mul_one]
          · rw [if_neg c, if_neg c, Nat.mul_zero, Nat.add_zero])
        rw [e]; exact g2
  refine ⟨p + 1, key p 0 0 R (by omega) (by omega) (Fr.rf _ _ _) ?_⟩
  exact hG.ext (fun x y z => by
    unfold rowF ftC
    rw [show sumTo 0 (fun i => t i * ftw p i x) = 0 from rfl, Nat.zero_mod, ite_self])
/-! fitTo of the class; fit. -/
def ftS (p : Nat) (t : Nat → Nat) (n x : Nat) : Nat := sumTo n (fun i => t i * pm p i (p - 1 - x))
def ftD (p : Nat) (t : Nat → Nat) (x : Nat) : Nat := if x = 0 then t 0 else (p - ftS p t p x % p) % p
theorem neg_modp {p s : Nat} (hp : 0 < p) : (p - s % p) % p = (p - 1) * s % p := by
  have h1 := Nat.mod_lt s hp
  have h2 := Nat.div_add_mod s p
  have e : (p - 1) * s + (s % p) = p * (s - s / p) := by
    have h3 : s / p ≤ s := Nat.div_le_self s p
    have h4 : (p - 1) * s + s = p * s := by
      have : p = p - 1 + 1 := by omega
      conv => rhs; rw [this]
      rw [Nat.succ_mul]
    rw [Nat.mul_sub]
    generalize p * (s / p) = w at h2 ⊢
    generalize (p - 1) * s = u at h4 ⊢
    generalize p * s = z at h4 ⊢
    omega
  have h5 : ((p - 1) * s + s % p) % p = 0 := by rw [e]; exact Nat.mul_mod_right p _
  have h6 := Nat.mod_lt ((p - 1) * s) hp
  by_cases c : s % p = 0
  · rw [c, Nat.sub_zero, Nat.mod_self]
    rw [c, Nat.add_zero] at h5
    exact h5.symm
  · rw [Nat.mod_eq_of_lt (by omega)]
    rw [Nat.add_mod, Nat.mod_mod] at h5
    generalize (p - 1) * s % p = u at *
    generalize s % p = w at *
    by_cases c2 : u + w < p
    · rw [Nat.mod_eq_of_lt c2] at h5; omega
    · rw [Nat.mod_eq_sub_mod (by omega), Nat.mod_eq_of_lt (by omega)] at h5; omega
theorem ft_eq {p : Nat} {t : Nat → Nat} (hpp : PrP p) (ht : ∀ i, i < p → t i < p) : ∀ x, x < p → ftD p t x % p = ftC p t p x % p := by
  have hp := hpp.le
  obtain ⟨-, -, d3⟩ := fit_dec p hpp.mem
  intro x hx
  unfold ftD
  by_cases c : x = 0
  · rw [if_pos c, c]
    unfold ftC
    have : sumTo p (fun i => t i * ftw p i 0) % p = sumTo p (fun i => if i = 0 then t 0 else 0) % p := sumTo_cong_mod (fun i hi => by
      have h := d3 i hi
      have e : ftw p i 0 = 1 + (p - 1) * pm p i (p - 1) := by unfold ftw; rw [if_pos rfl, Nat.sub_zero]
      rw [e, Nat.mul_mod, h]
      by_cases c2 : i = 0
      · rw [if_pos c2, if_pos c2, Nat.mul_one, Nat.mod_mod, c2]
      · rw [if_neg c2, if_neg c2, Nat.mul_zero])
    rw [this, sumTo_single 0 (by omega) (fun j hj ne => if_neg ne), if_pos rfl]
  · rw [if_neg c, Nat.mod_mod, neg_modp (by omega)]
    unfold ftS ftC
    rw [← sumTo_mul]
    refine sumTo_cong_mod (fun i hi => ?_)
    unfold ftw
    rw [if_neg c, Nat.zero_add, Nat.mul_left_comm]
theorem ftS_le {p n x : Nat} {t : Nat → Nat} (hp1 : 1 < p) (hp : p ≤ 13) (hn : n ≤ p) (ht : ∀ i, i < p → t i < p) : ftS p t n x ≤ n * (13 * 13) := sumTo_le (fun i hi => Nat.mul_le_mul (by have := ht i (by omega); omega) (by have := pm_lt (p := p) (v := i) hp1 (p - 1 - x); omega))
/-- what is pushed -/
def ftT (p : Nat) (t : Nat → Nat) (i : Nat) : Tm := (p - 1 - i, 0, 0, ftD p t (p - 1 - i))
theorem pf_small {t : Nat → Tm} : ∀ {k : Nat}, (pf t k).1.length ≤ k ∧ (k ≤ 300 → (pf t k).2 = false) := by
  intro k
  induction k with
  | zero => exact ⟨by simp [pf], fun _ => rfl⟩
  | succ k ih =>
    rw [pf]
    unfold psD
    split
    · exact ⟨Nat.le_trans ih.1 (by omega), fun h => ih.2 (by omega)⟩
    · split
      · refine ⟨?_, fun h => ih.2 (by omega)⟩
        rw [List.length_append, List.length_singleton]
        have := ih.1
        omega
      · rename_i c
        refine ⟨Nat.le_trans ih.1 (by omega), fun h => ?_⟩
        have := ih.1
        omega
theorem row_can {p N : Nat} {d : Nat → Nat} (hp : 0 < p) (hN : N ≤ 41) : ∃ L, Can p (rowF p N d) L := by
  have h := pf_can (p := p) (m := N) (t := fun i => (N - 1 - i, 0, 0, d (N - 1 - i) % p)) hp (fun i hi _ => ⟨⟨by show N - 1 - i ≤ 40; omega, Nat.zero_le _, Nat.zero_le _⟩, Nat.mod_lt _ hp⟩) (fun i j hij hj _ _ => by
    show (N - 1 - j) * 4096 + 0 * 64 + 0 < (N - 1 - i) * 4096 + 0 * 64 + 0
    omega)
  have e : fF (fun i => (N - 1 - i, 0, 0, d (N - 1 - i) % p)) N = rowF p N d := by
    funext x y z
    rw [row_fF (p := p) (N := N) (d := fun x => d x % p) (fun x _ => Nat.mod_lt _ hp), rowF_congr (fun x _ => Nat.mod_mod _ _)]
  rw [e] at h
  exact ⟨_, h.1 (pf_small.2 (by omega))⟩
theorem c_fitTo {M : Nat × Nat} {h0 p : Nat} {t : Nat → Nat} {S : HS} {K : Option Nat → HS → Prop} (hb : Bs h0 S p) (ht : ∀ i, i < p → hI S (h0 + 55) i = ι (t i) ∧ t i < p) (r1 : hX S + 3 ≤ M.1) (r2 : hS S + 604 ≤ M.2) (h : Mk h0 S p (rowF p p (ftC p t p)) K) : wp_X9_fitTo M (h0 + 5) (h0 + 55) S K := by
  obtain ⟨hL, htt, hbb, hp0, hpp⟩ := id hb
  have hp := hpp.le
  have h60 := htt.1
  have hD : ∀ x, x < p → ftD p t x < p := fun x hx => by
    unfold ftD
    split
    · exact (ht 0 (by omega)).2
    · exact Nat.mod_lt _ (by omega)
  have hF : ∀ x y z, fF (ftT p t) p x y z = rowF p p (ftC p t p) x y z := fun x y z => by
    have := row_fF (p := p) (N := p) (d := ftD p t) hD x y z
    rw [show ftT p t = (fun i => (p - 1 - i, 0, 0, ftD p t (p - 1 - i))) from rfl, this, rowF_congr (ft_eq hpp (fun i hi => (ht i hi).2))]
  have ez : ∀ {S1 S2 : HS}, Ext S1 S2 (W3 h0 6) V0 → Ext S1 S2 (Wz h0 S1) V0 := fun e => e.mo (W3.z (Or.inl rfl)) (fun _ _ c => c)
  have key : ∀ (k i : Nat) (S1 : HS), i + k + 1 = p → Ext S S1 (W3 h0 6) V0 → hX S1 = hX S → hS S1 = hS S → Dr h0 S1 6 (pf (ftT p t) i).1 (pf (ftT p t) i).2 → wl_X9_fitTo_14 M K (k + 1) (h0 + 5) (h0 + 55) (ι (p - 1 - i)) S1 := by
    intro k
    induction k with
    | zero =>
      intro i S1 hi e1 x1 s1 d1
      have b1 := hb.go (ez e1) x1
      have hL1 := b1.1
      have ht0 : hI S1 (h0 + 55) 0 = ι (t 0) := by rw [(e1.2.2.1 _ (by omega)).2.2.1 0 (by unfold W3; omega)]; exact (ht 0 (by omega)).1
      have htl := (ht 0 (by omega)).2
      show wb_X9_fitTo_14 _ _ _ _ _ _ _
      unfold wb_X9_fitTo_14
      refine ⟨fun _ => ⟨hL1.t5, h0 + 6, hL1.p5_1, hL1.t55, by rw [hL1.n55]; exact ι_in (a := 0) (by omega) (by omega), hL1.t6, ?_⟩, fun c => absurd (by rw [show (0 : Int32) = ι 0 from rfl, ι_le (by omega) (by omega)]; omega) c⟩
      rw [show Int32.toNatClampNeg 0 = 0 from rfl, ht0]
      have e9 : ftT p t i = (0, 0, 0, t 0) := by
        unfold ftT ftD
        rw [show p - 1 - i = 0 by omega, if_pos rfl]
      refine c_psh (t := ftT p t i) (DL.d6 hL1) d1 (by rw [e9]; show ι 0 = ι (0 * 4096 + 0 * 64 + 0); rfl) (by rw [e9]; rfl) (by rw [e9]; show t 0 < 2147483648; omega) (fun S2 e2 x2 s2 d2 => ?_)
      have b2 := b1.go (ez e2) x2
      refine ⟨b2.1.t5, h0 + 6, b2.1.p5_1, b2.1.t6, ?_⟩
      have d2' : Dr h0 S2 6 (pf (ftT p t) p).1 (pf (ftT p t) p).2 := by
        rw [show p = i + 1 by omega] at d2 ⊢
        exact d2
      refine c_end (t := ftT p t) (m := p) hb ((ez e1).tr (e2.mo (W3.z (Or.inl rfl)) (fun _ _ c => c))) (by omega) (by omega) d2' (fun j hj _ => ⟨⟨by show p - 1 - j ≤ 40; omega, Nat.zero_le _, Nat.zero_le _⟩, hD _ (by omega)⟩) (fun a b hab hb' _ _ => ?_) hF r1 r2 h
      show (p - 1 - b) * 4096 + 0 * 64 + 0 < (p - 1 - a) * 4096 + 0 * 64 + 0
      omega
    | succ k ih =>
      intro i S1 hi e1 x1 s1 d1
      have b1 := hb.go (ez e1) x1
      obtain ⟨hL1, -, -, hp1, -⟩ := id b1
      have ht1 : ∀ a, a < p → hI S1 (h0 + 55) a = ι (t a) := fun a ha => by rw [(e1.2.2.1 _ (by omega)).2.2.1 a (by unfold W3; omega)]; exact (ht a ha).1
      show wb_X9_fitTo_14 _ _ _ _ _ _ _
      unfold wb_X9_fitTo_14
      refine ⟨fun c => absurd c (by rw [show (0 : Int32) = ι 0 from rfl, ι_le (by omega) (by omega)]; omega), fun _ => ⟨p + 1, ?_⟩⟩
      have key2 : ∀ (k2 a : Nat), a + k2 = p → wl_X9_fitTo_23 M (wl_X9_fitTo_14 M K (k + 1)) K (k2 + 1) (h0 + 5) (h0 + 55) (ι (p - 1 - i)) (ι (ftS p t a (p - 1 - i))) (ι a) S1 := by
        intro k2
        induction k2 with
        | zero =>
          intro a ha
          have hs := ftS_le (x := p - 1 - i) (n := a) (t := t) (by omega) (by omega) (by omega) (fun i hi => (ht i hi).2)
          have hml := Nat.mod_lt (ftS p t a (p - 1 - i)) (show 0 < p by omega)
          show wb_X9_fitTo_23 _ _ _ _ _ _ _ _ _ _
          unfold wb_X9_fitTo_23
          rw [hp1]
          have hz : ¬ ι p = 0 := by rw [show (0 : Int32) = ι 0 from rfl, ι_eq (by omega) (by omega)]; omega
          refine ⟨hL1.t5, fun _ => ⟨hL1.t5, h0 + 6, hL1.p5_1, c_key rfl (y := 0) rfl (z := 0) rfl (by omega) (by omega) (by omega) ?_⟩, fun c => absurd (by rw [ι_le (by omega) (by omega)]; omega) c⟩
          rw [hp1]
          refine ⟨hL1.t5, hL1.t5, hz, hL1.t5, hz, hL1.t6, ?_⟩
          rw [ι_rem (by omega) (by omega), ι_sub (by omega), ι_rem (by omega) (by omega)]
          have en : (ftT p t i).n = (p - ftS p t a (p - 1 - i) % p) % p := by
            show ftD p t (p - 1 - i) = _
            unfold ftD
            rw [if_neg (by omega), show a = p by omega]
          refine c_psh (t := ftT p t i) (DL.d6 hL1) d1 rfl (by rw [en]) (by rw [en]; have := Nat.mod_lt (p - ftS p t a (p - 1 - i) % p) (show 0 < p by omega); omega) (fun S2 e2 x2 s2 d2 => ?_)
          rw [show (-1 : Int32) = -ι 1 from rfl, ι_sub' (by omega), show p - 1 - i - 1 = p - 1 - (i + 1) by omega]
          exact ih (i + 1) S2 (by omega) (e1.tr e2) (by omega) (by omega) d2
        | succ k2 ih2 =>
          intro a ha
          show wb_X9_fitTo_23 _ _ _ _ _ _ _ _ _ _
          unfold wb_X9_fitTo_23
          rw [hp1]
          refine ⟨hL1.t5, fun c => absurd c (by rw [ι_le (by omega) (by omega)]; omega), fun _ => ⟨hL1.t55, by rw [hL1.n55]; exact ι_in (by omega) (by omega), hL1.t5, hL1.t5, ?_⟩⟩
          rw [show (1 : Int32) = ι 1 from rfl, ι_sub (by omega), ι_sub (by omega)]
          refine c_raised hpp rfl rfl rfl (by omega) (by omega) (fun v5 e5 => ?_)
          rw [ι_cl (by omega), ht1 a (by omega), ι_mul, ι_add] at e5
          subst e5
          rw [ι_add]
          exact ih2 (a + 1) (by omega)
      exact key2 p 0 (by omega)
  unfold wp_X9_fitTo
  refine ⟨hL.t5, h0 + 6, hL.p5_1, hL.t6, c_clear (DL.d6 hL) (fun S1 e1 x1 s1 d1 => ?_)⟩
  have b1 := hb.go (ez e1) x1
  refine ⟨b1.1.t5, p - 1 + 1, ?_⟩
  rw [b1.2.2.2.1, show (1 : Int32) = ι 1 from rfl, ι_sub (by omega)]
  exact key (p - 1) 0 S1 (by omega) e1 x1 s1 d1
/-- the tape is empty -/
theorem CI.tape {h0 s0 n p : Nat} {P : Nat → Po} {A : List (Nat × Po)} {T Tx : List Nat} {ft : Int32} {Q : List Sp} {B : Nat → Nat} {S : HS} (h : CI h0 s0 n S (p, P, A, T, Tx, ft, Q, B)) : CI h0 s0 n (sI S h0 9 0) (p, P, A, [], Tx, ft, Q, B) := by
  obtain ⟨c1, c2, c3, c4, c5, c6, c7, c8, c9, c10, c11, c12⟩ := h
  have h60 := c2.1
  have e : Ext S (sI S h0 9 0) (Wt h0) V0 := (Ext.rf S (Wt h0) V0).sI (Or.inr ⟨rfl, rfl⟩)
  have pk : PK h0 S (sI S h0 9 0) := PK.of e ka_t
  have nI : ∀ b k, b < hX S → ¬ Wt h0 b k → hI (sI S h0 9 0) b k = hI S b k := fun b k hb w => (e.2.2.1 b hb).2.2.1 k w
  have ho : ∀ o, o = 12 ∨ o = 15 ∨ o = 39 ∨ o = 42 → hP (sI S h0 9 0) (h0 + o) 0 = hP S (h0 + o) 0 := fun o _ => rfl
  have b39 := c10.1.2.2.1
  refine ⟨c1.go c2.1 e (fun q hq c => c), c2.go e pk (c2.tp e rfl), by rw [nI _ _ (by omega) (by unfold Wt; omega)]; exact c3, c4.go pk (fun k hk => rfl), c5.go pk (fun k => nI _ _ (by omega) (by unfold Wt; omega)) (fun k => nI _ _ (by omega) (by unfold Wt; omega)) (fun k => rfl), ⟨by rw [sI_eq, if_pos rfl]; rfl, fun i hi => by simp at hi⟩, c7.go (nI _ _ (by omega) (by unfold Wt; omega)) (fun i => nI _ _ (by omega) (by unfold Wt; omega)), by rw [nI _ _ (by omega) (by unfold Wt; omega)]; exact c8, c9.go pk e rfl (fun o ho => Or.inl rfl) (fun g hg _ f k hf => ⟨by unfold Wt; omega, fun c => c⟩), c10.go e ho, c11.go (e.2.2.1 _ b39.2.1).2.1 pk rfl rfl (fun k => nI _ _ (by omega) (by unfold Wt; omega)) (fun k => nI _ _ (by omega) (by unfold Wt; omega)) (fun k => nI _ _ (by omega) (by unfold Wt; omega)) (nI _ _ (by omega) (by unfold Wt; omega)) (nI _ _ (by omega) (by unfold Wt; omega)) (fun k => nI _ _ b39.2.1 (by have := b39.2.2.2.2.1; unfold Wt; omega)), ?_⟩
  have c13 := c12.same e c10 ho rfl rfl
  obtain ⟨q0, b1, b2, b3, b4, q1, q2⟩ := c13
  refine ⟨q0, b1, b2, b3, b4, ?_, q2⟩
  rw [if_pos rfl]
  omega
theorem RI.tape {p : Nat} {P : Nat → Po} {A : List (Nat × Po)} {T Tx : List Nat} {ft : Int32} {Q : List Sp} {B : Nat → Nat} {R : RS} (h : RI R (p, P, A, T, Tx, ft, Q, B)) : RI (up R 0 43 0) (p, P, A, [], Tx, ft, Q, B) := by
  obtain ⟨u1, u2, u3, u4, u5, u6, u7⟩ := h
  have hr : Fr R (up R 0 43 0) [] [43] := (Fr.rf R [] [43]).w0 (by simp)
  have nf : ∀ f, f ≠ 0 → up R 0 43 0 f = R f := fun f hf => upN hf
  have n0 : ∀ k, k ≠ 43 → up R 0 43 0 0 k = R 0 k := fun k hk => by rw [upE, if_neg hk]
  refine ⟨u1.fr hr (by simp) (by simp) (by simp) (by simp), fun k hk => ?_, ?_, ⟨by rw [upE, if_pos rfl]; rfl, fun i hi => by simp at hi⟩, ?_, by rw [n0 51 (by omega)]; exact u6, ?_⟩
  · have := u2 k hk
    unfold Sl at this ⊢
    rw [nf 2 (by omega), nf 3 (by omega), nf 4 (by omega)]; exact this
  · unfold RAc at u3 ⊢
    rw [n0 13 (by omega), nf 9 (by omega), nf 10 (by omega), nf 11 (by omega), nf 12 (by omega)]; exact u3
  · rw [n0 28 (by omega), nf 27 (by omega)]; exact u5
  · unfold RPg Sl at u7 ⊢
    rw [n0 37 (by omega), nf 2 (by omega), nf 3 (by omega), nf 4 (by omega), nf 29 (by omega), nf 30 (by omega), nf 31 (by omega), nf 32 (by omega)]; exact u7
theorem VI.tape {p : Nat} {P : Nat → Po} {A : List (Nat × Po)} {T Tx : List Nat} {ft : Int32} {Q : List Sp} {B : Nat → Nat} (h : VI (p, P, A, T, Tx, ft, Q, B)) : VI (p, P, A, [], Tx, ft, Q, B) := by
  obtain ⟨v1, v2, v3, v4, v5, v6⟩ := h
  exact ⟨v1, v2, v3, ⟨by simp, fun i hi => by simp at hi⟩, v5, v6⟩
theorem call_9 {h0 s0 n : Nat} {S : HS} {R : RS} (hn : n < 512) (y1 : Int32) (v : Int64) (h : Inv h0 s0 n S R) : wq_9 (Mx h0 s0) h0 y1 S R v (Inv h0 s0 (n + 1)) := by
  obtain ⟨⟨p, P, A, T, Tx, ft, Q, B⟩, hc, hv, hr⟩ := h
  have hL := hc.1
  have hroom := hc.room hn
  have hp1 : hI S (h0 + 5) 0 = ι p := hc.2.2.1
  have ht9 : hI S h0 9 = ι T.length := hc.2.2.2.2.2.1.1
  have hR1 : R 0 1 = ι p := hr.1.1
  have hR43 : R 0 43 = ι T.length := hr.2.2.2.1.1
  obtain ⟨v1, v2, v3, v4, v5, v6⟩ := id hv
  have hple := v1.le
  have hT2 := v4.1
  have fin : ∀ S'', Re S S'' → Inv h0 s0 (n + 1) S'' (up R 0 0 1) := fun S'' re => ⟨_, hc.re re, hv, hr.code hv 1⟩
  have ref1 : ∀ (S'' : HS), Re S S'' → w_fit_24 (fun q R1 => wp_thrown R1 (fun t R2 => t = 1 ∧ ((1 : Int32) = 0 → v = Int32.toInt64 q) ∧ Inv h0 s0 (n + 1) S'' R2)) y1 1 R := fun S'' re => by
    unfold w_fit_24
    refine ⟨fun c => absurd c (by rw [upE, if_pos rfl]; decide), fun _ => ?_⟩
    unfold wp_thrown
    exact ⟨by rw [upE, if_pos rfl], fun c => absurd c (by decide), fin S'' re⟩
  refine ⟨hL.t0, ?_⟩
  unfold wp_X11_fit
  refine c_isPlace (fun q hq e1 => ⟨fun c => absurd c (by decide), fun _ => ?_⟩) (fun hne => ⟨fun _ => ⟨⟨rfl, fun S'' re => ?_⟩, by show hX S + 1 ≤ h0 + 601024; omega, by show hS S + 6 ≤ s0 + 7293034; omega⟩, fun c => absurd rfl c⟩)
  rotate_left
  · unfold wp_fit
    exact s_isPlace (fun k hk e => absurd e (hne k hk)) (fun _ => ⟨fun _ => ref1 S'' re, fun c => absurd rfl c⟩)
  refine ⟨hL.t0, hL.t0, h0 + 5, hL.p0_2, hL.t5, ?_⟩
  rw [hp1, ht9, ι_le (by omega) (by omega)]
  refine ⟨fun hpT => ⟨hL.t0, p + 1, ?_⟩, fun hpT => ⟨⟨rfl, fun S'' re => ?_⟩, by show hX S + 1 ≤ h0 + 601024; omega, by show hS S + 6 ≤ s0 + 7293034; omega⟩⟩
  rotate_left
  · unfold wp_fit
    refine s_isPlace (fun k hk e => ⟨fun c => absurd c (by decide), fun _ => ?_⟩) (fun h => absurd e1 (h q hq))
    rw [hR1, hR43, ι_le (by omega) (by omega)]
    exact ⟨fun c => absurd c hpT, fun _ => ref1 S'' re⟩
  subst e1
  have hc0 := hc.tape
  have hv0 := hv.tape
  have hr0 : RI (up (up R 0 0 0) 0 43 0) (p, P, A, [], Tx, ft, Q, B) := (hr.code hv 0).tape
  have tC : ∀ i, i < p → hI (sI S h0 9 0) (h0 + 55) i = ι (T.getD i 0) := fun i hi => by rw [sI_ne (by omega)]; exact hc.2.2.2.2.2.1.2 i (by omega)
  have tR : ∀ i, i < p → (up (up R 0 0 0) 0 43 0) 42 i = ι (T.getD i 0) := fun i hi => by rw [upN (by omega), upN (by omega)]; exact hr.2.2.2.1.2 i (by omega)
  have t256 : ∀ i, i < p → T.getD i 0 < 256 := fun i hi => v4.2 i (by omega)
  have hp2 : hI (sI S h0 9 0) (h0 + 5) 0 = ι p := hc0.2.2.1
  have hL0 := hc0.1
  have ref0 : ∀ (K : Int32 → RS → Prop), (∃ nn, wl_fit_43 K nn (ι q) 0 (up (up R 0 0 0) 0 43 0)) → wp_fit (ι q) R K := fun K hK => by
    unfold wp_fit
    refine s_isPlace (fun k hk e => ⟨fun c => absurd c (by decide), fun _ => ?_⟩) (fun h => absurd rfl (h q hq))
    rw [hR1, hR43, ι_le (by omega) (by omega)]
    refine ⟨fun _ => ?_, fun c => absurd hpT c⟩
    unfold w_fit_24
    exact ⟨fun _ => hK, fun c => absurd (by rw [upE, if_pos rfl]; decide) c⟩
  have hRp : (up (up R 0 0 0) 0 43 0) 0 1 = ι p := hr0.1.1
  -- the reference's look at the bytes
  have look : ∀ (K : Int32 → RS → Prop) (m : Nat), m ≤ p → (∀ i, i < m → T.getD i 0 < p) → ((m < p ∧ p ≤ T.getD m 0 ∧ K (-1) (up (up R 0 0 0) 0 43 0)) ∨ (m = p ∧ ∃ nn, wl_fit_74 K nn (ι q) 0 (up (up R 0 0 0) 0 43 0))) → ∀ k i, i + k = m → wl_fit_43 K (k + 1) (ι q) (ι i) (up (up R 0 0 0) 0 43 0) := by
    intro K m hm hall hend k
    induction k with
    | zero =>
      intro i hi
      have e : i = m := by omega
      subst e
      show wb_fit_43 _ _ _ _ _
      unfold wb_fit_43
      rw [hRp]
      rcases hend with ⟨a1, a2, a3⟩ | ⟨a1, a2⟩
      · have := t256 i a1
        rw [ι_cl (by omega), tR i a1, ι_lt (by omega) (by omega)]
        exact ⟨fun c => absurd c (by rw [ι_le (by omega) (by omega)]; omega), fun _ => ⟨ι_in (by omega) (by omega), fun c => absurd c (by omega), fun _ => a3⟩⟩
      · exact ⟨fun _ => a2, fun c => absurd (by rw [ι_le (by omega) (by omega)]; omega) c⟩
    | succ k ih =>
      intro i hi
      have := t256 i (by omega)
      show wb_fit_43 _ _ _ _ _
      unfold wb_fit_43
      rw [hRp, ι_cl (by omega), tR i (by omega), ι_lt (by omega) (by omega), show (1 : Int32) = ι 1 from rfl, ι_add]
      exact ⟨fun c => absurd c (by rw [ι_le (by omega) (by omega)]; omega), fun _ => ⟨ι_in (by omega) (by omega), fun _ => ih (i + 1) (by omega), fun c => absurd (hall i (by omega)) c⟩⟩
  have key : ∀ (k i : Nat), i + k = p → (∀ j, j < i → T.getD j 0 < p) → wl_X11_fit_38 (Mx h0 s0) (fun E S' => E = xIAE ∧ ∀ S'', Re S' S'' → wp_fit (ι q) R (fun q R1 => wp_thrown R1 (fun t R2 => t = 1 ∧ ((1 : Int32) = 0 → v = Int32.toInt64 q) ∧ Inv h0 s0 (n + 1) S'' R2))) (fun r S' => wp_fit (ι q) R (fun q R1 => wp_thrown R1 (fun t R2 => t = 0 ∧ ((0 : Int32) = 0 → Int32.toInt64 r = Int32.toInt64 q) ∧ Inv h0 s0 (n + 1) S' R2))) (k + 1) h0 (ι q) (ι i) (sI S h0 9 0) := by
    intro k
    induction k with
    | zero =>
      intro i hi hall
      have e : i = p := by omega
      subst e
      show wb_X11_fit_38 _ _ _ _ _ _ _ _
      unfold wb_X11_fit_38
      refine ⟨hL0.t0, h0 + 5, hL0.p0_2, hL0.t5, fun _ => ⟨hL0.t0, h0 + 5, hL0.p0_2, hL0.t0, h0 + 55, hL0.p0_8, hL0.t5, ?_⟩, fun c => absurd (by rw [hp2, ι_le (by omega) (by omega)]; omega) c⟩
      have bs0 : Bs h0 (sI S h0 9 0) i := ⟨hc0.1, hc0.2.1, hc0.2.2.2.2.2.2.2.2.2.1, hp2, v1⟩
      refine c_fitTo (t := fun j => T.getD j 0) bs0 (fun j hj => ⟨tC j hj, hall j hj⟩) (by show hX S + 3 ≤ h0 + 601024; omega) (by show hS S + 604 ≤ s0 + 7293034; omega) (fun S1 st => ⟨fun b L ka pa cL => ?_, fun hno => ?_⟩)
      · have hc1 := hc0.go (Go.stp st) (by omega) (by omega)
        refine ⟨hc1.1.t0, c_keep hc1 v3.1 rfl hq ka pa (fun S' hc' => ref0 _ ⟨i + 1, look _ i (Nat.le_refl _) hall (Or.inr ⟨rfl, ?_⟩) i 0 (by omega)⟩)⟩
        refine s_fit74 v1 hr0.1 (fun j hj => ⟨tR j hj, hall j hj⟩) (fun R' r1 f1 g1 => ⟨fun L2 c2 l2 => ?_, fun hno => absurd ⟨L, cL⟩ hno⟩)
        have hR' : RI R' (i, P, A, [], Tx, ft, Q, B) := hr0.scr hv0 g1 r1 f1 (by decide) (by decide) (by decide)
        rw [c2.eq cL] at l2
        have h00 : R' 0 0 = 0 := by rw [r1.2 0 (by simp), upE, if_neg (by omega), upE, if_pos rfl]
        exact keepK hc' hv0 hR' (s := 54) rfl hq cL.1 (by omega) (by omega) l2 (fun R2 z hi => ⟨by rw [z]; exact h00, fun _ => rfl, hi⟩)
      · exact absurd (row_can (by omega) (by omega)) hno
    | succ k ih =>
      intro i hi hall
      have h256 := t256 i (by omega)
      show wb_X11_fit_38 _ _ _ _ _ _ _ _
      unfold wb_X11_fit_38
      rw [ι_cl (by omega)]
      refine ⟨hL0.t0, h0 + 5, hL0.p0_2, hL0.t5, fun c => absurd c (by rw [hp2, ι_le (by omega) (by omega)]; omega), fun _ => ⟨hL0.t0, h0 + 55, hL0.p0_8, hL0.t55, by rw [hL0.n55]; exact ι_in (by omega) (by omega), hL0.t0, h0 + 5, hL0.p0_2, hL0.t5, fun c => ?_, fun c => ?_⟩⟩
      · rw [tC i (by omega), hp2, ι_lt (by omega) (by omega)] at c
        rw [show (1 : Int32) = ι 1 from rfl, ι_add]
        refine ih (i + 1) (by omega) (fun j hj => ?_)
        by_cases e : j = i
        · rw [e]; exact c
        · exact hall j (by omega)
      · rw [tC i (by omega), hp2, ι_lt (by omega) (by omega)] at c
        refine ref0 _ ⟨i + 1, look _ i (by omega) hall (Or.inl ⟨by omega, by omega, ?_⟩) i 0 (by omega)⟩
        unfold wp_thrown
        exact ⟨by rw [upE, if_neg (by omega), upE, if_pos rfl], fun _ => rfl, _, hc0.next, hv0, hr0⟩
  exact key p 0 (by omega) (fun j hj => by omega)
