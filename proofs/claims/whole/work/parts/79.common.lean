/-! COMMON: the numbers. -/
def ivr (p v : Nat) : Nat → Nat → Nat
  | 0, _ => 0
  | f + 1, k => if k * v % p = 1 then k else ivr p v f (k + 1)
def iv (p v : Nat) : Nat := ivr p v (p - 1) 1
theorem iv_dec : ∀ p, p ∈ [2, 3, 5, 7, 11, 13] → ∀ v, v < p → (v = 0 ∨ (iv p v < p ∧ 0 < iv p v ∧ iv p v * v % p = 1)) := by decide +kernel
theorem iv_ok {p v : Nat} (hpp : PrP p) (hv : v < p) (h0 : v ≠ 0) : iv p v < p ∧ 0 < iv p v ∧ iv p v * v % p = 1 := by
  rcases iv_dec p hpp.mem v hv with q | q
  · exact absurd q h0
  · exact q
theorem iv_0 : ∀ p, p ∈ [2, 3, 5, 7, 11, 13] → iv p 0 = 0 := by decide +kernel
theorem c_inverse {M : Nat × Nat} {h0 p v : Nat} {x1 : Int32} {S : HS} {K : Int32 → HS → Prop} (hL : Lay h0 S) (hpp : PrP p) (hp1 : hI S (h0 + 5) 0 = ι p) (h1 : x1 = ι v) (hv : v < p) (h : K (ι (iv p v)) S) : wp_X9_inverse M (h0 + 5) x1 S K := by
  subst h1
  have hp := hpp.le
  have key : ∀ (f k : Nat), k + f = p → K (ι (ivr p v f k)) S → wl_X9_inverse_2 M K (f + 1) (h0 + 5) (ι v) (ι k) S := by
    intro f
    induction f with
    | zero =>
      intro k hk hK
      show wb_X9_inverse_2 _ _ _ _ _ _ _
      unfold wb_X9_inverse_2
      rw [hp1]
      exact ⟨hL.t5, fun _ => hK, fun c => absurd (by rw [ι_le (by omega) (by omega)]; omega) c⟩
    | succ f ih =>
      intro k hk hK
      have hm : v * k ≤ 13 * 13 := Nat.mul_le_mul (by omega) (by omega)
      show wb_X9_inverse_2 _ _ _ _ _ _ _
      unfold wb_X9_inverse_2
      rw [hp1, ι_mul, ι_rem (by omega) (by omega)]
      have hml := Nat.mod_lt (v * k) (show 0 < p by omega)
      rw [ivr] at hK
      refine ⟨hL.t5, fun c => absurd c (by rw [ι_le (by omega) (by omega)]; omega), fun _ => ⟨hL.t5, by rw [show (0 : Int32) = ι 0 from rfl, ι_eq (by omega) (by omega)]; omega, ?_⟩⟩
      rw [show (1 : Int32) = ι 1 from rfl, ι_eq (by omega) (by omega), Nat.mul_comm v k, ι_add]
      refine ⟨fun c => ih (k + 1) (by omega) ?_, fun c => ?_⟩
      · rwa [if_neg c] at hK
      · rwa [if_pos c] at hK
  unfold iv at h
  have := key (p - 1) 1 (by omega) h
  exact ⟨p - 1 + 1, this⟩
theorem s_inverse {p v : Nat} {x1 : Int32} {R : RS} {K : Int32 → RS → Prop} (hpp : PrP p) (hp1 : R 0 1 = ι p) (h1 : x1 = ι v) (hv : v < p) (h0 : v ≠ 0) (h : K (ι (iv p v)) R) : wp_inverse x1 R K := by
  subst h1
  have hp := hpp.le
  have key : ∀ (f k : Nat), k + f = p → ivr p v f k ≠ 0 → K (ι (ivr p v f k)) R → wl_inverse_2 K (f + 1) (ι v) (ι k) R := by
    intro f
    induction f with
    | zero => intro k hk hn; exact absurd rfl hn
    | succ f ih =>
      intro k hk hn hK
      have hm : k * v ≤ 13 * 13 := Nat.mul_le_mul (by omega) (by omega)
      show wb_inverse_2 _ _ _ _ _
      unfold wb_inverse_2
      rw [hp1, ι_mul, ι_rem (by omega) (by omega)]
      have hml := Nat.mod_lt (k * v) (show 0 < p by omega)
      rw [ivr] at hK hn
      refine ⟨by rw [show (0 : Int32) = ι 0 from rfl, ι_eq (by omega) (by omega)]; omega, ?_⟩
      rw [show (1 : Int32) = ι 1 from rfl, ι_eq (by omega) (by omega), ι_add]
      refine ⟨fun c => ?_, fun c => ih (k + 1) (by omega) ?_ ?_⟩
      · rwa [if_pos c] at hK
      · rwa [if_neg c] at hn
      · rwa [if_neg c] at hK
  have hok := iv_ok hpp hv h0
  exact ⟨p - 1 + 1, key (p - 1) 1 (by omega) (by show iv p v ≠ 0; omega) h⟩
/-- the number at e is taken away, by b whose top is lo -/
def el (p : Nat) (b : Nat → Nat) (lo i e : Nat) (a : Nat → Nat) : Nat → Nat := fun j => if e - lo ≤ j ∧ j ≤ e then (a j + (p - a e * i % p) * b (j - (e - lo))) % p else a j
/-- all from lo + k - 1 down to lo -/
def rmd (p : Nat) (b : Nat → Nat) (lo i : Nat) : Nat → (Nat → Nat) → (Nat → Nat)
  | 0, a => a
  | k + 1, a => rmd p b lo i k (el p b lo i (lo + k) a)
theorem el_0 {p lo i e : Nat} {a b : Nat → Nat} (hp : 0 < p) (ha : ∀ j, j < 41 → a j < p) (he : e < 41) (h0 : a e = 0) : ∀ j, j < 41 → el p b lo i e a j = a j := by
  intro j hj
  unfold el
  by_cases c : e - lo ≤ j ∧ j ≤ e
  · rw [if_pos c, h0, Nat.zero_mul, Nat.zero_mod, Nat.sub_zero, Nat.add_mul_mod_self_left, Nat.mod_eq_of_lt (ha j hj)]
  · rw [if_neg c]
theorem el_lt {p lo i e : Nat} {a b : Nat → Nat} (hp : 0 < p) (ha : ∀ j, j < 41 → a j < p) : ∀ j, j < 41 → el p b lo i e a j < p := by
  intro j hj
  unfold el
  split
  · exact Nat.mod_lt _ hp
  · exact ha j hj
/-- at e nothing is left -/
theorem el_e {p lo i e : Nat} {a b : Nat → Nat} (hp : 1 < p) (hle : lo ≤ e) (hi : i * b lo % p = 1) (hae : a e < p) : el p b lo i e a e = 0 := by
  unfold el
  rw [if_pos ⟨by omega, Nat.le_refl _⟩, show e - (e - lo) = lo by omega]
  have h1 := Nat.mod_lt (a e * i) (show 0 < p by omega)
  have e1 : (p - a e * i % p) * b lo + (a e * i % p) * b lo = p * b lo := by rw [← Nat.add_mul]; congr 1; omega
  have e2 : (a e * i % p) * b lo % p = a e := by rw [Nat.mod_mul_mod, Nat.mul_assoc, Nat.mul_mod, hi, Nat.mul_one, Nat.mod_mod, Nat.mod_eq_of_lt hae]
  generalize a e * i % p = q at *
  have e3 : ((p - q) * b lo + q * b lo % p) % p = 0 := by rw [Nat.add_mod_mod, e1, Nat.mul_mod_right]
  rw [e2] at e3
  rw [Nat.add_comm]
  exact e3
theorem el_cg {p lo i e : Nat} {a a' b b' : Nat → Nat} (he : e < 41) (h : ∀ j, j < 41 → a j = a' j) (hb : ∀ j, j < 41 → b j = b' j) : ∀ j, j < 41 → el p b lo i e a j = el p b' lo i e a' j := by
  intro j hj
  unfold el
  by_cases c : e - lo ≤ j ∧ j ≤ e
  · rw [if_pos c, if_pos c, h j hj, h e he, hb _ (by omega)]
  · rw [if_neg c, if_neg c, h j hj]
theorem rmd_cg {p lo i : Nat} {b b' : Nat → Nat} : ∀ (k : Nat) {a a' : Nat → Nat}, lo + k ≤ 41 → (∀ j, j < 41 → a j = a' j) → (∀ j, j < 41 → b j = b' j) → ∀ j, j < 41 → rmd p b lo i k a j = rmd p b' lo i k a' j := by
  intro k
  induction k with
  | zero => intro a a' _ h _; exact h
  | succ k ih => intro a a' hk h hb; exact ih (by omega) (el_cg (by omega) h hb) hb
theorem rmd_lt {p lo i : Nat} {b : Nat → Nat} (hp : 0 < p) : ∀ (k : Nat) {a : Nat → Nat}, (∀ j, j < 41 → a j < p) → ∀ j, j < 41 → rmd p b lo i k a j < p := by
  intro k
  induction k with
  | zero => intro a h; exact h
  | succ k ih => intro a h; exact ih (el_lt hp h)
/-- where there is nothing, nothing is taken away -/
theorem rmd_skip {p lo i : Nat} {b : Nat → Nat} (hp : 0 < p) : ∀ (k m : Nat) {a : Nat → Nat}, m ≤ k → lo + k ≤ 41 → (∀ j, j < 41 → a j < p) → (∀ j, lo + m ≤ j → j < lo + k → a j = 0) → ∀ j, j < 41 → rmd p b lo i k a j = rmd p b lo i m a j := by
  intro k
  induction k with
  | zero => intro m a hm _ _ _ j hj; rw [show m = 0 by omega]
  | succ k ih =>
    intro m a hm hk ha hz
    by_cases c : m = k + 1
    · rw [c]; exact fun j hj => rfl
    · intro j hj
      have e0 := el_0 (b := b) (lo := lo) (i := i) hp ha (e := lo + k) (by omega) (hz _ (by omega) (by omega))
      show rmd p b lo i k (el p b lo i (lo + k) a) j = _
      rw [rmd_cg k (by omega) e0 (fun _ _ => rfl) j hj]
      exact ih m (by omega) (by omega) ha (fun j h1 h2 => hz j h1 (by omega)) j hj
/-- above lo nothing is left -/
theorem rmd_0 {p lo i : Nat} {b : Nat → Nat} (hp : 1 < p) (hi : i * b lo % p = 1) : ∀ (k : Nat) {a : Nat → Nat}, lo + k ≤ 41 → (∀ j, j < 41 → a j < p) → (∀ j, lo + k ≤ j → j < 41 → a j = 0) → ∀ j, lo ≤ j → j < 41 → rmd p b lo i k a j = 0 := by
  intro k
  induction k with
  | zero => intro a hk ha hz j hj h4; exact hz j (by omega) h4
  | succ k ih =>
    intro a hk ha hz
    refine ih (by omega) (el_lt (by omega) ha) (fun j h1 h2 => ?_)
    by_cases c : j = lo + k
    · rw [c]; exact el_e hp (by omega) hi (ha _ (by omega))
    · have : el p b lo i (lo + k) a j = a j := by unfold el; rw [if_neg (by omega)]
      rw [this]; exact hz j (by omega) h2
theorem rmd_le {p lo i : Nat} {b : Nat → Nat} : ∀ (k : Nat) {a : Nat → Nat} (j : Nat), lo + k ≤ j → rmd p b lo i k a j = a j := by
  intro k
  induction k with
  | zero => intro a j _; rfl
  | succ k ih =>
    intro a j hj
    show rmd p b lo i k (el p b lo i (lo + k) a) j = a j
    rw [ih j (by omega)]
    unfold el
    rw [if_neg (by omega)]
/-- what is left of a by b -/
def rmv (p : Nat) (a b : Nat → Nat) : Nat → Nat := rmd p b (tpn b 41 - 1) (iv p (b (tpn b 41 - 1))) (tpn a 41 - (tpn b 41 - 1)) a
def gd (p : Nat) : Nat → (Nat → Nat) → (Nat → Nat) → (Nat → Nat)
  | 0, a, _ => a
  | f + 1, a, b => if tpn b 41 = 0 then a else gd p f b (rmv p a b)
theorem tpn_cg {a b : Nat → Nat} : ∀ n, (∀ j, j < n → a j = b j) → tpn a n = tpn b n := by
  intro n
  induction n with
  | zero => intro _; rfl
  | succ n ih => intro h; rw [tpn, tpn, h n (by omega), ih (fun j hj => h j (by omega))]
theorem tpn_nz {v : Nat → Nat} : ∀ n, tpn v n ≠ 0 → v (tpn v n - 1) ≠ 0 := by
  intro n
  induction n with
  | zero => intro h; exact absurd rfl h
  | succ n ih =>
    intro h
    rw [tpn] at h ⊢
    by_cases c : v n = 0
    · rw [if_pos c] at h ⊢; exact ih h
    · rw [if_neg c]; exact c
theorem tpn_top {v : Nat → Nat} {n m : Nat} (hm : m ≤ n) (hz : ∀ j, m ≤ j → j < n → v j = 0) (hn : m = 0 ∨ v (m - 1) ≠ 0) : tpn v n = m := by
  rcases Nat.lt_trichotomy (tpn v n) m with q | q | q
  · rcases hn with h | h
    · omega
    · exact absurd (tpn_z n (m - 1) (by omega) (by omega)) h
  · exact q
  · have h1 := tpn_nz (v := v) n (by omega)
    have h2 := tpn_le (v := v) n
    exact absurd (hz (tpn v n - 1) (by omega) (by omega)) h1
theorem rmv_tp {p : Nat} {a b : Nat → Nat} (hpp : PrP p) (ha : ∀ j, j < 41 → a j < p) (hb : ∀ j, j < 41 → b j < p) (hbt : tpn b 41 ≠ 0) : tpn (rmv p a b) 41 < tpn b 41 ∧ (∀ j, j < 41 → rmv p a b j < p) ∧ ∀ j, tpn b 41 - 1 ≤ j → j < 41 → rmv p a b j = 0 := by
  have hp := hpp.le
  have hl := tpn_le (v := b) 41
  have hla := tpn_le (v := a) 41
  have hok := iv_ok hpp (hb (tpn b 41 - 1) (by omega)) (tpn_nz 41 hbt)
  have hz : ∀ j, tpn b 41 - 1 ≤ j → j < 41 → rmv p a b j = 0 := fun j h1 h2 => by
    unfold rmv
    by_cases c : tpn b 41 - 1 ≤ tpn a 41
    · exact rmd_0 (by omega) hok.2.2 _ (by omega) ha (fun j h3 h4 => tpn_z 41 j (by omega) h4) j h1 h2
    · rw [show tpn a 41 - (tpn b 41 - 1) = 0 by omega]
      show a j = 0
      exact tpn_z (v := a) 41 j (by omega) h2
  refine ⟨?_, rmd_lt (by omega) _ ha, hz⟩
  apply Classical.byContradiction
  intro q
  have h1 := tpn_nz (v := rmv p a b) 41 (by omega)
  have h2 := tpn_le (v := rmv p a b) 41
  exact h1 (hz _ (by omega) (by omega))
theorem gd_cg {p : Nat} : ∀ (f : Nat) {a a' b b' : Nat → Nat}, (∀ j, j < 41 → a j = a' j) → (∀ j, j < 41 → b j = b' j) → ∀ j, j < 41 → gd p f a b j = gd p f a' b' j := by
  intro f
  induction f with
  | zero => intro a a' b b' h _; exact h
  | succ f ih =>
    intro a a' b b' ha hb j hj
    rw [gd, gd, tpn_cg 41 hb]
    by_cases c : tpn b' 41 = 0
    · rw [if_pos c, if_pos c]; exact ha j hj
    · rw [if_neg c, if_neg c]
      refine ih hb (fun j hj => ?_) j hj
      unfold rmv
      have hl := tpn_le (v := b') 41
      have hla := tpn_le (v := a') 41
      rw [tpn_cg 41 hb, tpn_cg 41 ha, hb _ (by omega)]
      exact rmd_cg _ (by omega) ha hb j hj
/-- what comes out -/
def cmC (p : Nat) (a b : Nat → Nat) (e : Nat) : Nat := gd p 42 a b e * (if tpn (gd p 42 a b) 41 = 0 then 0 else iv p (gd p 42 a b (tpn (gd p 42 a b) 41 - 1)))
/-- the numbers of a polynomial in x alone -/
def rwN (L : Po) (e : Nat) : Nat := cf L e 0 0
/-! COMMON: the reference. -/
def Rw (R : RS) (f p : Nat) (a : Nat → Nat) : Prop := ∀ j, j < 41 → R f j = ι (a j) ∧ a j < p
/-- a polynomial in x alone -/
def inX (L : Po) : Prop := ∀ i, i < L.length → (tm L i).y = 0 ∧ (tm L i).z = 0
theorem rP_15 : rP 15 := ⟨11, rfl⟩
theorem rP_16 : rP 16 := ⟨12, rfl⟩
/-- the first t terms in a row -/
def rwT (L : Po) (t j : Nat) : Nat := sumTo t (fun i => if (tm L i).x = j then (tm L i).n else 0)
theorem rwT_all {L : Po} (h : inX L) (j : Nat) : rwT L L.length j = rwN L j := by
  unfold rwT rwN cf
  refine sumTo_congr (fun i hi => ?_)
  have := h i hi
  by_cases c : (tm L i).x = j
  · rw [if_pos c, if_pos ⟨c, this.1, this.2⟩]
  · rw [if_neg c, if_neg (fun w => c w.1)]
theorem rwT_new {p t : Nat} {L : Po} (hw : wf p L) (h : inX L) (ht : t < L.length) : rwT L t (tm L t).x = 0 := sumTo_zero (fun i hi => if_neg (fun e => by
  have h1 := hw.2.2 i t hi ht
  have h2 := h i (by omega)
  have h3 := h t ht
  unfold k41 at h1
  omega))
theorem rwT_lt {p t j : Nat} {L : Po} (hp : 0 < p) (hw : wf p L) (h : inX L) (ht : t ≤ L.length) : rwT L t j < p := by
  induction t with
  | zero => exact hp
  | succ t ih =>
    rw [rwT, sumTo]
    by_cases c : (tm L t).x = j
    · rw [if_pos c]
      have := rwT_new hw h (show t < L.length by omega)
      rw [c] at this
      rw [show sumTo t (fun i => if (tm L i).x = j then (tm L i).n else 0) = 0 from this, Nat.zero_add]
      exact (hw.2.1 t (by omega)).2.2.2.2
    · rw [if_neg c, Nat.add_zero]; exact ih (by omega)
theorem s_spread {s f p : Nat} {L : Po} {R : RS} {K : Int32 → RS → Prop} (hf : f = 15 ∨ f = 16) (hs : s < 56) (hp : 0 < p) (hw : wf p L) (hx : inX L) (hl : Sl R s L) (h : ∀ R', Fr R R' [f] [] → Rw R' f p (rwN L) → K 0 R') : wp_spread (ι s) f R K := by
  have hle := hw.1
  have hrP : rP f := by rcases hf with rfl | rfl; exact rP_15; exact rP_16
  have hrl : rlen f = 41 := by rcases hf with rfl | rfl <;> rfl
  have hf0 : f ≠ 0 := by omega
  have goL : ∀ {R1 : RS}, Fr R R1 [f] [] → Sl R1 s L := fun r => hl.go hle (r.fs [] (by rcases hf with rfl | rfl <;> simp)) (by simp)
  have key2 : ∀ (k t : Nat) (R1 : RS), t + k = L.length → Fr R R1 [f] [] → (∀ j, j < 41 → R1 f j = ι (rwT L t j)) → wl_spread_20 K (k + 1) (ι s) f (ι t) R1 := by
    intro k
    induction k with
    | zero =>
      intro t R1 ht r1 z1
      show wb_spread_20 _ _ _ _ _ _
      unfold wb_spread_20
      rw [ι_cl (by omega), (goL r1).1]
      refine ⟨ι_in (by omega) (by omega), fun _ => h R1 r1 (fun j hj => ?_), fun c => absurd (by rw [ι_le (by omega) (by omega)]; omega) c⟩
      rw [z1 j hj, show t = L.length by omega, rwT_all hx]
      refine ⟨rfl, ?_⟩
      rw [← rwT_all hx]
      exact rwT_lt hp hw hx (Nat.le_refl _)
    | succ k ih =>
      intro t R1 ht r1 z1
      have l1 := goL r1
      have hsm := hw.sm (i := t) (by omega)
      show wb_spread_20 _ _ _ _ _ _
      unfold wb_spread_20
      rw [ι_cl (by omega), l1.1]
      refine ⟨ι_in (by omega) (by omega), fun c => absurd c (by rw [ι_le (by omega) (by omega)]; omega), fun _ => s_keyAt rfl rfl hs (by omega) (s_ex hsm (l1.2 t (by omega)).1 (v := 0) rfl (by omega) (s_numAt rfl rfl hs (by omega) ⟨hrP, ?_, ?_⟩))⟩
      · rw [hrl]; exact ι_in (by have := exv_le hsm 0; omega) (by omega)
      · rw [ι_cl (by have := exv_le hsm 0; omega), (l1.2 t (by omega)).2, show (1 : Int32) = ι 1 from rfl, ι_add]
        refine ih (t + 1) _ (by omega) (r1.w (by simp) hf0) (fun j hj => ?_)
        rw [upE]
        show (if j = (tm L t).x then ι (tm L t).n else R1 f j) = ι (rwT L (t + 1) j)
        have hn := rwT_new hw hx (show t < L.length by omega)
        by_cases c : j = (tm L t).x
        · rw [if_pos c]
          unfold rwT
          rw [sumTo, if_pos c.symm, show sumTo t (fun i => if (tm L i).x = j then (tm L i).n else 0) = 0 by rw [c]; exact hn, Nat.zero_add]
        · rw [if_neg c, z1 j hj]
          unfold rwT
          rw [sumTo, if_neg (fun e => c e.symm), Nat.add_zero]
  have key1 : ∀ (k e : Nat) (R1 : RS), e + k = 41 → Fr R R1 [f] [] → (∀ j, j < e → R1 f j = ι 0) → wl_spread_2 K (k + 1) (ι s) f (ι e) R1 := by
    intro k
    induction k with
    | zero =>
      intro e R1 he r1 z1
      show wb_spread_2 _ _ _ _ _ _
      unfold wb_spread_2
      refine ⟨fun _ => ⟨L.length + 1, key2 L.length 0 R1 (by omega) r1 (fun j hj => z1 j (by omega))⟩, fun c => absurd (by rw [show (41 : Int32) = ι 41 from rfl, ι_le (by omega) (by omega)]; omega) c⟩
    | succ k ih =>
      intro e R1 he r1 z1
      show wb_spread_2 _ _ _ _ _ _
      unfold wb_spread_2
      refine ⟨fun c => absurd c (by rw [show (41 : Int32) = ι 41 from rfl, ι_le (by omega) (by omega)]; omega), fun _ => ⟨hrP, by rw [hrl]; exact ι_in (by omega) (by omega), ?_⟩⟩
      rw [ι_cl (by omega), show (1 : Int32) = ι 1 from rfl, ι_add]
      refine ih (e + 1) _ (by omega) (r1.w (by simp) hf0) (fun j hj => ?_)
      rw [upE]
      by_cases c : j = e
      · rw [if_pos c]; rfl
      · rw [if_neg c]; exact z1 j (by omega)
  exact ⟨42, key1 41 0 R (by omega) (Fr.rf _ _ _) (fun j hj => by omega)⟩
theorem ιm_dec (k : Nat) : ι k + (-1) = ιm k := by
  unfold ιm
  by_cases c : k = 0
  · rw [if_pos c, c]; rfl
  · rw [if_neg c, show (-1 : Int32) = -ι 1 from rfl, ι_sub' (by omega)]
theorem ιm_neg {k : Nat} (hk : k < 2147483648) : (ιm k < 0) ↔ k = 0 := by
  unfold ιm
  by_cases c : k = 0
  · rw [if_pos c]; exact ⟨fun _ => c, fun _ => by decide⟩
  · rw [if_neg c]; exact ⟨fun q => absurd q (ι_nn (by omega)), fun q => absurd q c⟩
theorem s_topOf {f p : Nat} {a : Nat → Nat} {R : RS} {K : Int32 → RS → Prop} (hf : f = 15 ∨ f = 16) (hp : p ≤ 13) (ha : Rw R f p a) (h : K (ιm (tpn a 41)) R) : wp_topOf f R K := by
  have hrP : rP f := by rcases hf with rfl | rfl; exact rP_15; exact rP_16
  have hrl : rlen f = 41 := by rcases hf with rfl | rfl <;> rfl
  have key : ∀ (k : Nat), k ≤ 41 → (∀ j, k ≤ j → j < 41 → a j = 0) → wl_topOf_3 K (k + 1) f (ιm k) R := by
    intro k
    induction k with
    | zero =>
      intro _ hz
      show wb_topOf_3 _ _ _ _ _
      unfold wb_topOf_3
      rw [tpn_top (m := 0) (by omega) (fun j _ hj => hz j (by omega) hj) (Or.inl rfl)] at h
      exact ⟨fun _ => h, fun c => absurd (by decide) c⟩
    | succ k ih =>
      intro hk hz
      have hak := ha k (by omega)
      show wb_topOf_3 _ _ _ _ _
      unfold wb_topOf_3
      rw [ιm_s, ι_cl (by omega), hak.1, ιm_dec, show (0 : Int32) = ι 0 from rfl, ι_eq (by omega) (by omega)]
      refine ⟨fun c => absurd c (ι_nn (by omega)), fun _ => ⟨hrP, by rw [hrl]; exact ι_in (by omega) (by omega), fun c => ?_, fun c => ih (by omega) (fun j h1 h2 => ?_)⟩⟩
      · rw [tpn_top (m := k + 1) (by omega) hz (Or.inr c), ιm_s] at h
        exact h
      · by_cases e : j = k
        · rw [e]; exact c
        · exact hz j (by omega) h2
  exact ⟨42, key 41 (by omega) (fun j h1 h2 => by omega)⟩
theorem neg_by {p q b : Nat} (hp : 0 < p) (hq : q < p) : ((p - q) * b) % p = ((p - 1) * (q * b)) % p := by
  have h1 := neg_modp (p := p) (s := q) hp
  rw [Nat.mod_eq_of_lt hq] at h1
  rw [Nat.mul_mod, h1, ← Nat.mul_mod, Nat.mul_assoc]
theorem s_leaves {p : Nat} {a b : Nat → Nat} {R : RS} {K : Int32 → RS → Prop} (hpp : PrP p) (hp1 : R 0 1 = ι p) (ha : Rw R 15 p a) (hb : Rw R 16 p b) (hbt : tpn b 41 ≠ 0) (h : ∀ R' a', Fr R R' [15] [] → Rw R' 15 p a' → (∀ j, j < 41 → a' j = rmv p a b j) → K 0 R') : wp_leaves 15 16 R K := by
  have hp := hpp.le
  have hl := tpn_le (v := b) 41
  have hbl := (hb (tpn b 41 - 1) (by omega)).2
  have hok := iv_ok hpp hbl (tpn_nz 41 hbt)
  generalize elo : tpn b 41 - 1 = lo at *
  have etb : tpn b 41 = lo + 1 := by omega
  generalize eiv : iv p (b lo) = i at *
  have key : ∀ (n : Nat) (a1 : Nat → Nat) (R1 : RS), tpn a1 41 ≤ n → Fr R R1 [15] [] → Rw R1 15 p a1 → (∀ j, j < 41 → rmd p b lo i (tpn a1 41 - lo) a1 j = rmv p a b j) → wl_leaves_11 K (n + 1) 15 16 (ι lo) (ιm (tpn a1 41)) R1 := by
    intro n
    induction n with
    | zero =>
      intro a1 R1 hn r1 w1 e1
      show wb_leaves_11 _ _ _ _ _ _ _
      unfold wb_leaves_11
      refine ⟨fun _ => h R1 a1 r1 w1 (fun j hj => ?_), fun c => absurd ((ιm_lt (by omega) (by omega)).mpr (by omega)) c⟩
      rw [← e1 j hj, show tpn a1 41 - lo = 0 by omega]
      rfl
    | succ n ih =>
      intro a1 R1 hn r1 w1 e1
      have hla := tpn_le (v := a1) 41
      show wb_leaves_11 _ _ _ _ _ _ _
      unfold wb_leaves_11
      rw [ιm_lt (by omega) (by omega)]
      refine ⟨fun c => h R1 a1 r1 w1 (fun j hj => ?_), fun c => ?_⟩
      · rw [← e1 j hj, show tpn a1 41 - lo = 0 by omega]
        rfl
      have ht : tpn a1 41 ≠ 0 := by omega
      generalize etp : tpn a1 41 - 1 = tp at *
      have eta : tpn a1 41 = tp + 1 := by omega
      rw [eta, ιm_s, ι_cl (by omega), ι_cl (by omega)]
      have hat := w1 tp (by omega)
      have hb16 : ∀ {R2 : RS}, Fr R R2 [15] [] → ∀ j, j < 41 → R2 16 j = ι (b j) := fun r j hj => by rw [r.1 16 (by omega) (by simp)]; exact (hb j hj).1
      have hp2 : ∀ {R2 : RS}, Fr R R2 [15] [] → R2 0 1 = ι p := fun r => by rw [r.2 1 (by simp)]; exact hp1
      refine ⟨rP_15, ι_in (by show tp < 41; omega) (by decide), rP_16, ι_in (by show lo < 41; omega) (by decide), ?_⟩
      rw [hb16 r1 lo (by omega)]
      refine s_inverse hpp (hp2 r1) rfl hbl (by have := tpn_nz 41 hbt; rw [elo] at this; exact this) ?_
      rw [hp2 r1, eiv]
      refine ⟨by rw [show (0 : Int32) = ι 0 from rfl, ι_eq (by omega) (by omega)]; omega, fun v2 e2 => ⟨lo + 2, ?_⟩⟩
      have hmi : a1 tp * i ≤ 13 * 13 := Nat.mul_le_mul (by omega) (by omega)
      rw [hat.1, ι_mul, ι_rem (by omega) (by omega)] at e2
      subst e2
      have hql := Nat.mod_lt (a1 tp * i) (show 0 < p by omega)
      generalize eq : a1 tp * i % p = q at *
      -- one taking away
      have key2 : ∀ (k e : Nat) (R2 : RS), e + k = lo + 1 → Fr R R2 [15] [] → (∀ j, j < 41 → R2 15 j = ι (if tp - lo ≤ j ∧ j < tp - lo + e then (a1 j + (p - q) * b (j - (tp - lo))) % p else a1 j)) → wl_leaves_39 (wl_leaves_11 K (n + 1)) K (k + 1) 15 16 (ι lo) (ι tp) (ι q) (ι e) R2 := by
        intro k
        induction k with
        | zero =>
          intro e R2 he r2 z2
          have w2 : Rw R2 15 p (el p b lo i tp a1) := fun j hj => by
            refine ⟨?_, el_lt (by omega) (fun j hj => (w1 j hj).2) j hj⟩
            rw [z2 j hj]
            unfold el
            rw [eq]
            congr 1
            by_cases c2 : tp - lo ≤ j ∧ j < tp - lo + e
            · rw [if_pos c2, if_pos (by omega)]
            · rw [if_neg c2, if_neg (by omega)]
          show wb_leaves_39 _ _ _ _ _ _ _ _ _ _
          unfold wb_leaves_39
          refine ⟨fun _ => s_topOf (Or.inl rfl) hp.2 w2 ?_, fun c => absurd (by rw [ι_lt (by omega) (by omega)]; omega) c⟩
          have hez : el p b lo i tp a1 tp = 0 := el_e (by omega) (by omega) hok.2.2 hat.2
          have hz : ∀ j, tp ≤ j → j < 41 → el p b lo i tp a1 j = 0 := fun j h1 h2 => by
            by_cases c2 : j = tp
            · rw [c2]; exact hez
            · have : el p b lo i tp a1 j = a1 j := by unfold el; rw [if_neg (by omega)]
              rw [this]; exact tpn_z 41 j (by omega) h2
          have htn : tpn (el p b lo i tp a1) 41 ≤ tp := by
            apply Classical.byContradiction
            intro q2
            have h1 := tpn_nz (v := el p b lo i tp a1) 41 (by omega)
            have h2 := tpn_le (v := el p b lo i tp a1) 41
            exact h1 (hz _ (by omega) (by omega))
          refine ih _ R2 (by omega) r2 w2 (fun j hj => ?_)
          rw [← e1 j hj, eta, show tp + 1 - lo = tp - lo + 1 by omega]
          show _ = rmd p b lo i (tp - lo) (el p b lo i (lo + (tp - lo)) a1) j
          rw [show lo + (tp - lo) = tp by omega]
          by_cases c3 : lo ≤ tpn (el p b lo i tp a1) 41
          · exact (rmd_skip (by omega) _ _ (by omega) (by omega) (el_lt (by omega) (fun j hj => (w1 j hj).2)) (fun j h1 h2 => tpn_z 41 j (by omega) (by omega)) j hj).symm
          · rw [show tpn (el p b lo i tp a1) 41 - lo = 0 by omega]
            exact (rmd_skip (by omega) _ 0 (by omega) (by omega) (el_lt (by omega) (fun j hj => (w1 j hj).2)) (fun j h1 h2 => tpn_z 41 j (by omega) (by omega)) j hj).symm
        | succ k ih2 =>
          intro e R2 he r2 z2
          show wb_leaves_39 _ _ _ _ _ _ _ _ _ _
          unfold wb_leaves_39
          have hj := z2 (e + tp - lo) (by omega)
          rw [if_neg (by omega)] at hj
          have hbe := (hb e (by omega)).2
          have haj := (w1 (e + tp - lo) (by omega)).2
          have hqb : q * b e ≤ 13 * 13 := Nat.mul_le_mul (by omega) (by omega)
          rw [ι_add, ι_sub (by omega), ι_cl (by omega), ι_cl (by omega), hj, hb16 r2 e (by omega), ι_mul]
          refine ⟨fun c => absurd c (by rw [ι_lt (by omega) (by omega)]; omega), fun _ => ⟨rP_15, ι_in (by show e + tp - lo < 41; omega) (by decide), rP_16, ι_in (by show e < 41; omega) (by decide), ?_⟩⟩
          refine s_modI (hp2 r2) hpp (fun e3 => ?_) ⟨rP_15, ι_in (by show e + tp - lo < 41; omega) (by decide), ?_⟩
          · have := sub_int (a := a1 (e + tp - lo)) (b := q * b e) (by omega) (by omega)
            rw [e3, show (-2147483648 : Int32).toInt = -2147483648 from rfl] at this
            omega
          · rw [sub_int (by omega) (by omega)]
            have hmd : (((a1 (e + tp - lo) : Int) - ((q * b e : Nat) : Int)) % (p : Int)).toNat = (a1 (e + tp - lo) + (p - q) * b e) % p := by
              have := (Cg.neg (p := p) (n := q * b e) (by omega)).use (by omega) (a1 (e + tp - lo))
              rw [Nat.add_mod, neg_by (by omega) hql, ← Nat.add_mod, ← this]
              congr 2
            rw [hmd, show (1 : Int32) = ι 1 from rfl, ι_add]
            refine ih2 (e + 1) _ (by omega) (r2.w (by simp) (by omega)) (fun j hj2 => ?_)
            rw [upE]
            by_cases c : j = e + tp - lo
            · rw [if_pos c, if_pos (by omega), c, show e + tp - lo - (tp - lo) = e by omega]
            · rw [if_neg c, z2 j hj2]
              congr 1
              by_cases c2 : tp - lo ≤ j ∧ j < tp - lo + e
              · rw [if_pos c2, if_pos (by omega)]
              · rw [if_neg c2, if_neg (by omega)]
      exact key2 (lo + 1) 0 R1 (by omega) r1 (fun j hj => by rw [if_neg (by omega)]; exact (w1 j hj).1)
  unfold wp_leaves
  refine s_topOf (Or.inr rfl) hp.2 hb (s_topOf (Or.inl rfl) hp.2 ha ?_)
  rw [etb, ιm_s]
  refine ⟨tpn a 41 + 1, key (tpn a 41) a R (Nat.le_refl _) (Fr.rf _ _ _) ha (fun j hj => ?_)⟩
  unfold rmv
  rw [elo, eiv]
/-! COMMON: the reference's end, and the class's rows. -/
theorem s_common {d s1 s2 p : Nat} {x1 x2 x3 : Int32} {A B : Po} {R : RS} {K : Int32 → RS → Prop} (h1 : x1 = ι d) (h2 : x2 = ι s1) (h3 : x3 = ι s2) (hd : d < 56) (ha : s1 < 56) (hb : s2 < 56) (hpp : PrP p) (wa : wf p A) (wb : wf p B) (xa : inX A) (xb : inX B) (la : Sl R s1 A) (lb : Sl R s2 B) (hG : G0 R p) (h : ∀ R', Fr R R' [2, 3, 4, 5, 6, 15, 16] [7] → Fs R R' [d] → G0 R' p → (∀ L, Can p (rowF p 41 (cmC p (rwN A) (rwN B))) L → Sl R' d L → K 1 R') ∧ ((¬ ∃ L, Can p (rowF p 41 (cmC p (rwN A) (rwN B))) L) → K 0 R')) : wp_common x1 x2 x3 R K := by
  subst h1 h2 h3
  have hp := hpp.le
  -- the end
  have fin : ∀ (R1 : RS) (c : Nat → Nat), Fr R R1 [15, 16] [] → G0 R1 p → Rw R1 15 p c → (∀ j, j < 41 → c j = gd p 42 (rwN A) (rwN B) j) → wp_topOf 15 R1 (fun r2 R2 => (0 ≤ r2 → vp_in r2 41 ∧ wp_inverse (R2 15 (Int32.toNatClampNeg r2)) R2 (fun r3 R3 => ∃ nn : Nat, wl_common_125 K nn (ι d) r2 r3 0 R3)) ∧ (¬ (0 ≤ r2) → ∃ nn : Nat, wl_common_125 K nn (ι d) r2 0 0 R2)) := by
    intro R1 c r1 g1 w1 hc
    have hl := tpn_le (v := c) 41
    have etp : tpn c 41 = tpn (gd p 42 (rwN A) (rwN B)) 41 := tpn_cg 41 hc
    have run : ∀ (i : Nat), i < 13 → (∀ j, j < 41 → (c j * i) % p = cmC p (rwN A) (rwN B) j % p) → ∃ nn, wl_common_125 K nn (ι d) (ιm (tpn c 41)) (ι i) 0 R1 := by
      intro i hi hci
      have key : ∀ (k e t : Nat) (R2 : RS), e + k = tpn c 41 → t ≤ e → Fr R R2 [5, 6, 15, 16] [7] → Rw R2 15 p c → Gt R2 p (rowF p 41 (fun x => if x < e then c x * i else 0)) t → wl_common_125 K (k + 1) (ι d) (ιm (tpn c 41)) (ι i) (ι e) R2 := by
        intro k
        induction k with
        | zero =>
          intro e t R2 he ht r2 w2 g2
          show wb_common_125 _ _ _ _ _ _ _
          unfold wb_common_125
          rw [ιm_lt (by omega) (by omega)]
          refine ⟨fun _ => ?_, fun q => absurd (by omega) q⟩
          have e9 : rowF p 41 (fun x => if x < e then c x * i else 0) = rowF p 41 (cmC p (rwN A) (rwN B)) := rowF_congr (fun j hj => by
            by_cases q : j < e
            · rw [if_pos q]; exact hci j hj
            · rw [if_neg q]
              have hz := tpn_z (v := c) 41 j (by omega) hj
              rw [← hci j hj, hz, Nat.zero_mul])
          rw [e9] at g2
          refine s_gathered rfl hd (by omega) hpp g2 (fun R3 r3 f3 g3 => ?_)
          have hh := h R3 ((r2.mo (by decide) (by decide)).tr (r3.mo (by decide) (by decide))) ((r2.fs [d] (by simp)).tr f3) g3
          exact ⟨fun L c l => ⟨Or.inr rfl, hh.1 L c l⟩, fun c => ⟨Or.inl rfl, hh.2 c⟩⟩
        | succ k ih =>
          intro e t R2 he ht r2 w2 g2
          have hce := w2 e (by omega)
          have hm : c e * i ≤ 13 * 13 := Nat.mul_le_mul (by omega) (by omega)
          show wb_common_125 _ _ _ _ _ _ _
          unfold wb_common_125
          rw [ιm_lt (by omega) (by omega), ι_cl (by omega), hce.1, ι_mul, show (1 : Int32) = ι 1 from rfl, ι_add]
          refine ⟨fun q => absurd q (by omega), fun _ => ⟨ι_in (by omega) (by omega), fun q => ?_, fun q => ⟨ι_in (by omega) (by omega), ?_⟩⟩⟩
          · rw [show (0 : Int32) = ι 0 from rfl, ι_eq (by omega) (by omega)] at q
            refine ih (e + 1) t R2 (by omega) (by omega) r2 w2 ?_
            have e9 : rowF p 41 (fun x => if x < e + 1 then c x * i else 0) = rowF p 41 (fun x => if x < e then c x * i else 0) := rowF_congr (fun j hj => by
              by_cases q2 : j = e
              · rw [if_pos (by omega), if_neg (by omega), q2, q, Nat.zero_mul]
              · by_cases q3 : j < e
                · rw [if_pos q3, if_pos (by omega)]
                · rw [if_neg q3, if_neg (by omega)])
            rw [e9]; exact g2
          · have cg := cg_n (p := p) (n := c e * i) (by omega)
            refine s_gathers (x := e) (y := 0) (z := 0) (m := c e * i) rfl rfl rfl hpp (by omega) (by omega) (by omega) (by omega) cg.1 cg.2.1 cg.2.2 g2 (fun R3 r3 g3 => ?_)
            rw [adF_row (by omega)] at g3
            refine ih (e + 1) (t + 1) R3 (by omega) (by omega) (r2.tr (r3.mo (by decide) (by decide))) (fun j hj => by rw [r3.1 15 (by omega) (by simp)]; exact w2 j hj) ?_
            have e9 : rowF p 41 (fun x => if x < e + 1 then c x * i else 0) = rowF p 41 (fun x => if x = e then (if e < e then c e * i else 0) + c e * i else (if x < e then c x * i else 0)) := rowF_congr (fun j hj => by
              by_cases q2 : j = e
              · rw [if_pos (by omega), if_pos q2, if_neg (by omega), Nat.zero_add, q2]
              · rw [if_neg q2]
                by_cases q3 : j < e
                · rw [if_pos q3, if_pos (by omega)]
                · rw [if_neg q3, if_neg (by omega)])
            rw [e9]; exact g3
      refine ⟨tpn c 41 + 1, key (tpn c 41) 0 0 R1 (by omega) (by omega) (r1.mo (by decide) (by decide)) w1 (g1.ext (fun x y z => ?_))⟩
      unfold rowF
      by_cases q : y = 0 ∧ z = 0 ∧ x < 41
      · rw [if_pos q]
        show 0 = (if x < 0 then c x * i else 0) % p
        rw [if_neg (Nat.not_lt_zero x), Nat.zero_mod]
      · rw [if_neg q]
    refine s_topOf (Or.inl rfl) hp.2 w1 ?_
    by_cases c0 : tpn c 41 = 0
    · refine ⟨fun q => absurd q (by rw [c0]; decide), fun _ => run 0 (by omega) (fun j hj => ?_)⟩
      unfold cmC
      rw [← etp, if_pos c0, Nat.mul_zero, Nat.mul_zero]
    · have ec : c (tpn c 41 - 1) = gd p 42 (rwN A) (rwN B) (tpn c 41 - 1) := hc _ (by omega)
      have hcl := w1 (tpn c 41 - 1) (by omega)
      have hok := iv_ok hpp hcl.2 (tpn_nz 41 c0)
      have em : ιm (tpn c 41) = ι (tpn c 41 - 1) := by unfold ιm; rw [if_neg c0]
      rw [em]
      refine ⟨fun _ => ⟨ι_in (by omega) (by omega), ?_⟩, fun q => absurd (ι_le0 (by omega)) q⟩
      rw [ι_cl (by omega), hcl.1]
      refine s_inverse hpp g1.1 rfl hcl.2 (tpn_nz 41 c0) ?_
      rw [← em]
      refine run _ (by omega) (fun j hj => ?_)
      unfold cmC
      rw [← etp, if_neg c0, ← ec, ← hc j hj]
  have key : ∀ (f : Nat) (u v : Nat → Nat) (R1 : RS), tpn v 41 ≤ f → Fr R R1 [15, 16] [] → G0 R1 p → Rw R1 15 p u → Rw R1 16 p v → (∀ j, j < 41 → gd p f u v j = gd p 42 (rwN A) (rwN B) j) → wl_common_18 K (f + 1) (ι d) R1 := by
    intro f
    induction f with
    | zero =>
      intro u v R1 hv r1 g1 wu wv e1
      show wb_common_18 _ _ _ _
      unfold wb_common_18
      refine s_topOf (Or.inr rfl) hp.2 wv ⟨fun _ => fin R1 u r1 g1 wu (fun j hj => e1 j hj), fun c => absurd ((ιm_neg (by omega)).mpr (by omega)) c⟩
    | succ f ih =>
      intro u v R1 hv r1 g1 wu wv e1
      have hlv := tpn_le (v := v) 41
      show wb_common_18 _ _ _ _
      unfold wb_common_18
      refine s_topOf (Or.inr rfl) hp.2 wv ?_
      rw [ιm_neg (by omega)]
      refine ⟨fun c => fin R1 u r1 g1 wu (fun j hj => ?_), fun c => ?_⟩
      · rw [← e1 j hj, gd, if_pos c]
      · obtain ⟨t1, t2, t3⟩ := rmv_tp hpp (fun j hj => (wu j hj).2) (fun j hj => (wv j hj).2) c
        refine s_leaves hpp g1.1 wu wv c (fun R2 u2 r2 w2 e2 => ⟨42, ?_⟩)
        have r12 := r1.tr (r2.mo (fs' := [15, 16]) (ks' := []) (by decide) (by decide))
        have wv2 : Rw R2 16 p v := fun j hj => by rw [r2.1 16 (by omega) (by simp)]; exact wv j hj
        -- swapping
        have swp : ∀ (k e : Nat) (R3 : RS), e + k = 41 → Fr R R3 [15, 16] [] → G0 R3 p → (∀ j, j < 41 → R3 15 j = ι (if j < e then v j else u2 j) ∧ R3 16 j = ι (if j < e then u2 j else v j)) → wl_common_43 (wl_common_18 K (f + 1)) K (k + 1) (ι d) (ι e) R3 := by
          intro k
          induction k with
          | zero =>
            intro e R3 he r3 g3 z3
            show wb_common_43 _ _ _ _ _ _
            unfold wb_common_43
            refine ⟨fun _ => ?_, fun q => absurd (by rw [show (41 : Int32) = ι 41 from rfl, ι_le (by omega) (by omega)]; omega) q⟩
            refine ih v u2 R3 ?_ r3 g3 (fun j hj => ⟨by rw [(z3 j hj).1, if_pos (by omega)], (wv j hj).2⟩) (fun j hj => ⟨by rw [(z3 j hj).2, if_pos (by omega)], (w2 j hj).2⟩) (fun j hj => ?_)
            · rw [tpn_cg 41 e2]; omega
            · rw [← e1 j hj, gd, if_neg c]
              exact gd_cg f (fun _ _ => rfl) e2 j hj
          | succ k ih2 =>
            intro e R3 he r3 g3 z3
            have ze := z3 e (by omega)
            rw [if_neg (by omega), if_neg (by omega)] at ze
            show wb_common_43 _ _ _ _ _ _
            unfold wb_common_43
            refine ⟨fun q => absurd q (by rw [show (41 : Int32) = ι 41 from rfl, ι_le (by omega) (by omega)]; omega), fun _ => ⟨ι_in (by omega) (by omega), fun v1 ev1 => ⟨ι_in (by omega) (by omega), ι_in (by omega) (by omega), ι_in (by omega) (by omega), ?_⟩⟩⟩
            rw [ι_cl (by omega), ze.1] at ev1
            subst ev1
            rw [ι_cl (by omega), ze.2, show (1 : Int32) = ι 1 from rfl, ι_add]
            have rr : Fr R3 (up (up R3 15 e (ι (v e))) 16 e (ι (u2 e))) [15, 16] [] := ((Fr.rf R3 _ _).w (by simp) (by omega)).w (by simp) (by omega)
            refine ih2 (e + 1) _ (by omega) (r3.tr rr) (g3.fr rr (by simp) (by simp) (by simp) (by simp)) (fun j hj => ?_)
            rw [upN (by omega), upE, upE, upN (by omega)]
            by_cases q : j = e
            · rw [if_pos q, if_pos q, if_pos (by omega), if_pos (by omega), q]; exact ⟨rfl, rfl⟩
            · rw [if_neg q, if_neg q]
              have := z3 j hj
              by_cases q2 : j < e
              · rw [if_pos q2, if_pos q2] at this
                rw [if_pos (by omega), if_pos (by omega)]; exact this
              · rw [if_neg q2, if_neg q2] at this
                rw [if_neg (by omega), if_neg (by omega)]; exact this
        exact swp 41 0 R2 (by omega) r12 (g1.fr r2 (by simp) (by simp) (by simp) (by simp)) (fun j hj => by rw [if_neg (by omega), if_neg (by omega)]; exact ⟨(w2 j hj).1, (wv2 j hj).1⟩)
  unfold wp_common
  refine s_spread (Or.inl rfl) ha (by omega) wa xa la (fun R1 r1 w1 => ?_)
  refine s_spread (Or.inr rfl) hb (by omega) wb xb (lb.go wb.1 (r1.fs [] (by simp)) (by simp)) (fun R2 r2 w2 => ⟨43, ?_⟩)
  have r12 : Fr R R2 [15, 16] [] := (r1.mo (by decide) (by decide)).tr (r2.mo (by decide) (by decide))
  have hl := tpn_le (v := rwN B) 41
  exact key 42 (rwN A) (rwN B) R2 (by omega) r12 (hG.fr r12 (by simp) (by simp) (by simp) (by simp)) (fun j hj => by rw [r2.1 15 (by omega) (by simp)]; exact w1 j hj) w2 (fun j hj => rfl)
/-! COMMON: the class. -/
def Rc (S : HS) (u p : Nat) (a : Nat → Nat) : Prop := hT S u = 21 ∧ hN S u = 41 ∧ ∀ j, j < 41 → hI S u j = ι (a j) ∧ a j < p
theorem Rc.go {S S' : HS} {W V : Nat → Nat → Prop} {u p : Nat} {a : Nat → Nat} (h : Rc S u p a) (hu : u < hX S) (e : Ext S S' W V) (w : ∀ k, ¬ W u k) : Rc S' u p a := by
  have ee := e.2.2.1 u hu
  exact ⟨by rw [ee.1]; exact h.1, by rw [ee.2.1]; exact h.2.1, fun j hj => by rw [ee.2.2.1 j (w j)]; exact h.2.2 j hj⟩
section CMC
variable {M : Nat × Nat} {h0 p : Nat} {S : HS}
theorem top_row {L : Po} (hw : wf p L) (hx : inX L) : mA L 0 = tpn (rwN L) 41 := by
  have hml := mA_le (v := 0) hw
  refine (tpn_top hml (fun j h1 h2 => ?_) ?_).symm
  · apply Classical.byContradiction
    intro q
    have := cf_mem (L := L) (x := j) (y := 0) (z := 0) (v := 0) q
    rw [if_pos rfl] at this
    omega
  · by_cases c : L.length = 0
    · exact Or.inl (by unfold mA; rw [c]; rfl)
    · obtain ⟨i, hi, h1⟩ := mx_ex (L := L) (g := fun t => exv t 0) (n := L.length) (by omega)
      right
      have h2 : mA L 0 = (tm L i).x + 1 := h1
      rw [h2, Nat.add_sub_cancel]
      show cf L (tm L i).x 0 0 ≠ 0
      have h3 := cf_at hw hi
      rw [(hx i hi).1, (hx i hi).2] at h3
      rw [h3]
      have := (hw.2.1 i hi).2.2.2.1
      omega
/-- the last t terms in a row -/
def rwR (L : Po) (t j : Nat) : Nat := sumTo t (fun i => if (rt L i).x = j then (rt L i).n else 0)
theorem rwR_all {L : Po} (h : inX L) (j : Nat) : rwR L L.length j = rwN L j := by
  rw [← rwT_all h]
  exact sumTo_rev L.length (fun i => if (tm L i).x = j then (tm L i).n else 0)
theorem rwR_new {t : Nat} {L : Po} (hw : wf p L) (h : inX L) (ht : t < L.length) : rwR L t (rt L t).x = 0 := sumTo_zero (fun i hi => if_neg (fun e => by
  have h1 := k6_fall hw hi ht
  have h2 := h (L.length - 1 - i) (by omega)
  have h3 := h (L.length - 1 - t) (by omega)
  unfold rt at e
  unfold k6 at h1
  omega))
theorem rwN_lt {L : Po} (hp : 0 < p) (hw : wf p L) (j : Nat) : rwN L j < p := cf_lt hp hw j 0 0
theorem c_layOut {a u : Nat} {L : Po} {K : Int32 → HS → Prop} (hp : 0 < p) (hw : wf p L) (hx : inX L) (ra : Rd S a L) (hu : hT S u = 21 ∧ hN S u = 41) (hux : u < hX S) (hne : a ≠ u ∧ a + 1 ≠ u ∧ a + 2 ≠ u) (h : ∀ S', Ext S S' (fun b _ => b = u) V0 → hX S' = hX S → hS S' = hS S → Rc S' u p (rwN L) → K (ιm (tpn (rwN L) 41)) S') : wp_X9_layOut M a u S K := by
  have hle := hw.1
  unfold wp_X9_layOut
  refine c_fill0a hu.1 (by rw [hu.2]; omega) (fun S1 e1 x1 s1 z1 => ⟨L.length + 1, ?_⟩)
  have goR : ∀ {S2 : HS}, Ext S S2 (fun b _ => b = u) V0 → Rd S2 a L := fun e => ra.go e (fun k => ⟨hne.1, hne.2.1, hne.2.2, fun c => c⟩)
  have goU : ∀ {S2 : HS}, Ext S S2 (fun b _ => b = u) V0 → hT S2 u = 21 ∧ hN S2 u = 41 := fun e => ⟨by rw [(e.2.2.1 u hux).1]; exact hu.1, by rw [(e.2.2.1 u hux).2.1]; exact hu.2⟩
  have key : ∀ (k t : Nat) (S2 : HS), t + k = L.length → Ext S S2 (fun b _ => b = u) V0 → hX S2 = hX S → hS S2 = hS S → (∀ j, j < 41 → hI S2 u j = ι (rwR L t j)) → wl_X9_layOut_7 M K (k + 1) a u (ι t) S2 := by
    intro k
    induction k with
    | zero =>
      intro t S2 ht e2 x2 s2 z2
      obtain ⟨-, p2, -, -, -, -, -, -, -, -, p9, -⟩ := goR e2
      show wb_X9_layOut_7 _ _ _ _ _ _ _
      unfold wb_X9_layOut_7
      rw [p9]
      refine ⟨p2, fun _ => ⟨p2, c_degR hw (goR e2) (v := 0) rfl (by omega) ?_⟩, fun c => absurd (by rw [ι_le (by omega) (by omega)]; omega) c⟩
      show K (ιm (mA L 0)) S2
      rw [top_row hw hx]
      refine h S2 e2 x2 s2 ⟨(goU e2).1, (goU e2).2, fun j hj => ⟨?_, rwN_lt hp hw j⟩⟩
      rw [z2 j hj, show t = L.length by omega, rwR_all hx]
    | succ k ih =>
      intro t S2 ht e2 x2 s2 z2
      obtain ⟨-, p2, p3, p4, p5, p6, p7, p8, p7', p8', p9, p11⟩ := goR e2
      have hs := rt_sm hw (i := t) (by omega)
      have hx0 := exv_le hs 0
      show wb_X9_layOut_7 _ _ _ _ _ _ _
      unfold wb_X9_layOut_7
      rw [p9, ι_cl (by omega)]
      refine ⟨p2, fun c => absurd c (by rw [ι_le (by omega) (by omega)]; omega), fun _ => ⟨p2, a + 1, p3, p5, ι_in (by omega) (by omega), c_exp hs (p11 t (by omega)).1 (v := 0) rfl (by omega) ⟨p2, a + 2, p4, p6, ι_in (by omega) (by omega), (goU e2).1, by rw [(goU e2).2]; exact ι_in (by omega) (by omega), ?_⟩⟩⟩
      rw [ι_cl (by omega), (p11 t (by omega)).2, show (1 : Int32) = ι 1 from rfl, ι_add]
      refine ih (t + 1) _ (by omega) (e2.sI rfl) x2 s2 (fun j hj => ?_)
      rw [sI_eq]
      show (if j = (rt L t).x then ι (rt L t).n else hI S2 u j) = ι (rwR L (t + 1) j)
      have hn := rwR_new hw hx (show t < L.length by omega)
      by_cases c : j = (rt L t).x
      · rw [if_pos c]
        unfold rwR
        rw [sumTo, if_pos c.symm, show sumTo t (fun i => if (rt L i).x = j then (rt L i).n else 0) = 0 by rw [c]; exact hn, Nat.zero_add]
      · rw [if_neg c, z2 j hj]
        unfold rwR
        rw [sumTo, if_neg (fun e => c e.symm), Nat.add_zero]
  exact key L.length 0 S1 (by omega) e1 x1 s1 (fun j hj => z1 j (by rw [hu.2]; exact hj))
/-- what is left: both rows, and the rest as it was -/
theorem c_takeRemainder {u w : Nat} {x2 x4 : Int32} {a b : Nat → Nat} {K : Int32 → HS → Prop} (hb : Bs h0 S p) (hu : u = h0 + 20 ∨ u = h0 + 21) (hw : w = h0 + 20 ∨ w = h0 + 21) (huw : u ≠ w) (ra : Rc S u p a) (rb : Rc S w p b) (hbt : tpn b 41 ≠ 0) (h2 : x2 = ιm (tpn a 41)) (h4 : x4 = ι (tpn b 41 - 1)) (h : ∀ (S' : HS) (a' : Nat → Nat), Ext S S' (fun c _ => c = u) V0 → hX S' = hX S → hS S' = hS S → Rc S' u p a' → (∀ j, j < 41 → a' j = rmv p a b j) → K (ιm (tpn (rmv p a b) 41)) S') : wp_X9_takeRemainder M (h0 + 5) u x2 w x4 S K := by
  subst h2 h4
  obtain ⟨hL, ht, hbb, hp5, hpp⟩ := id hb
  have hp := hpp.le
  have h60 := ht.1
  have hl := tpn_le (v := b) 41
  have hla := tpn_le (v := a) 41
  have hbl := rb.2.2 (tpn b 41 - 1) (by omega)
  have hok := iv_ok hpp hbl.2 (tpn_nz 41 hbt)
  obtain ⟨tr1, tr2, tr3⟩ := rmv_tp (a := a) hpp (fun j hj => (ra.2.2 j hj).2) (fun j hj => (rb.2.2 j hj).2) hbt
  have erm : rmv p a b = rmd p b (tpn b 41 - 1) (iv p (b (tpn b 41 - 1))) (tpn a 41 - (tpn b 41 - 1)) a := rfl
  generalize elo : tpn b 41 - 1 = lo at *
  have etb : tpn b 41 = lo + 1 := by omega
  generalize eiv : iv p (b lo) = i at *
  have goB : ∀ {S1 : HS}, Ext S S1 (fun c _ => c = u) V0 → Rc S1 w p b := fun e => rb.go (by omega) e (fun k => fun c => huw c.symm)
  have goS : ∀ {S1 : HS}, Ext S S1 (fun c _ => c = u) V0 → hX S1 = hX S → Bs h0 S1 p := fun e hx => hb.go (e.mo (fun c k q => by unfold Wz; omega) (fun _ _ c => c)) hx
  -- looking for the top
  have look : ∀ (k : Nat) (S1 : HS) (a' : Nat → Nat), k ≤ 41 → Ext S S1 (fun c _ => c = u) V0 → hX S1 = hX S → hS S1 = hS S → Rc S1 u p a' → (∀ j, j < 41 → a' j = rmv p a b j) → (∀ j, k ≤ j → j < 41 → a' j = 0) → wl_X9_takeRemainder_102 M K (k + 1) u (ιm k) S1 := by
    intro k S1 a' 
    induction k with
    | zero =>
      intro _ e1 x1 s1 r1 ea hz
      have et : tpn (rmv p a b) 41 = 0 := by rw [← tpn_cg 41 ea]; exact tpn_top (by omega) (fun j _ hj => hz j (by omega) hj) (Or.inl rfl)
      have hh := h S1 a' e1 x1 s1 r1 ea
      rw [et] at hh
      show wb_X9_takeRemainder_102 _ _ _ _ _ _
      unfold wb_X9_takeRemainder_102
      exact ⟨fun _ => hh, fun c => absurd (by decide) c⟩
    | succ k ih =>
      intro hk e1 x1 s1 r1 ea hz
      have hak := r1.2.2 k (by omega)
      show wb_X9_takeRemainder_102 _ _ _ _ _ _
      unfold wb_X9_takeRemainder_102
      rw [ιm_s, ι_cl (by omega), hak.1, ιm_dec, show (0 : Int32) = ι 0 from rfl, ι_eq (by omega) (by omega)]
      refine ⟨fun c => absurd c (ι_nn (by omega)), fun _ => ⟨r1.1, by rw [r1.2.1]; exact ι_in (by omega) (by omega), fun c => ?_, fun c => ih (by omega) e1 x1 s1 r1 ea (fun j h1 h2 => ?_)⟩⟩
      · have et : tpn (rmv p a b) 41 = k + 1 := by rw [← tpn_cg 41 ea]; exact tpn_top hk hz (Or.inr c)
        have hh := h S1 a' e1 x1 s1 r1 ea
        rw [et, ιm_s] at hh
        exact hh
      · by_cases e : j = k
        · rw [e]; exact c
        · exact hz j (by omega) h2
  -- the end of the loop
  have fin6 : ∀ (x6 : Int32) (S1 : HS) (a1 : Nat → Nat) (K13 : Nat → Nat → Int32 → Nat → Int32 → Int32 → Int32 → HS → Prop), x6 < ι lo → Ext S S1 (fun c _ => c = u) V0 → hX S1 = hX S → hS S1 = hS S → Rc S1 u p a1 → (∀ j, j < 41 → a1 j = rmv p a b j) → wb_X9_takeRemainder_13 M K13 K (h0 + 5) u (ιm (tpn a 41)) w (ι lo) (ι i) x6 S1 := by
    intro x6 S1 a1 K13 hlt e1 x1 s1 r1 ea
    unfold wb_X9_takeRemainder_13
    refine ⟨fun _ v1 e9 => ?_, fun c => absurd hlt c⟩
    have em : v1 = ιm (if lo < tpn a 41 then lo else tpn a 41) := by
      rw [e9, show (1 : Int32) = ι 1 from rfl]
      have e8 : ι lo - ι 1 = ιm lo := by rw [← ιm_dec, Int32.sub_eq_add_neg]; rfl
      rw [e8]
      have e7 : ιm lo < ιm (tpn a 41) ↔ lo < tpn a 41 := by
        by_cases c0 : tpn a 41 = 0
        · rw [c0]
          constructor
          · intro q
            rw [show ιm 0 = -1 from rfl] at q
            unfold ιm at q
            split at q
            · exact absurd q (by decide)
            · exact absurd q (ι_lt1 (by omega))
          · intro q; omega
        · have : ιm (tpn a 41) = ι (tpn a 41 - 1) := by unfold ιm; rw [if_neg c0]
          rw [this, ιm_lt (by omega) (by omega)]
          omega
      by_cases c : lo < tpn a 41
      · rw [if_pos c, if_pos (e7.mpr c)]
      · rw [if_neg c, if_neg (fun q => c (e7.mp q))]
    subst em
    refine ⟨(if lo < tpn a 41 then lo else tpn a 41) + 1, look _ S1 a1 (by split <;> omega) e1 x1 s1 r1 ea (fun j h1 h2 => ?_)⟩
    have e5 : a1 j = rmv p a b j := ea j h2
    by_cases c : lo < tpn a 41
    · rw [if_pos c] at h1
      rw [e5]; exact tr3 j h1 h2
    · rw [if_neg c] at h1
      rw [e5, erm, show tpn a 41 - lo = 0 by omega]
      show a j = 0
      exact tpn_z 41 j h1 h2
  -- exponents from the top down
  have key : ∀ (k : Nat) (S1 : HS) (a1 : Nat → Nat), lo + k ≤ 41 → Ext S S1 (fun c _ => c = u) V0 → hX S1 = hX S → hS S1 = hS S → Rc S1 u p a1 → (∀ j, j < 41 → rmd p b lo i k a1 j = rmv p a b j) → wl_X9_takeRemainder_13 M K (k + 1) (h0 + 5) u (ιm (tpn a 41)) w (ι lo) (ι i) (ιm (lo + k)) S1 := by
    intro k
    induction k with
    | zero =>
      intro S1 a1 hk e1 x1 s1 r1 ea
      exact fin6 _ S1 a1 _ ((ιm_lt (by omega) (by omega)).mpr (by omega)) e1 x1 s1 r1 ea
    | succ k ih =>
      intro S1 a1 hk e1 x1 s1 r1 ea
      have b1 := goS e1 x1
      have rb1 := goB e1
      obtain ⟨hL1, -, -, hp1, -⟩ := id b1
      have hat := r1.2.2 (lo + k) (by omega)
      have hmi : a1 (lo + k) * i ≤ 13 * 13 := Nat.mul_le_mul (by omega) (by omega)
      have hpz : ¬ ι p = 0 := by rw [show (0 : Int32) = ι 0 from rfl, ι_eq (by omega) (by omega)]; omega
      show wb_X9_takeRemainder_13 _ _ _ _ _ _ _ _ _ _ _
      unfold wb_X9_takeRemainder_13
      rw [show lo + (k + 1) = lo + k + 1 by omega, ιm_s, ι_cl (by omega), hp1]
      refine ⟨fun c => absurd c (by rw [ι_lt (by omega) (by omega)]; omega), fun _ => ⟨hL1.t5, r1.1, by rw [r1.2.1]; exact ι_in (by omega) (by omega), hL1.t5, hpz, fun v2 e2 => ⟨lo + 2, ?_⟩⟩⟩
      have hql := Nat.mod_lt (a1 (lo + k) * i) (show 0 < p by omega)
      rw [hat.1, ι_mul, ι_rem (by omega) (by omega), ι_sub (by omega)] at e2
      subst e2
      have key2 : ∀ (k2 e : Nat) (S2 : HS), e + k2 = lo + 1 → Ext S S2 (fun c _ => c = u) V0 → hX S2 = hX S → hS S2 = hS S → hT S2 u = 21 ∧ hN S2 u = 41 → (∀ j, j < 41 → hI S2 u j = ι (if k ≤ j ∧ j < k + e then (a1 j + (p - a1 (lo + k) * i % p) * b (j - k)) % p else a1 j)) → wl_X9_takeRemainder_42 M (wl_X9_takeRemainder_13 M K (k + 1)) K (k2 + 1) (h0 + 5) u (ιm (tpn a 41)) w (ι lo) (ι i) (ι (lo + k)) (ι (p - a1 (lo + k) * i % p)) (ι e) S2 := by
        intro k2
        induction k2 with
        | zero =>
          intro e S2 he e2 x2 s2 u2 z2
          show wb_X9_takeRemainder_42 _ _ _ _ _ _ _ _ _ _ _ _ _ _
          unfold wb_X9_takeRemainder_42
          refine ⟨fun _ => ?_, fun c => absurd (by rw [ι_lt (by omega) (by omega)]; omega) c⟩
          rw [ιm_dec]
          refine ih S2 (el p b lo i (lo + k) a1) (by omega) e2 x2 s2 ⟨u2.1, u2.2, fun j hj => ⟨?_, el_lt (by omega) (fun j hj => (r1.2.2 j hj).2) j hj⟩⟩ (fun j hj => ea j hj)
          rw [z2 j hj]
          unfold el
          rw [show lo + k - lo = k by omega]
          congr 1
          by_cases c2 : k ≤ j ∧ j < k + e
          · rw [if_pos c2, if_pos (by omega)]
          · rw [if_neg c2, if_neg (by omega)]
        | succ k2 ih2 =>
          intro e S2 he e2 x2 s2 u2 z2
          have b2 := goS e2 x2
          have rb2 := goB e2
          have hbe := rb2.2.2 e (by omega)
          have hj := z2 (k + e) (by omega)
          rw [if_neg (by omega)] at hj
          have haj := (r1.2.2 (k + e) (by omega)).2
          have hqb : (p - a1 (lo + k) * i % p) * b e ≤ 13 * 13 := Nat.mul_le_mul (by omega) (by omega)
          show wb_X9_takeRemainder_42 _ _ _ _ _ _ _ _ _ _ _ _ _ _
          unfold wb_X9_takeRemainder_42
          rw [ι_sub (by omega), ι_add, show lo + k - lo + e = k + e by omega, ι_cl (by omega), ι_cl (by omega), hj, hbe.1, b2.2.2.2.1, ι_mul, ι_add, ι_rem (by omega) (by omega), show (1 : Int32) = ι 1 from rfl, ι_add]
          have hv : vp_in (ι (k + e)) (hN S2 u) := by rw [u2.2]; exact ι_in (by omega) (by omega)
          refine ⟨fun c => absurd c (by rw [ι_lt (by omega) (by omega)]; omega), fun _ => ⟨u2.1, hv, rb2.1, by rw [rb2.2.1]; exact ι_in (by omega) (by omega), b2.1.t5, hpz, u2.1, hv, ?_⟩⟩
          refine ih2 (e + 1) _ (by omega) (e2.sI rfl) x2 s2 u2 (fun j hj2 => ?_)
          rw [sI_eq]
          by_cases c : j = k + e
          · rw [if_pos c, if_pos (by omega), c, show k + e - k = e by omega]
          · rw [if_neg c, z2 j hj2]
            congr 1
            by_cases c2 : k ≤ j ∧ j < k + e
            · rw [if_pos c2, if_pos (by omega)]
            · rw [if_neg c2, if_neg (by omega)]
      exact key2 (lo + 1) 0 S1 (by omega) e1 x1 s1 ⟨r1.1, r1.2.1⟩ (fun j hj => by rw [if_neg (by omega)]; exact (r1.2.2 j hj).1)
  unfold wp_X9_takeRemainder
  refine ⟨rb.1, by rw [rb.2.1]; exact ι_in (by omega) (by omega), hL.t5, ?_⟩
  rw [ι_cl (by omega), hbl.1]
  refine c_inverse hL hpp hp5 rfl hbl.2 ?_
  rw [eiv]
  by_cases c : lo ≤ tpn a 41
  · refine ⟨tpn a 41 - lo + 1, ?_⟩
    have := key (tpn a 41 - lo) S a (by omega) (Ext.rf _ _ _) rfl rfl ra (fun j hj => by rw [erm])
    rw [show lo + (tpn a 41 - lo) = tpn a 41 by omega] at this
    exact this
  · refine ⟨1, fin6 _ S a _ ((ιm_lt (by omega) (by omega)).mpr (by omega)) (Ext.rf _ _ _) rfl rfl ra (fun j hj => ?_)⟩
    rw [erm, show tpn a 41 - lo = 0 by omega]
    rfl
end CMC
/-! COMMON: the class's end. -/
def W20 (h0 b _k : Nat) : Prop := b = h0 + 20 ∨ b = h0 + 21
theorem W20.z {h0 : Nat} {S : HS} : ∀ b k, W20 h0 b k → Wz h0 S b k := fun b k h => Or.inl (by unfold W20 at h; omega)
def W26 (h0 b k : Nat) : Prop := W20 h0 b k ∨ W3 h0 6 b k
theorem W26.z {h0 : Nat} {S : HS} : ∀ b k, W26 h0 b k → Wz h0 S b k := fun b k h => by
  rcases h with h | h
  · exact W20.z b k h
  · exact W3.z (Or.inl rfl) b k h
theorem c_common {M : Nat × Nat} {h0 p a b : Nat} {A B : Po} {S : HS} {K : Option Nat → HS → Prop} (hb : Bs h0 S p) (wa : wf p A) (wb : wf p B) (xa : inX A) (xb : inX B) (kaa : Ka h0 a) (pa : PolyAt S a A) (kab : Ka h0 b) (pb : PolyAt S b B) (r1 : hX S + 3 ≤ M.1) (r2 : hS S + 604 ≤ M.2) (h : Mk h0 S p (rowF p 41 (cmC p (rwN A) (rwN B))) K) : wp_X9_common M (h0 + 5) a b S K := by
  obtain ⟨hL, ht, hbb, hp5, hpp⟩ := id hb
  have hp := hpp.le
  have h60 := ht.1
  have goZ : ∀ {S1 : HS}, Ext S S1 (W20 h0) V0 → Ext S S1 (Wz h0 S) V0 := fun e => e.mo W20.z (fun _ _ c => c)
  -- the end
  have fin : ∀ (u : Nat) (S1 : HS) (c : Nat → Nat), (u = h0 + 20 ∨ u = h0 + 21) → Ext S S1 (W20 h0) V0 → hX S1 = hX S → hS S1 = hS S → Rc S1 u p c → (∀ j, j < 41 → c j = gd p 42 (rwN A) (rwN B) j) → w_X9_common_78 M K (h0 + 5) u (ιm (tpn c 41)) S1 := by
    intro u S1 c hu e1 x1 s1 rc hc
    have b1 := hb.go (goZ e1) x1
    have hl := tpn_le (v := c) 41
    have etp : tpn c 41 = tpn (gd p 42 (rwN A) (rwN B)) 41 := tpn_cg 41 hc
    unfold w_X9_common_78
    refine ⟨b1.1.t5, h0 + 6, b1.1.p5_1, b1.1.t6, c_clear (DL.d6 b1.1) (fun S2 e2 x2 s2 d2 => ?_)⟩
    have e12 : Ext S S2 (W26 h0) V0 := (e1.mo (fun b k q => Or.inl q) (fun _ _ c => c)).tr (e2.mo (fun b k q => Or.inr q) (fun _ _ c => c))
    have goZ2 : ∀ {S3 : HS}, Ext S S3 (W26 h0) V0 → Ext S S3 (Wz h0 S) V0 := fun e => e.mo W26.z (fun _ _ c => c)
    have rc2 : Rc S2 u p c := rc.go (by omega) e2 (fun k => by unfold W3; omega)
    have run : ∀ (i : Nat), i < 13 → (∀ j, j < 41 → (c j * i) % p = cmC p (rwN A) (rwN B) j % p) → ∃ nn, wl_X9_common_108 M K nn (h0 + 5) u (ι i) (ιm (tpn c 41)) S2 := by
      intro i hi hci
      have hF : ∀ x y z, fF (fun k => (tpn c 41 - 1 - k, 0, 0, c (tpn c 41 - 1 - k) * i % p)) (tpn c 41) x y z = rowF p 41 (cmC p (rwN A) (rwN B)) x y z := fun x y z => by
        rw [row_fF (p := p) (N := tpn c 41) (d := fun j => c j * i % p) (fun x _ => Nat.mod_lt _ (by omega))]
        unfold rowF
        by_cases q : y = 0 ∧ z = 0 ∧ x < 41
        · rw [if_pos q, ← hci x q.2.2]
          by_cases q2 : x < tpn c 41
          · rw [if_pos ⟨q.1, q.2.1, q2⟩]; exact Nat.mod_mod _ _
          · rw [if_neg (fun w => q2 w.2.2), tpn_z (v := c) 41 x (by omega) q.2.2, Nat.zero_mul, Nat.zero_mod]
        · rw [if_neg q, if_neg (fun w => q ⟨w.1, w.2.1, by omega⟩)]
      have key : ∀ (k e : Nat) (S3 : HS), e + k = tpn c 41 → Ext S S3 (W26 h0) V0 → hX S3 = hX S → hS S3 = hS S → Rc S3 u p c → Dr h0 S3 6 (pf (fun k => (tpn c 41 - 1 - k, 0, 0, c (tpn c 41 - 1 - k) * i % p)) e).1 (pf (fun k => (tpn c 41 - 1 - k, 0, 0, c (tpn c 41 - 1 - k) * i % p)) e).2 → wl_X9_common_108 M K (k + 1) (h0 + 5) u (ι i) (ιm (tpn c 41 - e)) S3 := by
        intro k
        induction k with
        | zero =>
          intro e S3 he e3 x3 s3 rc3 d3
          have b3 := hb.go (goZ2 e3) x3
          show wb_X9_common_108 _ _ _ _ _ _ _ _
          unfold wb_X9_common_108
          rw [ιm_neg (by omega)]
          refine ⟨fun _ => ⟨b3.1.t5, h0 + 6, b3.1.p5_1, b3.1.t6, ?_⟩, fun q => absurd (by omega) q⟩
          rw [show e = tpn c 41 by omega] at d3
          refine c_end (t := fun k => (tpn c 41 - 1 - k, 0, 0, c (tpn c 41 - 1 - k) * i % p)) (m := tpn c 41) hb (goZ2 e3) x3 s3 d3 (fun j hj _ => ⟨⟨by show tpn c 41 - 1 - j ≤ 40; omega, Nat.zero_le _, Nat.zero_le _⟩, Nat.mod_lt _ (by omega)⟩) (fun j1 j2 hj hj2 _ _ => ?_) hF r1 r2 h
          show (tpn c 41 - 1 - j2) * 4096 + 0 * 64 + 0 < (tpn c 41 - 1 - j1) * 4096 + 0 * 64 + 0
          omega
        | succ k ih =>
          intro e S3 he e3 x3 s3 rc3 d3
          have b3 := hb.go (goZ2 e3) x3
          obtain ⟨hL3, -, -, hp3, -⟩ := id b3
          generalize et : tpn c 41 - 1 - e = x at *
          have hxe : tpn c 41 - e = x + 1 := by omega
          have hce := rc3.2.2 x (by omega)
          have hm : c x * i ≤ 13 * 13 := Nat.mul_le_mul (by omega) (by omega)
          have hml := Nat.mod_lt (c x * i) (show 0 < p by omega)
          show wb_X9_common_108 _ _ _ _ _ _ _ _
          unfold wb_X9_common_108
          rw [hxe, ιm_s, ιm_dec]
          refine ⟨fun q => absurd q (ι_nn (by omega)), fun _ => ⟨hL3.t5, h0 + 6, hL3.p5_1, c_key rfl (y := 0) rfl (z := 0) rfl (by omega) (by omega) (by omega) ?_⟩⟩
          rw [ι_cl (by omega), hce.1, hp3, ι_mul, ι_rem (by omega) (by omega)]
          refine ⟨rc3.1, by rw [rc3.2.1]; exact ι_in (by omega) (by omega), hL3.t5, by rw [show (0 : Int32) = ι 0 from rfl, ι_eq (by omega) (by omega)]; omega, hL3.t6, ?_⟩
          refine c_psh (t := (x, 0, 0, c x * i % p)) (DL.d6 hL3) d3 rfl rfl (by show c x * i % p < 2147483648; omega) (fun S4 e4 x4 s4 d4 => ?_)
          have nx := ih (e + 1) S4 (by omega) (e3.tr (e4.mo (fun b k q => Or.inr q) (fun _ _ c => c))) (by omega) (by omega) (rc3.go (by omega) e4 (fun k => by unfold W3; omega)) (by rw [pf, et]; exact d4)
          rw [show tpn c 41 - (e + 1) = x by omega] at nx
          exact nx
      exact ⟨tpn c 41 + 1, key (tpn c 41) 0 S2 (by omega) e12 (by omega) (by omega) rc2 d2⟩
    have b2 := hb.go (goZ2 e12) (by omega)
    by_cases c0 : tpn c 41 = 0
    · refine ⟨fun q => absurd q (by rw [c0]; decide), fun _ => run 0 (by omega) (fun j hj => ?_)⟩
      unfold cmC
      rw [← etp, if_pos c0, Nat.mul_zero, Nat.mul_zero]
    · have ec : c (tpn c 41 - 1) = gd p 42 (rwN A) (rwN B) (tpn c 41 - 1) := hc _ (by omega)
      have hcl := rc2.2.2 (tpn c 41 - 1) (by omega)
      have hok := iv_ok hpp hcl.2 (tpn_nz 41 c0)
      have em : ιm (tpn c 41) = ι (tpn c 41 - 1) := by unfold ιm; rw [if_neg c0]
      rw [em]
      refine ⟨fun _ => ⟨rc2.1, by rw [rc2.2.1]; exact ι_in (by omega) (by omega), b2.1.t5, ?_⟩, fun q => absurd (ι_le0 (by omega)) q⟩
      rw [ι_cl (by omega), hcl.1]
      refine c_inverse b2.1 hpp b2.2.2.2.1 rfl hcl.2 ?_
      rw [← em]
      refine run _ (by omega) (fun j hj => ?_)
      unfold cmC
      rw [← etp, if_neg c0, ← ec, ← hc j hj]
  have key : ∀ (f : Nat) (u w rd : Nat) (x y : Nat → Nat) (S1 : HS), rd + f ≤ 82 → tpn y 41 ≤ f → (u = h0 + 20 ∨ u = h0 + 21) → (w = h0 + 20 ∨ w = h0 + 21) → u ≠ w → Ext S S1 (W20 h0) V0 → hX S1 = hX S → hS S1 = hS S → Rc S1 u p x → Rc S1 w p y → (∀ j, j < 41 → gd p f x y j = gd p 42 (rwN A) (rwN B) j) → wl_X9_common_29 M K (f + 1) (h0 + 5) u w (ιm (tpn x 41)) (ιm (tpn y 41)) (ι rd) S1 := by
    intro f
    induction f with
    | zero =>
      intro u w rd x y S1 hrd hy hu hw huw e1 x1 s1 rx ry eg
      have hly := tpn_le (v := y) 41
      show wb_X9_common_29 _ _ _ _ _ _ _ _ _ _
      unfold wb_X9_common_29
      have f0 := fin u S1 x hu e1 x1 s1 rx (fun j hj => eg j hj)
      rw [ιm_neg (by omega)]
      exact ⟨fun _ => f0, fun _ => ⟨fun _ => f0, fun q => absurd (by omega) q⟩⟩
    | succ f ih =>
      intro u w rd x y S1 hrd hy hu hw huw e1 x1 s1 rx ry eg
      have hly := tpn_le (v := y) 41
      have b1 := hb.go (goZ e1) x1
      show wb_X9_common_29 _ _ _ _ _ _ _ _ _ _
      unfold wb_X9_common_29
      rw [ιm_neg (by omega)]
      refine ⟨fun q => absurd q (by rw [show (82 : Int32) = ι 82 from rfl, ι_lt (by omega) (by omega)]; omega), fun _ => ⟨fun c => fin u S1 x hu e1 x1 s1 rx (fun j hj => ?_), fun c => ⟨b1.1.t5, ?_⟩⟩⟩
      · rw [← eg j hj, gd, if_pos c]
      · obtain ⟨t1, t2, t3⟩ := rmv_tp (a := x) hpp (fun j hj => (rx.2.2 j hj).2) (fun j hj => (ry.2.2 j hj).2) c
        refine c_takeRemainder b1 hu hw huw rx ry c rfl (by unfold ιm; rw [if_neg c]) (fun S2 x' e2 x2 s2 rx2 ex => ?_)
        rw [show (1 : Int32) = ι 1 from rfl, ι_add]
        have nx := ih w u (rd + 1) y x' S2 (by omega) (by rw [tpn_cg 41 ex]; omega) hw hu (fun q => huw q.symm) (e1.tr (e2.mo (fun b k q => by unfold W20; omega) (fun _ _ c => c))) (by omega) (by omega) (ry.go (by omega) e2 (fun k q => huw q.symm)) rx2 (fun j hj => ?_)
        · rw [tpn_cg 41 ex] at nx; exact nx
        · rw [← eg j hj, gd, if_neg c]
          exact gd_cg f (fun _ _ => rfl) ex j hj
  have sA := rs_ka kaa pa hbb
  have sB := rs_ka kab pb hbb
  have nA := sA.n (o := 20) (by omega)
  have nB := sB.n (o := 21) (by omega)
  have nB0 := sB.n (o := 20) (by omega)
  unfold wp_X9_common
  refine ⟨hL.t5, h0 + 20, hL.p5_7, hL.t5, h0 + 21, hL.p5_8, ?_⟩
  refine c_layOut (by omega) wa xa (pa.rd wa) ⟨hL.t20, hL.n20⟩ (by omega) nA (fun S1 e1 x1 s1 rc1 => ?_)
  have hL1 := hL.go h60 e1 (fun q hq c => c)
  refine c_layOut (by omega) wb xb ((pb.rd wb).go e1 (fun k => ⟨nB0.1, nB0.2.1, nB0.2.2, fun c => c⟩)) ⟨hL1.t21, hL1.n21⟩ (by omega) nB (fun S2 e2 x2 s2 rc2 => ⟨43, ?_⟩)
  have hl := tpn_le (v := rwN B) 41
  exact key 42 (h0 + 20) (h0 + 21) 0 (rwN A) (rwN B) S2 (by omega) (by omega) (Or.inl rfl) (Or.inr rfl) (by omega) ((e1.mo (fun b k q => Or.inl q) (fun _ _ c => c)).tr (e2.mo (fun b k q => Or.inr q) (fun _ _ c => c))) (by omega) (by omega) (rc1.go (by omega) e2 (fun k q => by omega)) rc2 (fun j hj => rfl)
