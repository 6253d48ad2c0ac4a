/-! Values at all points: the numbers. -/
def hor (p : Nat) (f : Nat → Nat) (n : Nat) : Nat := sumTo p (fun k => f k * pm p n k) % p
/-- from the top down -/
def hr (p : Nat) (f : Nat → Nat) (n top : Nat) : Nat → Nat
  | 0 => 0
  | j + 1 => (hr p f n top j * n + f (top - j)) % p
theorem hr_eq {p n top : Nat} {f : Nat → Nat} : ∀ j, j ≤ top + 1 → (hr p f n top j * pm p n (top + 1 - j) + sumTo (top + 1 - j) (fun k => f k * pm p n k)) % p = sumTo (top + 1) (fun k => f k * pm p n k) % p := by
  intro j
  induction j with
  | zero => intro _; show (0 * _ + sumTo (top + 1 - 0) _) % p = _; rw [Nat.zero_mul, Nat.zero_add, Nat.sub_zero]
  | succ j ih =>
    intro hj
    rw [← ih (by omega), show top + 1 - j = top - j + 1 by omega, show top + 1 - (j + 1) = top - j by omega, sumTo]
    show ((hr p f n top j * n + f (top - j)) % p * pm p n (top - j) + _) % p = (hr p f n top j * (pm p n (top - j) * n % p) + _) % p
    have e1 : ((hr p f n top j * n + f (top - j)) % p * pm p n (top - j)) % p = (hr p f n top j * (pm p n (top - j) * n) + f (top - j) * pm p n (top - j)) % p := by
      rw [Nat.mod_mul_mod, Nat.add_mul, Nat.mul_assoc, Nat.mul_comm n]
    have e2 : (hr p f n top j * (pm p n (top - j) * n % p)) % p = (hr p f n top j * (pm p n (top - j) * n)) % p := by rw [Nat.mul_mod_mod]
    rw [Nat.add_mod, e1, ← Nat.add_mod, Nat.add_mod (hr p f n top j * (pm p n (top - j) * n % p)), e2, ← Nat.add_mod]
    congr 1
    omega
theorem hr_end {p n top : Nat} {f : Nat → Nat} (ht : top < p) (hz : ∀ k, top < k → k < p → f k = 0) : hr p f n top (top + 1) % p = hor p f n := by
  have h := hr_eq (p := p) (n := n) (top := top) (f := f) (top + 1) (Nat.le_refl _)
  rw [Nat.sub_self] at h
  have h' : (hr p f n top (top + 1) * 1 + 0) % p = sumTo (top + 1) (fun k => f k * pm p n k) % p := h
  rw [Nat.mul_one, Nat.add_zero] at h'
  rw [h']
  unfold hor
  have e : sumTo p (fun k => f k * pm p n k) = sumTo (top + 1) (fun k => f k * pm p n k) := by
    have h2 := sumTo_append (top + 1) (p - (top + 1)) (fun k => f k * pm p n k)
    rw [show top + 1 + (p - (top + 1)) = p by omega, sumTo_zero (n := p - (top + 1)) (fun i hi => by rw [hz _ (by omega) (by omega), Nat.zero_mul]), Nat.add_zero] at h2
    exact h2
  rw [e]
theorem hr_lt {p n top : Nat} {f : Nat → Nat} (hp : 0 < p) : ∀ j, hr p f n top j < p := by
  intro j
  cases j with
  | zero => exact hp
  | succ j => exact Nat.mod_lt _ hp
theorem hor_lt {p n : Nat} {f : Nat → Nat} (hp : 0 < p) : hor p f n < p := Nat.mod_lt _ hp
theorem hor_0 {p n : Nat} {f : Nat → Nat} (hp : 0 < p) (hf : f 0 < p) (hz : ∀ k, 0 < k → k < p → f k = 0) : hor p f n = f 0 := by
  unfold hor
  rw [sumTo_single 0 hp (fun j hj ne => by rw [hz j (by omega) hj, Nat.zero_mul])]
  show f 0 * 1 % p = _
  rw [Nat.mul_one, Nat.mod_eq_of_lt hf]
theorem hor_congr {p n : Nat} {f g : Nat → Nat} (h : ∀ k, k < p → f k % p = g k % p) : hor p f n = hor p g n := sumTo_cong_mod (fun k hk => by rw [Nat.mul_mod, h k hk, ← Nat.mul_mod])
theorem sumTo_nest (n m : Nat) (g : Nat → Nat) : sumTo (n * m) g = sumTo n (fun i => sumTo m (fun j => g (i * m + j))) := by
  induction n with
  | zero => rw [Nat.zero_mul]; rfl
  | succ n ih => rw [Nat.succ_mul, sumTo_append, ih]; rfl
theorem sumTo_pick {n k : Nat} (f : Nat → Nat) (h : k < n) : sumTo n f = sumTo n (fun i => if i = k then 0 else f i) + f k := by
  induction n with
  | zero => omega
  | succ n ih =>
    by_cases e : k = n
    · subst e
      rw [sumTo, sumTo, if_pos rfl, Nat.add_zero]
      congr 1
      exact sumTo_congr (fun i hi => by rw [if_neg (by omega)])
    · rw [sumTo, ih (by omega), sumTo, if_neg (by omega)]
      omega
/-- the weight of a cell at a point -/
def wgt (p a b c i : Nat) : Nat := pm p a (i / p / p) * pm p b (i / p % p) * pm p c (i % p)
/-- what all cells come to at a point -/
def flt (p : Nat) (V : Nat → Nat) (a b c : Nat) : Nat := sumTo (p * p * p) (fun i => V i * wgt p a b c i)
theorem idx_x {p x y z : Nat} (hy : y < p) (hz : z < p) : ((x * p + y) * p + z) / p / p = x ∧ ((x * p + y) * p + z) / p % p = y ∧ ((x * p + y) * p + z) % p = z := by
  have hp : 0 < p := by omega
  have e1 : ((x * p + y) * p + z) / p = x * p + y := by rw [Nat.mul_comm (x * p + y), Nat.mul_add_div hp, Nat.div_eq_of_lt hz, Nat.add_zero]
  have e2 : (x * p + y) / p = x := by rw [Nat.mul_comm x, Nat.mul_add_div hp, Nat.div_eq_of_lt hy, Nat.add_zero]
  have e3 : (x * p + y) % p = y := by rw [Nat.mul_comm x, Nat.mul_add_mod, Nat.mod_eq_of_lt hy]
  have e4 : ((x * p + y) * p + z) % p = z := by rw [Nat.mul_comm (x * p + y), Nat.mul_add_mod, Nat.mod_eq_of_lt hz]
  rw [e1]
  exact ⟨e2, e3, e4⟩
theorem idx_lt {p x y z : Nat} (hx : x < p) (hy : y < p) (hz : z < p) : (x * p + y) * p + z < p * p * p := by
  have h1 : (x + 1) * p ≤ p * p := Nat.mul_le_mul_right p hx
  rw [Nat.succ_mul] at h1
  have h2 : (x * p + y + 1) * p ≤ p * p * p := Nat.mul_le_mul_right p (by omega)
  rw [Nat.succ_mul] at h2
  omega
theorem flt_nest {p a b c : Nat} {V : Nat → Nat} : hor p (fun x => hor p (fun y => hor p (fun z => V ((x * p + y) * p + z)) c) b) a = flt p V a b c % p := by
  unfold flt
  rw [sumTo_nest, sumTo_nest]
  unfold hor
  refine sumTo_cong_mod (fun x hx => ?_)
  show ((sumTo p (fun y => (sumTo p (fun z => V ((x * p + y) * p + z) * pm p c z) % p) * pm p b y) % p) * pm p a x) % p = _
  rw [Nat.mod_mul_mod, ← sumTo_mul_r]
  refine sumTo_cong_mod (fun y hy => ?_)
  show (sumTo p (fun z => V ((x * p + y) * p + z) * pm p c z) % p * pm p b y * pm p a x) % p = _
  rw [Nat.mul_assoc, Nat.mod_mul_mod, ← sumTo_mul_r]
  refine sumTo_cong_mod (fun z hz => ?_)
  unfold wgt
  obtain ⟨e1, e2, e3⟩ := idx_x (x := x) hy hz
  show (V ((x * p + y) * p + z) * pm p c z * (pm p b y * pm p a x)) % p = _
  rw [e1, e2, e3]
  congr 1
  rw [Nat.mul_assoc, Nat.mul_comm (pm p c z), Nat.mul_comm (pm p b y)]
theorem flt_upd {p a b c k m : Nat} {V : Nat → Nat} (hk : k < p * p * p) : flt p (fun i => if i = k then (V k + m) % p else V i) a b c % p = (flt p V a b c + m * wgt p a b c k) % p := by
  unfold flt
  rw [sumTo_pick (fun i => V i * wgt p a b c i) hk, sumTo_pick (fun i => (if i = k then (V k + m) % p else V i) * wgt p a b c i) hk]
  have e : sumTo (p * p * p) (fun i => if i = k then 0 else (if i = k then (V k + m) % p else V i) * wgt p a b c i) = sumTo (p * p * p) (fun i => if i = k then 0 else V i * wgt p a b c i) := sumTo_congr (fun i _ => by
    by_cases q : i = k
    · rw [if_pos q, if_pos q]
    · rw [if_neg q, if_neg q, if_neg q])
  rw [e]
  show (_ + (if k = k then (V k + m) % p else V k) * wgt p a b c k) % p = _
  rw [if_pos rfl, Nat.add_mod, Nat.mod_mul_mod, ← Nat.add_mod, Nat.add_mul]
  congr 1
  omega
theorem pm_red : ∀ p, p ∈ [2, 3, 5, 7, 11, 13] → ∀ a, a < p → ∀ e, e < 41 → pm p a (red p e) = pm p a e := by decide +kernel
theorem df_dec : ∀ p, p ∈ [2, 3, 5, 7, 11, 13] → ∀ u, u < p → ∀ v, v < p → ((u + (p - 1) * v) % p = 0 ↔ u = v) := by decide +kernel
def vS (p : Nat) (L : Po) (x y z : Nat) : Nat := sumTo L.length (fun i => vT p x y z (tm L i))
theorem vS_vF (p : Nat) (L : Po) (x y z : Nat) : vS p L x y z % p = vF p L x y z := rfl
def dfF (p : Nat) (A B : Po) (a b c : Nat) : Nat := (vS p A a b c + (p - 1) * vS p B a b c) % p
theorem vF_lt {p x y z : Nat} {L : Po} (hp : 0 < p) : vF p L x y z < p := Nat.mod_lt _ hp
theorem dfF_0 {p a b c : Nat} {A B : Po} (hpp : PrP p) : dfF p A B a b c = 0 ↔ vF p A a b c = vF p B a b c := by
  have hp := hpp.le
  rw [← df_dec p hpp.mem _ (vF_lt (by omega)) _ (vF_lt (by omega))]
  unfold dfF
  rw [← vS_vF, ← vS_vF]
  have e : (vS p A a b c + (p - 1) * vS p B a b c) % p = (vS p A a b c % p + (p - 1) * (vS p B a b c % p)) % p := by
    rw [Nat.mod_add_mod, Nat.add_mod, Nat.add_mod (vS p A a b c) ((p - 1) * (vS p B a b c % p)), Nat.mul_mod_mod]
  rw [e]
theorem dfF_nil {p a b c : Nat} {A : Po} : dfF p A [] a b c = vF p A a b c := by
  unfold dfF
  rw [show vS p [] a b c = 0 from rfl, Nat.mul_zero, Nat.add_zero]
  rfl
/-- a pass along lines -/
def pasF (p : Nat) (l : Nat → Nat → Nat) (li ni : Nat → Nat) (V : Nat → Nat) (i j : Nat) : Nat := if li j < i then hor p (fun k => V (l (li j) k)) (ni j) else V j
/-- lines that fill all cells -/
def Lin (p : Nat) (l : Nat → Nat → Nat) (li ni : Nat → Nat) : Prop := (∀ i n, i < p * p → n < p → l i n < p * p * p ∧ li (l i n) = i ∧ ni (l i n) = n) ∧ ∀ j, j < p * p * p → li j < p * p ∧ ni j < p ∧ l (li j) (ni j) = j
theorem lin_1 {p : Nat} (hp : PrP p) : Lin p (fun i n => i * p + n) (fun j => j / p) (fun j => j % p) := by
  unfold PrP at hp
  rcases hp with r | r | r | r | r | r <;> subst r <;> exact ⟨fun i n h1 h2 => by dsimp only; omega, fun j hj => by dsimp only; omega⟩
theorem lin_2 {p : Nat} (hp : PrP p) : Lin p (fun i n => i / p * p * p + i % p + n * p) (fun j => j / p / p * p + j % p) (fun j => j / p % p) := by
  unfold PrP at hp
  rcases hp with r | r | r | r | r | r <;> subst r <;> exact ⟨fun i n h1 h2 => by dsimp only; omega, fun j hj => by dsimp only; omega⟩
theorem lin_3 {p : Nat} (hp : PrP p) : Lin p (fun i n => i + n * (p * p)) (fun j => j % (p * p)) (fun j => j / (p * p)) := by
  unfold PrP at hp
  rcases hp with r | r | r | r | r | r <;> subst r <;> exact ⟨fun i n h1 h2 => by dsimp only; omega, fun j hj => by dsimp only; omega⟩
theorem pas_at {p : Nat} {l : Nat → Nat → Nat} {li ni : Nat → Nat} {V : Nat → Nat} (h : Lin p l li ni) {i n : Nat} (hi : i < p * p) (hn : n < p) : pasF p l li ni V (p * p) (l i n) = hor p (fun k => V (l i k)) n := by
  obtain ⟨-, e1, e2⟩ := h.1 i n hi hn
  unfold pasF
  rw [e1, e2, if_pos hi]
theorem two_lt {p a b : Nat} (ha : a < p) (hb : b < p) : a * p + b < p * p := by
  have := Nat.mul_le_mul_right p (show a + 1 ≤ p by omega)
  rw [Nat.succ_mul] at this
  omega
theorem two_dm {p a b : Nat} (hb : b < p) : (a * p + b) / p = a ∧ (a * p + b) % p = b := ⟨by rw [Nat.mul_comm a, Nat.mul_add_div (by omega), Nat.div_eq_of_lt hb, Nat.add_zero], by rw [Nat.mul_comm a, Nat.mul_add_mod, Nat.mod_eq_of_lt hb]⟩
theorem pas_1 {p : Nat} {V : Nat → Nat} (hp : PrP p) {a b c : Nat} (ha : a < p) (hb : b < p) (hc : c < p) : pasF p (fun i n => i * p + n) (fun j => j / p) (fun j => j % p) V (p * p) ((a * p + b) * p + c) = hor p (fun z => V ((a * p + b) * p + z)) c := pas_at (lin_1 hp) (two_lt ha hb) hc
theorem pas_2 {p : Nat} {V : Nat → Nat} (hp : PrP p) {a b c : Nat} (ha : a < p) (hb : b < p) (hc : c < p) : pasF p (fun i n => i / p * p * p + i % p + n * p) (fun j => j / p / p * p + j % p) (fun j => j / p % p) V (p * p) ((a * p + b) * p + c) = hor p (fun y => V ((a * p + y) * p + c)) b := by
  have h := pas_at (V := V) (lin_2 hp) (two_lt ha hc) hb
  have e : ∀ y, (a * p + c) / p * p * p + (a * p + c) % p + y * p = (a * p + y) * p + c := fun y => by
    rw [(two_dm hc).1, (two_dm hc).2, Nat.add_mul (a * p) y p]; omega
  simp only [e] at h
  exact h
theorem pas_3 {p : Nat} {V : Nat → Nat} (hp : PrP p) {a b c : Nat} (ha : a < p) (hb : b < p) (hc : c < p) : pasF p (fun i n => i + n * (p * p)) (fun j => j % (p * p)) (fun j => j / (p * p)) V (p * p) ((a * p + b) * p + c) = hor p (fun x => V ((x * p + b) * p + c)) a := by
  have h := pas_at (V := V) (lin_3 hp) (two_lt hb hc) ha
  have e : ∀ x, b * p + c + x * (p * p) = (x * p + b) * p + c := fun x => by
    rw [Nat.add_mul (x * p) b p, Nat.mul_assoc x p p]; omega
  simp only [e] at h
  exact h
theorem pas_all {p : Nat} {V : Nat → Nat} (hp : PrP p) {a b c : Nat} (ha : a < p) (hb : b < p) (hc : c < p) : pasF p (fun i n => i + n * (p * p)) (fun j => j % (p * p)) (fun j => j / (p * p)) (pasF p (fun i n => i / p * p * p + i % p + n * p) (fun j => j / p / p * p + j % p) (fun j => j / p % p) (pasF p (fun i n => i * p + n) (fun j => j / p) (fun j => j % p) V (p * p)) (p * p)) (p * p) ((a * p + b) * p + c) = flt p V a b c % p := by
  rw [← flt_nest, pas_3 hp ha hb hc]
  refine hor_congr (fun x hx => ?_)
  rw [pas_2 hp hx hb hc]
  congr 1
  refine hor_congr (fun y hy => ?_)
  rw [pas_1 hp hx hy hc]
/-! Points of the class: spreading a line. -/
def PtL (S : HS) (q : Nat) : Prop := hT S q = 6 ∧ hP S q 0 = some (q + 1) ∧ hP S q 1 = some (q + 2) ∧ hT S (q + 1) = 21 ∧ hT S (q + 2) = 21 ∧ hN S (q + 1) = 2197 ∧ hN S (q + 2) = 13 ∧ q + 2 < hX S
theorem PtL.q22 {h0 : Nat} {S : HS} (h : Lay h0 S) (hx : h0 + 60 ≤ hX S) : PtL S (h0 + 22) := ⟨h.t22, h.p22_0, h.p22_1, h.t23, h.t24, h.n23, h.n24, by omega⟩
theorem PtL.q33 {h0 : Nat} {S : HS} (h : Lay h0 S) (hx : h0 + 60 ≤ hX S) : PtL S (h0 + 33) := ⟨h.t33, h.p33_0, h.p33_1, h.t34, h.t35, h.n34, h.n35, by omega⟩
theorem PtL.q36 {h0 : Nat} {S : HS} (h : Lay h0 S) (hx : h0 + 60 ≤ hX S) : PtL S (h0 + 36) := ⟨h.t36, h.p36_0, h.p36_1, h.t37, h.t38, h.n37, h.n38, by omega⟩
def Wq (q b _k : Nat) : Prop := b = q ∨ b = q + 1 ∨ b = q + 2
def Wr (q b _k : Nat) : Prop := b = q + 1 ∨ b = q + 2
theorem PtL.go {S S' : HS} {W : Nat → Nat → Prop} {q : Nat} (h : PtL S q) (e : Ext S S' W V0) : PtL S' q := by
  obtain ⟨a1, a2, a3, a4, a5, a6, a7, a8⟩ := h
  have ee := e.2.2.1
  have nP : ∀ b k, b < hX S → hP S' b k = hP S b k := fun b k hb => (ee b hb).2.2.2 k (fun c => c)
  exact ⟨by rw [(ee _ (by omega)).1]; exact a1, by rw [nP _ _ (by omega)]; exact a2, by rw [nP _ _ (by omega)]; exact a3, by rw [(ee _ (by omega)).1]; exact a4, by rw [(ee _ (by omega)).1]; exact a5, by rw [(ee _ (by omega)).2.1]; exact a6, by rw [(ee _ (by omega)).2.1]; exact a7, by have := e.1; omega⟩
/-- the last one that isn't 0, and one more -/
def tpn (v : Nat → Nat) : Nat → Nat
  | 0 => 0
  | k + 1 => if v k = 0 then tpn v k else k + 1
theorem tpn_le {v : Nat → Nat} : ∀ k, tpn v k ≤ k := by
  intro k
  induction k with
  | zero => exact Nat.le_refl _
  | succ k ih => unfold tpn; split <;> omega
theorem tpn_z {v : Nat → Nat} : ∀ k i, tpn v k ≤ i → i < k → v i = 0 := by
  intro k
  induction k with
  | zero => intro i _ h; omega
  | succ k ih =>
    intro i h1 h2
    unfold tpn at h1
    by_cases c : v k = 0
    · rw [if_pos c] at h1
      by_cases e : i = k
      · rw [e]; exact c
      · exact ih i h1 (by omega)
    · rw [if_neg c] at h1; omega
theorem ιm_s (k : Nat) : ιm (k + 1) = ι k := by unfold ιm; rw [if_neg (by omega)]; rfl
/-- a line is spread -/
def SpD (p q f s : Nat) (v : Nat → Nat) (S S' : HS) : Prop := Ext S S' (Wr q) V0 ∧ hX S' = hX S ∧ hS S' = hS S ∧ (∀ n, n < p → hI S' (q + 1) (f + n * s) = ι (hor p v n)) ∧ ∀ i, (∀ n, n < p → i ≠ f + n * s) → hI S' (q + 1) i = hI S (q + 1) i
theorem c_spread {M : Nat × Nat} {p q f s : Nat} {x1 x2 : Int32} {v : Nat → Nat} {S : HS} {K : Int32 → HS → Prop} (hpp : PrP p) (hq : PtL S q) (hp2 : hI S q 2 = ι p) (h1 : x1 = ι f) (h2 : x2 = ι s) (hs : ∀ n, n < p → f + n * s < 2197) (hinj : ∀ n m, n < p → m < p → f + n * s = f + m * s → n = m) (hv : ∀ k, k < p → hI S (q + 1) (f + k * s) = ι (v k) ∧ v k < p) (h : ∀ S', SpD p q f s v S S' → K 0 S') : wp_X5_spread M q x1 x2 S K := by
  subst h1 h2
  have hp := hpp.le
  -- writing the line anew
  have wr : ∀ (S1 : HS) (w : Nat → Nat), Ext S S1 (Wr q) V0 → hX S1 = hX S → hS S1 = hS S → ∀ n, n < p → (∀ m, m < n → hI S1 (q + 1) (f + m * s) = ι (w m)) → (∀ i, (∀ m, m < n → i ≠ f + m * s) → hI S1 (q + 1) i = hI S (q + 1) i) → Ext S (sI S1 (q + 1) (f + n * s) (ι (w n))) (Wr q) V0 ∧ (∀ m, m < n + 1 → hI (sI S1 (q + 1) (f + n * s) (ι (w n))) (q + 1) (f + m * s) = ι (w m)) ∧ ∀ i, (∀ m, m < n + 1 → i ≠ f + m * s) → hI (sI S1 (q + 1) (f + n * s) (ι (w n))) (q + 1) i = hI S (q + 1) i := by
    intro S1 w e1 x1 s1 n hn a1 a2
    refine ⟨e1.sI (Or.inl rfl), fun m hm => ?_, fun i hi => ?_⟩
    · rw [sI_eq]
      by_cases c : m = n
      · rw [if_pos (by rw [c]), c]
      · rw [if_neg (fun z => c (hinj m n (by omega) hn z))]; exact a1 m (by omega)
    · rw [sI_eq, if_neg (hi n (by omega))]
      exact a2 i (fun m hm => hi m (by omega))
  have fillR : (∀ k, 0 < k → k < p → v k = 0) → ∀ S1, Ext S S1 (Wr q) V0 → hX S1 = hX S → hS S1 = hS S → (∀ i, hI S1 (q + 1) i = hI S (q + 1) i) → ∀ (K2 : Int32 → HS → Prop), (∀ S', SpD p q f s v S S' → K2 0 S') → wp_X5_fillRow M q (ι f) (ι s) (ι (v 0)) S1 K2 := by
    intro hz S1 e1 x1 s1 a1 K2 hK
    have key : ∀ (k n : Nat) (S2 : HS), n + k = p → Ext S S2 (Wr q) V0 → hX S2 = hX S → hS S2 = hS S → (∀ m, m < n → hI S2 (q + 1) (f + m * s) = ι (v 0)) → (∀ i, (∀ m, m < n → i ≠ f + m * s) → hI S2 (q + 1) i = hI S (q + 1) i) → wl_X5_fillRow_3 M K2 (k + 1) q (ι f) (ι s) (ι (v 0)) (ι n) S2 := by
      intro k
      induction k with
      | zero =>
        intro n S2 hn e2 x2 s2 b1 b2
        have hq2 := hq.go e2
        have hp3 : hI S2 q 2 = ι p := by rw [(e2.2.2.1 q (by have := hq.2.2.2.2.2.2.2; omega)).2.2.1 2 (by unfold Wr; omega)]; exact hp2
        show wb_X5_fillRow_3 _ _ _ _ _ _ _ _ _
        unfold wb_X5_fillRow_3
        rw [hp3]
        refine ⟨hq2.1, fun _ => hK S2 ⟨e2, x2, s2, fun m hm => ?_, fun i hi => b2 i (fun m hm => hi m (by omega))⟩, fun c => absurd (by rw [ι_le (by omega) (by omega)]; omega) c⟩
        rw [b1 m (by omega), hor_0 (by omega) (hv 0 (by omega)).2 hz]
      | succ k ih =>
        intro n S2 hn e2 x2 s2 b1 b2
        have hq2 := hq.go e2
        have hp3 : hI S2 q 2 = ι p := by rw [(e2.2.2.1 q (by have := hq.2.2.2.2.2.2.2; omega)).2.2.1 2 (by unfold Wr; omega)]; exact hp2
        have hsn := hs n (by omega)
        show wb_X5_fillRow_3 _ _ _ _ _ _ _ _ _
        unfold wb_X5_fillRow_3
        rw [hp3, ι_mul, ι_add, ι_cl (by omega), show (1 : Int32) = ι 1 from rfl, ι_add]
        refine ⟨hq2.1, fun c => absurd c (by rw [ι_le (by omega) (by omega)]; omega), fun _ => ⟨hq2.1, q + 1, hq2.2.1, hq2.2.2.2.1, by rw [hq2.2.2.2.2.2.1]; exact ι_in (by omega) (by omega), ?_⟩⟩
        obtain ⟨w1, w2, w3⟩ := wr S2 (fun _ => v 0) e2 x2 s2 n (by omega) b1 b2
        exact ih (n + 1) _ (by omega) w1 x2 s2 w2 w3
    exact ⟨p + 1, key p 0 S1 (by omega) e1 x1 s1 (fun m hm => by omega) (fun i _ => a1 i)⟩
  -- Horner
  have horn : ∀ (t : Nat), t + 1 = tpn v p → ∀ S1, Ext S S1 (Wr q) V0 → hX S1 = hX S → hS S1 = hS S → (∀ i, hI S1 (q + 1) i = hI S (q + 1) i) → (∀ k, k < p → hI S1 (q + 2) k = ι (v k)) → ∃ nn, wl_X5_spread_75 M K nn q (ι f) (ι s) (ι t) 0 S1 := by
    intro t ht S1 e1 x1 s1 a1 a2
    have htl := tpn_le (v := v) p
    have hz : ∀ k, t < k → k < p → v k = 0 := fun k h3 h4 => tpn_z p k (by omega) h4
    have key : ∀ (k n : Nat) (S2 : HS), n + k = p → Ext S S2 (Wr q) V0 → hX S2 = hX S → hS S2 = hS S → (∀ j, hI S2 (q + 2) j = hI S1 (q + 2) j) → (∀ m, m < n → hI S2 (q + 1) (f + m * s) = ι (hor p v m)) → (∀ i, (∀ m, m < n → i ≠ f + m * s) → hI S2 (q + 1) i = hI S (q + 1) i) → wl_X5_spread_75 M K (k + 1) q (ι f) (ι s) (ι t) (ι n) S2 := by
      intro k
      induction k with
      | zero =>
        intro n S2 hn e2 x2 s2 c2 b1 b2
        have hq2 := hq.go e2
        have hp3 : hI S2 q 2 = ι p := by rw [(e2.2.2.1 q (by have := hq.2.2.2.2.2.2.2; omega)).2.2.1 2 (by unfold Wr; omega)]; exact hp2
        show wb_X5_spread_75 _ _ _ _ _ _ _ _ _
        unfold wb_X5_spread_75
        rw [hp3]
        exact ⟨hq2.1, fun _ => h S2 ⟨e2, x2, s2, fun m hm => b1 m (by omega), fun i hi => b2 i (fun m hm => hi m (by omega))⟩, fun c => absurd (by rw [ι_le (by omega) (by omega)]; omega) c⟩
      | succ k ih =>
        intro n S2 hn e2 x2 s2 c2 b1 b2
        have hq2 := hq.go e2
        have hp3 : hI S2 q 2 = ι p := by rw [(e2.2.2.1 q (by have := hq.2.2.2.2.2.2.2; omega)).2.2.1 2 (by unfold Wr; omega)]; exact hp2
        have hsn := hs n (by omega)
        show wb_X5_spread_75 _ _ _ _ _ _ _ _ _
        unfold wb_X5_spread_75
        rw [hp3]
        refine ⟨hq2.1, fun c => absurd c (by rw [ι_le (by omega) (by omega)]; omega), fun _ => ⟨t + 2, ?_⟩⟩
        have key2 : ∀ (k2 j : Nat), j + k2 = t + 1 → wl_X5_spread_90 M (wl_X5_spread_75 M K (k + 1)) K (k2 + 1) q (ι f) (ι s) (ι t) (ι n) (ι (hr p v n t j)) (if j < t + 1 then ι (t - j) else -1) S2 := by
          intro k2
          induction k2 with
          | zero =>
            intro j hj
            show wb_X5_spread_90 _ _ _ _ _ _ _ _ _ _ _ _
            unfold wb_X5_spread_90
            rw [if_neg (by omega)]
            refine ⟨fun _ => ⟨hq2.1, q + 1, hq2.2.1, hq2.2.2.2.1, ?_, ?_⟩, fun c => absurd (by decide) c⟩
            · rw [ι_mul, ι_add, hq2.2.2.2.2.2.1]; exact ι_in (by omega) (by omega)
            · rw [ι_mul, ι_add, ι_cl (by omega), show (1 : Int32) = ι 1 from rfl, ι_add]
              obtain ⟨w1, w2, w3⟩ := wr S2 (hor p v) e2 x2 s2 n (by omega) b1 b2
              have e9 : hr p v n t j = hor p v n := by
                rw [show j = t + 1 by omega, ← hr_end (by omega) hz, Nat.mod_eq_of_lt (hr_lt (by omega) _)]
              rw [e9]
              exact ih (n + 1) _ (by omega) w1 x2 s2 (fun j => by rw [sI_ne (by omega)]; exact c2 j) w2 w3
          | succ k2 ih2 =>
            intro j hj
            have hl := hr_lt (p := p) (f := v) (n := n) (top := t) (by omega) j
            have hvt := (hv (t - j) (by omega)).2
            have hm : hr p v n t j * n ≤ 13 * 13 := Nat.mul_le_mul (by omega) (by omega)
            have e7 : hI S2 (q + 2) (t - j) = ι (v (t - j)) := by rw [c2]; exact a2 (t - j) (by omega)
            show wb_X5_spread_90 _ _ _ _ _ _ _ _ _ _ _ _
            unfold wb_X5_spread_90
            rw [if_pos (by omega), hp3]
            refine ⟨fun c => absurd c (ι_nn (by omega)), fun _ => ⟨hq2.1, q + 2, hq2.2.2.1, hq2.2.2.2.2.1, by rw [hq2.2.2.2.2.2.2.1]; exact ι_in (by omega) (by omega), hq2.1, by rw [show (0 : Int32) = ι 0 from rfl, ι_eq (by omega) (by omega)]; omega, fun v3 e3 => ?_⟩⟩
            rw [ι_cl (by omega), e7, ι_mul, ι_add, ι_rem (by omega) (by omega)] at e3
            subst e3
            have hnx : ι (t - j) + (-1) = (if j + 1 < t + 1 then ι (t - (j + 1)) else -1) := by
              by_cases c : j + 1 < t + 1
              · rw [if_pos c, show (-1 : Int32) = -ι 1 from rfl, ι_sub' (by omega)]
                congr 1
              · rw [if_neg c, show t - j = 0 by omega]; rfl
            rw [hnx]
            exact ih2 (j + 1) (by omega)
        have := key2 (t + 1) 0 (by omega)
        rw [if_pos (by omega), Nat.sub_zero] at this
        exact this
    exact ⟨p + 1, key p 0 S1 (by omega) e1 x1 s1 (fun _ => rfl) (fun m hm => by omega) (fun i _ => a1 i)⟩
  have key0 : ∀ (k i : Nat) (S1 : HS), i + k = p → Ext S S1 (Wr q) V0 → hX S1 = hX S → hS S1 = hS S → (∀ i, hI S1 (q + 1) i = hI S (q + 1) i) → (∀ j, j < i → hI S1 (q + 2) j = ι (v j)) → wl_X5_spread_5 M K (k + 1) q (ι f) (ι s) (ιm (tpn v i)) (ι i) S1 := by
    intro k
    induction k with
    | zero =>
      intro i S1 hi e1 x1 s1 a1 a2
      have hq1 := hq.go e1
      have hp3 : hI S1 q 2 = ι p := by rw [(e1.2.2.1 q (by have := hq.2.2.2.2.2.2.2; omega)).2.2.1 2 (by unfold Wr; omega)]; exact hp2
      have htl := tpn_le (v := v) i
      have ei : i = p := by omega
      subst ei
      show wb_X5_spread_5 _ _ _ _ _ _ _ _ _
      unfold wb_X5_spread_5
      rw [hp3]
      refine ⟨hq1.1, fun _ => ⟨fun c => ?_, fun c => ⟨hq1.1, q + 2, hq1.2.2.1, hq1.2.2.2.2.1, by rw [hq1.2.2.2.2.2.2.1]; exact ι_in (a := 0) (by omega) (by omega), hq1.1, ?_⟩⟩, fun c => absurd (by rw [ι_le (by omega) (by omega)]; omega) c⟩
      · by_cases c0 : tpn v i = 0
        · rw [c0] at c; exact absurd c (by decide)
        · rw [show tpn v i = tpn v i - 1 + 1 by omega, ιm_s] at c ⊢
          exact horn (tpn v i - 1) (by omega) S1 e1 x1 s1 a1 a2
      · rw [show Int32.toNatClampNeg 0 = 0 from rfl, a2 0 (by omega)]
        have ht1 : tpn v i ≤ 1 := by
          apply Classical.byContradiction
          intro c9
          apply c
          unfold ιm
          rw [if_neg (by omega), show (0 : Int32) = ι 0 from rfl, ι_lt (by omega) (by omega)]
          omega
        exact fillR (fun k h3 h4 => tpn_z i k (by omega) h4) S1 e1 x1 s1 a1 _ h
    | succ k ih =>
      intro i S1 hi e1 x1 s1 a1 a2
      have hq1 := hq.go e1
      have hp3 : hI S1 q 2 = ι p := by rw [(e1.2.2.1 q (by have := hq.2.2.2.2.2.2.2; omega)).2.2.1 2 (by unfold Wr; omega)]; exact hp2
      have hsn := hs i (by omega)
      obtain ⟨hv1, hv2⟩ := hv i (by omega)
      have e7 : hI S1 (q + 1) (f + i * s) = ι (v i) := by rw [a1]; exact hv1
      show wb_X5_spread_5 _ _ _ _ _ _ _ _ _
      unfold wb_X5_spread_5
      rw [hp3, ι_mul, ι_add, ι_cl (a := f + i * s) (by omega), ι_cl (by omega)]
      refine ⟨hq1.1, fun c => absurd c (by rw [ι_le (by omega) (by omega)]; omega), fun _ => ⟨hq1.1, q + 2, hq1.2.2.1, hq1.1, q + 1, hq1.2.1, hq1.2.2.2.1, by rw [hq1.2.2.2.2.2.1]; exact ι_in (by omega) (by omega), hq1.2.2.2.2.1, by rw [hq1.2.2.2.2.2.2.1]; exact ι_in (by omega) (by omega), hq1.1, q + 2, hq1.2.2.1, hq1.2.2.2.2.1, by show vp_in _ (hN S1 (q + 2)); rw [hq1.2.2.2.2.2.2.1]; exact ι_in (by omega) (by omega), ?_⟩⟩
      rw [e7, sI_eq, if_pos rfl, show (1 : Int32) = ι 1 from rfl, ι_add, show (0 : Int32) = ι 0 from rfl, ι_eq (by omega) (by omega)]
      have nx : ∀ x3 : Int32, x3 = ιm (tpn v (i + 1)) → wl_X5_spread_5 M K (k + 1) q (ι f) (ι s) x3 (ι (i + 1)) (sI S1 (q + 2) i (ι (v i))) := by
        intro x3 hx3
        subst hx3
        refine ih (i + 1) _ (by omega) (e1.sI (Or.inr rfl)) x1 s1 (fun j => by rw [sI_ne (by omega)]; exact a1 j) (fun j hj => ?_)
        rw [sI_eq]
        by_cases c : j = i
        · rw [if_pos c, c]
        · rw [if_neg c]; exact a2 j (by omega)
      refine ⟨fun c => nx _ ?_, fun c => nx _ ?_⟩
      · rw [tpn, if_neg c, ιm_s]
      · rw [tpn, if_pos c]
  exact ⟨p + 1, key0 p 0 S (by omega) (Ext.rf _ _ _) rfl rfl (fun _ => rfl) (fun j hj => by omega)⟩
/-! Points of the class: loading. -/
/-- the cells of Points hold V -/
def PV (S : HS) (q p : Nat) (V : Nat → Nat) : Prop := ∀ i, i < p * p * p → hI S (q + 1) i = ι (V i) ∧ V i < p
theorem p3_le {p : Nat} (hpp : PrP p) : p * p * p ≤ 2197 ∧ p * p ≤ 169 := by
  have hp := hpp.le
  have h1 : p * p ≤ 13 * 13 := Nat.mul_le_mul hp.2 hp.2
  have h2 : p * p * p ≤ 13 * 13 * 13 := Nat.mul_le_mul h1 hp.2
  omega
theorem wq_r {q : Nat} : ∀ b k, Wr q b k → Wq q b k := fun b k h => Or.inr h
/-- n terms, from the last one on, at a point -/
def vR (p : Nat) (L : Po) (n a b c : Nat) : Nat := sumTo n (fun i => vT p a b c (rt L i))
theorem vR_vS (p : Nat) (L : Po) (a b c : Nat) : vR p L L.length a b c = vS p L a b c := sumTo_rev L.length (fun i => vT p a b c (tm L i))
theorem c_addReduced {M : Nat × Nat} {p q a m : Nat} {x2 : Int32} {L : Po} {V : Nat → Nat} {S : HS} {K : Int32 → HS → Prop} (hpp : PrP p) (hq : PtL S q) (hp2 : hI S q 2 = ι p) (hw : wf p L) (ra : Rd S a L) (hn : ∀ j, j ≤ 2 → a + j ≠ q ∧ a + j ≠ q + 1 ∧ a + j ≠ q + 2) (h2 : x2 = ι m) (hm : m < p) (hV : PV S q p V) (h : ∀ S' V', Ext S S' (Wr q) V0 → hX S' = hX S → hS S' = hS S → PV S' q p V' → (∀ a b c, a < p → b < p → c < p → flt p V' a b c % p = (flt p V a b c + m * vS p L a b c) % p) → K 0 S') : wp_X5_addReduced M q a x2 S K := by
  subst h2
  have hp := hpp.le
  obtain ⟨p3, p4⟩ := p3_le hpp
  have hle := hw.1
  have n0 := hn 0 (by omega)
  have n1 := hn 1 (by omega)
  have n2 := hn 2 (by omega)
  have hqx := hq.2.2.2.2.2.2.2
  have key : ∀ (k i : Nat) (S1 : HS) (V1 : Nat → Nat), i + k = L.length → Ext S S1 (Wr q) V0 → hX S1 = hX S → hS S1 = hS S → PV S1 q p V1 → (∀ a b c, a < p → b < p → c < p → flt p V1 a b c % p = (flt p V a b c + m * vR p L i a b c) % p) → wl_X5_addReduced_2 M K (k + 1) q a (ι m) (ι i) S1 := by
    intro k
    induction k with
    | zero =>
      intro i S1 V1 hi e1 x1 s1 pv1 f1
      obtain ⟨-, p2, p3, p4, p5, p6, p7, p8, p7', p8', p9, p11⟩ := ra.go e1 (fun k => ⟨by unfold Wr; omega, by unfold Wr; omega, by unfold Wr; omega, fun c => c⟩)
      show wb_X5_addReduced_2 _ _ _ _ _ _ _ _
      unfold wb_X5_addReduced_2
      rw [p9]
      refine ⟨p2, fun _ => h S1 V1 e1 x1 s1 pv1 (fun a b c ha hb hc => ?_), fun c => absurd (by rw [ι_le (by omega) (by omega)]; omega) c⟩
      rw [f1 a b c ha hb hc, show i = L.length by omega, vR_vS]
    | succ k ih =>
      intro i S1 V1 hi e1 x1 s1 pv1 f1
      obtain ⟨-, p2, p3', p4', p5, p6, p7, p8, p7', p8', p9, p11⟩ := ra.go e1 (fun k => ⟨by unfold Wr; omega, by unfold Wr; omega, by unfold Wr; omega, fun c => c⟩)
      have hq1 := hq.go e1
      have hp3 : hI S1 q 2 = ι p := by rw [(e1.2.2.1 q (by omega)).2.2.1 2 (by unfold Wr; omega)]; exact hp2
      have hs := rt_sm hw (i := i) (by omega)
      have hn := rt_n hw (i := i) (by omega)
      have rx := (red_le2 (e := exv (rt L i) 0) hpp).2
      have ry := (red_le2 (e := exv (rt L i) 1) hpp).2
      have rz := (red_le2 (e := exv (rt L i) 2) hpp).2
      have hlt := idx_lt (p := p) (x := red p (exv (rt L i) 0)) (y := red p (exv (rt L i) 1)) (z := red p (exv (rt L i) 2)) (by omega) (by omega) (by omega)
      have hmul : m * (rt L i).n ≤ 13 * 13 := Nat.mul_le_mul (by omega) (by omega)
      show wb_X5_addReduced_2 _ _ _ _ _ _ _ _
      unfold wb_X5_addReduced_2
      rw [p9]
      have v1 : vp_in (ι i) (hN S1 (a + 1)) := ι_in (by omega) (by omega)
      have v2 : vp_in (ι i) (hN S1 (a + 2)) := ι_in (by omega) (by omega)
      rw [ι_cl (by omega)]
      refine ⟨p2, fun c => absurd c (by rw [ι_le (by omega) (by omega)]; omega), fun _ => ⟨p2, a + 1, p3', p5, v1, c_exp hs (p11 i (by omega)).1 (v := 0) rfl (by omega) ⟨hq1.1, c_redE rfl hp3 (exv_le hs 0) hpp ⟨p2, a + 1, p3', p5, v1, c_exp hs (p11 i (by omega)).1 (v := 1) rfl (by omega) ⟨hq1.1, c_redE rfl hp3 (exv_le hs 1) hpp ⟨p2, a + 1, p3', p5, v1, c_exp hs (p11 i (by omega)).1 (v := 2) rfl (by omega) ⟨hq1.1, c_redE rfl hp3 (exv_le hs 2) hpp ⟨hq1.1, hq1.1, fun v10 e10 => ?_⟩⟩⟩⟩⟩⟩⟩⟩
      rw [hp3, ι_mul, ι_add, ι_mul, ι_add] at e10
      subst e10
      generalize eI : (red p (exv (rt L i) 0) * p + red p (exv (rt L i) 1)) * p + red p (exv (rt L i) 2) = I at *
      have hv : vp_in (ι I) (hN S1 (q + 1)) := by rw [hq1.2.2.2.2.2.1]; exact ι_in (by omega) (by omega)
      refine ⟨hq1.1, q + 1, hq1.2.1, hq1.1, q + 1, hq1.2.1, hq1.2.2.2.1, hv, p2, a + 2, p4', p6, v2, hq1.1, by rw [hp3, show (0 : Int32) = ι 0 from rfl, ι_eq (by omega) (by omega)]; omega, hq1.2.2.2.1, hv, ?_⟩
      obtain ⟨g1, g2⟩ := pv1 I hlt
      rw [ι_cl (by omega), hp3, g1, (p11 i (by omega)).2, ι_mul, ι_add, ι_rem (by omega) (by omega), show (1 : Int32) = ι 1 from rfl, ι_add]
      refine ih (i + 1) _ (fun j => if j = I then (V1 I + m * (rt L i).n) % p else V1 j) (by omega) (e1.sI (Or.inl rfl)) x1 s1 (fun j hj => ?_) (fun a' b' c' ha hb hc => ?_)
      · rw [sI_eq]
        show (if j = I then _ else _) = ι (if j = I then (V1 I + m * (rt L i).n) % p else V1 j) ∧ (if j = I then (V1 I + m * (rt L i).n) % p else V1 j) < p
        by_cases c : j = I
        · rw [if_pos c, if_pos c]; exact ⟨rfl, Nat.mod_lt _ (by omega)⟩
        · rw [if_neg c, if_neg c]; exact pv1 j hj
      · rw [flt_upd hlt, Nat.add_mod, f1 a' b' c' ha hb hc, ← Nat.add_mod]
        have ew : wgt p a' b' c' I = pm p a' (rt L i).x * pm p b' (rt L i).y * pm p c' (rt L i).z := by
          obtain ⟨u1, u2, u3⟩ := idx_x (p := p) (x := red p (exv (rt L i) 0)) (y := red p (exv (rt L i) 1)) (z := red p (exv (rt L i) 2)) (by omega) (by omega)
          rw [eI] at u1 u2 u3
          unfold wgt
          have hx9 : exv (rt L i) 0 ≤ 40 := exv_le hs 0
          have hy9 : exv (rt L i) 1 ≤ 40 := exv_le hs 1
          have hz9 : exv (rt L i) 2 ≤ 40 := exv_le hs 2
          rw [u1, u2, u3, pm_red p hpp.mem a' ha _ (by omega), pm_red p hpp.mem b' hb _ (by omega), pm_red p hpp.mem c' hc _ (by omega)]
          rfl
        rw [ew]
        unfold vR
        rw [sumTo]
        unfold vT
        congr 1
        rw [Nat.mul_add, ← Nat.add_assoc, Nat.mul_assoc m, ← Nat.mul_assoc (rt L i).n, ← Nat.mul_assoc (rt L i).n]
  unfold wp_X5_addReduced
  refine ⟨L.length + 1, key L.length 0 S V (by omega) (Ext.rf _ _ _) rfl rfl hV (fun a b c _ _ _ => ?_)⟩
  rw [show vR p L 0 a b c = 0 from rfl, Nat.mul_zero, Nat.add_zero]
/-- one pass -/
theorem sp_pas {p q i : Nat} {l : Nat → Nat → Nat} {li ni : Nat → Nat} {V : Nat → Nat} {f s : Nat} {S S' : HS} (hpp : PrP p) (hl : Lin p l li ni) (hi : i < p * p) (hf : ∀ n, l i n = f + n * s) (hV : PV S q p (pasF p l li ni V i)) (h : SpD p q f s (fun k => V (l i k)) S S') : PV S' q p (pasF p l li ni V (i + 1)) := by
  have hp := hpp.le
  intro j hj
  obtain ⟨a1, a2, a3⟩ := hl.2 j hj
  unfold pasF
  by_cases c : li j = i
  · rw [if_pos (by omega)]
    refine ⟨?_, hor_lt (by omega)⟩
    have := h.2.2.2.1 (ni j) a2
    rw [← hf, ← c, a3] at this
    exact this
  · have h1 := hV j hj
    unfold pasF at h1
    have e : (if li j < i + 1 then hor p (fun k => V (l (li j) k)) (ni j) else V j) = (if li j < i then hor p (fun k => V (l (li j) k)) (ni j) else V j) := by
      by_cases c2 : li j < i
      · rw [if_pos c2, if_pos (by omega)]
      · rw [if_neg c2, if_neg (by omega)]
    rw [e]
    refine ⟨?_, h1.2⟩
    rw [h.2.2.2.2 j (fun n hn e2 => c ?_)]
    · exact h1.1
    · rw [← hf] at e2
      rw [e2]
      exact (hl.1 i n hi hn).2.1
theorem pas_line {p i : Nat} {l : Nat → Nat → Nat} {li ni : Nat → Nat} {V : Nat → Nat} {q f s : Nat} {S : HS} (hl : Lin p l li ni) (hi : i < p * p) (hf : ∀ n, l i n = f + n * s) (hV : PV S q p (pasF p l li ni V i)) : ∀ k, k < p → hI S (q + 1) (f + k * s) = ι (V (l i k)) ∧ V (l i k) < p := by
  intro k hk
  obtain ⟨a1, a2, a3⟩ := hl.1 i k hi hk
  have := hV (l i k) a1
  unfold pasF at this
  rw [a2, if_neg (by omega)] at this
  rw [← hf]
  exact this
theorem pas_0 {p : Nat} {l : Nat → Nat → Nat} {li ni : Nat → Nat} {V : Nat → Nat} {q : Nat} {S : HS} (hV : PV S q p V) : PV S q p (pasF p l li ni V 0) := hV
theorem lin_s {p i f s : Nat} {l : Nat → Nat → Nat} {li ni : Nat → Nat} (hpp : PrP p) (hl : Lin p l li ni) (hi : i < p * p) (hf : ∀ n, l i n = f + n * s) : (∀ n, n < p → f + n * s < 2197) ∧ ∀ n m, n < p → m < p → f + n * s = f + m * s → n = m := by
  have h3 := (p3_le hpp).1
  refine ⟨fun n hn => ?_, fun n m hn hm e => ?_⟩
  · have := (hl.1 i n hi hn).1
    rw [hf] at this
    omega
  · rw [← hf, ← hf] at e
    have a1 := (hl.1 i n hi hn).2.2
    have a2 := (hl.1 i m hi hm).2.2
    rw [e] at a1
    omega
/-- what a load leaves -/
def Ld (S S' : HS) (q p : Nat) (A B : Po) : Prop := Ext S S' (Wq q) V0 ∧ hX S' = hX S ∧ hS S' = hS S ∧ PtL S' q ∧ hI S' q 2 = ι p ∧ hI S' q 3 = ι (p * p * p) ∧ ∀ a b c, a < p → b < p → c < p → hI S' (q + 1) ((a * p + b) * p + c) = ι (dfF p A B a b c)
theorem c_load {M : Nat × Nat} {p q a b : Nat} {x3 : Int32} {A B : Po} {S : HS} {K : Int32 → HS → Prop} (hpp : PrP p) (hq : PtL S q) (wa : wf p A) (wb : wf p B) (ra : Rd S a A) (rb : Rd S b B) (na : ∀ j, j ≤ 2 → a + j ≠ q ∧ a + j ≠ q + 1 ∧ a + j ≠ q + 2) (nb : ∀ j, j ≤ 2 → b + j ≠ q ∧ b + j ≠ q + 1 ∧ b + j ≠ q + 2) (h3 : x3 = ι p) (h : ∀ S', Ld S S' q p A B → K 0 S') : wp_X5_load M q a b x3 S K := by
  subst h3
  have hp := hpp.le
  obtain ⟨p3, p4⟩ := p3_le hpp
  have hqx := hq.2.2.2.2.2.2.2
  -- the passes
  have pass : ∀ (S1 : HS) (V : Nat → Nat), Ext S S1 (Wq q) V0 → hX S1 = hX S → hS S1 = hS S → hI S1 q 2 = ι p → hI S1 q 3 = ι (p * p * p) → PV S1 q p V → (∀ a b c, a < p → b < p → c < p → flt p V a b c % p = dfF p A B a b c) → ∃ nn, wl_X5_load_56 M K nn q 0 S1 := by
    intro S1 V e1 x1 s1 i2 i3 pv fl
    generalize hV1 : pasF p (fun i n => i * p + n) (fun j => j / p) (fun j => j % p) V = F1
    generalize hV2 : pasF p (fun i n => i / p * p * p + i % p + n * p) (fun j => j / p / p * p + j % p) (fun j => j / p % p) (F1 (p * p)) = F2
    generalize hV3 : pasF p (fun i n => i + n * (p * p)) (fun j => j % (p * p)) (fun j => j / (p * p)) (F2 (p * p)) = F3
    have keep : ∀ {S2 S3 : HS}, Ext S2 S3 (Wr q) V0 → hX S2 = hX S → hI S2 q 2 = ι p → hI S2 q 3 = ι (p * p * p) → hI S3 q 2 = ι p ∧ hI S3 q 3 = ι (p * p * p) := fun {S2 S3} e hx c2 c3 => by
      have ee := e.2.2.1 q (by omega)
      exact ⟨by rw [ee.2.2.1 2 (by unfold Wr; omega)]; exact c2, by rw [ee.2.2.1 3 (by unfold Wr; omega)]; exact c3⟩
    have key3 : ∀ (k i : Nat) (S2 : HS), i + k = p * p → Ext S S2 (Wq q) V0 → hX S2 = hX S → hS S2 = hS S → hI S2 q 2 = ι p → hI S2 q 3 = ι (p * p * p) → PV S2 q p (F3 i) → wl_X5_load_147 M K (k + 1) q (ι i) S2 := by
      intro k
      induction k with
      | zero =>
        intro i S2 hi e2 x2 s2 c2 c3 pv2
        have hq2 := hq.go e2
        show wb_X5_load_147 _ _ _ _ _ _
        unfold wb_X5_load_147
        rw [c2, ι_mul]
        refine ⟨hq2.1, hq2.1, fun _ => h S2 ⟨e2, x2, s2, hq2, c2, c3, fun a b c ha hb hc => ?_⟩, fun c => absurd (by rw [ι_le (by omega) (by omega)]; omega) c⟩
        rw [(pv2 _ (idx_lt ha hb hc)).1, ← hV3, ← hV2, ← hV1, show i = p * p by omega, pas_all hpp ha hb hc, fl a b c ha hb hc]
      | succ k ih =>
        intro i S2 hi e2 x2 s2 c2 c3 pv2
        have hq2 := hq.go e2
        rw [← hV3] at pv2
        have hf : ∀ n, (fun i n => i + n * (p * p)) i n = i + n * (p * p) := fun n => rfl
        obtain ⟨l1, l2⟩ := lin_s hpp (lin_3 hpp) (show i < p * p by omega) hf
        show wb_X5_load_147 _ _ _ _ _ _
        unfold wb_X5_load_147
        rw [c2, ι_mul]
        refine ⟨hq2.1, hq2.1, fun c => absurd c (by rw [ι_le (by omega) (by omega)]; omega), fun _ => ⟨hq2.1, hq2.1, hq2.1, ?_⟩⟩
        refine c_spread hpp hq2 c2 rfl rfl l1 l2 (pas_line (lin_3 hpp) (by omega) hf pv2) (fun S3 sp => ?_)
        rw [show (1 : Int32) = ι 1 from rfl, ι_add]
        obtain ⟨d2, d3⟩ := keep sp.1 (by omega) c2 c3
        refine ih (i + 1) S3 (by omega) (e2.tr (sp.1.mo wq_r (fun _ _ c => c))) (by have := sp.2.1; omega) (by have := sp.2.2.1; omega) d2 d3 ?_
        rw [← hV3]
        exact sp_pas hpp (lin_3 hpp) (by omega) hf pv2 sp
    have key2 : ∀ (k i : Nat) (S2 : HS), i + k = p * p → Ext S S2 (Wq q) V0 → hX S2 = hX S → hS S2 = hS S → hI S2 q 2 = ι p → hI S2 q 3 = ι (p * p * p) → PV S2 q p (F2 i) → wl_X5_load_91 M K (k + 1) q (ι i) S2 := by
      intro k
      induction k with
      | zero =>
        intro i S2 hi e2 x2 s2 c2 c3 pv2
        have hq2 := hq.go e2
        show wb_X5_load_91 _ _ _ _ _ _
        unfold wb_X5_load_91
        rw [c2, ι_mul]
        refine ⟨hq2.1, hq2.1, fun _ => ⟨p * p + 1, key3 (p * p) 0 S2 (by omega) e2 x2 s2 c2 c3 ?_⟩, fun c => absurd (by rw [ι_le (by omega) (by omega)]; omega) c⟩
        rw [← hV3]
        rw [show i = p * p by omega] at pv2
        exact pas_0 pv2
      | succ k ih =>
        intro i S2 hi e2 x2 s2 c2 c3 pv2
        have hq2 := hq.go e2
        rw [← hV2] at pv2
        have hf : ∀ n, (fun i n => i / p * p * p + i % p + n * p) i n = i / p * p * p + i % p + n * p := fun n => rfl
        obtain ⟨l1, l2⟩ := lin_s hpp (lin_2 hpp) (show i < p * p by omega) hf
        have hz : ¬ ι p = 0 := by rw [show (0 : Int32) = ι 0 from rfl, ι_eq (by omega) (by omega)]; omega
        show wb_X5_load_91 _ _ _ _ _ _
        unfold wb_X5_load_91
        rw [c2, ι_mul]
        refine ⟨hq2.1, hq2.1, fun c => absurd c (by rw [ι_le (by omega) (by omega)]; omega), fun _ => ⟨hq2.1, hz, hq2.1, hq2.1, hq2.1, hz, hq2.1, hq2.1, ?_⟩⟩
        refine c_spread (f := i / p * p * p + i % p) (s := p) hpp hq2 c2 (by rw [ι_div (by omega) (by omega), ι_mul, ι_mul, ι_rem (by omega) (by omega), ι_add]) rfl l1 l2 (pas_line (lin_2 hpp) (by omega) hf pv2) (fun S3 sp => ?_)
        rw [show (1 : Int32) = ι 1 from rfl, ι_add]
        obtain ⟨d2, d3⟩ := keep sp.1 (by omega) c2 c3
        refine ih (i + 1) S3 (by omega) (e2.tr (sp.1.mo wq_r (fun _ _ c => c))) (by have := sp.2.1; omega) (by have := sp.2.2.1; omega) d2 d3 ?_
        rw [← hV2]
        exact sp_pas hpp (lin_2 hpp) (by omega) hf pv2 sp
    have key1 : ∀ (k i : Nat) (S2 : HS), i + k = p * p → Ext S S2 (Wq q) V0 → hX S2 = hX S → hS S2 = hS S → hI S2 q 2 = ι p → hI S2 q 3 = ι (p * p * p) → PV S2 q p (F1 i) → wl_X5_load_56 M K (k + 1) q (ι i) S2 := by
      intro k
      induction k with
      | zero =>
        intro i S2 hi e2 x2 s2 c2 c3 pv2
        have hq2 := hq.go e2
        show wb_X5_load_56 _ _ _ _ _ _
        unfold wb_X5_load_56
        rw [c2, ι_mul]
        refine ⟨hq2.1, hq2.1, fun _ => ⟨p * p + 1, key2 (p * p) 0 S2 (by omega) e2 x2 s2 c2 c3 ?_⟩, fun c => absurd (by rw [ι_le (by omega) (by omega)]; omega) c⟩
        rw [← hV2]
        rw [show i = p * p by omega] at pv2
        exact pas_0 pv2
      | succ k ih =>
        intro i S2 hi e2 x2 s2 c2 c3 pv2
        have hq2 := hq.go e2
        rw [← hV1] at pv2
        have hf : ∀ n, (fun i n => i * p + n) i n = i * p + n * 1 := fun n => by rw [Nat.mul_one]
        obtain ⟨l1, l2⟩ := lin_s hpp (lin_1 hpp) (show i < p * p by omega) hf
        show wb_X5_load_56 _ _ _ _ _ _
        unfold wb_X5_load_56
        rw [c2, ι_mul]
        refine ⟨hq2.1, hq2.1, fun c => absurd c (by rw [ι_le (by omega) (by omega)]; omega), fun _ => ⟨hq2.1, hq2.1, ?_⟩⟩
        refine c_spread (f := i * p) (s := 1) hpp hq2 c2 (by rw [ι_mul]) rfl l1 l2 (pas_line (lin_1 hpp) (by omega) hf pv2) (fun S3 sp => ?_)
        rw [show (1 : Int32) = ι 1 from rfl, ι_add]
        obtain ⟨d2, d3⟩ := keep sp.1 (by omega) c2 c3
        refine ih (i + 1) S3 (by omega) (e2.tr (sp.1.mo wq_r (fun _ _ c => c))) (by have := sp.2.1; omega) (by have := sp.2.2.1; omega) d2 d3 ?_
        rw [← hV1]
        exact sp_pas hpp (lin_1 hpp) (by omega) hf pv2 sp
    refine ⟨p * p + 1, key1 (p * p) 0 S1 (by omega) e1 x1 s1 i2 i3 ?_⟩
    rw [← hV1]
    exact pas_0 pv
  unfold wp_X5_load
  have c2 : hI (sI S q 2 (ι p)) q 2 = ι p := by rw [sI_eq, if_pos rfl]
  rw [c2, ι_mul, ι_mul]
  have c3 : hI (sI (sI S q 2 (ι p)) q 3 (ι (p * p * p))) q 3 = ι (p * p * p) := by rw [sI_eq, if_pos rfl]
  have c4 : hI (sI (sI S q 2 (ι p)) q 3 (ι (p * p * p))) q 2 = ι p := by rw [sI_eq, if_neg (by omega)]; exact c2
  rw [c3]
  have e0 : Ext S (sI (sI S q 2 (ι p)) q 3 (ι (p * p * p))) (Wq q) V0 := ((Ext.rf S (Wq q) V0).sI (Or.inl rfl)).sI (Or.inl rfl)
  refine ⟨hq.1, hq.1, hq.1, hq.1, hq.1, hq.1, q + 1, hq.2.1, hq.1, ?_⟩
  have hx0 : hX (sI (sI S q 2 (ι p)) q 3 (ι (p * p * p))) = hX S := rfl
  have hs0 : hS (sI (sI S q 2 (ι p)) q 3 (ι (p * p * p))) = hS S := rfl
  generalize sI (sI S q 2 (ι p)) q 3 (ι (p * p * p)) = S0 at *
  have hq0 := hq.go e0
  have a0 := na 0 (by omega)
  have a1 := na 1 (by omega)
  have a2 := na 2 (by omega)
  have b0 := nb 0 (by omega)
  have b1 := nb 1 (by omega)
  have b2 := nb 2 (by omega)
  have goA : ∀ {S1 : HS}, Ext S S1 (Wq q) V0 → Rd S1 a A := fun e => ra.go e (fun k => ⟨by unfold Wq; omega, by unfold Wq; omega, by unfold Wq; omega, fun c => c⟩)
  have goB : ∀ {S1 : HS}, Ext S S1 (Wq q) V0 → Rd S1 b B := fun e => rb.go e (fun k => ⟨by unfold Wq; omega, by unfold Wq; omega, by unfold Wq; omega, fun c => c⟩)
  refine c_fill0 (c := q + 1) (n := p * p * p) hq0.2.2.2.1 (by rw [hq0.2.2.2.2.2.1]; omega) (by rw [hq0.2.2.2.2.2.1]; omega) rfl (fun S1 e1 x1 s1 z1 _ => ?_)
  have e1' : Ext S S1 (Wq q) V0 := e0.tr (e1.mo (fun b k q => Or.inr (Or.inl q)) (fun _ _ c => c))
  have hq1 := hq.go e1'
  have ee1 := e1.2.2.1 q (by omega)
  have i2 : hI S1 q 2 = ι p := by rw [ee1.2.2.1 2 (by omega)]; exact c4
  have i3 : hI S1 q 3 = ι (p * p * p) := by rw [ee1.2.2.1 3 (by omega)]; exact c3
  refine ⟨hq1.1, c_addReduced (V := fun _ => 0) (m := 1) hpp hq1 i2 wa (goA e1') na rfl (by omega) (fun i hi => ⟨z1 i hi, by show 0 < p; omega⟩) (fun S2 V2 e2 x2 s2 pv2 f2 => ?_)⟩
  have e2' : Ext S S2 (Wq q) V0 := e1'.tr (e2.mo wq_r (fun _ _ c => c))
  have hq2 := hq.go e2'
  have ee2 := e2.2.2.1 q (by omega)
  have j2 : hI S2 q 2 = ι p := by rw [ee2.2.2.1 2 (by unfold Wr; omega)]; exact i2
  have j3 : hI S2 q 3 = ι (p * p * p) := by rw [ee2.2.2.1 3 (by unfold Wr; omega)]; exact i3
  refine ⟨hq2.1, hq2.1, ?_⟩
  rw [j2, show (1 : Int32) = ι 1 from rfl, ι_sub (by omega)]
  refine c_addReduced (V := V2) (m := p - 1) hpp hq2 j2 wb (goB e2') nb rfl (by omega) pv2 (fun S3 V3 e3 x3 s3 pv3 f3 => ?_)
  have e3' : Ext S S3 (Wq q) V0 := e2'.tr (e3.mo wq_r (fun _ _ c => c))
  have ee3 := e3.2.2.1 q (by omega)
  have k2 : hI S3 q 2 = ι p := by rw [ee3.2.2.1 2 (by unfold Wr; omega)]; exact j2
  have k3 : hI S3 q 3 = ι (p * p * p) := by rw [ee3.2.2.1 3 (by unfold Wr; omega)]; exact j3
  refine pass S3 V3 e3' (by omega) (by omega) k2 k3 pv3 (fun a b c ha hb hc => ?_)
  have hz : flt p (fun _ => 0) a b c = 0 := sumTo_zero (fun i _ => Nat.zero_mul _)
  rw [f3 a b c ha hb hc, Nat.add_mod, f2 a b c ha hb hc, ← Nat.add_mod, hz, Nat.zero_add, Nat.one_mul]
  rfl
