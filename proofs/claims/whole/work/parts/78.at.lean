/-! at: values and turns. -/
section ATN
variable (p x y z st : Nat) (Q : List Sp)
def vA (V : Nat → Nat) (a : Nat) : Nat := if a < 100 then a % p else if a < 103 then (if a = 100 then x else if a = 101 then y else z) else V (a - 103)
def vSt (V : Nat → Nat) (s : Nat) : Nat := if sg Q s = 43 then (vA p x y z V (lf Q s) + vA p x y z V (rg Q s)) % p else if sg Q s = 45 then (vA p x y z V (lf Q s) + p - vA p x y z V (rg Q s)) % p else if sg Q s = 42 then vA p x y z V (lf Q s) * vA p x y z V (rg Q s) % p else if sg Q s = 94 then pm p (vA p x y z V (lf Q s)) (rg Q s) else vA p x y z V (lf Q s)
def dA (D : Nat → Nat) (a : Nat) : Nat := if a < 103 then 0 else D (a - 103)
def co1 (V : Nat → Nat) (s : Nat) : Nat := if sg Q s = 94 then rg Q s * pm p (vA p x y z V (lf Q s)) (rg Q s - 1) else if sg Q s = 42 then vA p x y z V (rg Q s) else 1
def co2 (V : Nat → Nat) (s : Nat) : Nat := if sg Q s = 43 then 1 else if sg Q s = 45 then p - 1 else if sg Q s = 42 then vA p x y z V (lf Q s) else 0
def dSt (V D : Nat → Nat) (s : Nat) : Nat := if s < st then 0 else if s = st then 1 else (co1 p x y z Q V s * dA D (lf Q s) + co2 p x y z Q V s * dA D (rg Q s)) % p
def Vok (V : Nat → Nat) : Prop := ∀ s, s < Q.length → V s = vSt p x y z Q V s ∧ V s < p
def Dok (V D : Nat → Nat) : Prop := ∀ s, s < Q.length → D s = dSt p x y z st Q V D s ∧ D s < p
end ATN
section ATM
variable {p x y z st : Nat} {Q : List Sp} {B : Nat → Nat}
theorem vA_cg {V W : Nat → Nat} {a s : Nat} (ha : a < 103 + s) (h : ∀ k, k < s → V k = W k) : vA p x y z V a = vA p x y z W a := by
  unfold vA
  by_cases c : a < 100
  · rw [if_pos c, if_pos c]
  · rw [if_neg c, if_neg c]
    by_cases c2 : a < 103
    · rw [if_pos c2, if_pos c2]
    · rw [if_neg c2, if_neg c2]; exact h _ (by omega)
theorem vA_lt {V : Nat → Nat} {a s : Nat} (hp : 0 < p) (hx : x < p) (hy : y < p) (hz : z < p) (ha : a < 103 + s) (h : ∀ k, k < s → V k < p) : vA p x y z V a < p := by
  unfold vA
  split
  · exact Nat.mod_lt _ hp
  · split
    · split
      · exact hx
      · split
        · exact hy
        · exact hz
    · exact h _ (by omega)
theorem vSt_cg {V W : Nat → Nat} {s : Nat} (hq : VQ p Q B) (hs : s < Q.length) (h : ∀ k, k < s → V k = W k) : vSt p x y z Q V s = vSt p x y z Q W s := by
  unfold vSt
  rw [vA_cg (hq.2 s hs).2.2.2.1 h, vA_cg (hq.rg hs) h]
theorem vSt_lt {V : Nat → Nat} {s : Nat} (hpp : PrP p) (hq : VQ p Q B) (hs : s < Q.length) (hx : x < p) (hy : y < p) (hz : z < p) (h : ∀ k, k < s → V k < p) : vSt p x y z Q V s < p := by
  have hp := hpp.le
  have h1 := vA_lt (x := x) (y := y) (z := z) (V := V) (by omega) hx hy hz (hq.2 s hs).2.2.2.1 h
  unfold vSt
  split
  · exact Nat.mod_lt _ (by omega)
  · split
    · exact Nat.mod_lt _ (by omega)
    · split
      · exact Nat.mod_lt _ (by omega)
      · split
        · exact pm_lt (by omega) _
        · exact h1
theorem dA_cg {V W : Nat → Nat} {a s : Nat} (ha : a < 103 + s) (h : ∀ k, k < s → V k = W k) : dA V a = dA W a := by
  unfold dA
  by_cases c : a < 103
  · rw [if_pos c, if_pos c]
  · rw [if_neg c, if_neg c]; exact h _ (by omega)
/-- a row in which each number is told by those ahead of it -/
theorem rec_ex {N p : Nat} (F : (Nat → Nat) → Nat → Nat) (hcg : ∀ V W s, s < N → (∀ k, k < s → V k = W k) → F V s = F W s) (hlt : ∀ V s, s < N → (∀ k, k < s → V k < p) → F V s < p) : ∃ V, ∀ s, s < N → V s = F V s ∧ V s < p := by
  have key : ∀ n, n ≤ N → ∃ V, ∀ s, s < n → V s = F V s ∧ V s < p := by
    intro n
    induction n with
    | zero => intro _; exact ⟨fun _ => 0, fun s hs => by omega⟩
    | succ n ih =>
      intro hn
      obtain ⟨V, hV⟩ := ih (by omega)
      refine ⟨fun k => if k = n then F V n else V k, fun s hs => ?_⟩
      have same : ∀ k, k < n → (fun k => if k = n then F V n else V k) k = V k := fun k hk => if_neg (by omega)
      show (if s = n then F V n else V s) = _ ∧ (if s = n then F V n else V s) < p
      by_cases c : s = n
      · rw [if_pos c, c]
        exact ⟨(hcg _ _ n (by omega) same).symm, hlt V n (by omega) (fun k hk => (hV k hk).2)⟩
      · rw [if_neg c, hcg _ V s (by omega) (fun k hk => same k (by omega))]
        exact hV s (by omega)
  exact key N (Nat.le_refl _)
theorem V_ex (hpp : PrP p) (hq : VQ p Q B) (hx : x < p) (hy : y < p) (hz : z < p) : ∃ V, Vok p x y z Q V := rec_ex (fun V s => vSt p x y z Q V s) (fun V W s hs h => vSt_cg hq hs h) (fun V s hs h => vSt_lt hpp hq hs hx hy hz h)
theorem D_ex (hpp : PrP p) (hq : VQ p Q B) (V : Nat → Nat) : ∃ D, Dok p x y z st Q V D := by
  have hp := hpp.le
  refine rec_ex (fun D s => dSt p x y z st Q V D s) (fun D E s hs h => ?_) (fun D s hs h => ?_)
  · show dSt p x y z st Q V D s = dSt p x y z st Q V E s
    unfold dSt
    rw [dA_cg (hq.2 s hs).2.2.2.1 h, dA_cg (hq.rg hs) h]
  · show dSt p x y z st Q V D s < p
    unfold dSt
    split
    · omega
    · split
      · omega
      · exact Nat.mod_lt _ (by omega)
/-- what is handed on comes to the same -/
theorem hand_sum {m k0 w : Nat} {T D : Nat → Nat} (hk : k0 < m) : sumTo m (fun k => (if k = k0 then (T k0 + w) % p else T k) * D k) % p = (sumTo m (fun k => T k * D k) + w * D k0) % p := by
  rw [sumTo_pick (fun i => T i * D i) hk, sumTo_pick (fun i => (if i = k0 then (T k0 + w) % p else T i) * D i) hk]
  have e : sumTo m (fun i => if i = k0 then 0 else (if i = k0 then (T k0 + w) % p else T i) * D i) = sumTo m (fun i => if i = k0 then 0 else T i * D i) := sumTo_congr (fun i _ => by
    by_cases q : i = k0
    · rw [if_pos q, if_pos q]
    · rw [if_neg q, if_neg q, if_neg q])
  rw [e]
  show (_ + (if k0 = k0 then (T k0 + w) % p else T k0) * D k0) % p = _
  rw [if_pos rfl, Nat.add_mod, Nat.mod_mul_mod, ← Nat.add_mod, Nat.add_mul]
  congr 1
  omega
end ATM
theorem c_raised1 {M : Nat × Nat} {x0 x2 : Int32} {S : HS} {K : Int32 → HS → Prop} (h : K 1 S) : wp_X9_raised M x0 (-1) x2 S K := by
  refine ⟨1, ?_⟩
  show wb_X9_raised_5 _ _ _ _ _ _ _ _ _
  unfold wb_X9_raised_5
  exact ⟨fun _ => h, fun c => absurd (by decide) c⟩
section ATC
variable {M : Nat × Nat} {g p x y z st : Nat} {Q : List Sp} {B : Nat → Nat} {S : HS} {K : Int32 → HS → Prop}
/-- the point and the values of the first i steps lie in the program -/
def Va (S : HS) (g x y z : Nat) (V : Nat → Nat) (i : Nat) : Prop := hI S (g + 9) 0 = ι x ∧ hI S (g + 9) 1 = ι y ∧ hI S (g + 9) 2 = ι z ∧ ∀ k, k < i → hI S (g + 7) k = ι (V k)
theorem c_atomValue {a i : Nat} {x1 x2 : Int32} {V : Nat → Nat} (pr : Pr S g Q) (hpp : PrP p) (hva : Va S g x y z V i) (hi : i ≤ 23) (ha : a < 103 + i) (h1 : x1 = ι a) (h2 : x2 = ι p) (h : K (ι (vA p x y z V a)) S) : wp_X7_atomValue M g x1 x2 S K := by
  subst h1 h2
  have hp := hpp.le
  obtain ⟨v1, v2, v3, v4⟩ := hva
  unfold wp_X7_atomValue
  unfold vA at h
  rw [show (100 : Int32) = ι 100 from rfl, ι_le (by omega) (by omega), show (103 : Int32) = ι 103 from rfl, ι_le (by omega) (by omega)]
  refine ⟨fun c => ⟨fun c2 => ⟨pr.2.1, g + 7, pr.2.2.1 7 (by omega) (by omega), (pr.2.2.2.1 7 (by omega) (by omega)).1, ?_, ?_⟩, fun c2 => ⟨pr.2.1, g + 9, pr.2.2.1 9 (by omega) (by omega), (pr.2.2.2.1 9 (by omega) (by omega)).1, ?_, ?_⟩⟩, fun c => ⟨?_, ?_⟩⟩
  · rw [ι_sub (by omega), (pr.2.2.2.1 7 (by omega) (by omega)).2]
    exact ι_in (by show a - 103 < 23; omega) (by decide)
  · rw [if_neg (by omega), if_neg (by omega)] at h
    rw [ι_sub (by omega), ι_cl (by omega), v4 _ (by omega)]; exact h
  · rw [ι_sub (by omega), (pr.2.2.2.1 9 (by omega) (by omega)).2]
    exact ι_in (by show a - 100 < 3; omega) (by decide)
  · rw [if_neg (by omega), if_pos (by omega)] at h
    rw [ι_sub (by omega), ι_cl (by omega)]
    have h3 : a = 100 ∨ a = 101 ∨ a = 102 := by omega
    rcases h3 with rfl | rfl | rfl
    · rw [show 100 - 100 = 0 from rfl, v1]; exact h
    · rw [show 101 - 100 = 1 from rfl, v2]; exact h
    · rw [show 102 - 100 = 2 from rfl, v3]; exact h
  · rw [show (0 : Int32) = ι 0 from rfl, ι_eq (by omega) (by omega)]; omega
  · rw [if_pos (by omega)] at h
    rw [ι_rem (by omega) (by omega)]; exact h
theorem sgn_lt {s : Nat} (hq : VQ p Q B) (hs : s < Q.length) : sg Q s ≤ 94 := by
  rcases (hq.2 s hs).2.2.1 with q | q | q
  · omega
  · omega
  · unfold isTwo at q; omega
theorem c_stepValue {s : Nat} {x1 x2 : Int32} {V : Nat → Nat} (pr : Pr S g Q) (hpp : PrP p) (hq : VQ p Q B) (hs : s < Q.length) (hx : x < p) (hy : y < p) (hz : z < p) (hV : Vok p x y z Q V) (hva : Va S g x y z V s) (h1 : x1 = ι s) (h2 : x2 = ι p) (h : K (ι (V s)) S) : wp_X7_stepValue M g x1 x2 S K := by
  subst h1 h2
  have hp := hpp.le
  have hl := hq.1
  have hlf := (hq.2 s hs).2.2.2.1
  have hrg := hq.rg hs
  have la := vA_lt (x := x) (y := y) (z := z) (V := V) (by omega) hx hy hz hlf (fun k hk => (hV k (by omega)).2)
  have ra := vA_lt (x := x) (y := y) (z := z) (V := V) (by omega) hx hy hz hrg (fun k hk => (hV k (by omega)).2)
  have hvi : ∀ f, 1 ≤ f → f ≤ 8 → vp_in (ι s) (hN S (g + f)) := fun f f1 f2 => by rw [(pr.2.2.2.1 f f1 (by omega)).2, if_neg (by omega)]; exact ι_in (by omega) (by omega)
  have hT : ∀ f, 1 ≤ f → f ≤ 5 → hT S (g + f) = 21 := fun f f1 f2 => by rw [(pr.2.2.2.1 f f1 (by omega)).1, if_neg (by omega)]
  obtain ⟨a2, a3, a4⟩ := pr.2.2.2.2.2 s hs
  have hsl := sgn_lt hq hs
  have hpz : ¬ ι p = 0 := by rw [show (0 : Int32) = ι 0 from rfl, ι_eq (by omega) (by omega)]; omega
  rw [(hV s hs).1] at h
  unfold vSt at h
  unfold wp_X7_stepValue
  rw [ι_cl (by omega)]
  refine ⟨pr.2.1, g + 3, pr.2.2.1 3 (by omega) (by omega), hT 3 (by omega) (by omega), hvi 3 (by omega) (by omega), pr.2.1, ?_⟩
  rw [a3]
  refine c_atomValue pr hpp hva (by omega) hlf rfl rfl ⟨pr.2.1, g + 4, pr.2.2.1 4 (by omega) (by omega), hT 4 (by omega) (by omega), hvi 4 (by omega) (by omega), pr.2.1, ?_⟩
  rw [a4]
  refine c_atomValue pr hpp hva (by omega) hrg rfl rfl ⟨pr.2.1, g + 2, pr.2.2.1 2 (by omega) (by omega), hT 2 (by omega) (by omega), hvi 2 (by omega) (by omega), ?_⟩
  generalize vA p x y z V (lf Q s) = u at *
  generalize vA p x y z V (rg Q s) = w at *
  have huw : u * w ≤ 13 * 13 := Nat.mul_le_mul (by omega) (by omega)
  have eq : ∀ k, k < 100 → (ι (sg Q s) = ι k ↔ sg Q s = k) := fun k hk => ι_eq (by omega) (by omega)
  rw [a2]
  refine ⟨fun c => ⟨hpz, ?_⟩, fun c => ⟨hpz, ?_⟩, fun c => ⟨hpz, ?_⟩, fun c => ⟨pr.2.1, g + 4, pr.2.2.1 4 (by omega) (by omega), hT 4 (by omega) (by omega), hvi 4 (by omega) (by omega), ?_⟩, fun c => ?_⟩
  · have c' := (eq 42 (by omega)).mp c
    rw [if_neg (by omega), if_neg (by omega), if_pos c'] at h
    rw [ι_mul, ι_rem (by omega) (by omega)]; exact h
  · have c' := (eq 43 (by omega)).mp c
    rw [if_pos c'] at h
    rw [ι_add, ι_rem (by omega) (by omega)]; exact h
  · have c' := (eq 45 (by omega)).mp c
    rw [if_neg (by omega), if_pos c'] at h
    rw [ι_add, ι_sub (by omega), ι_rem (by omega) (by omega)]; exact h
  · have c' := (eq 94 (by omega)).mp c
    have := (hq.2 s hs).2.2.2.2.2.1 c'
    rw [if_neg (by omega), if_neg (by omega), if_neg (by omega), if_pos c'] at h
    rw [a4]
    exact c_raised hpp rfl rfl rfl (by omega) (by omega) h
  · have n1 : sg Q s ≠ 42 := fun e => c.1 ((eq 42 (by omega)).mpr e)
    have n2 : sg Q s ≠ 43 := fun e => c.2.1 ((eq 43 (by omega)).mpr e)
    have n3 : sg Q s ≠ 45 := fun e => c.2.2.1 ((eq 45 (by omega)).mpr e)
    have n4 : sg Q s ≠ 94 := fun e => c.2.2.2 ((eq 94 (by omega)).mpr e)
    rw [if_neg n2, if_neg n3, if_neg n1, if_neg n4] at h
    exact h
theorem c_findValues {x1 x2 x3 x4 : Int32} {V : Nat → Nat} (pr : Pr S g Q) (hpp : PrP p) (hq : VQ p Q B) (hx : x < p) (hy : y < p) (hz : z < p) (hV : Vok p x y z Q V) (h1 : x1 = ι x) (h2 : x2 = ι y) (h3 : x3 = ι z) (h4 : x4 = ι p) (h : ∀ S', Ext S S' (Wg g) V0 → hX S' = hX S → hS S' = hS S → Va S' g x y z V Q.length → K 0 S') : wp_X7_findValues M g x1 x2 x3 x4 S K := by
  subst h1 h2 h3 h4
  have hl := hq.1
  have p9 := pr.2.2.2.1 9 (by omega) (by omega)
  have w9 : ∀ k, Wg g (g + 9) k := fun k => by unfold Wg; omega
  have v0 : vp_in 0 (hN S (g + 9)) := by rw [p9.2]; exact ι_in (a := 0) (by decide) (by decide)
  have v1 : vp_in 1 (hN S (g + 9)) := by rw [p9.2]; exact ι_in (a := 1) (by decide) (by decide)
  have v2 : vp_in 2 (hN S (g + 9)) := by rw [p9.2]; exact ι_in (a := 2) (by decide) (by decide)
  have key : ∀ (k i : Nat) (S1 : HS), i + k = Q.length → Ext S S1 (Wg g) V0 → hX S1 = hX S → hS S1 = hS S → Va S1 g x y z V i → wl_X7_findValues_24 M K (k + 1) g (ι p) (ι i) S1 := by
    intro k
    induction k with
    | zero =>
      intro i S1 hi e1 x1 s1 va
      have p1 := pr.go e1
      show wb_X7_findValues_24 _ _ _ _ _ _ _
      unfold wb_X7_findValues_24
      rw [p1.2.2.2.2.1]
      refine ⟨p1.2.1, fun _ => h S1 e1 x1 s1 (by rw [show Q.length = i by omega]; exact va), fun c => absurd (by rw [ι_le (by omega) (by omega)]; omega) c⟩
    | succ k ih =>
      intro i S1 hi e1 x1 s1 va
      have p1 := pr.go e1
      have p17 := p1.2.2.2.1 7 (by omega) (by omega)
      show wb_X7_findValues_24 _ _ _ _ _ _ _
      unfold wb_X7_findValues_24
      rw [p1.2.2.2.2.1, ι_cl (by omega), show (1 : Int32) = ι 1 from rfl, ι_add]
      refine ⟨p1.2.1, fun c => absurd c (by rw [ι_le (by omega) (by omega)]; omega), fun _ => ⟨p1.2.1, g + 7, p1.2.2.1 7 (by omega) (by omega), p1.2.1, c_stepValue p1 hpp hq (by omega) hx hy hz hV va rfl rfl ⟨p17.1, by rw [p17.2]; exact ι_in (by show i < 23; omega) (by decide), ?_⟩⟩⟩
      obtain ⟨a1, a2, a3, a4⟩ := va
      refine ih (i + 1) _ (by omega) (e1.sI (by unfold Wg; omega)) x1 s1 ⟨by rw [sI_ne (by omega)]; exact a1, by rw [sI_ne (by omega)]; exact a2, by rw [sI_ne (by omega)]; exact a3, fun j hj => ?_⟩
      rw [sI_eq]
      by_cases c : j = i
      · rw [if_pos c, c]
      · rw [if_neg c]; exact a4 j (by omega)
  unfold wp_X7_findValues
  rw [show Int32.toNatClampNeg 0 = 0 from rfl, show Int32.toNatClampNeg 1 = 1 from rfl, show Int32.toNatClampNeg 2 = 2 from rfl]
  refine ⟨pr.2.1, g + 9, pr.2.2.1 9 (by omega) (by omega), p9.1, v0, pr.2.1, g + 9, pr.2.2.1 9 (by omega) (by omega), p9.1, v1, pr.2.1, g + 9, pr.2.2.1 9 (by omega) (by omega), p9.1, v2, Q.length + 1, ?_⟩
  refine key Q.length 0 _ (by omega) ((((Ext.rf S (Wg g) V0).sI (w9 0)).sI (w9 1)).sI (w9 2)) rfl rfl ⟨?_, ?_, ?_, fun k hk => by omega⟩
  · rw [sI_eq, if_neg (by omega), sI_eq, if_neg (by omega), sI_eq, if_pos rfl]
  · rw [sI_eq, if_neg (by omega), sI_eq, if_pos rfl]
  · rw [sI_eq, if_pos rfl]
theorem c_hand {a i w : Nat} {x1 x2 x3 : Int32} {T : Nat → Nat} (pr : Pr S g Q) (hpp : PrP p) (hi : i ≤ 23) (ha : a < 103 + i) (hw : w ≤ 1000000) (h1 : x1 = ι a) (h2 : x2 = ι w) (h3 : x3 = ι p) (hTT : ∀ k, k < i → hI S (g + 8) k = ι (T k) ∧ T k < p) (h : ∀ (S' : HS) (T' : Nat → Nat), Ext S S' (fun b _ => b = g + 8) V0 → hX S' = hX S → hS S' = hS S → (∀ k, k < i → hI S' (g + 8) k = ι (T' k) ∧ T' k < p) → (∀ D : Nat → Nat, sumTo i (fun k => T' k * D k) % p = (sumTo i (fun k => T k * D k) + w * dA D a) % p) → K 0 S') : wp_X7_hand M g x1 x2 x3 S K := by
  subst h1 h2 h3
  have hp := hpp.le
  have p8 := pr.2.2.2.1 8 (by omega) (by omega)
  unfold wp_X7_hand
  rw [show (103 : Int32) = ι 103 from rfl, ι_lt (by omega) (by omega)]
  refine ⟨fun c => h S T (Ext.rf _ _ _) rfl rfl hTT (fun D => by unfold dA; rw [if_pos c, Nat.mul_zero, Nat.add_zero]), fun c => ?_⟩
  rw [ι_sub (by omega), ι_cl (by omega)]
  obtain ⟨t1, t2⟩ := hTT (a - 103) (by omega)
  have hv : vp_in (ι (a - 103)) (hN S (g + 8)) := by rw [p8.2]; exact ι_in (by show a - 103 < 23; omega) (by decide)
  refine ⟨pr.2.1, g + 8, pr.2.2.1 8 (by omega) (by omega), pr.2.1, g + 8, pr.2.2.1 8 (by omega) (by omega), p8.1, hv, by rw [show (0 : Int32) = ι 0 from rfl, ι_eq (by omega) (by omega)]; omega, p8.1, hv, ?_⟩
  rw [t1, ι_add, ι_rem (by omega) (by omega)]
  refine h _ (fun k => if k = a - 103 then (T (a - 103) + w) % p else T k) ((Ext.rf S _ V0).sI rfl) rfl rfl (fun k hk => ?_) (fun D => ?_)
  · rw [sI_eq]
    show (if k = a - 103 then _ else _) = ι (if k = a - 103 then (T (a - 103) + w) % p else T k) ∧ (if k = a - 103 then (T (a - 103) + w) % p else T k) < p
    by_cases c2 : k = a - 103
    · rw [if_pos c2, if_pos c2]; exact ⟨rfl, Nat.mod_lt _ (by omega)⟩
    · rw [if_neg c2, if_neg c2]; exact hTT k hk
  · unfold dA
    rw [if_neg c]
    exact hand_sum (by omega)
end ATC
/-! at. -/
section ATD
variable {M : Nat × Nat} {g p x y z st : Nat} {Q : List Sp} {B : Nat → Nat} {S : HS} {K : Int32 → HS → Prop}
theorem c_handBack {s : Nat} {x1 x2 : Int32} {V T : Nat → Nat} (pr : Pr S g Q) (hpp : PrP p) (hq : VQ p Q B) (hs : s < Q.length) (hx : x < p) (hy : y < p) (hz : z < p) (hV : Vok p x y z Q V) (hva : Va S g x y z V Q.length) (hTT : ∀ k, k < s + 1 → hI S (g + 8) k = ι (T k) ∧ T k < p) (h1 : x1 = ι s) (h2 : x2 = ι p) (h : ∀ (S' : HS) (T' : Nat → Nat), Ext S S' (fun b _ => b = g + 8) V0 → hX S' = hX S → hS S' = hS S → (∀ k, k < s → hI S' (g + 8) k = ι (T' k) ∧ T' k < p) → (∀ D : Nat → Nat, sumTo s (fun k => T' k * D k) % p = (sumTo s (fun k => T k * D k) + T s * (co1 p x y z Q V s * dA D (lf Q s) + co2 p x y z Q V s * dA D (rg Q s))) % p) → K 0 S') : wp_X7_handBack M g x1 x2 S K := by
  subst h1 h2
  have hp := hpp.le
  have hl := hq.1
  have hlf := (hq.2 s hs).2.2.2.1
  have hrg := hq.rg hs
  have la := vA_lt (x := x) (y := y) (z := z) (V := V) (by omega) hx hy hz hlf (fun k hk => (hV k (by omega)).2)
  have ra := vA_lt (x := x) (y := y) (z := z) (V := V) (by omega) hx hy hz hrg (fun k hk => (hV k (by omega)).2)
  have hvaS : Va S g x y z V s := ⟨hva.1, hva.2.1, hva.2.2.1, fun k hk => hva.2.2.2 k (by omega)⟩
  have hvi : ∀ {S2 : HS}, Pr S2 g Q → ∀ f, 1 ≤ f → f ≤ 8 → vp_in (ι s) (hN S2 (g + f)) := fun p2 f f1 f2 => by rw [(p2.2.2.2.1 f f1 (by omega)).2, if_neg (by omega)]; exact ι_in (by omega) (by omega)
  have hTg : ∀ {S2 : HS}, Pr S2 g Q → ∀ f, 1 ≤ f → f ≤ 5 → hT S2 (g + f) = 21 := fun p2 f f1 f2 => by rw [(p2.2.2.2.1 f f1 (by omega)).1, if_neg (by omega)]
  obtain ⟨a2, a3, a4⟩ := pr.2.2.2.2.2 s hs
  have hsl := sgn_lt hq hs
  obtain ⟨t1, t2⟩ := hTT s (by omega)
  have hTs : ∀ k, k < s → hI S (g + 8) k = ι (T k) ∧ T k < p := fun k hk => hTT k (by omega)
  have eq : ∀ k, k < 100 → (ι (sg Q s) = ι k ↔ sg Q s = k) := fun k hk => ι_eq (by omega) (by omega)
  unfold co1 co2 at h
  generalize eu : vA p x y z V (lf Q s) = u at *
  generalize ew : vA p x y z V (rg Q s) = w at *
  have b1 : T s * u ≤ 13 * 13 := Nat.mul_le_mul (by omega) (by omega)
  have b2 : T s * w ≤ 13 * 13 := Nat.mul_le_mul (by omega) (by omega)
  have b3 : T s * (p - 1) ≤ 13 * 13 := Nat.mul_le_mul (by omega) (by omega)
  -- two are handed on
  have two : ∀ (w1 w2 : Nat) (y1 y2 : Int32), w1 ≤ 1000 → w2 ≤ 1000 → y1 = ι w1 → y2 = ι w2 → (∀ D : Nat → Nat, w1 * dA D (lf Q s) + w2 * dA D (rg Q s) = T s * ((if sg Q s = 94 then rg Q s * pm p u (rg Q s - 1) else if sg Q s = 42 then w else 1) * dA D (lf Q s) + (if sg Q s = 43 then 1 else if sg Q s = 45 then p - 1 else if sg Q s = 42 then u else 0) * dA D (rg Q s))) → wp_X7_hand M g (ι (lf Q s)) y1 (ι p) S (fun r9 S9 => hT S9 g = 8 ∧ ∃ b10 : Nat, hP S9 g 4 = some b10 ∧ hT S9 b10 = 21 ∧ vp_in (ι s) (hN S9 b10) ∧ hT S9 g = 8 ∧ wp_X7_hand M g (hI S9 b10 s) y2 (ι p) S9 (fun r11 S11 => K 0 S11)) := by
    intro w1 w2 y1 y2 h1 h2 e1 e2 hD
    refine c_hand (i := s) pr hpp (by omega) hlf (by omega) rfl e1 rfl hTs (fun S1 T1 x1 hx1 hs1 ht1 hd1 => ?_)
    have p1 := pr.go (x1.mo (fun b k q => by unfold Wg; omega) (fun _ _ c => c))
    refine ⟨p1.2.1, g + 4, p1.2.2.1 4 (by omega) (by omega), hTg p1 4 (by omega) (by omega), hvi p1 4 (by omega) (by omega), p1.2.1, ?_⟩
    rw [(p1.2.2.2.2.2 s hs).2.2]
    refine c_hand (i := s) p1 hpp (by omega) hrg (by omega) rfl e2 rfl ht1 (fun S2 T2 x2 hx2 hs2 ht2 hd2 => h S2 T2 (x1.tr x2) (by omega) (by omega) ht2 (fun D => ?_))
    rw [hd2 D, Nat.add_mod, hd1 D, ← Nat.add_mod, Nat.add_assoc, hD D]
  -- one
  have one : ∀ (w1 : Nat) (y1 : Int32), w1 ≤ 10000 → y1 = ι w1 → (∀ D : Nat → Nat, w1 * dA D (lf Q s) = T s * ((if sg Q s = 94 then rg Q s * pm p u (rg Q s - 1) else if sg Q s = 42 then w else 1) * dA D (lf Q s) + (if sg Q s = 43 then 1 else if sg Q s = 45 then p - 1 else if sg Q s = 42 then u else 0) * dA D (rg Q s))) → wp_X7_hand M g (ι (lf Q s)) y1 (ι p) S (fun r11 S11 => K 0 S11) := by
    intro w1 y1 h1 e1 hD
    refine c_hand (i := s) pr hpp (by omega) hlf (by omega) rfl e1 rfl hTs (fun S1 T1 x1 hx1 hs1 ht1 hd1 => h S1 T1 x1 hx1 hs1 ht1 (fun D => ?_))
    rw [hd1 D, hD D]
  unfold wp_X7_handBack
  rw [ι_cl (by omega)]
  refine ⟨pr.2.1, g + 8, pr.2.2.1 8 (by omega) (by omega), (pr.2.2.2.1 8 (by omega) (by omega)).1, hvi pr 8 (by omega) (by omega), fun v2 e2 => ?_⟩
  rw [t1] at e2
  subst e2
  refine ⟨pr.2.1, g + 3, pr.2.2.1 3 (by omega) (by omega), hTg pr 3 (by omega) (by omega), hvi pr 3 (by omega) (by omega), pr.2.1, ?_⟩
  rw [a3]
  refine c_atomValue pr hpp hvaS (by omega) hlf rfl rfl ⟨pr.2.1, g + 4, pr.2.2.1 4 (by omega) (by omega), hTg pr 4 (by omega) (by omega), hvi pr 4 (by omega) (by omega), pr.2.1, ?_⟩
  rw [a4]
  refine c_atomValue pr hpp hvaS (by omega) hrg rfl rfl ⟨pr.2.1, g + 2, pr.2.2.1 2 (by omega) (by omega), hTg pr 2 (by omega) (by omega), hvi pr 2 (by omega) (by omega), ?_⟩
  rw [a2, eu, ew]
  refine ⟨fun c => ⟨pr.2.1, g + 3, pr.2.2.1 3 (by omega) (by omega), hTg pr 3 (by omega) (by omega), hvi pr 3 (by omega) (by omega), pr.2.1, ?_⟩, fun c => ⟨pr.2.1, g + 3, pr.2.2.1 3 (by omega) (by omega), hTg pr 3 (by omega) (by omega), hvi pr 3 (by omega) (by omega), pr.2.1, ?_⟩, fun c => ⟨pr.2.1, g + 3, pr.2.2.1 3 (by omega) (by omega), hTg pr 3 (by omega) (by omega), hvi pr 3 (by omega) (by omega), pr.2.1, ?_⟩, fun c => ⟨pr.2.1, g + 3, pr.2.2.1 3 (by omega) (by omega), hTg pr 3 (by omega) (by omega), hvi pr 3 (by omega) (by omega), pr.2.1, g + 4, pr.2.2.1 4 (by omega) (by omega), hTg pr 4 (by omega) (by omega), hvi pr 4 (by omega) (by omega), pr.2.1, g + 4, pr.2.2.1 4 (by omega) (by omega), hTg pr 4 (by omega) (by omega), hvi pr 4 (by omega) (by omega), ?_⟩, fun c => ⟨pr.2.1, g + 3, pr.2.2.1 3 (by omega) (by omega), hTg pr 3 (by omega) (by omega), hvi pr 3 (by omega) (by omega), pr.2.1, ?_⟩⟩
  · have c' := (eq 42 (by omega)).mp c
    rw [a3]
    refine two (T s * w) (T s * u) _ _ (by omega) (by omega) (by rw [ι_mul]) (by rw [ι_mul]) (fun D => ?_)
    rw [if_neg (by omega), if_pos c', if_neg (by omega), if_neg (by omega), if_pos c', Nat.mul_add, Nat.mul_assoc, Nat.mul_assoc]
  · have c' := (eq 43 (by omega)).mp c
    rw [a3]
    refine two (T s) (T s) _ _ (by omega) (by omega) rfl rfl (fun D => ?_)
    rw [if_neg (by omega), if_neg (by omega), if_pos c', Nat.mul_add, Nat.one_mul, Nat.one_mul]
  · have c' := (eq 45 (by omega)).mp c
    rw [a3]
    refine two (T s) (T s * (p - 1)) _ _ (by omega) (by omega) rfl (by rw [show (1 : Int32) = ι 1 from rfl, ι_sub (by omega), ι_mul]) (fun D => ?_)
    rw [if_neg (by omega), if_neg (by omega), if_neg (by omega), if_pos c', Nat.mul_add, Nat.one_mul, Nat.mul_assoc]
  · have c' := (eq 94 (by omega)).mp c
    have h9 := (hq.2 s hs).2.2.2.2.2.1 c'
    have hpl := pm_lt (p := p) (v := u) (by omega) (rg Q s - 1)
    have b4 : T s * rg Q s ≤ 13 * 9 := Nat.mul_le_mul (by omega) h9
    have b5 : T s * rg Q s * pm p u (rg Q s - 1) ≤ (13 * 9) * 13 := Nat.mul_le_mul b4 (by omega)
    rw [a3, a4]
    have fin : ∀ y1 : Int32, y1 = ι (T s * rg Q s * pm p u (rg Q s - 1)) → wp_X7_hand M g (ι (lf Q s)) y1 (ι p) S (fun r24 S24 => K 0 S24) := fun y1 e1 => one _ y1 (by omega) e1 (fun D => by
      rw [if_pos c', if_neg (by omega), if_neg (by omega), if_neg (by omega), Nat.zero_mul, Nat.add_zero, Nat.mul_assoc (T s), Nat.mul_assoc (T s)])
    by_cases c0 : rg Q s = 0
    · rw [c0, show ι 0 - 1 = -1 from rfl]
      refine c_raised1 ⟨pr.2.1, fin _ ?_⟩
      rw [c0, ι_mul, show (1 : Int32) = ι 1 from rfl, ι_mul, Nat.mul_zero, Nat.zero_mul, Nat.zero_mul]
    · rw [show (1 : Int32) = ι 1 from rfl, ι_sub (by omega)]
      refine c_raised hpp rfl rfl rfl (by omega) (by omega) ⟨pr.2.1, fin _ ?_⟩
      rw [ι_mul, ι_mul]
  · have n1 : sg Q s ≠ 42 := fun e => c.1 ((eq 42 (by omega)).mpr e)
    have n2 : sg Q s ≠ 43 := fun e => c.2.1 ((eq 43 (by omega)).mpr e)
    have n3 : sg Q s ≠ 45 := fun e => c.2.2.1 ((eq 45 (by omega)).mpr e)
    have n4 : sg Q s ≠ 94 := fun e => c.2.2.2 ((eq 94 (by omega)).mpr e)
    rw [a3]
    refine one (T s) _ (by omega) rfl (fun D => ?_)
    rw [if_neg n4, if_neg n1, if_neg n2, if_neg n3, if_neg n1, Nat.zero_mul, Nat.add_zero, Nat.one_mul]
theorem c_turnOf {x1 x2 : Int32} {V D : Nat → Nat} (pr : Pr S g Q) (hpp : PrP p) (hq : VQ p Q B) (hs : st < Q.length) (hx : x < p) (hy : y < p) (hz : z < p) (hV : Vok p x y z Q V) (hD : Dok p x y z st Q V D) (hva : Va S g x y z V Q.length) (h1 : x1 = ι st) (h2 : x2 = ι p) (h : ∀ S', Ext S S' (Wg g) V0 → hX S' = hX S → hS S' = hS S → K (ι (D (Q.length - 1))) S') : wp_X7_turnOf M g x1 x2 S K := by
  subst h1 h2
  have hp := hpp.le
  have hl := hq.1
  have go7 : ∀ {S1 : HS}, Ext S S1 (fun b _ => b = g + 8) V0 → Va S1 g x y z V Q.length := fun e => by
    have ee := e.2.2.1
    have hgx := pr.1
    obtain ⟨b1, b2, b3, b4⟩ := hva
    refine ⟨by rw [(ee _ (by omega)).2.2.1 _ (by omega)]; exact b1, by rw [(ee _ (by omega)).2.2.1 _ (by omega)]; exact b2, by rw [(ee _ (by omega)).2.2.1 _ (by omega)]; exact b3, fun k hk => by rw [(ee _ (by omega)).2.2.1 _ (by omega)]; exact b4 k hk⟩
  have goW : ∀ {S1 : HS}, Ext S S1 (fun b _ => b = g + 8) V0 → Ext S S1 (Wg g) V0 := fun e => e.mo (fun b k q => by unfold Wg; omega) (fun _ _ c => c)
  have key : ∀ (k j : Nat) (S1 : HS) (T : Nat → Nat), j + k = Q.length - 1 - st → Ext S S1 (fun b _ => b = g + 8) V0 → hX S1 = hX S → hS S1 = hS S → (∀ k, k < Q.length - j → hI S1 (g + 8) k = ι (T k) ∧ T k < p) → sumTo (Q.length - j) (fun k => T k * D k) % p = D (Q.length - 1) → wl_X7_turnOf_27 M K (k + 1) g (ι st) (ι p) (ι (Q.length - 1 - j)) S1 := by
    intro k
    induction k with
    | zero =>
      intro j S1 T hj e1 x1 s1 ht hd
      have p1 := pr.go (goW e1)
      show wb_X7_turnOf_27 _ _ _ _ _ _ _ _
      unfold wb_X7_turnOf_27
      rw [ι_cl (by omega)]
      refine ⟨fun _ => ⟨p1.2.1, g + 8, p1.2.2.1 8 (by omega) (by omega), (p1.2.2.2.1 8 (by omega) (by omega)).1, by rw [(p1.2.2.2.1 8 (by omega) (by omega)).2]; exact ι_in (by show st < 23; omega) (by decide), ?_⟩, fun c => absurd (by rw [ι_le (by omega) (by omega)]; omega) c⟩
      have e2 : T st = D (Q.length - 1) := by
        rw [← hd, show Q.length - j = st + 1 by omega, sumTo, sumTo_zero (fun i hi => ?_), Nat.zero_add]
        · have : D st = 1 := by
            rw [(hD st hs).1]
            unfold dSt
            rw [if_neg (by omega), if_pos rfl]
          rw [this, Nat.mul_one, Nat.mod_eq_of_lt (ht st (by omega)).2]
        · have : D i = 0 := by
            rw [(hD i (by omega)).1]
            unfold dSt
            rw [if_pos hi]
          rw [this, Nat.mul_zero]
      rw [(ht st (by omega)).1, e2]
      exact h S1 (goW e1) x1 s1
    | succ k ih =>
      intro j S1 T hj e1 x1 s1 ht hd
      have p1 := pr.go (goW e1)
      generalize hsn : Q.length - 1 - j = s at *
      have hsl : s < Q.length := by omega
      have nx : ι s + (-1) = ι (Q.length - 1 - (j + 1)) := by
        rw [show (-1 : Int32) = -ι 1 from rfl, ι_sub' (by omega)]
        congr 1
        omega
      show wb_X7_turnOf_27 _ _ _ _ _ _ _ _
      unfold wb_X7_turnOf_27
      rw [nx]
      refine ⟨fun c => absurd c (by rw [ι_le (by omega) (by omega)]; omega), fun _ => ⟨p1.2.1, ?_⟩⟩
      refine c_handBack p1 hpp hq hsl hx hy hz hV (go7 e1) (fun k hk => ht k (by omega)) rfl rfl (fun S2 T2 e2 x2 s2 ht2 hd2 => ?_)
      refine ih (j + 1) S2 T2 (by omega) (e1.tr e2) (by omega) (by omega) (fun k hk => ht2 k (by omega)) ?_
      rw [show Q.length - (j + 1) = s by omega, hd2 D]
      rw [show Q.length - j = s + 1 by omega, sumTo] at hd
      rw [← hd]
      have eD : D s = (co1 p x y z Q V s * dA D (lf Q s) + co2 p x y z Q V s * dA D (rg Q s)) % p := by
        have := (hD s hsl).1
        unfold dSt at this
        rw [if_neg (by omega), if_neg (by omega)] at this
        exact this
      rw [eD, Nat.add_mod, ← Nat.mul_mod_mod, ← Nat.add_mod]
  have hp8 := pr.2.2.2.1 8 (by omega) (by omega)
  unfold wp_X7_turnOf
  refine ⟨pr.2.1, g + 8, pr.2.2.1 8 (by omega) (by omega), c_fill0a hp8.1 (by rw [hp8.2]; decide) (fun S1 e1 x1 s1 z1 => ?_)⟩
  have p1 := pr.go (goW e1)
  have p18 := p1.2.2.2.1 8 (by omega) (by omega)
  have z1' : ∀ k, k < 23 → hI S1 (g + 8) k = ι 0 := fun k hk => z1 k (by rw [hp8.2]; exact hk)
  rw [p1.2.2.2.2.1, show (1 : Int32) = ι 1 from rfl, ι_sub (by omega), ι_cl (by omega)]
  refine ⟨p1.2.1, g + 8, p1.2.2.1 8 (by omega) (by omega), p1.2.1, p18.1, by rw [p18.2]; exact ι_in (by show Q.length - 1 < 23; omega) (by decide), p1.2.1, fun v4 e4 => ⟨Q.length - 1 - st + 1, ?_⟩⟩
  rw [sI_ne (by omega), p1.2.2.2.2.1, ι_sub (by omega)] at e4
  subst e4
  refine key (Q.length - 1 - st) 0 _ (fun o => if o = Q.length - 1 then 1 else 0) (by omega) (e1.sI rfl) x1 s1 (fun o ho => ?_) ?_
  · rw [sI_eq]
    show (if o = Q.length - 1 then _ else _) = ι (if o = Q.length - 1 then 1 else 0) ∧ (if o = Q.length - 1 then 1 else 0) < p
    by_cases c : o = Q.length - 1
    · rw [if_pos c, if_pos c]; exact ⟨rfl, by omega⟩
    · rw [if_neg c, if_neg c]; exact ⟨z1' o (by omega), by omega⟩
  · rw [sumTo_single (Q.length - 1) (by omega) (fun i hi ne => by show (if i = Q.length - 1 then 1 else 0) * D i = 0; rw [if_neg ne, Nat.zero_mul])]
    show (if Q.length - 1 = Q.length - 1 then 1 else 0) * D (Q.length - 1) % p = _
    rw [if_pos rfl, Nat.one_mul, Nat.mod_eq_of_lt (hD _ (by omega)).2]
end ATD
/-! at: the reference. -/
section ATR
variable {p x y z st : Nat} {Q : List Sp} {B : Nat → Nat} {R : RS} {K : Int32 → RS → Prop}
theorem s_valueOfAtom {w s a : Nat} {x1 x2 x3 x4 : Int32} {V : Nat → Nat} (hpp : PrP p) (hp1 : R 0 1 = ι p) (hw : w < 46) (hs : s ≤ 23) (ha : a < 103 + s) (k1 : R 31 w = ι (atK a)) (k2 : R 32 w = ι (atV a)) (kb : ∀ k, k < s → R 40 k = ι (V k)) (h1 : x1 = ι w) (h2 : x2 = ι x) (h3 : x3 = ι y) (h4 : x4 = ι z) (h : K (ι (vA p x y z V a)) R) : wp_valueOfAtom x1 x2 x3 x4 R K := by
  subst h1 h2 h3 h4
  have hp := hpp.le
  have hvi : vp_in (ι w) 46 := ι_in hw (by omega)
  unfold wp_valueOfAtom
  rw [ι_cl (by omega), k1, k2]
  refine ⟨hvi, fun v1 e1 => ?_⟩
  subst e1
  unfold vA at h
  unfold atK atV
  by_cases c1 : a < 100
  · rw [if_pos c1] at h
    rw [if_pos c1, if_pos c1, hp1, ι_rem (by omega) (by omega)]
    exact ⟨hvi, fun q => absurd rfl q, fun _ => ⟨by rw [show (0 : Int32) = ι 0 from rfl, ι_eq (by omega) (by omega)]; omega, h⟩⟩
  · rw [if_neg c1] at h
    rw [if_neg c1, if_neg c1]
    by_cases c2 : a < 103
    · rw [if_pos c2] at h
      rw [if_pos c2, if_pos c2]
      refine ⟨hvi, fun _ => ⟨hvi, fun q => absurd rfl q, fun _ => ?_⟩, fun q => absurd q (by decide)⟩
      have h3 : a = 100 ∨ a = 101 ∨ a = 102 := by omega
      rcases h3 with rfl | rfl | rfl
      · exact ⟨fun q => absurd rfl q, fun _ => h⟩
      · exact ⟨fun _ => ⟨fun q => absurd rfl q, fun _ => h⟩, fun q => absurd q (by decide)⟩
      · exact ⟨fun _ => ⟨fun _ => h, fun q => absurd q (by decide)⟩, fun q => absurd q (by decide)⟩
    · rw [if_neg c2] at h
      rw [if_neg c2, if_neg c2]
      refine ⟨hvi, fun _ => ⟨hvi, fun _ => ⟨ι_in (by omega) (by omega), ?_⟩, fun q => absurd q (by decide)⟩, fun q => absurd q (by decide)⟩
      rw [ι_cl (by omega), kb _ (by omega)]
      exact h
theorem s_turnOfAtom {s a : Nat} {r : Bool} {x1 x2 : Int32} {D : Nat → Nat} (hq : VQ p Q B) (hr : RPg R Q) (hs : s < Q.length) (hst : st < 23) (ha : a = if r then rg Q s else lf Q s) (hr2 : r = true → isTwo (sg Q s)) (h1 : x1 = ι (2 * s + (if r then 1 else 0))) (h2 : x2 = ι st) (kb : ∀ k, k < s → R 41 k = ι (D k)) (hd0 : ∀ k, k < st → k < s → D k = 0) (h : K (ι (dA D a)) R) : wp_turnOfAtom x1 x2 R K := by
  subst h1 h2
  have hl := hq.1
  have hlf := (hq.2 s hs).2.2.2.1
  have hrg := hq.rg hs
  have hra := hr.a hs
  have hal : a < 103 + s := by rw [ha]; split; exact hrg; exact hlf
  have hw : 2 * s + (if r = true then 1 else 0) < 2 * Q.length := by split <;> omega
  have k2 : R 32 (2 * s + (if r = true then 1 else 0)) = ι (atV a) := by
    cases r with
    | false => rw [ha]; exact hra.2.2.2.2.1
    | true => rw [ha]; exact (hra.2.2.2.2.2.1 (hr2 rfl)).2
  have cond : (if (2 * s + (if r = true then 1 else 0)) % 2 = 0 then 103 ≤ lf Q ((2 * s + (if r = true then 1 else 0)) / 2) else isTwo (sg Q ((2 * s + (if r = true then 1 else 0)) / 2)) ∧ 103 ≤ rg Q ((2 * s + (if r = true then 1 else 0)) / 2)) ↔ 103 ≤ a := by
    cases r with
    | false =>
      rw [ha]
      simp only [Bool.false_eq_true, if_false]
      rw [if_pos (by omega), show (2 * s + 0) / 2 = s by omega]
    | true =>
      rw [ha]
      simp only [if_true]
      rw [if_neg (by omega), show (2 * s + 1) / 2 = s by omega]
      exact ⟨fun q => q.2, fun q => ⟨hr2 rfl, q⟩⟩
  have hvi : vp_in (ι (2 * s + (if r = true then 1 else 0))) 46 := ι_in (by omega) (by omega)
  unfold dA at h
  unfold wp_turnOfAtom
  refine s_isName hq hr hw rfl ?_
  rw [cond]
  refine ⟨fun q => ⟨fun c => absurd c (by decide), fun _ => ⟨hvi, ?_⟩⟩, fun q => ⟨fun _ => ?_, fun c => absurd rfl c⟩⟩
  · have hav : atV a = a - 103 := by unfold atV; rw [if_neg (by omega), if_neg (by omega)]
    rw [if_neg (by omega)] at h
    rw [ι_cl (by omega), k2, hav, ι_lt (by omega) (by omega), ι_cl (by omega), kb _ (by omega)]
    refine ⟨fun c => ?_, fun c => ⟨hvi, ι_in (by omega) (by omega), h⟩⟩
    rw [hd0 _ c (by omega)] at h
    exact h
  · rw [if_pos (by omega)] at h
    exact h
theorem sub_int {a b : Nat} (ha : a < 2147483648) (hb : b < 2147483648) : (ι a - ι b).toInt = (a : Int) - b := by
  rw [Int32.toInt_sub, ι_int ha, ι_int hb, Int.bmod_eq_of_le (by omega) (by omega)]
theorem mod_sub {a b p : Nat} (hp : 0 < p) (ha : a < p) (hb : b < p) : (((a : Int) - b) % (p : Int)).toNat = (a + (p - 1) * b) % p := by
  have := (Cg.neg (p := p) (n := b) hp).use hp a
  rw [← this]
  congr 2
theorem s_modSub {a b : Nat} {w : Int32} (hpp : PrP p) (hp1 : R 0 1 = ι p) (ha : a < p) (hb : b < p) (hw : w = ι a - ι b) (h : K (ι ((a + (p - 1) * b) % p)) R) : wp_mod w R K := by
  have hp := hpp.le
  subst hw
  refine s_modI hp1 hpp (fun e => ?_) ?_
  · have := sub_int (a := a) (b := b) (by omega) (by omega)
    rw [e, show (-2147483648 : Int32).toInt = -2147483648 from rfl] at this
    omega
  · rw [sub_int (by omega) (by omega), mod_sub (by omega) ha hb]
    exact h
theorem s_layStep {s : Nat} {x1 x2 x3 x4 x5 : Int32} {V D : Nat → Nat} (hpp : PrP p) (hp1 : R 0 1 = ι p) (hq : VQ p Q B) (hr : RPg R Q) (hs : s < Q.length) (hst : st < Q.length) (hx : x < p) (hy : y < p) (hz : z < p) (hV : Vok p x y z Q V) (hD : Dok p x y z st Q V D) (kv : ∀ k, k < s → R 40 k = ι (V k)) (kd : ∀ k, k < s → R 41 k = ι (D k)) (h1 : x1 = ι s) (h2 : x2 = ι st) (h3 : x3 = ι x) (h4 : x4 = ι y) (h5 : x5 = ι z) (h : ∀ R', Fr R R' [40, 41] [] → (∀ k, k < s + 1 → R' 40 k = ι (V k)) → (∀ k, k < s + 1 → R' 41 k = ι (D k)) → K 0 R') : wp_layStep x1 x2 x3 x4 x5 R K := by
  subst h1 h2 h3 h4 h5
  have hp := hpp.le
  have hl := hq.1
  have hlf := (hq.2 s hs).2.2.2.1
  have hrg := hq.rg hs
  have hra := hr.a hs
  have hsl := sgn_lt hq hs
  have la := vA_lt (x := x) (y := y) (z := z) (V := V) (by omega) hx hy hz hlf (fun k hk => (hV k (by omega)).2)
  have ra := vA_lt (x := x) (y := y) (z := z) (V := V) (by omega) hx hy hz hrg (fun k hk => (hV k (by omega)).2)
  have hd0 : ∀ k, k < st → k < s → D k = 0 := fun k hk hks => by rw [(hD k (by omega)).1]; unfold dSt; rw [if_pos hk]
  have dl : ∀ a, a < 103 + s → dA D a < p := fun a ha => by
    unfold dA
    split
    · omega
    · exact (hD _ (by omega)).2
  have dla := dl _ hlf
  have dra := dl _ hrg
  have eq : ∀ k, k < 100 → (ι (sg Q s) = ι k ↔ sg Q s = k) := fun k hk => ι_eq (by omega) (by omega)
  have hvi : vp_in (ι s) 23 := ι_in (by omega) (by omega)
  have hVs := (hV s hs).1
  unfold vSt at hVs
  have hDs := (hD s hs).1
  unfold dSt co1 co2 at hDs
  generalize eu : vA p x y z V (lf Q s) = u at *
  generalize ew : vA p x y z V (rg Q s) = w at *
  generalize ed1 : dA D (lf Q s) = d1 at *
  generalize ed2 : dA D (rg Q s) = d2 at *
  generalize hcA : (if sg Q s = 94 then rg Q s * pm p u (rg Q s - 1) else if sg Q s = 42 then w else 1) = cA at hDs
  generalize hcB : (if sg Q s = 43 then 1 else if sg Q s = 45 then p - 1 else if sg Q s = 42 then u else 0) = cB at hDs
  -- the end: the turn is set for this step and those ahead
  have last : ∀ (R1 : RS) (t : Nat), Fr R R1 [40, 41] [] → (∀ k, k < s + 1 → R1 40 k = ι (V k)) → (∀ k, k < s → R1 41 k = ι (D k)) → R1 41 s = ι t → (st < s → t = D s) → w_layStep_330 K (ι s) (ι st) R1 := by
    intro R1 t r1 k1 k2 k3 ht
    have fin : ∀ (R2 : RS) (t2 : Nat), Fr R R2 [40, 41] [] → (∀ k, k < s + 1 → R2 40 k = ι (V k)) → (∀ k, k < s → R2 41 k = ι (D k)) → R2 41 s = ι t2 → (st ≤ s → t2 = D s) → w_layStep_342 K (ι s) (ι st) R2 := by
      intro R2 t2 r2 q1 q2 q3 ht2
      unfold w_layStep_342
      rw [ι_le (by omega) (by omega), ι_cl (by omega)]
      refine ⟨fun c => h R2 r2 q1 (fun k hk => ?_), fun c => ⟨hvi, h _ (r2.w (by simp) (by omega)) (fun k hk => by rw [upN (by omega)]; exact q1 k hk) (fun k hk => ?_)⟩⟩
      · by_cases c2 : k = s
        · rw [c2, q3, ht2 c]
        · exact q2 k (by omega)
      · rw [upE]
        by_cases c2 : k = s
        · rw [if_pos c2, c2, hDs, if_pos (by omega)]; rfl
        · rw [if_neg c2]; exact q2 k (by omega)
    unfold w_layStep_330
    rw [ι_eq (by omega) (by omega), ι_cl (by omega)]
    refine ⟨fun c => fin R1 t r1 k1 k2 k3 (fun c2 => ht (by omega)), fun c => ⟨hvi, fin _ 1 (r1.w (by simp) (by omega)) (fun k hk => by rw [upN (by omega)]; exact k1 k hk) (fun k hk => by rw [upE, if_neg (by omega)]; exact k2 k hk) (by rw [upE, if_pos rfl]; rfl) (fun _ => ?_)⟩⟩
    rw [hDs, if_neg (by omega), if_pos c]
  -- values and turns are laid
  have lay : ∀ (R1 : RS) (a t : Nat), Fr R R1 [40, 41] [] → (∀ k, k < s → R1 40 k = ι (V k)) → (∀ k, k < s → R1 41 k = ι (D k)) → R1 40 s = ι a → a = V s → R1 41 s = ι t → (st < s → t = D s) → w_layStep_330 K (ι s) (ι st) R1 := by
    intro R1 a t r1 k1 k2 k3 e1 k4 e2
    refine last R1 t r1 (fun k hk => ?_) k2 k4 e2
    by_cases c : k = s
    · rw [c, k3, e1]
    · exact k1 k (by omega)
  have b1 : u * w ≤ 13 * 13 := Nat.mul_le_mul (by omega) (by omega)
  have b2 : d1 * w ≤ 13 * 13 := Nat.mul_le_mul (by omega) (by omega)
  have b3 : u * d2 ≤ 13 * 13 := Nat.mul_le_mul (by omega) (by omega)
  have hpz : ¬ ι p = 0 := by rw [show (0 : Int32) = ι 0 from rfl, ι_eq (by omega) (by omega)]; omega
  -- the sign
  have sign : ∀ (w' d2' : Nat), (isTwo (sg Q s) → w' = w ∧ d2' = d2) → w_layStep_95 K (ι s) (ι st) (ι u) (ι w') (ι d1) (ι d2') R := by
    intro w' d2' htw
    unfold w_layStep_95
    rw [show (2 : Int32) = ι 2 from rfl, ι_mul, show (1 : Int32) = ι 1 from rfl, ι_add, ι_cl (by omega), ι_cl (by omega), hra.2.2.1, hp1]
    refine ⟨ι_in (by omega) (by omega), fun v1 e1 => ⟨hvi, fun c => ?_, fun c => ?_, fun c => ?_, fun c => ?_, fun c => ?_⟩⟩
    · have c' := (eq 42 (by omega)).mp c
      obtain ⟨rfl, rfl⟩ := htw (by unfold isTwo; omega)
      rw [if_neg (by omega), if_neg (by omega), if_pos c'] at hVs
      rw [if_neg (by omega), if_pos c'] at hcA
      rw [if_neg (by omega), if_neg (by omega), if_pos c'] at hcB
      refine ⟨hpz, hvi, ?_⟩
      rw [ι_mul d1, ι_mul u d2', ι_mul u w', ι_rem (by omega) (by omega), ι_add]
      refine s_mod (a := d1 * w' + u * d2') (by rw [upN (by omega)]; exact hp1) hpp rfl (by omega) ⟨hvi, ?_⟩
      refine lay _ (u * w' % p) ((d1 * w' + u * d2') % p) (((Fr.rf R _ _).w (by simp) (by omega)).w (by simp) (by omega)) (fun k hk => by rw [upN (by omega), upE, if_neg (by omega)]; exact kv k hk) (fun k hk => by rw [upE, if_neg (by omega), upN (by omega)]; exact kd k hk) (by rw [upN (by omega), upE, if_pos rfl]) hVs.symm (by rw [upE, if_pos rfl]) (fun c2 => ?_)
      rw [hDs, if_neg (by omega), if_neg (by omega), ← hcA, ← hcB, Nat.mul_comm d1]
    · have c' := (eq 43 (by omega)).mp c
      obtain ⟨rfl, rfl⟩ := htw (by unfold isTwo; omega)
      rw [if_pos c'] at hVs
      rw [if_neg (by omega), if_neg (by omega)] at hcA
      rw [if_pos c'] at hcB
      rw [ι_add]
      refine s_mod hp1 hpp rfl (by omega) ⟨hvi, ?_⟩
      rw [ι_add]
      refine s_mod (by rw [upN (by omega)]; exact hp1) hpp rfl (by omega) ⟨hvi, ?_⟩
      refine lay _ ((u + w') % p) ((d1 + d2') % p) (((Fr.rf R _ _).w (by simp) (by omega)).w (by simp) (by omega)) (fun k hk => by rw [upN (by omega), upE, if_neg (by omega)]; exact kv k hk) (fun k hk => by rw [upE, if_neg (by omega), upN (by omega)]; exact kd k hk) (by rw [upN (by omega), upE, if_pos rfl]) hVs.symm (by rw [upE, if_pos rfl]) (fun c2 => ?_)
      rw [hDs, if_neg (by omega), if_neg (by omega), ← hcA, ← hcB, Nat.one_mul, Nat.one_mul]
    · have c' := (eq 45 (by omega)).mp c
      obtain ⟨rfl, rfl⟩ := htw (by unfold isTwo; omega)
      rw [if_neg (by omega), if_pos c'] at hVs
      rw [if_neg (by omega), if_neg (by omega)] at hcA
      rw [if_neg (by omega), if_pos c'] at hcB
      refine s_modSub hpp hp1 la ra rfl ⟨hvi, ?_⟩
      refine s_modSub hpp (by rw [upN (by omega)]; exact hp1) dla dra rfl ⟨hvi, ?_⟩
      refine lay _ ((u + (p - 1) * w') % p) ((d1 + (p - 1) * d2') % p) (((Fr.rf R _ _).w (by simp) (by omega)).w (by simp) (by omega)) (fun k hk => by rw [upN (by omega), upE, if_neg (by omega)]; exact kv k hk) (fun k hk => by rw [upE, if_neg (by omega), upN (by omega)]; exact kd k hk) (by rw [upN (by omega), upE, if_pos rfl]) ?_ (by rw [upE, if_pos rfl]) (fun c2 => ?_)
      · rw [hVs, Nat.add_sub_assoc (by omega), Nat.add_mod, ← neg_modp (by omega), ← Nat.add_mod, Nat.mod_eq_of_lt ra]
      · rw [hDs, if_neg (by omega), if_neg (by omega), ← hcA, ← hcB, Nat.one_mul]
    · have c' := (eq 94 (by omega)).mp c
      have h9 := (hq.2 s hs).2.2.2.2.2.1 c'
      rw [if_neg (by omega), if_neg (by omega), if_neg (by omega), if_pos c'] at hVs
      rw [if_pos c'] at hcA
      rw [if_neg (by omega), if_neg (by omega), if_neg (by omega)] at hcB
      rw [hra.2.2.2.2.2.2 c'] at e1
      subst e1
      have hpl := pm_lt (p := p) (v := u) (by omega) (rg Q s - 1)
      have b4 : rg Q s * pm p u (rg Q s - 1) ≤ 9 * 13 := Nat.mul_le_mul h9 (by omega)
      have b5 : rg Q s * pm p u (rg Q s - 1) * d1 ≤ (9 * 13) * 13 := Nat.mul_le_mul b4 (by omega)
      have ez : ι (rg Q s) = 0 ↔ rg Q s = 0 := by rw [show (0 : Int32) = ι 0 from rfl, ι_eq (by omega) (by omega)]
      refine s_powerOf hpp hp1 rfl rfl (by omega) (by omega) ⟨hvi, fun c0 => ?_, fun c0 => ⟨hvi, ?_⟩⟩
      · have c0' : rg Q s ≠ 0 := fun e => c0 (ez.mpr e)
        rw [ι_sub (by omega)]
        refine s_powerOf hpp (by rw [upN (by omega)]; exact hp1) rfl rfl (by omega) (by omega) ?_
        rw [ι_mul, ι_mul]
        refine s_mod (by rw [upN (by omega)]; exact hp1) hpp rfl (by omega) ⟨hvi, ?_⟩
        refine lay _ (pm p u (rg Q s)) (rg Q s * pm p u (rg Q s - 1) * d1 % p) (((Fr.rf R _ _).w (by simp) (by omega)).w (by simp) (by omega)) (fun k hk => by rw [upN (by omega), upE, if_neg (by omega)]; exact kv k hk) (fun k hk => by rw [upE, if_neg (by omega), upN (by omega)]; exact kd k hk) (by rw [upN (by omega), upE, if_pos rfl]) hVs.symm (by rw [upE, if_pos rfl]) (fun c2 => ?_)
        rw [hDs, if_neg (by omega), if_neg (by omega), ← hcA, ← hcB, Nat.zero_mul, Nat.add_zero]
      · refine lay _ (pm p u (rg Q s)) 0 (((Fr.rf R _ _).w (by simp) (by omega)).w (by simp) (by omega)) (fun k hk => by rw [upN (by omega), upE, if_neg (by omega)]; exact kv k hk) (fun k hk => by rw [upE, if_neg (by omega), upN (by omega)]; exact kd k hk) (by rw [upN (by omega), upE, if_pos rfl]) hVs.symm (by rw [upE, if_pos rfl]; rfl) (fun c2 => ?_)
        rw [hDs, if_neg (by omega), if_neg (by omega), ← hcA, ← hcB, ez.mp c0, Nat.zero_mul, Nat.zero_mul, Nat.zero_mul, Nat.zero_mod]
    · have n1 : sg Q s ≠ 42 := fun e => c.1 ((eq 42 (by omega)).mpr e)
      have n2 : sg Q s ≠ 43 := fun e => c.2.1 ((eq 43 (by omega)).mpr e)
      have n3 : sg Q s ≠ 45 := fun e => c.2.2.1 ((eq 45 (by omega)).mpr e)
      have n4 : sg Q s ≠ 94 := fun e => c.2.2.2 ((eq 94 (by omega)).mpr e)
      rw [if_neg n2, if_neg n3, if_neg n1, if_neg n4] at hVs
      rw [if_neg n4, if_neg n1] at hcA
      rw [if_neg n2, if_neg n3, if_neg n1] at hcB
      refine ⟨hvi, hvi, ?_⟩
      refine lay _ u d1 (((Fr.rf R _ _).w (by simp) (by omega)).w (by simp) (by omega)) (fun k hk => by rw [upN (by omega), upE, if_neg (by omega)]; exact kv k hk) (fun k hk => by rw [upE, if_neg (by omega), upN (by omega)]; exact kd k hk) (by rw [upN (by omega), upE, if_pos rfl]) hVs.symm (by rw [upE, if_pos rfl]) (fun c2 => ?_)
      rw [hDs, if_neg (by omega), if_neg (by omega), ← hcA, ← hcB, Nat.zero_mul, Nat.add_zero, Nat.one_mul, Nat.mod_eq_of_lt dla]
  have e2s : (2 : Int32) * ι s = ι (2 * s) := by rw [show (2 : Int32) = ι 2 from rfl, ι_mul]
  have e2s1 : (2 : Int32) * ι s + 1 = ι (2 * s + 1) := by rw [e2s, show (1 : Int32) = ι 1 from rfl, ι_add]
  unfold wp_layStep
  rw [e2s]
  refine s_valueOfAtom hpp hp1 (by omega) (by omega) hlf hra.2.2.2.1 hra.2.2.2.2.1 kv rfl rfl rfl rfl ?_
  rw [ι_cl (by omega), hra.2.2.1, eu]
  have turn1 : ∀ K2 : Int32 → RS → Prop, K2 (ι d1) R → wp_turnOfAtom (2 * ι s) (ι st) R K2 := fun K2 hK2 => s_turnOfAtom (r := false) (D := D) hq hr hs (by omega) rfl (fun q => by cases q) (by rw [e2s]; rfl) rfl kd hd0 (by simp only [Bool.false_eq_true, if_false]; rw [ed1]; exact hK2)
  have noTwo : (sg Q s = 0 ∨ sg Q s = 94) → w_layStep_39 K (ι s) (ι st) (ι x) (ι y) (ι z) (ι u) 0 R := by
    intro hn
    unfold w_layStep_39
    refine ⟨fun _ => ?_, fun c => absurd rfl c⟩
    unfold w_layStep_64
    exact turn1 _ ⟨fun _ => sign 0 0 (fun q => by have := isTwo_ne q; omega), fun c => absurd rfl c⟩
  refine ⟨hvi, fun c => noTwo (Or.inl ((eq 0 (by omega)).mp c)), fun c => ⟨hvi, fun c2 => noTwo (Or.inr ((eq 94 (by omega)).mp c2)), fun c2 => ?_⟩⟩
  have ht : isTwo (sg Q s) := by
    rcases (hq.2 s hs).2.2.1 with q | q | q
    · exact absurd ((eq 0 (by omega)).mpr q) c
    · exact absurd ((eq 94 (by omega)).mpr q) c2
    · exact q
  unfold w_layStep_39
  refine ⟨fun c => absurd c (by decide), fun _ => ?_⟩
  rw [e2s1]
  refine s_valueOfAtom hpp hp1 (by omega) (by omega) hrg (hra.2.2.2.2.2.1 ht).1 (hra.2.2.2.2.2.1 ht).2 kv rfl rfl rfl rfl ?_
  unfold w_layStep_64
  refine turn1 _ ⟨fun c => absurd c (by decide), fun _ => ?_⟩
  refine s_turnOfAtom (r := true) (D := D) hq hr hs (by omega) rfl (fun _ => ht) (by rw [e2s1]; rfl) rfl kd hd0 ?_
  simp only [if_true]
  rw [ew, ed2]
  exact sign w d2 (fun _ => ⟨rfl, rfl⟩)
end ATR
/-! at: the call. -/
theorem call_6 {h0 s0 n : Nat} {S : HS} {R : RS} (hn : n < 512) (y1 y2 y3 y4 y5 : Int32) (v : Int64) (h : Inv h0 s0 n S R) : wq_6 (Mx h0 s0) h0 y1 y2 y3 y4 y5 S R v (Inv h0 s0 (n + 1)) := by
  obtain ⟨⟨p, P, A, T, Tx, ft, Q, B⟩, hc, hv, hr⟩ := h
  unfold wq_6
  generalize bz y2 = bk
  have hL := hc.1
  have hroom := hc.room hn
  have hpp := hv.1
  have hple := hpp.le
  have hp5 : hI S (h0 + 5) 0 = ι p := hc.2.2.1
  have hRp : R 0 1 = ι p := hr.1.1
  have hr0 : RI (up R 0 0 0) (p, P, A, T, Tx, ft, Q, B) := hr.code hv 0
  have hq : VQ p Q B := hv.2.2.2.2.2
  have hl := hq.1
  have hrp : RPg R Q := hr.2.2.2.2.2.2
  have rm : hX S + 1 ≤ (Mx h0 s0).1 ∧ hS S + 6 ≤ (Mx h0 s0).2 := ⟨by show hX S + 1 ≤ h0 + 601024; omega, by show hS S + 6 ≤ s0 + 7293034; omega⟩
  have fl : ∀ (k : Nat) (S'' : HS), 0 < k → k < 3 → Re S S'' → w_at_36 (fun q R1 => wp_thrown R1 (fun t R2 => t = ι k ∧ (ι k = 0 → v = Int32.toInt64 q) ∧ Inv h0 s0 (n + 1) S'' R2)) y1 bk y3 y4 y5 (ι k) R := fun k S'' h1 h2 re => by
    unfold w_at_36 wp_thrown
    rw [upE, if_pos rfl]
    have hk : ¬ ι k ≤ 0 := by rw [show (0 : Int32) = ι 0 from rfl, ι_le (by omega) (by omega)]; omega
    exact ⟨fun c => absurd c hk, fun _ => ⟨by rw [upE, if_pos rfl], fun c => absurd (by rw [c]; decide) hk, _, hc.re re, hv, hr.code hv _⟩⟩
  have b1 : (∀ i, i < Q.length → ¬ y1 = ι i) → ((fun E S' => (E = xNSE ∧ ∀ S'', Re S' S'' → wp_at y1 bk y3 y4 y5 R (fun q R1 => wp_thrown R1 (fun t R2 => t = 1 ∧ ((1 : Int32) = 0 → v = Int32.toInt64 q) ∧ Inv h0 s0 (n + 1) S'' R2))) ∨ (E = xIAE ∧ ∀ S'', Re S' S'' → wp_at y1 bk y3 y4 y5 R (fun q R1 => wp_thrown R1 (fun t R2 => t = 2 ∧ ((2 : Int32) = 0 → v = Int32.toInt64 q) ∧ Inv h0 s0 (n + 1) S'' R2)))) xNSE S) ∧ hX S + 1 ≤ (Mx h0 s0).1 ∧ hS S + 6 ≤ (Mx h0 s0).2 := fun hne => ⟨Or.inl ⟨rfl, fun S'' re => by
    have f1 := fl 1 S'' (by omega) (by omega) re
    unfold wp_at
    rw [hrp.1]
    by_cases ez : Q.length = 0
    · rw [ez, show ι 0 - 1 = -1 from rfl]
      unfold wp_isIn
      refine ⟨fun _ => ⟨fun c => absurd rfl c, fun _ => f1⟩, fun c => ⟨fun _ => ⟨fun c => absurd rfl c, fun _ => f1⟩, fun c3 => ?_⟩⟩
      obtain ⟨a, ha, rfl⟩ := ι_ex c
      exact absurd (ι_1lt ha) c3
    · rw [show (1 : Int32) = ι 1 from rfl, ι_sub (by omega)]
      exact s_isInB (b := 0) (c := Q.length - 1) rfl rfl (by omega) (by omega) (fun a _ ha e => absurd e (hne a (by omega))) (fun _ => ⟨fun c => absurd rfl c, fun _ => f1⟩)⟩, rm⟩
  refine ⟨hL.t0, ?_⟩
  unfold wp_X11_at
  rcases hc.2.2.2.2.2.2.2.2.1 with ⟨q1, q2⟩ | ⟨g, q1, q2, q3, -⟩
  · refine ⟨hL.t0, fun _ => b1 (fun i hi => by rw [q2] at hi; simp at hi), fun b e => by rw [q1] at e; cases e⟩
  refine ⟨hL.t0, fun e => (by rw [q1] at e; cases e), fun b e => ?_⟩
  refine ⟨fun c => b1 (fun i hi e2 => by rw [e2] at c; exact ι_nn (by omega) c), fun c => ⟨g, q1, q3.2.2.1, ?_⟩⟩
  obtain ⟨st, hst31, rfl⟩ := ι_ex c
  have pr := q3.pr
  rw [pr.2.2.2.2.1, ι_lt hst31 (by omega)]
  refine ⟨fun hs => ⟨hL.t0, h0 + 5, hL.p0_2, hL.t5, ?_⟩, fun c2 => b1 (fun i hi e2 => by rw [ι_eq hst31 (by omega)] at e2; omega)⟩
  have inR : ∀ K : Int32 → RS → Prop, wp_isPoint y3 y4 y5 R (fun r2 R2 => (¬ r2 = 0 → w_at_36 K (ι st) bk y3 y4 y5 0 R2) ∧ (r2 = 0 → w_at_36 K (ι st) bk y3 y4 y5 2 R2)) → wp_at (ι st) bk y3 y4 y5 R K := fun K hK => by
    unfold wp_at
    rw [hrp.1, show (1 : Int32) = ι 1 from rfl, ι_sub (by omega)]
    exact s_isInB (b := 0) (c := Q.length - 1) rfl rfl (by omega) (by omega) (fun a _ ha e => ⟨fun _ => hK, fun c => absurd c (by decide)⟩) (fun h => absurd rfl (h st (by omega) (by omega)))
  refine c_isPoint hL hp5 (by omega) (fun x y z hx hy hz e1 e2 e3 => ⟨fun _ => ⟨g, q1, hL.t0, h0 + 5, hL.p0_2, hL.t5, q3.2.2.1, ?_⟩, fun c => absurd c (by decide)⟩) (fun hne => ⟨fun c => absurd rfl c, fun _ => ⟨Or.inr ⟨rfl, fun S'' re => inR _ ?_⟩, rm⟩⟩)
  rotate_left
  · exact s_isPoint hRp hpp (fun x y z hx hy hz e1 e2 e3 => absurd ⟨e1, e2, e3⟩ (hne x y z hx hy hz)) (fun _ => ⟨fun c => absurd rfl c, fun _ => fl 2 S'' (by omega) (by omega) re⟩)
  subst e1 e2 e3
  obtain ⟨V, hV⟩ := V_ex (Q := Q) hpp hq hx hy hz
  obtain ⟨D, hD⟩ := D_ex (x := x) (y := y) (z := z) (st := st) (Q := Q) hpp hq V
  -- the reference
  have ref : ∀ K : Int32 → RS → Prop, (∀ R', Fr (up R 0 0 0) R' [40, 41] [] → (bk = 0 → K (ι (V st)) R') ∧ (¬ bk = 0 → K (ι (D (Q.length - 1))) R')) → wp_at (ι st) bk (ι x) (ι y) (ι z) R K := fun K hK => inR K (s_isPoint hRp hpp (fun x' y' z' _ _ _ _ _ _ => ⟨fun _ => by
    unfold w_at_36
    rw [upE, if_pos rfl]
    refine ⟨fun _ => ⟨Q.length + 1, ?_⟩, fun c => absurd (by decide) c⟩
    have rp0 : RPg (up R 0 0 0) Q := hr0.2.2.2.2.2.2
    have key : ∀ (k s : Nat) (R1 : RS), s + k = Q.length → Fr (up R 0 0 0) R1 [40, 41] [] → (∀ j, j < s → R1 40 j = ι (V j)) → (∀ j, j < s → R1 41 j = ι (D j)) → wl_at_51 K (k + 1) (ι st) bk (ι x) (ι y) (ι z) (ι s) R1 := by
      intro k
      induction k with
      | zero =>
        intro s R1 hs1 r1 k1 k2
        have e37 : R1 0 37 = ι Q.length := by rw [r1.2 37 (by simp)]; exact rp0.1
        show wb_at_51 _ _ _ _ _ _ _ _ _
        unfold wb_at_51
        rw [e37, show (1 : Int32) = ι 1 from rfl, ι_sub (by omega), ι_cl (by omega), ι_cl (by omega), k1 st (by omega), k2 _ (by omega)]
        exact ⟨fun _ => ⟨fun c => ⟨ι_in (by omega) (by omega), (hK R1 r1).1 c⟩, fun c => ⟨ι_in (by omega) (by omega), (hK R1 r1).2 c⟩⟩, fun c => absurd (by rw [ι_le (by omega) (by omega)]; omega) c⟩
      | succ k ih =>
        intro s R1 hs1 r1 k1 k2
        have e37 : R1 0 37 = ι Q.length := by rw [r1.2 37 (by simp)]; exact rp0.1
        have rp1 : RPg R1 Q := by
          unfold RPg Sl at rp0 ⊢
          rw [r1.2 37 (by simp), r1.1 2 (by omega) (by simp), r1.1 3 (by omega) (by simp), r1.1 4 (by omega) (by simp), r1.1 29 (by omega) (by simp), r1.1 30 (by omega) (by simp), r1.1 31 (by omega) (by simp), r1.1 32 (by omega) (by simp)]
          exact rp0
        show wb_at_51 _ _ _ _ _ _ _ _ _
        unfold wb_at_51
        rw [e37, show (1 : Int32) = ι 1 from rfl, ι_add]
        refine ⟨fun c => absurd c (by rw [ι_le (by omega) (by omega)]; omega), fun _ => ?_⟩
        refine s_layStep hpp (by rw [r1.2 1 (by simp), upE, if_neg (by omega)]; exact hRp) hq rp1 (by omega) hs hx hy hz hV hD k1 k2 rfl rfl rfl rfl rfl (fun R2 r2 k3 k4 => ih (s + 1) R2 (by omega) (r1.tr r2) k3 k4)
    exact key Q.length 0 _ (by omega) (Fr.rf _ _ _) (fun j hj => by omega) (fun j hj => by omega), fun c => absurd c (by decide)⟩) (fun hne => absurd ⟨rfl, rfl, rfl⟩ (hne x y z hx hy hz)))
  have fin : ∀ (S1 : HS) (R' : RS), Ext S S1 (Wg g) V0 → hX S1 = hX S → hS S1 = hS S → Fr (up R 0 0 0) R' [40, 41] [] → R' 0 0 = 0 ∧ Inv h0 s0 (n + 1) S1 R' := fun S1 R' e1 x1 s1 r1 => ⟨by rw [r1.2 0 (by simp), upE, if_pos rfl], _, (hc.pgw q1 e1 x1 s1).next, hv, hr0.scr (ts := []) hv (hr0.1.fr r1 (by simp) (by simp) (by simp) (by simp)) r1 (r1.fs [] (by simp)) (by decide) (by decide) (by simp)⟩
  refine c_findValues pr hpp hq hx hy hz hV rfl rfl rfl hp5 (fun S1 e1 x1 s1 va => ?_)
  have p1 := pr.go e1
  have p17 := p1.2.2.2.1 7 (by omega) (by omega)
  have hc1 := hc.pgw q1 e1 x1 s1
  refine ⟨fun c => ⟨g, q1, p1.2.1, g + 7, p1.2.2.1 7 (by omega) (by omega), p17.1, by rw [p17.2]; exact ι_in (by show st < 23; omega) (by decide), ?_⟩, fun c => ⟨g, q1, hc1.1.t0, h0 + 5, hc1.1.p0_2, hc1.1.t5, p1.2.1, ?_⟩⟩
  · rw [ι_cl (by omega), va.2.2.2 st hs]
    refine ref _ (fun R' r1 => ⟨fun _ => ?_, fun c2 => absurd c c2⟩)
    have f := fin S1 R' e1 x1 s1 r1
    exact ⟨f.1, fun _ => rfl, f.2⟩
  · refine c_turnOf p1 hpp hq hs hx hy hz hV hD va rfl hc1.2.2.1 (fun S2 e2 x2 s2 => ref _ (fun R' r1 => ⟨fun c2 => absurd c2 c, fun _ => ?_⟩))
    have f := fin S2 R' (e1.tr e2) (by omega) (by omega) r1
    exact ⟨f.1, fun _ => rfl, f.2⟩
