/-! Cells of a Box: their places, and reading them. -/
theorem c_cellOf {M : Nat × Nat} {h0 o X Y Z u : Nat} {G : Nat → Nat → Nat → Nat} {t : Tm} {x1 : Int32} {S : HS} {K : Int32 → HS → Prop} (hbo : Bu h0 S o X Y Z u G) (t0 : hT S (h0 + o) = 2) (p2 : hP S (h0 + o) 2 = some (h0 + o + 2)) (ts : hT S (h0 + o + 2) = 21) (ns : hN S (h0 + o + 2) = 3) (ht : sm t) (hx : x1 = ι (k6 t)) (h : K (ι (cx Y Z t.x t.y t.z)) S) : wp_X1_cellOf M (h0 + o) x1 S K := by
  obtain ⟨b1, b2, b3, b4, b5, b6⟩ := hbo
  unfold wp_X1_cellOf
  refine c_exp ht hx (v := 0) rfl (by omega) ⟨t0, h0 + o + 2, p2, ts, by rw [ns]; exact ι_in (a := 0) (by omega) (by omega), c_exp ht hx (v := 1) rfl (by omega) ⟨t0, h0 + o + 2, p2, ts, by rw [ns]; exact ι_in (a := 1) (by omega) (by omega), c_exp ht hx (v := 2) rfl (by omega) ?_⟩⟩
  rw [show Int32.toNatClampNeg 0 = 0 from rfl, show Int32.toNatClampNeg 1 = 1 from rfl, b1, b2, ι_mul, ι_mul, ι_add, ι_add]
  have e : exv t 0 * ((Y + 1) * (Z + 1)) + exv t 1 * (Z + 1) + exv t 2 = cx Y Z t.x t.y t.z := by
    unfold cx
    show t.x * ((Y + 1) * (Z + 1)) + t.y * (Z + 1) + t.z = _
    omega
  rw [e]; exact h
def dX (Y Z c : Nat) : Nat := c / ((Y + 1) * (Z + 1))
def dY (Y Z c : Nat) : Nat := (c - c / ((Y + 1) * (Z + 1)) * ((Y + 1) * (Z + 1))) / (Z + 1)
def dZ (Y Z c : Nat) : Nat := c - c / ((Y + 1) * (Z + 1)) * ((Y + 1) * (Z + 1)) - dY Y Z c * (Z + 1)
theorem sub_dm (c s : Nat) : c - c / s * s = c % s := by
  have := Nat.div_add_mod c s
  rw [Nat.mul_comm] at this
  omega
theorem d_cx (Y Z c : Nat) : cx Y Z (dX Y Z c) (dY Y Z c) (dZ Y Z c) = c := by
  unfold cx dZ dX
  have h1 := sub_dm c ((Y + 1) * (Z + 1))
  have h2 : dY Y Z c * (Z + 1) ≤ c - c / ((Y + 1) * (Z + 1)) * ((Y + 1) * (Z + 1)) := Nat.div_mul_le_self _ _
  have h3 : c / ((Y + 1) * (Z + 1)) * ((Y + 1) * (Z + 1)) ≤ c := Nat.div_mul_le_self _ _
  omega
theorem d_le {X Y Z c : Nat} (h : c < usd X Y Z) : dX Y Z c ≤ X ∧ dY Y Z c ≤ Y ∧ dZ Y Z c ≤ Z := by
  have hp : 0 < (Y + 1) * (Z + 1) := Nat.mul_pos (by omega) (by omega)
  refine ⟨?_, ?_, ?_⟩
  · have : dX Y Z c < X + 1 := Nat.div_lt_of_lt_mul (by unfold usd at h; rw [Nat.mul_comm]; exact h)
    omega
  · have : dY Y Z c < Y + 1 := by
      unfold dY
      rw [sub_dm]
      exact Nat.div_lt_of_lt_mul (by rw [Nat.mul_comm (Z + 1)]; exact Nat.mod_lt _ hp)
    omega
  · have : dZ Y Z c < Z + 1 := by
      unfold dZ dY
      rw [sub_dm, sub_dm]
      exact Nat.mod_lt _ (by omega)
    omega
theorem cx_inj {Y Z x y z x' y' z' : Nat} (hy : y ≤ Y) (hz : z ≤ Z) (hy' : y' ≤ Y) (hz' : z' ≤ Z) (h : cx Y Z x y z = cx Y Z x' y' z') : x = x' ∧ y = y' ∧ z = z' := by
  have lt : ∀ {a b}, a ≤ Y → b ≤ Z → a * (Z + 1) + b < (Y + 1) * (Z + 1) := fun {a b} ha hb => by
    have := Nat.mul_le_mul_right (Z + 1) ha
    rw [Nat.succ_mul]; omega
  unfold cx at h
  have l1 := lt hy hz
  have l2 := lt hy' hz'
  have hp : 0 < (Y + 1) * (Z + 1) := Nat.mul_pos (by omega) (by omega)
  have e1 : x = x' := by
    have a1 : (x * ((Y + 1) * (Z + 1)) + (y * (Z + 1) + z)) / ((Y + 1) * (Z + 1)) = (x' * ((Y + 1) * (Z + 1)) + (y' * (Z + 1) + z')) / ((Y + 1) * (Z + 1)) := by rw [h]
    rw [Nat.mul_comm x, Nat.mul_comm x', Nat.mul_add_div hp, Nat.mul_add_div hp, Nat.div_eq_of_lt l1, Nat.div_eq_of_lt l2] at a1
    omega
  subst e1
  have h2 : y * (Z + 1) + z = y' * (Z + 1) + z' := by omega
  have e2 : y = y' := by
    have a1 : (y * (Z + 1) + z) / (Z + 1) = (y' * (Z + 1) + z') / (Z + 1) := by rw [h2]
    rw [Nat.mul_comm y, Nat.mul_comm y', Nat.mul_add_div (by omega), Nat.mul_add_div (by omega), Nat.div_eq_of_lt (by omega), Nat.div_eq_of_lt (by omega)] at a1
    omega
  subst e2
  exact ⟨rfl, rfl, by omega⟩
theorem cx_mono {Y Z x y z x' y' z' : Nat} (hy : y ≤ Y) (hz : z ≤ Z) (hy' : y' ≤ Y) (hz' : z' ≤ Z) (h : cx Y Z x y z < cx Y Z x' y' z') : x < x' ∨ (x = x' ∧ (y < y' ∨ (y = y' ∧ z < z'))) := by
  have lt : ∀ {a b}, a ≤ Y → b ≤ Z → a * (Z + 1) + b < (Y + 1) * (Z + 1) := fun {a b} ha hb => by
    have := Nat.mul_le_mul_right (Z + 1) ha
    rw [Nat.succ_mul]; omega
  have l1 := lt hy hz
  have l2 := lt hy' hz'
  unfold cx at h
  rcases Nat.lt_trichotomy x x' with q | q | q
  · exact Or.inl q
  · subst q
    refine Or.inr ⟨rfl, ?_⟩
    have h2 : y * (Z + 1) + z < y' * (Z + 1) + z' := by omega
    rcases Nat.lt_trichotomy y y' with r | r | r
    · exact Or.inl r
    · subst r; exact Or.inr ⟨rfl, by omega⟩
    · have := Nat.mul_le_mul_right (Z + 1) (show y' + 1 ≤ y from r)
      rw [Nat.succ_mul] at this
      omega
  · have := Nat.mul_le_mul_right ((Y + 1) * (Z + 1)) (show x' + 1 ≤ x from q)
    rw [Nat.succ_mul x'] at this
    omega
/-- the numbers in a Box, modulo p -/
def bF (p X Y Z : Nat) (G : Nat → Nat → Nat → Nat) : Nat → Nat → Nat → Nat := fun x y z => if x ≤ X ∧ y ≤ Y ∧ z ≤ Z then G x y z % p else 0
/-- the cells from the last one on -/
def bt (p X Y Z : Nat) (G : Nat → Nat → Nat → Nat) (i : Nat) : Tm := (dX Y Z (usd X Y Z - 1 - i), dY Y Z (usd X Y Z - 1 - i), dZ Y Z (usd X Y Z - 1 - i), G (dX Y Z (usd X Y Z - 1 - i)) (dY Y Z (usd X Y Z - 1 - i)) (dZ Y Z (usd X Y Z - 1 - i)) % p)
theorem bt_ord {p X Y Z : Nat} {G : Nat → Nat → Nat → Nat} {i j : Nat} (hij : i < j) (hj : j < usd X Y Z) (si : sm (bt p X Y Z G i)) (sj : sm (bt p X Y Z G j)) : k6 (bt p X Y Z G j) < k6 (bt p X Y Z G i) := by
  have di := d_le (X := X) (Y := Y) (Z := Z) (c := usd X Y Z - 1 - i) (by omega)
  have dj := d_le (X := X) (Y := Y) (Z := Z) (c := usd X Y Z - 1 - j) (by omega)
  have h := cx_mono (Y := Y) (Z := Z) dj.2.1 dj.2.2 di.2.1 di.2.2 (by rw [d_cx, d_cx]; omega)
  have si : dX Y Z (usd X Y Z - 1 - i) ≤ 40 ∧ dY Y Z (usd X Y Z - 1 - i) ≤ 40 ∧ dZ Y Z (usd X Y Z - 1 - i) ≤ 40 := si
  have sj : dX Y Z (usd X Y Z - 1 - j) ≤ 40 ∧ dY Y Z (usd X Y Z - 1 - j) ≤ 40 ∧ dZ Y Z (usd X Y Z - 1 - j) ≤ 40 := sj
  show dX Y Z (usd X Y Z - 1 - j) * 4096 + dY Y Z (usd X Y Z - 1 - j) * 64 + dZ Y Z (usd X Y Z - 1 - j) < dX Y Z (usd X Y Z - 1 - i) * 4096 + dY Y Z (usd X Y Z - 1 - i) * 64 + dZ Y Z (usd X Y Z - 1 - i)
  omega
theorem bt_fF {p X Y Z : Nat} {G : Nat → Nat → Nat → Nat} (x y z : Nat) : fF (bt p X Y Z G) (usd X Y Z) x y z = bF p X Y Z G x y z := by
  unfold fF bF
  by_cases c : x ≤ X ∧ y ≤ Y ∧ z ≤ Z
  · rw [if_pos c]
    have hlt := cx_lt (X := X) c.1 c.2.1 c.2.2
    have hd : ∀ q, q < usd X Y Z → (isAt (bt p X Y Z G (usd X Y Z - 1 - q)) x y z ↔ q = cx Y Z x y z) := fun q hq => by
      have hqq : usd X Y Z - 1 - (usd X Y Z - 1 - q) = q := by omega
      have dq := d_le (X := X) (Y := Y) (Z := Z) hq
      show (dX Y Z (usd X Y Z - 1 - (usd X Y Z - 1 - q)) = x ∧ dY Y Z (usd X Y Z - 1 - (usd X Y Z - 1 - q)) = y ∧ dZ Y Z (usd X Y Z - 1 - (usd X Y Z - 1 - q)) = z) ↔ _
      rw [hqq]
      constructor
      · rintro ⟨rfl, rfl, rfl⟩; exact (d_cx Y Z q).symm
      · intro e
        exact cx_inj dq.2.1 dq.2.2 c.2.1 c.2.2 (by rw [d_cx]; exact e)
    have hi := (hd (cx Y Z x y z) hlt).mpr rfl
    rw [sumTo_single (usd X Y Z - 1 - cx Y Z x y z) (by omega) (fun j hj ne => ?_), if_pos hi]
    · show G _ _ _ % p = _
      have h1 : dX Y Z (usd X Y Z - 1 - (usd X Y Z - 1 - cx Y Z x y z)) = x := hi.1
      have h2 : dY Y Z (usd X Y Z - 1 - (usd X Y Z - 1 - cx Y Z x y z)) = y := hi.2.1
      have h3 : dZ Y Z (usd X Y Z - 1 - (usd X Y Z - 1 - cx Y Z x y z)) = z := hi.2.2
      rw [h1, h2, h3]
    · rw [if_neg]
      intro w
      have := (hd (usd X Y Z - 1 - j) (by omega)).mp (by rw [show usd X Y Z - 1 - (usd X Y Z - 1 - j) = j by omega]; exact w)
      omega
  · rw [if_neg c]
    refine sumTo_zero (fun i hi => if_neg (fun w => c ?_))
    have dq := d_le (X := X) (Y := Y) (Z := Z) (c := usd X Y Z - 1 - i) (by omega)
    have w1 : dX Y Z (usd X Y Z - 1 - i) = x := w.1
    have w2 : dY Y Z (usd X Y Z - 1 - i) = y := w.2.1
    have w3 : dZ Y Z (usd X Y Z - 1 - i) = z := w.2.2
    omega
theorem pf_over {t : Nat → Tm} {k : Nat} (h : (pf t k).2 = true) : ∀ m, k ≤ m → (pf t m).2 = true := by
  intro m
  induction m with
  | zero => intro hk; rw [show k = 0 by omega] at h; exact h
  | succ m ih =>
    intro hk
    by_cases e : k = m + 1
    · rw [← e]; exact h
    · have := ih (by omega)
      rw [pf]
      unfold psD
      rw [this]
      split
      · rfl
      · split <;> rfl
/-- all cells are read, or a far one was met, or it was too many -/
theorem bt_can {p X Y Z : Nat} {G : Nat → Nat → Nat → Nat} (hp : 0 < p) : ((∀ i, i < usd X Y Z → (bt p X Y Z G i).n ≠ 0 → sm (bt p X Y Z G i)) → (pf (bt p X Y Z G) (usd X Y Z)).2 = false → Can p (bF p X Y Z G) (pf (bt p X Y Z G) (usd X Y Z)).1.reverse) ∧ ((pf (bt p X Y Z G) (usd X Y Z)).2 = true → ¬ ∃ L, Can p (bF p X Y Z G) L) ∧ (∀ i, i < usd X Y Z → (bt p X Y Z G i).n ≠ 0 → ¬ sm (bt p X Y Z G i) → ¬ ∃ L, Can p (bF p X Y Z G) L) := by
  have hF : fF (bt p X Y Z G) (usd X Y Z) = bF p X Y Z G := by funext x y z; exact bt_fF x y z
  have far : ∀ i, i < usd X Y Z → (bt p X Y Z G i).n ≠ 0 → ¬ sm (bt p X Y Z G i) → ¬ ∃ L, Can p (bF p X Y Z G) L := fun i hi hn hs => by
    have dq := d_le (X := X) (Y := Y) (Z := Z) (c := usd X Y Z - 1 - i) (by omega)
    refine no_can_far (x := (bt p X Y Z G i).x) (y := (bt p X Y Z G i).y) (z := (bt p X Y Z G i).z) ?_ (by omega)
    unfold bF
    rw [if_pos (show (bt p X Y Z G i).x ≤ X ∧ (bt p X Y Z G i).y ≤ Y ∧ (bt p X Y Z G i).z ≤ Z from dq)]
    exact hn
  have main : (∀ i, i < usd X Y Z → (bt p X Y Z G i).n ≠ 0 → sm (bt p X Y Z G i)) → ((pf (bt p X Y Z G) (usd X Y Z)).2 = false → Can p (bF p X Y Z G) (pf (bt p X Y Z G) (usd X Y Z)).1.reverse) ∧ ((pf (bt p X Y Z G) (usd X Y Z)).2 = true → ¬ ∃ L, Can p (bF p X Y Z G) L) := fun hs => by
    have := pf_can (p := p) (m := usd X Y Z) (t := bt p X Y Z G) hp (fun i hi hn => ⟨hs i hi hn, Nat.mod_lt _ hp⟩) (fun i j hij hj ni nj => bt_ord hij hj (hs i (by omega) ni) (hs j hj nj))
    rw [hF] at this
    exact this
  refine ⟨fun hs => (main hs).1, fun hv => ?_, far⟩
  by_cases hs : ∀ i, i < usd X Y Z → (bt p X Y Z G i).n ≠ 0 → sm (bt p X Y Z G i)
  · exact (main hs).2 hv
  · have : ∃ i, i < usd X Y Z ∧ (bt p X Y Z G i).n ≠ 0 ∧ ¬ sm (bt p X Y Z G i) := Classical.byContradiction fun q => hs (fun i hi hn => Classical.byContradiction fun c => q ⟨i, hi, hn, c⟩)
    obtain ⟨i, hi, hn, c⟩ := this
    exact far i hi hn c
/-! Reading a Box into a Poly. -/
section CREAD
variable {M : Nat × Nat} {h0 o d p X Y Z u : Nat} {G : Nat → Nat → Nat → Nat} {S : HS}
/-- what a Box and a Poly need of their places -/
def BD (h0 : Nat) (S : HS) (o d : Nat) : Prop := hT S (h0 + o) = 2 ∧ hP S (h0 + o) 2 = some (h0 + o + 2) ∧ hT S (h0 + o + 2) = 21 ∧ hN S (h0 + o + 2) = 3 ∧ Bx h0 S o ∧ DL h0 S d ∧ (o = 12 ∨ o = 15 ∨ o = 39 ∨ o = 42) ∧ (d = 6 ∨ d = 9 ∨ d = 30) ∧ h0 + 60 ≤ hX S
theorem BD.go {S' : HS} (h : BD h0 S o d) (e : Ext S S' (W3 h0 d) V0) (hx : hX S' = hX S) : BD h0 S' o d := by
  obtain ⟨a1, a2, a3, a4, a5, ⟨l1, l2, l3, l4, l5, l6, l7⟩, a7, a8, a9⟩ := h
  have ee := e.2.2.1
  have nP : ∀ b k, b < hX S → hP S' b k = hP S b k := fun b k hb => (ee b hb).2.2.2 k (fun c => c)
  refine ⟨by rw [(ee _ (by omega)).1]; exact a1, by rw [nP _ _ (by omega)]; exact a2, by rw [(ee _ (by omega)).1]; exact a3, by rw [(ee _ (by omega)).2.1]; exact a4, a5.go e (nP _ _ (by omega)), ⟨by rw [(ee _ (by omega)).1]; exact l1, by rw [nP _ _ (by omega)]; exact l2, by rw [nP _ _ (by omega)]; exact l3, by rw [(ee _ (by omega)).1]; exact l4, by rw [(ee _ (by omega)).1]; exact l5, by rw [(ee _ (by omega)).2.1]; exact l6, by rw [(ee _ (by omega)).2.1]; exact l7⟩, a7, a8, by omega⟩
theorem Bu.go {S' : HS} (h : Bu h0 S o X Y Z u G) (hb : BD h0 S o d) (e : Ext S S' (W3 h0 d) V0) : Bu h0 S' o X Y Z u G := by
  obtain ⟨b1, b2, b3, b4, b5, b6⟩ := h
  obtain ⟨a1, a2, a3, a4, a5, a6, a7, a8, a9⟩ := hb
  have ee := e.2.2.1
  have hc := a5.2.1
  have hc2 := a5.2.2.2.2.1
  have nI : ∀ b k, b < hX S → ¬ W3 h0 d b k → hI S' b k = hI S b k := fun b k hb w => (ee b hb).2.2.1 k w
  have hp : hP S' (h0 + o) 0 = hP S (h0 + o) 0 := (ee _ (by omega)).2.2.2 0 (fun c => c)
  have hbc := bxC.go (S := S) (S' := S') hp
  refine ⟨by rw [nI _ _ (by omega) (by unfold W3; omega)]; exact b1, by rw [nI _ _ (by omega) (by unfold W3; omega)]; exact b2, by rw [nI _ _ (by omega) (by unfold W3; omega)]; exact b3, by rw [hbc, (ee _ hc).2.1]; exact b4, b5, fun x y z hx hy hz => ?_⟩
  rw [hbc, nI _ _ hc (by unfold W3; omega)]
  exact b6 x y z hx hy hz
theorem c_pushCell {c n : Nat} {x2 x3 : Int32} {D : Po} {K : Int32 → HS → Prop} (hbo : Bu h0 S o X Y Z u G) (hb : BD h0 S o d) (hc : c < usd X Y Z) (hY9 : Y ≤ 80) (hZ9 : Z ≤ 80) (h2 : x2 = ι c) (h3 : x3 = ι n) (hn : n < 1000) (hD : Dr h0 S d D false) (h : ∀ S', Ext S S' (W3 h0 d) V0 → hX S' = hX S → hS S' = hS S → ((sm (dX Y Z c, dY Y Z c, dZ Y Z c, n) → Dr h0 S' d (psD D false (dX Y Z c, dY Y Z c, dZ Y Z c, n)).1 (psD D false (dX Y Z c, dY Y Z c, dZ Y Z c, n)).2) ∧ (¬ sm (dX Y Z c, dY Y Z c, dZ Y Z c, n) → n = 0 → Dr h0 S' d D false) ∧ (¬ sm (dX Y Z c, dY Y Z c, dZ Y Z c, n) → n ≠ 0 → Dr h0 S' d D true)) → K 0 S') : wp_X1_pushCell M (h0 + o) (h0 + d) x2 x3 S K := by
  subst h2 h3
  obtain ⟨b1, b2, b3, b4, b5, b6⟩ := id hbo
  obtain ⟨a1, a2, a3, a4, a5, a6, a7, a8, a9⟩ := id hb
  have hY1 : (Y + 1) * (Z + 1) ≤ 81 * 81 := Nat.mul_le_mul (by omega) (by omega)
  have hp : 0 < (Y + 1) * (Z + 1) := Nat.mul_pos (by omega) (by omega)
  have hq1 : c / ((Y + 1) * (Z + 1)) * ((Y + 1) * (Z + 1)) ≤ c := Nat.div_mul_le_self _ _
  have hq2 : dY Y Z c * (Z + 1) ≤ c - c / ((Y + 1) * (Z + 1)) * ((Y + 1) * (Z + 1)) := Nat.div_mul_le_self _ _
  have hdx : dX Y Z c ≤ c := Nat.div_le_self _ _
  have hdy : dY Y Z c ≤ c := Nat.le_trans (Nat.div_le_self _ _) (Nat.sub_le _ _)
  have hdz : dZ Y Z c ≤ c := by unfold dZ; omega
  have eX : ι c / ι ((Y + 1) * (Z + 1)) = ι (dX Y Z c) := ι_div (by omega) (by omega)
  have eV : ι c - ι (dX Y Z c) * ι ((Y + 1) * (Z + 1)) = ι (c - c / ((Y + 1) * (Z + 1)) * ((Y + 1) * (Z + 1))) := by rw [ι_mul]; exact ι_sub hq1
  have eY : ι (c - c / ((Y + 1) * (Z + 1)) * ((Y + 1) * (Z + 1))) / ι (Z + 1) = ι (dY Y Z c) := ι_div (by omega) (by omega)
  have eZ : ι (c - c / ((Y + 1) * (Z + 1)) * ((Y + 1) * (Z + 1))) - ι (dY Y Z c) * ι (Z + 1) = ι (dZ Y Z c) := by rw [ι_mul]; exact ι_sub hq2
  have far : ¬ sm (dX Y Z c, dY Y Z c, dZ Y Z c, n) → w_X1_pushCell_86 M K (h0 + d) (ι n) S := by
    intro hs
    unfold w_X1_pushCell_86
    refine ⟨fun q => h S (Ext.rf _ _ _) rfl rfl ⟨fun w => absurd w hs, fun _ _ => hD, fun _ w => ?_⟩, fun q => ⟨a6.1, h _ ((Ext.rf S (W3 h0 d) V0).sI (Or.inl rfl)) rfl rfl ⟨fun w => absurd w hs, fun _ w => absurd (by rw [w]; rfl) q, fun _ _ => ?_⟩⟩⟩
    · rw [show (0 : Int32) = ι 0 from rfl, ι_eq (by omega) (by omega)] at q
      exact absurd q w
    · obtain ⟨g1, g2, g3, g4⟩ := hD
      refine ⟨g1, by rw [sI_eq, if_neg (by omega)]; exact g2, by rw [sI_eq, if_pos rfl]; rfl, fun i hi => by rw [sI_ne (by omega), sI_ne (by omega)]; exact g4 i hi⟩
  unfold wp_X1_pushCell
  rw [show Int32.toNatClampNeg 0 = 0 from rfl, show Int32.toNatClampNeg 1 = 1 from rfl]
  have v0 : vp_in 0 (hN S (h0 + o + 2)) := by rw [a4]; exact ι_in (a := 0) (by omega) (by omega)
  have v1 : vp_in 1 (hN S (h0 + o + 2)) := by rw [a4]; exact ι_in (a := 1) (by omega) (by omega)
  refine ⟨a1, h0 + o + 2, a2, a3, v0, ?_, fun w2 e2 => ⟨a1, h0 + o + 2, a2, a3, v0, fun w4 e4 => ⟨a1, h0 + o + 2, a2, a3, v1, ?_, fun w6 e6 => ⟨a1, h0 + o + 2, a2, a3, v1, fun w8 e8 => ?_⟩⟩⟩⟩
  · rw [b2]
    simp (disch := omega) only [ι_lit, ι_of, ι_add, ι_mul, ι_lt, ι_le, ι_eq, ι_cl, ι_rem, ι_div, ι_vin, ι_ne1', ι_1ne', ι_1lt', ι_lt1', ι_1le', ι_le1', ι_sub', ι_sub, upN, upE, Nat.reduceEqDiff, ne_eq, not_true_eq_false, not_false_eq_true, false_imp_iff, true_imp_iff, true_and, and_true, imp_self, forall_eq, reduceIte, Nat.reduceMul, Nat.reduceAdd, Nat.reduceSub]
    omega
  · rw [b1, show (0 : Int32) = ι 0 from rfl, ι_eq (by omega) (by omega)]
    omega
  rw [b2, eX] at e2
  subst e2
  rw [b2, eV] at e4
  subst e4
  rw [b1, eY] at e6
  subst e6
  rw [b1, eZ] at e8
  subst e8
  simp (disch := omega) only [ι_lit, ι_of, ι_add, ι_mul, ι_lt, ι_le, ι_eq, ι_cl, ι_rem, ι_div, ι_vin, ι_ne1', ι_1ne', ι_1lt', ι_lt1', ι_1le', ι_le1', ι_sub', ι_sub, upN, upE, Nat.reduceEqDiff, ne_eq, not_true_eq_false, not_false_eq_true, false_imp_iff, true_imp_iff, true_and, and_true, imp_self, forall_eq, reduceIte, Nat.reduceMul, Nat.reduceAdd, Nat.reduceSub]
  refine ⟨fun q => far (fun s => by have : dX Y Z c ≤ 40 := s.1; omega), fun q => ⟨fun q2 => far (fun s => by have : dY Y Z c ≤ 40 := s.2.1; omega), fun q2 => ⟨fun q3 => far (fun s => by have : dZ Y Z c ≤ 40 := s.2.2; omega), fun q3 => ?_⟩⟩⟩
  have hs : sm (dX Y Z c, dY Y Z c, dZ Y Z c, n) := ⟨Nat.not_lt.mp q, Nat.not_lt.mp q2, Nat.not_lt.mp q3⟩
  refine c_key rfl rfl rfl (by omega) (by omega) (by omega) ⟨a6.1, ?_⟩
  refine c_psh (t := (dX Y Z c, dY Y Z c, dZ Y Z c, n)) a6 hD rfl rfl (by show n < _; omega) (fun S' e' x' s' d' => h S' e' x' s' ⟨fun _ => d', fun w => absurd hs w, fun w => absurd hs w⟩)
theorem c_readU {x2 : Int32} {K : Int32 → HS → Prop} (hbo : Bu h0 S o X Y Z u G) (hu1 : 1 ≤ u) (hu2 : u ≤ usd X Y Z) (huz : ∀ c, u ≤ c → c < usd X Y Z → G (dX Y Z c) (dY Y Z c) (dZ Y Z c) % p = 0) (hb : BD h0 S o d) (hG : ∀ x y z, G x y z < 2147483648) (hY9 : Y ≤ 80) (hZ9 : Z ≤ 80) (hpp : PrP p) (hx : x2 = ι p) (h : ∀ S' D ov, Ext S S' (W3 h0 d) V0 → hX S' = hX S → hS S' = hS S → Dr h0 S' d D ov → (ov = false → Can p (bF p X Y Z G) D.reverse) → (ov = true → ¬ ∃ L, Can p (bF p X Y Z G) L) → K 0 S') : wp_X1_readInto M (h0 + o) (h0 + d) x2 S K := by
  subst hx
  have hple := hpp.le
  obtain ⟨cf1, cf2, cf3⟩ := bt_can (p := p) (X := X) (Y := Y) (Z := Z) (G := G) (by omega)
  have hu0 : 0 < usd X Y Z := Nat.mul_pos (by omega) (Nat.mul_pos (by omega) (by omega))
  have key : ∀ (k i : Nat) (S1 : HS), i + k = usd X Y Z → Ext S S1 (W3 h0 d) V0 → hX S1 = hX S → hS S1 = hS S → (pf (bt p X Y Z G) i).2 = false → Dr h0 S1 d (pf (bt p X Y Z G) i).1 false → (∀ j, j < i → (bt p X Y Z G j).n ≠ 0 → sm (bt p X Y Z G j)) → wl_X1_readInto_11 M K (k + 2) (h0 + o) (h0 + d) (ι p) (if i < usd X Y Z then ι (usd X Y Z - 1 - i) else -1) S1 := by
    intro k
    induction k with
    | zero =>
      intro i S1 hi e1 x1 s1 o1 d1 f1
      show wb_X1_readInto_11 _ _ _ _ _ _ _ _
      unfold wb_X1_readInto_11
      rw [if_neg (by omega)]
      refine ⟨fun _ => ?_, fun q => absurd (by decide) q⟩
      rw [show i = usd X Y Z by omega] at o1 d1 f1
      exact h S1 _ false e1 x1 s1 d1 (fun _ => cf1 f1 o1) (fun q => by cases q)
    | succ k ih =>
      intro i S1 hi e1 x1 s1 o1 d1 f1
      have b1 := hb.go e1 x1
      have bo1 := hbo.go hb e1
      have hlt : i < usd X Y Z := by omega
      have hc : usd X Y Z - 1 - i < usd X Y Z := by omega
      have hus := hbo.2.2.2.2.1
      have hdl := d_le (X := X) (Y := Y) (Z := Z) hc
      obtain ⟨t0, -, -, -, hbx, hdl1, -⟩ := id b1
      have hval : hI S1 (bxC h0 S1 o) (usd X Y Z - 1 - i) = ι (G (dX Y Z (usd X Y Z - 1 - i)) (dY Y Z (usd X Y Z - 1 - i)) (dZ Y Z (usd X Y Z - 1 - i))) := by
        have := bo1.2.2.2.2.2 _ _ _ hdl.1 hdl.2.1 hdl.2.2
        rwa [d_cx] at this
      have hGl := hG (dX Y Z (usd X Y Z - 1 - i)) (dY Y Z (usd X Y Z - 1 - i)) (dZ Y Z (usd X Y Z - 1 - i))
      have hvp : vp_in (ι (usd X Y Z - 1 - i)) (hN S1 (bxC h0 S1 o)) := ι_in (Nat.lt_of_lt_of_le hc bo1.2.2.2.1) (by have := hbx.2.2.2.1; omega)
      -- the next cell
      have hnext : ι (usd X Y Z - 1 - i) + (-1) = (if i + 1 < usd X Y Z then ι (usd X Y Z - 1 - (i + 1)) else -1) := by
        by_cases q : i + 1 < usd X Y Z
        · rw [if_pos q, show (-1 : Int32) = -ι 1 from rfl, ι_sub' (by omega)]
          congr 1
        · rw [if_neg q, show usd X Y Z - 1 - i = 0 by omega]; rfl
      have done : ∀ (S2 : HS) (D : Po), Ext S S2 (W3 h0 d) V0 → hX S2 = hX S → hS S2 = hS S → Dr h0 S2 d D true → (¬ ∃ L, Can p (bF p X Y Z G) L) → wl_X1_readInto_11 M K (k + 2) (h0 + o) (h0 + d) (ι p) (ι (usd X Y Z - 1 - i) + (-1)) S2 := by
        intro S2 D e2 x2 s2 d2 hno
        have b2 := hb.go e2 x2
        show wb_X1_readInto_11 _ _ _ _ _ _ _ _
        unfold wb_X1_readInto_11
        have fin : K 0 S2 := h S2 D true e2 x2 s2 d2 (fun q => by cases q) (fun _ => hno)
        refine ⟨fun _ => fin, fun _ => ⟨b2.2.2.2.2.2.1.1, fun _ => fin, fun q => ?_⟩⟩
        rw [d2.2.2.1] at q
        exact absurd q (by decide)
      show wb_X1_readInto_11 _ _ _ _ _ _ _ _
      unfold wb_X1_readInto_11
      rw [if_pos hlt]
      refine ⟨fun q => absurd q (ι_nn (by omega)), fun _ => ⟨hdl1.1, fun q => absurd d1.2.2.1 q, fun _ => ⟨t0, bxC h0 S1 o, hbx.1, hbx.2.2.1, hvp, ?_⟩⟩⟩
      rw [ι_cl (by omega), hval]
      have step0 : (bt p X Y Z G i).n = 0 → wl_X1_readInto_11 M K (k + 2) (h0 + o) (h0 + d) (ι p) (ι (usd X Y Z - 1 - i) + (-1)) S1 := by
        intro hz
        rw [hnext]
        refine ih (i + 1) S1 (by omega) e1 x1 s1 (by rw [pf_skip hz]; exact o1) (by rw [pf_skip hz]; exact d1) (fun j hj hn => ?_)
        by_cases q : j = i
        · subst q; exact absurd hz hn
        · exact f1 j (by omega) hn
      refine ⟨fun q => ?_, fun q => ⟨t0, bxC h0 S1 o, hbx.1, hbx.2.2.1, hvp, ?_, t0, ?_⟩⟩
      · rw [show (0 : Int32) = ι 0 from rfl, ι_eq (by omega) (by omega)] at q
        exact step0 (by show G _ _ _ % p = 0; rw [q, Nat.zero_mod])
      · simp (disch := omega) only [ι_lit, ι_of, ι_add, ι_mul, ι_lt, ι_le, ι_eq, ι_cl, ι_rem, ι_div, ι_vin, ι_ne1', ι_1ne', ι_1lt', ι_lt1', ι_1le', ι_le1', ι_sub', ι_sub, upN, upE, Nat.reduceEqDiff, ne_eq, not_true_eq_false, not_false_eq_true, false_imp_iff, true_imp_iff, true_and, and_true, imp_self, forall_eq, reduceIte, Nat.reduceMul, Nat.reduceAdd, Nat.reduceSub]
        omega
      · rw [hval, ι_rem (by omega) (by omega)]
        have hml := Nat.mod_lt (G (dX Y Z (usd X Y Z - 1 - i)) (dY Y Z (usd X Y Z - 1 - i)) (dZ Y Z (usd X Y Z - 1 - i))) (show 0 < p by omega)
        refine c_pushCell bo1 b1 hc hY9 hZ9 rfl rfl (by omega) d1 (fun S2 e2 x2 s2 d2 => ?_)
        have e12 := e1.tr e2
        by_cases hs : sm (bt p X Y Z G i)
        · have dd := d2.1 hs
          have epf : pf (bt p X Y Z G) (i + 1) = psD (pf (bt p X Y Z G) i).1 false (bt p X Y Z G i) := by rw [pf, o1]
          have dd2 : Dr h0 S2 d (pf (bt p X Y Z G) (i + 1)).1 (pf (bt p X Y Z G) (i + 1)).2 := by rw [epf]; exact dd
          cases ho : (pf (bt p X Y Z G) (i + 1)).2 with
          | false =>
            rw [ho] at dd2
            rw [hnext]
            refine ih (i + 1) S2 (by omega) e12 (by omega) (by omega) ho dd2 (fun j hj hn => ?_)
            by_cases q : j = i
            · subst q; exact hs
            · exact f1 j (by omega) hn
          | true =>
            rw [ho] at dd2
            exact done S2 _ e12 (by omega) (by omega) dd2 (cf2 (pf_over ho _ (by omega)))
        · by_cases hz : (bt p X Y Z G i).n = 0
          · have dd := d2.2.1 hs hz
            rw [hnext]
            refine ih (i + 1) S2 (by omega) e12 (by omega) (by omega) (by rw [pf_skip hz]; exact o1) (by rw [pf_skip hz]; exact dd) (fun j hj hn => ?_)
            by_cases q : j = i
            · subst q; exact absurd hz hn
            · exact f1 j (by omega) hn
          · exact done S2 _ e12 (by omega) (by omega) (d2.2.2 hs hz) (cf3 i hlt hz hs)
  unfold wp_X1_readInto
  obtain ⟨t0, -, -, -, hbx, hdl, -⟩ := id hb
  have z0 : ∀ i, i < usd X Y Z - u → (bt p X Y Z G i).n = 0 := fun i hi => huz (usd X Y Z - 1 - i) (by omega) (by omega)
  have pf0 : ∀ i, i ≤ usd X Y Z - u → pf (bt p X Y Z G) i = pf (bt p X Y Z G) 0 := by
    intro i
    induction i with
    | zero => intro _; rfl
    | succ i ih => intro hi; rw [pf_skip (z0 i (by omega))]; exact ih (by omega)
  refine ⟨hdl.1, c_clear hdl (fun S1 e1 x1 s1 d1 => ⟨(hb.go e1 x1).1, u + 2, ?_⟩)⟩
  have bo1 := hbo.go hb e1
  have p0 := pf0 (usd X Y Z - u) (Nat.le_refl _)
  have := key u (usd X Y Z - u) S1 (by omega) e1 x1 s1 (by rw [p0]; rfl) (by rw [p0]; exact d1) (fun j hj hn => absurd (z0 j hj) hn)
  rw [if_pos (by omega), show usd X Y Z - 1 - (usd X Y Z - u) = u - 1 by omega] at this
  rw [bo1.2.2.1, show (1 : Int32) = ι 1 from rfl, ι_sub (by omega)]
  exact this
theorem c_readInto {x2 : Int32} {K : Int32 → HS → Prop} (hbo : Bo h0 S o X Y Z G) (hb : BD h0 S o d) (hG : ∀ x y z, G x y z < 2147483648) (hY9 : Y ≤ 80) (hZ9 : Z ≤ 80) (hpp : PrP p) (hx : x2 = ι p) (h : ∀ S' D ov, Ext S S' (W3 h0 d) V0 → hX S' = hX S → hS S' = hS S → Dr h0 S' d D ov → (ov = false → Can p (bF p X Y Z G) D.reverse) → (ov = true → ¬ ∃ L, Can p (bF p X Y Z G) L) → K 0 S') : wp_X1_readInto M (h0 + o) (h0 + d) x2 S K := c_readU hbo (Nat.mul_pos (by omega) (Nat.mul_pos (by omega) (by omega))) (Nat.le_refl _) (fun c h1 h2 => absurd h1 (by omega)) hb hG hY9 hZ9 hpp hx h
end CREAD
