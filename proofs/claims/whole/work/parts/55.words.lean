/-! Words that the state needs: values, lines that go in, what is left. -/
def pm (p v : Nat) : Nat → Nat
  | 0 => 1
  | k + 1 => pm p v k * v % p
def vT (p x y z : Nat) (t : Tm) : Nat := t.n * pm p x t.x * pm p y t.y * pm p z t.z
def vF (p : Nat) (L : Po) (x y z : Nat) : Nat := sumTo L.length (fun i => vT p x y z (tm L i)) % p
abbrev Z3 : Type := Nat → Nat → Nat → Int
abbrev Lv : Type := Int × Int × Int × Int
def dn (f : Nat → Int) (x : Nat) : Int := match x with
  | 0 => 0
  | y + 1 => f y
/-- a line times a polynomial -/
def lm (L : Lv) (F : Z3) : Z3 := fun x y z => L.1 * dn (fun w => F w y z) x + L.2.1 * dn (fun w => F x w z) y + L.2.2.1 * dn (fun w => F x y w) z + L.2.2.2 * F x y z
/-- alike by q -/
def Al (q : Int) (F G : Z3) : Prop := ∀ x y z, q ∣ F x y z - G x y z
/-- from N on nothing -/
def Su (q : Int) (N : Nat) (F : Z3) : Prop := ∀ x y z, N ≤ x ∨ N ≤ y ∨ N ≤ z → q ∣ F x y z
/-- the line goes in -/
def Dv (q : Int) (L : Lv) (G : Z3) : Prop := ∃ N Q, Su q N Q ∧ Al q G (lm L Q)
def lmn (L : Lv) (n : Nat) (Q : Z3) : Z3 := match n with
  | 0 => Q
  | n + 1 => lm L (lmn L n Q)
/-- L goes in n times -/
def Mu (q : Int) (L : Lv) (n : Nat) (F : Z3) : Prop := ∃ N Q, Su q N Q ∧ Al q F (lmn L n Q)
/-- exactly n times -/
def Cn (q : Int) (L : Lv) (n : Nat) (F : Z3) : Prop := Mu q L n F ∧ ¬ Mu q L (n + 1) F
def lv (a b c d : Nat) : Lv := ((a : Int), (b : Int), (c : Int), (d : Int))
abbrev N3 : Type := Nat → Nat → Nat → Nat
def nz3 (F : N3) : Z3 := fun x y z => (F x y z : Int)
/-- numbers below p, none behind 40 -/
def Bd (p : Nat) (F : N3) : Prop := ∀ x y z, F x y z < p ∧ (40 < x ∨ 40 < y ∨ 40 < z → F x y z = 0)
/-- all values on a line are 0 -/
def van (p a b c d : Nat) (V : Nat → Nat → Nat → Nat) : Prop := ∀ x y z, x < p → y < p → z < p → (a * x + b * y + c * z + d) % p = 0 → V x y z = 0
/-- a line by its number -/
def lnK (p k : Nat) : Nat × Nat × Nat × Nat := if k < p * p * p then (1, k / (p * p), k / p % p, k % p) else if k - p * p * p < p * p then (0, 1, (k - p * p * p) / p, (k - p * p * p) % p) else (0, 0, 1, k - p * p * p - p * p)
/-- how often the reference says that a line goes in -/
def Mlt (p a b c d : Nat) (L : Po) (n : Nat) : Prop := n ≤ 40 ∧ (van p a b c d (vF p L) → Cn (p : Int) (lv a b c d) n (nz3 (cf L))) ∧ (¬ van p a b c d (vF p L) → n = 0)
/-- how often a line goes in -/
noncomputable def mlt (p a b c d : Nat) (L : Po) : Nat := Classical.epsilon (fun n => Mlt p a b c d L n)
/-- the k-th line -/
noncomputable def mk3 (p : Nat) (L : Po) (k : Nat) : Nat := mlt p (lnK p k).1 (lnK p k).2.1 (lnK p k).2.2.1 (lnK p k).2.2.2 L
abbrev lns (p : Nat) : Nat := p * p * p + p * p + p
def lnV (p : Nat) (L : Po) (k w n : Nat) : Nat := if w = 0 then (lnK p k).1 else if w = 1 then (lnK p k).2.1 else if w = 2 then (lnK p k).2.2.1 else if w = 3 then (lnK p k).2.2.2 else n
/-- the first k lines taken out -/
def RoK (p : Nat) (L : Po) : Nat → N3 → Prop
  | 0, F => F = cf L
  | k + 1, F => ∃ F0, RoK p L k F0 ∧ ((van p (lnK p k).1 (lnK p k).2.1 (lnK p k).2.2.1 (lnK p k).2.2.2 (vF p L) ∧ ∃ n, Al (p : Int) (nz3 F0) (lmn (lv (lnK p k).1 (lnK p k).2.1 (lnK p k).2.2.1 (lnK p k).2.2.2) n (nz3 F)) ∧ ¬ Dv (p : Int) (lv (lnK p k).1 (lnK p k).2.1 (lnK p k).2.2.1 (lnK p k).2.2.2) (nz3 F)) ∨ (¬ van p (lnK p k).1 (lnK p k).2.1 (lnK p k).2.2.1 (lnK p k).2.2.2 (vF p L) ∧ F = F0))
def cx (Y Z x y z : Nat) : Nat := x * ((Y + 1) * (Z + 1)) + (y * (Z + 1) + z)
def usd (X Y Z : Nat) : Nat := (X + 1) * ((Y + 1) * (Z + 1))
/-- the lines that go in, among the first k -/
noncomputable def flS (p : Nat) (L : Po) (k : Nat) : List Nat := (List.range k).filter (fun j => decide (mk3 p L j ≠ 0))
