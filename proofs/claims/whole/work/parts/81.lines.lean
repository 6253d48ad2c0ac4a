/-! Lines that go into polynomials: numbers in Int, looked at by a prime q. -/
def Pq (q : Int) : Prop := ∀ a b : Int, q ∣ a * b → q ∣ a ∨ q ∣ b
def z3 : Z3 := fun _ _ _ => 0
theorem dv_of {q a b : Int} (c : Int) (h : q ∣ a) (e : b = a * c) : q ∣ b := by rw [e]; exact Int.dvd_mul_of_dvd_left h
theorem dn0 (f : Nat → Int) : dn f 0 = 0 := rfl
theorem dn1 (f : Nat → Int) (x : Nat) : dn f (x + 1) = f x := rfl
theorem lm_com (L L' : Lv) (F : Z3) : lm L (lm L' F) = lm L' (lm L F) := by
  funext x y z
  cases x <;> cases y <;> cases z <;> simp only [lm, dn0, dn1] <;> grind
theorem lm_add (L : Lv) (F G : Z3) (c : Int) : lm L (fun x y z => F x y z + c * G x y z) = fun x y z => lm L F x y z + c * lm L G x y z := by
  funext x y z
  cases x <;> cases y <;> cases z <;> simp only [lm, dn0, dn1] <;> grind
theorem lm_vec (a b c d a' b' c' d' k : Int) (F : Z3) : lm (a + k * a', b + k * b', c + k * c', d + k * d') F = fun x y z => lm (a, b, c, d) F x y z + k * lm (a', b', c', d') F x y z := by
  funext x y z
  simp only [lm]; grind
section AL
variable {q : Int} {F G H : Z3} {L : Lv} {N : Nat}
theorem Al.rf : Al q F F := fun x y z => by rw [Int.sub_self]; exact Int.dvd_zero q
theorem Al.sy (h : Al q F G) : Al q G F := fun x y z => by
  have := h x y z
  rw [show G x y z - F x y z = -(F x y z - G x y z) by omega]
  exact Int.dvd_neg.2 this
theorem Al.tr (h : Al q F G) (g : Al q G H) : Al q F H := fun x y z => by
  rw [show F x y z - H x y z = (F x y z - G x y z) + (G x y z - H x y z) by omega]
  exact Int.dvd_add (h x y z) (g x y z)
theorem dn_al {f g : Nat → Int} (h : ∀ x, q ∣ f x - g x) (x : Nat) : q ∣ dn f x - dn g x := by
  cases x with
  | zero => exact Int.dvd_zero q
  | succ x => exact h x
theorem Al.by_ (h : Al q F G) : Al q (lm L F) (lm L G) := fun x y z => by
  have h1 := dn_al (f := fun w => F w y z) (g := fun w => G w y z) (fun w => h w y z) x
  have h2 := dn_al (f := fun w => F x w z) (g := fun w => G x w z) (fun w => h x w z) y
  have h3 := dn_al (f := fun w => F x y w) (g := fun w => G x y w) (fun w => h x y w) z
  have h4 := h x y z
  have e : lm L F x y z - lm L G x y z = L.1 * (dn (fun w => F w y z) x - dn (fun w => G w y z) x) + L.2.1 * (dn (fun w => F x w z) y - dn (fun w => G x w z) y) + L.2.2.1 * (dn (fun w => F x y w) z - dn (fun w => G x y w) z) + L.2.2.2 * (F x y z - G x y z) := by
    simp only [lm]; grind
  rw [e]
  exact Int.dvd_add (Int.dvd_add (Int.dvd_add (Int.dvd_mul_of_dvd_right h1) (Int.dvd_mul_of_dvd_right h2)) (Int.dvd_mul_of_dvd_right h3)) (Int.dvd_mul_of_dvd_right h4)
theorem Su.mo {N' : Nat} (h : Su q N F) (e : N ≤ N') : Su q N' F := fun x y z c => h x y z (by omega)
theorem Su.al (h : Su q N F) (e : Al q F G) : Su q N G := fun x y z c => by
  have h1 := h x y z c
  have h2 := e x y z
  rw [show G x y z = F x y z - (F x y z - G x y z) by omega]
  exact Int.dvd_sub h1 h2
end AL
section NZ
variable {q : Int} {F G H Q : Z3} {L : Lv} {N : Nat}
theorem dn_dv {f : Nat → Int} {x : Nat} (h : ∀ w, w + 1 = x → q ∣ f w) : q ∣ dn f x := by
  cases x with
  | zero => exact Int.dvd_zero q
  | succ x => exact h x rfl
/-- the variables' parts: what is nothing behind d after the line, was nothing from d on -/
theorem top_x (hq : Pq q) (ha : ¬ q ∣ L.1) (hs : Su q N Q) {d : Nat} (h : ∀ x y z, d < x → q ∣ lm L Q x y z) : ∀ x y z, d ≤ x → q ∣ Q x y z := by
  have go : ∀ n x y z, N ≤ x + n → d ≤ x → q ∣ Q x y z := by
    intro n
    induction n with
    | zero => intro x y z hx _; exact hs x y z (Or.inl hx)
    | succ n ih =>
      intro x y z hx hd
      have t := h (x + 1) y z (by omega)
      have e : L.1 * Q x y z = lm L Q (x + 1) y z - (L.2.1 * dn (fun w => Q (x + 1) w z) y + L.2.2.1 * dn (fun w => Q (x + 1) y w) z + L.2.2.2 * Q (x + 1) y z) := by simp only [lm, dn1]; grind
      have m : q ∣ L.1 * Q x y z := by
        rw [e]
        exact Int.dvd_sub t (Int.dvd_add (Int.dvd_add (Int.dvd_mul_of_dvd_right (dn_dv (fun w _ => ih (x + 1) w z (by omega) (by omega)))) (Int.dvd_mul_of_dvd_right (dn_dv (fun w _ => ih (x + 1) y w (by omega) (by omega))))) (Int.dvd_mul_of_dvd_right (ih (x + 1) y z (by omega) (by omega))))
      exact (hq _ _ m).resolve_left ha
  exact fun x y z hd => go N x y z (by omega) hd
theorem top_y (hq : Pq q) (ha : ¬ q ∣ L.2.1) (hs : Su q N Q) {d : Nat} (h : ∀ x y z, d < y → q ∣ lm L Q x y z) : ∀ x y z, d ≤ y → q ∣ Q x y z := by
  have go : ∀ n x y z, N ≤ y + n → d ≤ y → q ∣ Q x y z := by
    intro n
    induction n with
    | zero => intro x y z hx _; exact hs x y z (Or.inr (Or.inl hx))
    | succ n ih =>
      intro x y z hx hd
      have t := h x (y + 1) z (by omega)
      have e : L.2.1 * Q x y z = lm L Q x (y + 1) z - (L.1 * dn (fun w => Q w (y + 1) z) x + L.2.2.1 * dn (fun w => Q x (y + 1) w) z + L.2.2.2 * Q x (y + 1) z) := by simp only [lm, dn1]; grind
      have m : q ∣ L.2.1 * Q x y z := by
        rw [e]
        exact Int.dvd_sub t (Int.dvd_add (Int.dvd_add (Int.dvd_mul_of_dvd_right (dn_dv (fun w _ => ih w (y + 1) z (by omega) (by omega)))) (Int.dvd_mul_of_dvd_right (dn_dv (fun w _ => ih x (y + 1) w (by omega) (by omega))))) (Int.dvd_mul_of_dvd_right (ih x (y + 1) z (by omega) (by omega))))
      exact (hq _ _ m).resolve_left ha
  exact fun x y z hd => go N x y z (by omega) hd
theorem top_z (hq : Pq q) (ha : ¬ q ∣ L.2.2.1) (hs : Su q N Q) {d : Nat} (h : ∀ x y z, d < z → q ∣ lm L Q x y z) : ∀ x y z, d ≤ z → q ∣ Q x y z := by
  have go : ∀ n x y z, N ≤ z + n → d ≤ z → q ∣ Q x y z := by
    intro n
    induction n with
    | zero => intro x y z hx _; exact hs x y z (Or.inr (Or.inr hx))
    | succ n ih =>
      intro x y z hx hd
      have t := h x y (z + 1) (by omega)
      have e : L.2.2.1 * Q x y z = lm L Q x y (z + 1) - (L.1 * dn (fun w => Q w y (z + 1)) x + L.2.1 * dn (fun w => Q x w (z + 1)) y + L.2.2.2 * Q x y (z + 1)) := by simp only [lm, dn1]; grind
      have m : q ∣ L.2.2.1 * Q x y z := by
        rw [e]
        exact Int.dvd_sub t (Int.dvd_add (Int.dvd_add (Int.dvd_mul_of_dvd_right (dn_dv (fun w _ => ih w y (z + 1) (by omega) (by omega)))) (Int.dvd_mul_of_dvd_right (dn_dv (fun w _ => ih x w (z + 1) (by omega) (by omega))))) (Int.dvd_mul_of_dvd_right (ih x y (z + 1) (by omega) (by omega))))
      exact (hq _ _ m).resolve_left ha
  exact fun x y z hd => go N x y z (by omega) hd
/-- a line that is not nothing makes nothing only of nothing -/
theorem lm_nz (hq : Pq q) (hl : ¬ (q ∣ L.1 ∧ q ∣ L.2.1 ∧ q ∣ L.2.2.1 ∧ q ∣ L.2.2.2)) (hs : Su q N Q) (h : ∀ x y z, q ∣ lm L Q x y z) : ∀ x y z, q ∣ Q x y z := by
  by_cases c1 : q ∣ L.1
  · by_cases c2 : q ∣ L.2.1
    · by_cases c3 : q ∣ L.2.2.1
      · have c4 : ¬ q ∣ L.2.2.2 := fun w => hl ⟨c1, c2, c3, w⟩
        intro x y z
        have e : L.2.2.2 * Q x y z = lm L Q x y z - (L.1 * dn (fun w => Q w y z) x + L.2.1 * dn (fun w => Q x w z) y + L.2.2.1 * dn (fun w => Q x y w) z) := by simp only [lm]; grind
        have m : q ∣ L.2.2.2 * Q x y z := by
          rw [e]
          exact Int.dvd_sub (h x y z) (Int.dvd_add (Int.dvd_add (Int.dvd_mul_of_dvd_left c1) (Int.dvd_mul_of_dvd_left c2)) (Int.dvd_mul_of_dvd_left c3))
        exact (hq _ _ m).resolve_left c4
      · exact fun x y z => top_z hq c3 hs (d := 0) (fun x y z _ => h x y z) x y z (Nat.zero_le _)
    · exact fun x y z => top_y hq c2 hs (d := 0) (fun x y z _ => h x y z) x y z (Nat.zero_le _)
  · exact fun x y z => top_x hq c1 hs (d := 0) (fun x y z _ => h x y z) x y z (Nat.zero_le _)
theorem lm_can (hq : Pq q) (hl : ¬ (q ∣ L.1 ∧ q ∣ L.2.1 ∧ q ∣ L.2.2.1 ∧ q ∣ L.2.2.2)) (hF : Su q N F) (hG : Su q N G) (h : Al q (lm L F) (lm L G)) : Al q F G := by
  have s : Su q N (fun x y z => F x y z + (-1) * G x y z) := fun x y z c => Int.dvd_add (hF x y z c) (Int.dvd_mul_of_dvd_right (hG x y z c))
  have e := lm_nz hq hl s (fun x y z => by
    rw [lm_add]
    show q ∣ lm L F x y z + (-1) * lm L G x y z
    rw [show lm L F x y z + (-1) * lm L G x y z = lm L F x y z - lm L G x y z by omega]
    exact h x y z)
  intro x y z
  rw [show F x y z - G x y z = F x y z + (-1) * G x y z by omega]
  exact e x y z
end NZ
/-! Division by a line whose first number is 1. -/
def pln (b c d : Int) (G : Z3) (N : Nat) (i : Nat) : Nat → Nat → Int := match i with
  | 0 => fun _ _ => 0
  | i + 1 => fun u v => G (N - i) u v - d * pln b c d G N i u v - b * dn (fun w => pln b c d G N i w v) u - c * dn (fun w => pln b c d G N i u w) v
def quo (b c d : Int) (G : Z3) (N : Nat) : Z3 := fun e u v => pln b c d G N (N - e) u v
section DIV
variable {q b c d : Int} {G Q : Z3} {N M : Nat}
theorem pln_id (hG : ∀ e u v, N < e → q ∣ G e u v) (e u v : Nat) : q ∣ lm (1, b, c, d) (quo b c d G N) e u v + (if e = 0 then pln b c d G N (N + 1) u v else 0) - G e u v := by
  cases e with
  | zero =>
    rw [if_pos rfl]
    have : lm (1, b, c, d) (quo b c d G N) 0 u v + pln b c d G N (N + 1) u v - G 0 u v = 0 := by
      simp only [lm, dn0, quo, Nat.sub_zero, pln, Nat.sub_self]; grind
    rw [this]; exact Int.dvd_zero q
  | succ e =>
    rw [if_neg (Nat.succ_ne_zero e)]
    by_cases h : e < N
    · have k : N - e = N - (e + 1) + 1 := by omega
      have : lm (1, b, c, d) (quo b c d G N) (e + 1) u v + 0 - G (e + 1) u v = 0 := by
        have g : N - (N - (e + 1)) = e + 1 := by omega
        simp only [lm, dn1, quo]
        rw [k]
        simp only [pln, g]
        grind
      rw [this]; exact Int.dvd_zero q
    · have k1 : N - e = 0 := by omega
      have k2 : N - (e + 1) = 0 := by omega
      have : lm (1, b, c, d) (quo b c d G N) (e + 1) u v + 0 - G (e + 1) u v = -(G (e + 1) u v) := by
        simp only [lm, dn1, quo]
        rw [k1, k2]
        simp only [pln]
        cases u <;> cases v <;> simp only [dn0, dn1] <;> grind
      rw [this]; exact Int.dvd_neg.2 (hG (e + 1) u v (by omega))
theorem pln_su (hG : Su q M G) : ∀ i u v, M + i ≤ u ∨ M + i ≤ v → q ∣ pln b c d G N i u v := by
  intro i
  induction i with
  | zero => intro u v _; exact Int.dvd_zero q
  | succ i ih =>
    intro u v h
    simp only [pln]
    exact Int.dvd_sub (Int.dvd_sub (Int.dvd_sub (hG _ u v (by omega)) (Int.dvd_mul_of_dvd_right (ih u v (by omega)))) (Int.dvd_mul_of_dvd_right (dn_dv (fun w hw => ih w v (by omega))))) (Int.dvd_mul_of_dvd_right (dn_dv (fun w hw => ih u w (by omega))))
theorem quo_su (hG : Su q M G) : Su q (M + N) (quo b c d G N) := fun e u v h => by
  by_cases k : N ≤ e
  · show q ∣ pln b c d G N (N - e) u v
    rw [show N - e = 0 by omega]; exact Int.dvd_zero q
  · exact pln_su hG (N - e) u v (by omega)
theorem pln_un (hq : Pq q) (h1 : ¬ q ∣ 1) (hs : Su q M Q) (hG : ∀ e u v, N < e → q ∣ G e u v) (h : Al q G (lm (1, b, c, d) Q)) : (∀ i, i ≤ N → ∀ u v, q ∣ pln b c d G N i u v - Q (N - i) u v) ∧ ∀ u v, q ∣ pln b c d G N (N + 1) u v := by
  have hl : ∀ e u v, N < e → q ∣ lm (1, b, c, d) Q e u v := fun e u v he => by
    have x1 := h e u v
    have x2 := hG e u v he
    rw [show lm (1, b, c, d) Q e u v = G e u v - (G e u v - lm (1, b, c, d) Q e u v) by omega]
    exact Int.dvd_sub x2 x1
  have ht := top_x (L := (1, b, c, d)) hq h1 hs (d := N) hl
  have st : ∀ i, i ≤ N → ∀ u v, q ∣ pln b c d G N i u v - Q (N - i) u v := by
    intro i
    induction i with
    | zero =>
      intro _ u v
      rw [show pln b c d G N 0 u v - Q (N - 0) u v = -(Q N u v) from Int.zero_sub _]
      exact Int.dvd_neg.2 (ht N u v (Nat.le_refl _))
    | succ i ih =>
      intro hi u v
      have ih := ih (by omega)
      have g := h (N - i) u v
      have k : N - i = N - (i + 1) + 1 := by omega
      have e : pln b c d G N (i + 1) u v - Q (N - (i + 1)) u v = (G (N - i) u v - lm (1, b, c, d) Q (N - i) u v) - d * (pln b c d G N i u v - Q (N - i) u v) - b * (dn (fun w => pln b c d G N i w v) u - dn (fun w => Q (N - i) w v) u) - c * (dn (fun w => pln b c d G N i u w) v - dn (fun w => Q (N - i) u w) v) := by
        simp only [pln, lm]
        rw [show dn (fun w => Q w u v) (N - i) = Q (N - (i + 1)) u v by rw [k]; rfl]
        grind
      rw [e]
      exact Int.dvd_sub (Int.dvd_sub (Int.dvd_sub g (Int.dvd_mul_of_dvd_right (ih u v))) (Int.dvd_mul_of_dvd_right (dn_al (fun w => ih w v) u))) (Int.dvd_mul_of_dvd_right (dn_al (fun w => ih u w) v))
  refine ⟨st, fun u v => ?_⟩
  have ih := st N (Nat.le_refl _)
  have g := h 0 u v
  rw [Nat.sub_self] at ih
  have e : pln b c d G N (N + 1) u v = (G 0 u v - lm (1, b, c, d) Q 0 u v) - d * (pln b c d G N N u v - Q 0 u v) - b * (dn (fun w => pln b c d G N N w v) u - dn (fun w => Q 0 w v) u) - c * (dn (fun w => pln b c d G N N u w) v - dn (fun w => Q 0 u w) v) := by
    simp only [pln, lm, Nat.sub_self, dn0]
    grind
  rw [e]
  exact Int.dvd_sub (Int.dvd_sub (Int.dvd_sub g (Int.dvd_mul_of_dvd_right (ih u v))) (Int.dvd_mul_of_dvd_right (dn_al (fun w => ih w v) u))) (Int.dvd_mul_of_dvd_right (dn_al (fun w => ih u w) v))
/-- it goes in where nothing is left -/
theorem dv_rm (hS : Su q M G) (hG : ∀ e u v, N < e → q ∣ G e u v) (h : ∀ u v, q ∣ pln b c d G N (N + 1) u v) : Al q G (lm (1, b, c, d) (quo b c d G N)) := fun e u v => by
  have x := pln_id (b := b) (c := c) (d := d) hG e u v
  have y : q ∣ (if e = 0 then pln b c d G N (N + 1) u v else 0) := by
    split
    · exact h u v
    · exact Int.dvd_zero q
  rw [show G e u v - lm (1, b, c, d) (quo b c d G N) e u v = (if e = 0 then pln b c d G N (N + 1) u v else 0) - (lm (1, b, c, d) (quo b c d G N) e u v + (if e = 0 then pln b c d G N (N + 1) u v else 0) - G e u v) by omega]
  exact Int.dvd_sub y x
/-- where it goes in, its own variables' exponents grow by one -/
theorem dv_le (hq : Pq q) (h1 : ¬ q ∣ 1) (hG : ∀ e u v, N < e → q ∣ G e u v) (hD : Dv q (1, b, c, d) G) {m : Nat} : (∀ e u v, N ≤ e → q ∣ quo b c d G N e u v) ∧ (¬ q ∣ b → (∀ e u v, m < u → q ∣ G e u v) → ∀ i, i ≤ N → ∀ u v, m ≤ u → q ∣ pln b c d G N i u v) ∧ (¬ q ∣ c → (∀ e u v, m < v → q ∣ G e u v) → ∀ i, i ≤ N → ∀ u v, m ≤ v → q ∣ pln b c d G N i u v) := by
  obtain ⟨M, Q, hs, h⟩ := hD
  have un := (pln_un hq h1 hs hG h).1
  have tol : ∀ e u v, q ∣ G e u v → q ∣ lm (1, b, c, d) Q e u v := fun e u v x2 => by
    have x1 := h e u v
    rw [show lm (1, b, c, d) Q e u v = G e u v - (G e u v - lm (1, b, c, d) Q e u v) by omega]
    exact Int.dvd_sub x2 x1
  refine ⟨fun e u v he => ?_, fun hb hu i hi u v hm => ?_, fun hb hu i hi u v hm => ?_⟩
  · show q ∣ pln b c d G N (N - e) u v
    rw [show N - e = 0 by omega]; exact Int.dvd_zero q
  · have t := top_y (L := (1, b, c, d)) hq hb hs (d := m) (fun e u v k => tol e u v (hu e u v k)) (N - i) u v hm
    have g := un i hi u v
    rw [show pln b c d G N i u v = (pln b c d G N i u v - Q (N - i) u v) + Q (N - i) u v by omega]
    exact Int.dvd_add g t
  · have t := top_z (L := (1, b, c, d)) hq hb hs (d := m) (fun e u v k => tol e u v (hu e u v k)) (N - i) u v hm
    have g := un i hi u v
    rw [show pln b c d G N i u v = (pln b c d G N i u v - Q (N - i) u v) + Q (N - i) u v by omega]
    exact Int.dvd_add g t
end DIV
/-! How often a line goes in; other lines change nothing of it. -/
def Nz (q : Int) (L : Lv) : Prop := ¬ (q ∣ L.1 ∧ q ∣ L.2.1 ∧ q ∣ L.2.2.1 ∧ q ∣ L.2.2.2)
/-- L doesn't go into L' -/
def Ap (q : Int) (L L' : Lv) : Prop := ∀ G N, Su q N G → Dv q L (lm L' G) → Dv q L G
section MUL
variable {q : Int} {L L' : Lv} {F G Q : Z3} {N M n m : Nat}
theorem Su.lm (h : Su q N F) : Su q (N + 1) (lm L F) := fun x y z c => by
  show q ∣ L.1 * dn (fun w => F w y z) x + L.2.1 * dn (fun w => F x w z) y + L.2.2.1 * dn (fun w => F x y w) z + L.2.2.2 * F x y z
  exact Int.dvd_add (Int.dvd_add (Int.dvd_add (Int.dvd_mul_of_dvd_right (dn_dv (fun w hw => h w y z (by omega)))) (Int.dvd_mul_of_dvd_right (dn_dv (fun w hw => h x w z (by omega))))) (Int.dvd_mul_of_dvd_right (dn_dv (fun w hw => h x y w (by omega))))) (Int.dvd_mul_of_dvd_right (h x y z (by omega)))
theorem Su.lmn (h : Su q N F) : ∀ n, Su q (N + n) (lmn L n F)
  | 0 => h
  | n + 1 => (Su.lmn h n).lm
theorem Al.lmn (h : Al q F G) : ∀ n, Al q (lmn L n F) (lmn L n G)
  | 0 => h
  | n + 1 => (Al.lmn h n).by_
theorem Mu.al (h : Mu q L n F) (e : Al q F G) : Mu q L n G := by
  obtain ⟨N, Q, a, b⟩ := h
  exact ⟨N, Q, a, e.sy.tr b⟩
theorem Cn.al (h : Cn q L n F) (e : Al q F G) : Cn q L n G := ⟨h.1.al e, fun w => h.2 (w.al e.sy)⟩
theorem Dv.al (h : Dv q L F) (e : Al q F G) : Dv q L G := by
  obtain ⟨N, Q, a, b⟩ := h
  exact ⟨N, Q, a, e.sy.tr b⟩
theorem Mu.dv (h : Mu q L 1 F) : Dv q L F := h
theorem Mu.step (hq : Pq q) (hl : Nz q L) (hs : Su q N G) (e : Al q F (lm L G)) : Mu q L (n + 1) F ↔ Mu q L n G := by
  constructor
  · rintro ⟨M, Q, a, b⟩
    refine ⟨M, Q, a, ?_⟩
    exact lm_can (N := N + (M + n)) hq hl (hs.mo (by omega)) ((Su.lmn a n).mo (by omega)) (e.sy.tr b)
  · rintro ⟨M, Q, a, b⟩
    exact ⟨M, Q, a, e.tr b.by_⟩
theorem Mu.one (h : Mu q L (n + 1) F) : Dv q L F := by
  obtain ⟨N, Q, a, b⟩ := h
  exact ⟨N + n, lmn L n Q, Su.lmn a n, b⟩
theorem Mu.less (h : Mu q L (n + 1) F) : Mu q L n F := by
  obtain ⟨N, Q, a, b⟩ := h
  refine ⟨N + 1, lm L Q, a.lm, ?_⟩
  have e : ∀ n, lmn L n (lm L Q) = lm L (lmn L n Q) := by
    intro n
    induction n with
    | zero => rfl
    | succ n ih => show lm L (lmn L n (lm L Q)) = _; rw [ih]; rfl
  rw [e]; exact b
theorem Mu.le (h : Mu q L n F) (k : m ≤ n) : Mu q L m F := by
  induction n with
  | zero => rw [show m = 0 by omega]; exact h
  | succ n ih =>
    by_cases c : m = n + 1
    · rw [c]; exact h
    · exact ih h.less (by omega)
theorem Cn.un (h : Cn q L n F) (g : Cn q L m F) : n = m := by
  by_cases a : n < m
  · exact absurd (g.1.le a) h.2
  · by_cases b : m < n
    · exact absurd (h.1.le b) g.2
    · omega
theorem Cn.no (hs : Su q N F) (h : ¬ Dv q L F) : Cn q L 0 F := ⟨⟨N, F, hs, Al.rf⟩, fun w => h w.one⟩
theorem Cn.step (hq : Pq q) (hl : Nz q L) (hs : Su q N G) (e : Al q F (lm L G)) : Cn q L (n + 1) F ↔ Cn q L n G := by
  unfold Cn
  rw [Mu.step hq hl hs e, Mu.step hq hl hs e]
theorem lmn_com : ∀ n, lm L' (lmn L n Q) = lmn L n (lm L' Q)
  | 0 => rfl
  | n + 1 => by
    show lm L' (lm L (lmn L n Q)) = lm L (lmn L n (lm L' Q))
    rw [lm_com, lmn_com n]
theorem Mu.ap (hq : Pq q) (hl : Nz q L) (ap : Ap q L L') : ∀ n N G, Su q N G → (Mu q L n (lm L' G) ↔ Mu q L n G) := by
  intro n
  induction n with
  | zero => exact fun N G hs => ⟨fun _ => ⟨N, G, hs, Al.rf⟩, fun _ => ⟨N + 1, lm L' G, hs.lm, Al.rf⟩⟩
  | succ n ih =>
    intro N G hs
    constructor
    · intro h
      obtain ⟨M, H, a, b⟩ := ap G N hs h.one
      have e : Al q (lm L' G) (lm L (lm L' H)) := by
        have := b.by_ (L := L')
        rw [lm_com L' L] at this
        exact this
      rw [Mu.step hq hl a.lm e, ih M H a] at h
      exact (Mu.step hq hl a b).2 h
    · rintro ⟨M, Q, a, b⟩
      refine ⟨M + 1, lm L' Q, a.lm, ?_⟩
      have := b.by_ (L := L')
      rw [lmn_com] at this
      exact this
theorem Cn.ap (hq : Pq q) (hl : Nz q L) (ap : Ap q L L') (hs : Su q N G) : Cn q L n (lm L' G) ↔ Cn q L n G := by
  unfold Cn
  rw [Mu.ap hq hl ap n N G hs, Mu.ap hq hl ap (n + 1) N G hs]
theorem Cn.apn (hq : Pq q) (hl : Nz q L) (ap : Ap q L L') (hs : Su q N G) : ∀ k, Cn q L n (lmn L' k G) ↔ Cn q L n G
  | 0 => Iff.rfl
  | k + 1 => by
    show Cn q L n (lm L' (lmn L' k G)) ↔ _
    rw [Cn.ap hq hl ap (Su.lmn hs k), Cn.apn hq hl ap hs k]
/-- a line goes into a product that it doesn't go into a line of -/
theorem ap_1 {b c d a' b' c' d' : Int} (hq : Pq q) (h1 : ¬ q ∣ 1) (hm : ¬ (q ∣ b' + -a' * b ∧ q ∣ c' + -a' * c ∧ q ∣ d' + -a' * d)) : Ap q (1, b, c, d) (a', b', c', d') := by
  rintro G N hs ⟨M, Q, hQ, hA⟩
  have hN : ∀ e u v, N < e → q ∣ G e u v := fun e u v h => hs e u v (by omega)
  have id := pln_id (q := q) (b := b) (c := c) (d := d) hN
  have sq := quo_su (q := q) (b := b) (c := c) (d := d) (N := N) hs
  have sp := pln_su (q := q) (b := b) (c := c) (d := d) (N := N) hs (N + 1)
  generalize hA1 : quo b c d G N = A at id sq
  generalize hR1 : (fun e u v => if e = 0 then pln b c d G N (N + 1) u v else 0 : Z3) = R3
  have id2 : ∀ e u v, q ∣ lm (1, b, c, d) A e u v + R3 e u v - G e u v := fun e u v => by rw [← hR1]; exact id e u v
  have sR : Su q (N + (N + 1)) R3 := fun e u v h => by
    rw [← hR1]
    show q ∣ if e = 0 then pln b c d G N (N + 1) u v else 0
    split
    · exact sp u v (by omega)
    · exact Int.dvd_zero q
  have hM : (0, b' + -a' * b, c' + -a' * c, d' + -a' * d) = ((a' + -a' * 1, b' + -a' * b, c' + -a' * c, d' + -a' * d) : Lv) := by
    rw [show a' + -a' * 1 = 0 by omega]
  generalize hMM : ((0, b' + -a' * b, c' + -a' * c, d' + -a' * d) : Lv) = Mv at *
  have hlm : ∀ F : Z3, lm Mv F = fun x y z => lm (a', b', c', d') F x y z + -a' * lm (1, b, c, d) F x y z := fun F => by rw [hM]; exact lm_vec a' b' c' d' 1 b c d (-a') F
  -- W: what the line must be taken times to make Mv times what is left
  let W : Z3 := fun x y z => (fun x y z => Q x y z + -a' * G x y z : Z3) x y z + (-1) * lm Mv A x y z
  have sW : Su q (N + M + (N + N + 1)) W := fun x y z h => Int.dvd_add (Int.dvd_add (hQ x y z (by omega)) (Int.dvd_mul_of_dvd_right (hs x y z (by omega)))) (Int.dvd_mul_of_dvd_right (sq.lm x y z (by omega)))
  have eq : Al q (lm Mv R3) (lm (1, b, c, d) W) := by
    have w1 : lm (1, b, c, d) W = fun x y z => (lm (1, b, c, d) Q x y z + -a' * lm (1, b, c, d) G x y z) + (-1) * lm (1, b, c, d) (lm Mv A) x y z := by
      show lm (1, b, c, d) (fun x y z => (fun x y z => Q x y z + -a' * G x y z : Z3) x y z + (-1) * lm Mv A x y z) = _
      rw [lm_add, lm_add]
    -- Mv times G
    have w2 : Al q (lm Mv (fun x y z => lm (1, b, c, d) A x y z + 1 * R3 x y z)) (lm Mv G) := Al.by_ (fun x y z => by
      rw [Int.one_mul]; exact id2 x y z)
    rw [lm_add, lm_com] at w2
    intro x y z
    have g1 := w2 x y z
    have g2 := hA x y z
    rw [w1]
    rw [hlm G] at g1
    have : lm Mv R3 x y z - (lm (1, b, c, d) Q x y z + -a' * lm (1, b, c, d) G x y z + -1 * lm (1, b, c, d) (lm Mv A) x y z) = (lm (1, b, c, d) (lm Mv A) x y z + 1 * lm Mv R3 x y z - (lm (a', b', c', d') G x y z + -a' * lm (1, b, c, d) G x y z)) + (lm (a', b', c', d') G x y z - lm (1, b, c, d) Q x y z) := by grind
    show q ∣ lm Mv R3 x y z - (lm (1, b, c, d) Q x y z + -a' * lm (1, b, c, d) G x y z + -1 * lm (1, b, c, d) (lm Mv A) x y z)
    rw [this]
    exact Int.dvd_add g1 g2
  have m0 : ∀ e u v, 0 < e → lm Mv R3 e u v = 0 := fun e u v h => by
    obtain ⟨e, rfl⟩ : ∃ k, e = k + 1 := ⟨e - 1, by omega⟩
    rw [← hMM, ← hR1]
    simp only [lm, dn1]
    cases u <;> cases v <;> simp [dn]
  have wz := top_x (L := (1, b, c, d)) hq h1 sW (d := 0) (fun e u v h => by
    have := eq e u v
    rw [m0 e u v h] at this
    rw [show lm (1, b, c, d) W e u v = -(0 - lm (1, b, c, d) W e u v) by omega]
    exact Int.dvd_neg.2 this)
  have rz := lm_nz (L := Mv) hq (by rw [← hMM]; exact fun k => hm ⟨k.2.1, k.2.2.1, k.2.2.2⟩) sR (fun x y z => by
    have k1 := eq x y z
    have k2 : q ∣ lm (1, b, c, d) W x y z := by
      have w : Al q W z3 := fun x y z => by rw [show W x y z - z3 x y z = W x y z from Int.sub_zero _]; exact wz x y z (Nat.zero_le _)
      have := w.by_ (L := (1, b, c, d)) x y z
      rw [show lm (1, b, c, d) z3 x y z = 0 by cases x <;> cases y <;> cases z <;> simp [lm, z3, dn]] at this
      rw [show lm (1, b, c, d) W x y z = lm (1, b, c, d) W x y z - 0 by omega]; exact this
    rw [show lm Mv R3 x y z = (lm Mv R3 x y z - lm (1, b, c, d) W x y z) + lm (1, b, c, d) W x y z by omega]
    exact Int.dvd_add k1 k2)
  refine ⟨_, A, sq, fun x y z => ?_⟩
  have := id2 x y z
  rw [show G x y z - lm (1, b, c, d) A x y z = R3 x y z - (lm (1, b, c, d) A x y z + R3 x y z - G x y z) by omega]
  exact Int.dvd_sub (rz x y z) this
end MUL
/-! Which variable leads; lines; the terms of highest degree. -/
def tw (l : Nat) (F : Z3) : Z3 := fun e u v => if l = 0 then F e u v else if l = 1 then F u e v else F u v e
def ut (l : Nat) (F : Z3) : Z3 := fun x y z => if l = 0 then F x y z else if l = 1 then F y x z else F z x y
def tv (l : Nat) (L : Lv) : Lv := if l = 0 then L else if l = 1 then (L.2.1, L.1, L.2.2.1, L.2.2.2) else (L.2.2.1, L.1, L.2.1, L.2.2.2)
section TW
variable {q : Int} {L L' : Lv} {F G Q : Z3} {N n l : Nat}
theorem tw_c : l = 0 ∨ l = 1 ∨ ¬ l = 0 ∧ ¬ l = 1 := by omega
theorem tw_ut : tw l (ut l F) = F := by
  funext e u v
  unfold tw ut
  rcases tw_c (l := l) with h | h | h
  · simp [h]
  · simp [h]
  · simp [h.1, h.2]
theorem ut_tw : ut l (tw l F) = F := by
  funext e u v
  unfold tw ut
  rcases tw_c (l := l) with h | h | h
  · simp [h]
  · simp [h]
  · simp [h.1, h.2]
theorem tw_lm : tw l (lm L F) = lm (tv l L) (tw l F) := by
  funext e u v
  unfold tw tv lm
  rcases tw_c (l := l) with h | h | h
  · simp [h]
  · simp [h]; omega
  · simp [h.1, h.2]; omega
theorem tw_al : Al q (tw l F) (tw l G) ↔ Al q F G := by
  unfold Al tw
  rcases tw_c (l := l) with h | h | h
  · simp [h]
  · simp only [h]; exact ⟨fun w x y z => w y x z, fun w x y z => w y x z⟩
  · simp only [h.1, h.2]; exact ⟨fun w x y z => w z x y, fun w x y z => w y z x⟩
theorem tw_su : Su q N (tw l F) ↔ Su q N F := by
  unfold Su tw
  rcases tw_c (l := l) with h | h | h
  · simp [h]
  · simp only [h]; exact ⟨fun w x y z c => w y x z (by omega), fun w x y z c => w y x z (by omega)⟩
  · simp only [h.1, h.2]; exact ⟨fun w x y z c => w z x y (by omega), fun w x y z c => w y z x (by omega)⟩
theorem tw_dv : Dv q (tv l L) (tw l F) ↔ Dv q L F := by
  constructor
  · rintro ⟨N, Q, a, b⟩
    refine ⟨N, ut l Q, tw_su (l := l).1 (by rw [tw_ut]; exact a), tw_al (l := l).1 ?_⟩
    rw [tw_lm, tw_ut]; exact b
  · rintro ⟨N, Q, a, b⟩
    exact ⟨N, tw l Q, tw_su.2 a, by rw [← tw_lm]; exact tw_al.2 b⟩
theorem tw_ap (h : Ap q (tv l L) (tv l L')) : Ap q L L' := fun G N hs hd => by
  rw [← tw_dv (l := l)] at hd ⊢
  rw [tw_lm] at hd
  exact h _ N (tw_su.2 hs) hd
/-- a line: the first number that is not 0 is 1 -/
def Ln (p a b c d : Nat) : Prop := ((a = 1 ∧ b < p ∧ c < p) ∨ (a = 0 ∧ b = 1 ∧ c < p) ∨ (a = 0 ∧ b = 0 ∧ c = 1)) ∧ d < p
def led (a b : Nat) : Nat := if a = 1 then 0 else if b = 1 then 1 else 2
/-- the numbers of the two other variables -/
def l1 (a b : Nat) : Nat := if a = 1 then b else 0
def l2 (a b c : Nat) : Nat := if a = 1 then c else if b = 1 then c else 0
theorem Ln.tv {p a b c d : Nat} (h : Ln p a b c d) : tv (led a b) (lv a b c d) = (1, (l1 a b : Int), (l2 a b c : Int), (d : Int)) := by
  obtain ⟨h | h | h, -⟩ := h
  · obtain ⟨rfl, h2, h3⟩ := h; rfl
  · obtain ⟨rfl, rfl, h3⟩ := h; rfl
  · obtain ⟨rfl, rfl, rfl⟩ := h; rfl
theorem lt_dv {p n : Nat} (h : n < p) (hd : (p : Int) ∣ (n : Int)) : n = 0 := by
  have := Int.natCast_dvd_natCast.1 hd
  exact Nat.eq_zero_of_dvd_of_lt this h
theorem lt_dv2 {p n m : Nat} (h : n < p) (g : m < p) (hd : (p : Int) ∣ (n : Int) + -1 * (m : Int)) : n = m := by
  obtain ⟨k, e⟩ := hd
  have : k = 0 := by
    rcases Int.lt_trichotomy k 0 with c | c | c
    · have := Int.mul_le_mul_of_nonneg_left (show k ≤ -1 by omega) (show (0 : Int) ≤ (p : Int) by omega)
      omega
    · exact c
    · have := Int.mul_le_mul_of_nonneg_left (show 1 ≤ k by omega) (show (0 : Int) ≤ (p : Int) by omega)
      omega
  subst this
  omega
theorem Ln.ap {p a b c d a' b' c' d' : Nat} (hq : Pq (p : Int)) (hp : 2 ≤ p) (h : Ln p a b c d) (h' : Ln p a' b' c' d') (ne : ¬ (a = a' ∧ b = b' ∧ c = c' ∧ d = d')) : Ap (p : Int) (lv a b c d) (lv a' b' c' d') := by
  have h1 : ¬ (p : Int) ∣ 1 := fun w => by
    have := lt_dv (n := 1) (by omega) w
    omega
  refine tw_ap (l := led a b) ?_
  rw [h.tv]
  obtain ⟨h, hd⟩ := h
  obtain ⟨h', hd'⟩ := h'
  have z0 : ∀ k m : Nat, (0 : Int) + -(k : Int) * (m : Int) = 0 + -1 * ((k * m : Nat) : Int) := fun k m => by rw [Int.natCast_mul]; grind
  rcases h with ⟨rfl, h2, h3⟩ | ⟨rfl, rfl, h3⟩ | ⟨rfl, rfl, rfl⟩
  · refine ap_1 (a' := (a' : Int)) (b' := (b' : Int)) (c' := (c' : Int)) (d' := (d' : Int)) hq h1 ?_
    rintro ⟨k1, k2, k3⟩
    rcases h' with ⟨rfl, g2, g3⟩ | ⟨rfl, rfl, g3⟩ | ⟨rfl, rfl, rfl⟩
    · exact ne ⟨rfl, (lt_dv2 g2 h2 k1).symm, (lt_dv2 g3 h3 k2).symm, (lt_dv2 hd' hd k3).symm⟩
    · rw [show ((1 : Nat) : Int) + -((0 : Nat) : Int) * (l1 1 b : Int) = 1 by simp] at k1; exact h1 k1
    · rw [show ((1 : Nat) : Int) + -((0 : Nat) : Int) * (l2 1 b c : Int) = 1 by simp] at k2; exact h1 k2
  · refine ap_1 (a' := (b' : Int)) (b' := (a' : Int)) (c' := (c' : Int)) (d' := (d' : Int)) hq h1 ?_
    rintro ⟨k1, k2, k3⟩
    rw [show (a' : Int) + -(b' : Int) * (l1 0 1 : Int) = (a' : Int) by simp [l1]] at k1
    rcases h' with ⟨rfl, g2, g3⟩ | ⟨rfl, rfl, g3⟩ | ⟨rfl, rfl, rfl⟩
    · exact h1 k1
    · exact ne ⟨rfl, rfl, (lt_dv2 g3 h3 k2).symm, (lt_dv2 hd' hd k3).symm⟩
    · rw [show ((1 : Nat) : Int) + -((0 : Nat) : Int) * (l2 0 1 c : Int) = 1 by simp] at k2; exact h1 k2
  · refine ap_1 (a' := (c' : Int)) (b' := (a' : Int)) (c' := (b' : Int)) (d' := (d' : Int)) hq h1 ?_
    rintro ⟨k1, k2, k3⟩
    rw [show (a' : Int) + -(c' : Int) * (l1 0 0 : Int) = (a' : Int) by simp [l1]] at k1
    rw [show (b' : Int) + -(c' : Int) * (l2 0 0 1 : Int) = (b' : Int) by simp [l2]] at k2
    rcases h' with ⟨rfl, g2, g3⟩ | ⟨rfl, rfl, g3⟩ | ⟨rfl, rfl, rfl⟩
    · exact h1 k1
    · exact h1 k2
    · exact ne ⟨rfl, rfl, rfl, (lt_dv2 hd' hd k3).symm⟩
theorem Ln.nz {p a b c d : Nat} (hp : 2 ≤ p) (h : Ln p a b c d) : Nz (p : Int) (lv a b c d) := by
  have h1 : ¬ (p : Int) ∣ 1 := fun w => by
    have := lt_dv (n := 1) (by omega) w
    omega
  rintro ⟨k1, k2, k3, -⟩
  rcases h.1 with ⟨rfl, -⟩ | ⟨rfl, rfl, -⟩ | ⟨rfl, rfl, rfl⟩
  · exact h1 k1
  · exact h1 k2
  · exact h1 k3
/-- the part of a degree -/
def hm (t : Nat) (F : Z3) : Z3 := fun x y z => if x + y + z = t then F x y z else 0
theorem hm_lm {a b c : Int} (t : Nat) : lm (a, b, c, 0) (hm t F) = hm (t + 1) (lm (a, b, c, 0) F) := by
  have g : ∀ (f : Nat → Int) (s x : Nat), dn (fun w => if w + s = t then f w else 0) x = if x + s = t + 1 then dn f x else 0 := fun f s x => by
    cases x with
    | zero => simp [dn]
    | succ x => simp only [dn]; split <;> split <;> first | rfl | omega
  funext x y z
  show a * dn (fun w => if w + y + z = t then F w y z else 0) x + b * dn (fun w => if x + w + z = t then F x w z else 0) y + c * dn (fun w => if x + y + w = t then F x y w else 0) z + 0 * (if x + y + z = t then F x y z else 0) = if x + y + z = t + 1 then lm (a, b, c, 0) F x y z else 0
  rw [show (fun w => if w + y + z = t then F w y z else 0) = fun w => if w + (y + z) = t then F w y z else 0 by funext w; rw [Nat.add_assoc], show (fun w => if x + w + z = t then F x w z else 0) = fun w => if w + (x + z) = t then F x w z else 0 by funext w; rw [show x + w + z = w + (x + z) by omega], show (fun w => if x + y + w = t then F x y w else 0) = fun w => if w + (x + y) = t then F x y w else 0 by funext w; rw [show x + y + w = w + (x + y) by omega], g (fun w => F w y z), g (fun w => F x w z), g (fun w => F x y w)]
  by_cases k : x + y + z = t + 1
  · rw [if_pos k, if_pos (by omega), if_pos (by omega), if_pos (by omega)]
    simp only [lm]; omega
  · rw [if_neg k, if_neg (by omega), if_neg (by omega), if_neg (by omega)]; omega
theorem hm_al (t : Nat) (h : Al q F G) : Al q (hm t F) (hm t G) := fun x y z => by
  unfold hm
  split
  · exact h x y z
  · exact Int.dvd_zero q
/-- what the highest part of a product is -/
theorem hm_top {a b c d : Int} {D : Nat} (hq : Pq q) (hl : Nz q (a, b, c, 0)) (hs : Su q N Q) (h : Al q F (lm (a, b, c, d) Q)) (hF : ∀ x y z, D < x + y + z → q ∣ F x y z) : (∀ x y z, D ≤ x + y + z → q ∣ Q x y z) ∧ ∀ t, t + 1 = D → Al q (hm D F) (lm (a, b, c, 0) (hm t Q)) := by
  have sp : ∀ t, Al q (hm (t + 1) F) (fun x y z => lm (a, b, c, 0) (hm t Q) x y z + d * hm (t + 1) Q x y z) := fun t x y z => by
    have g := hm_al (t + 1) h x y z
    rw [hm_lm]
    have e : hm (t + 1) (lm (a, b, c, d) Q) x y z = hm (t + 1) (lm (a, b, c, 0) Q) x y z + d * hm (t + 1) Q x y z := by
      unfold hm
      split
      · simp only [lm]; omega
      · omega
    rw [e] at g; exact g
  have hs0 : ∀ t, Su q N (hm t Q) := fun t x y z k => by
    unfold hm
    split
    · exact hs x y z k
    · exact Int.dvd_zero q
  have go : ∀ n t, 3 * N ≤ t + n → D ≤ t → ∀ x y z, q ∣ hm t Q x y z := by
    intro n
    induction n with
    | zero =>
      intro t ht _ x y z
      unfold hm
      split
      · exact hs x y z (by omega)
      · exact Int.dvd_zero q
    | succ n ih =>
      intro t ht hD
      refine lm_nz hq hl (hs0 t) (fun x y z => ?_)
      have g := sp t x y z
      have k1 : q ∣ hm (t + 1) F x y z := by
        unfold hm
        split
        · exact hF x y z (by omega)
        · exact Int.dvd_zero q
      have k2 := ih (t + 1) (by omega) (by omega) x y z
      have e : lm (a, b, c, 0) (hm t Q) x y z = hm (t + 1) F x y z - (hm (t + 1) F x y z - (lm (a, b, c, 0) (hm t Q) x y z + d * hm (t + 1) Q x y z)) - d * hm (t + 1) Q x y z := by omega
      rw [e]
      exact Int.dvd_sub (Int.dvd_sub k1 g) (Int.dvd_mul_of_dvd_right k2)
  refine ⟨fun x y z k => ?_, fun t ht => ?_⟩
  · have := go (3 * N) (x + y + z) (by omega) k x y z
    unfold hm at this
    rw [if_pos rfl] at this
    exact this
  · subst ht
    intro x y z
    have g := sp t x y z
    have k2 := go (3 * N) (t + 1) (by omega) (Nat.le_refl _) x y z
    have e : hm (t + 1) F x y z - lm (a, b, c, 0) (hm t Q) x y z = (hm (t + 1) F x y z - (lm (a, b, c, 0) (hm t Q) x y z + d * hm (t + 1) Q x y z)) + d * hm (t + 1) Q x y z := by omega
    rw [e]
    exact Int.dvd_add g (Int.dvd_mul_of_dvd_right k2)
end TW
/-! Values of products by lines. -/
def isum (n : Nat) (f : Nat → Int) : Int := match n with
  | 0 => 0
  | n + 1 => isum n f + f n
section EV
variable {q : Int} {F G : Z3} {N n : Nat} {w : Z3} {x y z a b c d : Int}
theorem isum_cg {f g : Nat → Int} : ∀ n, (∀ i, i < n → q ∣ f i - g i) → q ∣ isum n f - isum n g
  | 0, _ => Int.dvd_zero q
  | n + 1, h => by
    show q ∣ isum n f + f n - (isum n g + g n)
    rw [show isum n f + f n - (isum n g + g n) = (isum n f - isum n g) + (f n - g n) by omega]
    exact Int.dvd_add (isum_cg n (fun i hi => h i (by omega))) (h n (by omega))
theorem isum_li (f g h k : Nat → Int) (a b c d : Int) : ∀ n, isum n (fun i => a * f i + b * g i + c * h i + d * k i) = a * isum n f + b * isum n g + c * isum n h + d * isum n k
  | 0 => by simp [isum]
  | n + 1 => by
    show isum n (fun i => a * f i + b * g i + c * h i + d * k i) + (a * f n + b * g n + c * h n + d * k n) = a * (isum n f + f n) + b * (isum n g + g n) + c * (isum n h + h n) + d * (isum n k + k n)
    rw [isum_li f g h k a b c d n]; grind
theorem isum_mu (f : Nat → Int) (a : Int) : ∀ n, isum n (fun i => a * f i) = a * isum n f
  | 0 => by simp [isum]
  | n + 1 => by
    show isum n (fun i => a * f i) + a * f n = a * (isum n f + f n)
    rw [isum_mu f a n]; grind
theorem isum_fr (f : Nat → Int) : ∀ n, isum (n + 1) f = f 0 + isum n (fun i => f (i + 1))
  | 0 => by simp [isum]
  | n + 1 => by
    show isum (n + 1) f + f (n + 1) = f 0 + (isum n (fun i => f (i + 1)) + f (n + 1))
    rw [isum_fr f n]; omega
theorem isum_sh {A B : Nat → Int} (h0 : q ∣ B 0) (h : ∀ j, j < N → q ∣ B (j + 1) - y * A j) (hA : q ∣ A N) : q ∣ isum (N + 1) B - y * isum (N + 1) A := by
  rw [isum_fr]
  show q ∣ B 0 + isum N (fun i => B (i + 1)) - y * (isum N A + A N)
  have e := isum_cg (f := fun i => B (i + 1)) (g := fun i => y * A i) N h
  rw [isum_mu] at e
  rw [show B 0 + isum N (fun i => B (i + 1)) - y * (isum N A + A N) = B 0 + (isum N (fun i => B (i + 1)) - y * isum N A) - y * A N by grind]
  exact Int.dvd_sub (Int.dvd_add h0 e) (Int.dvd_mul_of_dvd_right hA)
theorem isum_dv {f : Nat → Int} : ∀ n, (∀ i, i < n → q ∣ f i) → q ∣ isum n f
  | 0, _ => Int.dvd_zero q
  | n + 1, h => Int.dvd_add (isum_dv n (fun i hi => h i (by omega))) (h n (by omega))
def ev (N : Nat) (F w : Z3) : Int := isum N (fun i => isum N (fun j => isum N (fun k => F i j k * w i j k)))
theorem ev_al (h : Al q F G) : q ∣ ev N F w - ev N G w := isum_cg N (fun i _ => isum_cg N (fun j _ => isum_cg N (fun k _ => by
  rw [show F i j k * w i j k - G i j k * w i j k = (F i j k - G i j k) * w i j k by grind]
  exact Int.dvd_mul_of_dvd_left (h i j k))))
theorem ev_lm (hs : Su q N F) (hx : ∀ i j k, q ∣ w (i + 1) j k - x * w i j k) (hy : ∀ i j k, q ∣ w i (j + 1) k - y * w i j k) (hz : ∀ i j k, q ∣ w i j (k + 1) - z * w i j k) : q ∣ ev (N + 1) (lm (a, b, c, d) F) w - (a * x + b * y + c * z + d) * ev (N + 1) F w := by
  let fx : Z3 := fun i j k => dn (fun v => F v j k) i * w i j k
  let fy : Z3 := fun i j k => dn (fun v => F i v k) j * w i j k
  let fz : Z3 := fun i j k => dn (fun v => F i j v) k * w i j k
  let f0 : Z3 := fun i j k => F i j k * w i j k
  have mu : ∀ f s g : Int, q ∣ g - s → q ∣ f * g - f * s := fun f s g h => by
    rw [show f * g - f * s = f * (g - s) by grind]; exact Int.dvd_mul_of_dvd_right h
  have e1 : ev (N + 1) (lm (a, b, c, d) F) w = a * isum (N + 1) (fun i => isum (N + 1) (fun j => isum (N + 1) (fx i j))) + b * isum (N + 1) (fun i => isum (N + 1) (fun j => isum (N + 1) (fy i j))) + c * isum (N + 1) (fun i => isum (N + 1) (fun j => isum (N + 1) (fz i j))) + d * isum (N + 1) (fun i => isum (N + 1) (fun j => isum (N + 1) (f0 i j))) := by
    unfold ev
    rw [← isum_li]
    congr 1
    funext i
    rw [← isum_li]
    congr 1
    funext j
    rw [← isum_li]
    congr 1
    funext k
    show (a * dn (fun v => F v j k) i + b * dn (fun v => F i v k) j + c * dn (fun v => F i j v) k + d * F i j k) * w i j k = a * (dn (fun v => F v j k) i * w i j k) + b * (dn (fun v => F i v k) j * w i j k) + c * (dn (fun v => F i j v) k * w i j k) + d * (F i j k * w i j k)
    grind
  have kx : q ∣ isum (N + 1) (fun i => isum (N + 1) (fun j => isum (N + 1) (fx i j))) - x * isum (N + 1) (fun i => isum (N + 1) (fun j => isum (N + 1) (f0 i j))) := by
    refine isum_sh ?_ (fun i _ => ?_) ?_
    · exact isum_dv _ (fun j _ => isum_dv _ (fun k _ => by show q ∣ 0 * w 0 j k; rw [Int.zero_mul]; exact Int.dvd_zero q))
    · rw [← isum_mu]
      refine isum_cg _ (fun j _ => ?_)
      rw [← isum_mu]
      refine isum_cg _ (fun k _ => ?_)
      show q ∣ F i j k * w (i + 1) j k - x * (F i j k * w i j k)
      rw [show x * (F i j k * w i j k) = F i j k * (x * w i j k) by grind]
      exact mu _ _ _ (hx i j k)
    · exact isum_dv _ (fun j _ => isum_dv _ (fun k _ => Int.dvd_mul_of_dvd_left (hs N j k (by omega))))
  have ky : q ∣ isum (N + 1) (fun i => isum (N + 1) (fun j => isum (N + 1) (fy i j))) - y * isum (N + 1) (fun i => isum (N + 1) (fun j => isum (N + 1) (f0 i j))) := by
    rw [← isum_mu]
    refine isum_cg _ (fun i _ => ?_)
    refine isum_sh ?_ (fun j _ => ?_) ?_
    · exact isum_dv _ (fun k _ => by show q ∣ 0 * w i 0 k; rw [Int.zero_mul]; exact Int.dvd_zero q)
    · rw [← isum_mu]
      refine isum_cg _ (fun k _ => ?_)
      show q ∣ F i j k * w i (j + 1) k - y * (F i j k * w i j k)
      rw [show y * (F i j k * w i j k) = F i j k * (y * w i j k) by grind]
      exact mu _ _ _ (hy i j k)
    · exact isum_dv _ (fun k _ => Int.dvd_mul_of_dvd_left (hs i N k (by omega)))
  have kz : q ∣ isum (N + 1) (fun i => isum (N + 1) (fun j => isum (N + 1) (fz i j))) - z * isum (N + 1) (fun i => isum (N + 1) (fun j => isum (N + 1) (f0 i j))) := by
    rw [← isum_mu]
    refine isum_cg _ (fun i _ => ?_)
    rw [← isum_mu]
    refine isum_cg _ (fun j _ => ?_)
    refine isum_sh ?_ (fun k _ => ?_) ?_
    · show q ∣ 0 * w i j 0; rw [Int.zero_mul]; exact Int.dvd_zero q
    · show q ∣ F i j k * w i j (k + 1) - z * (F i j k * w i j k)
      rw [show z * (F i j k * w i j k) = F i j k * (z * w i j k) by grind]
      exact mu _ _ _ (hz i j k)
    · exact Int.dvd_mul_of_dvd_left (hs i j N (by omega))
  rw [e1]
  have e0 : ev (N + 1) F w = isum (N + 1) (fun i => isum (N + 1) (fun j => isum (N + 1) (f0 i j))) := rfl
  rw [e0]
  generalize isum (N + 1) (fun i => isum (N + 1) (fun j => isum (N + 1) (fx i j))) = X at *
  generalize isum (N + 1) (fun i => isum (N + 1) (fun j => isum (N + 1) (fy i j))) = Y at *
  generalize isum (N + 1) (fun i => isum (N + 1) (fun j => isum (N + 1) (fz i j))) = Z at *
  generalize isum (N + 1) (fun i => isum (N + 1) (fun j => isum (N + 1) (f0 i j))) = O at *
  rw [show a * X + b * Y + c * Z + d * O - (a * x + b * y + c * z + d) * O = a * (X - x * O) + b * (Y - y * O) + c * (Z - z * O) by grind]
  exact Int.dvd_add (Int.dvd_add (Int.dvd_mul_of_dvd_right kx) (Int.dvd_mul_of_dvd_right ky)) (Int.dvd_mul_of_dvd_right kz)
end EV
/-! Lines and rows of terms. -/
def cz (L : Po) : Z3 := fun x y z => (cf L x y z : Int)
theorem pq_dec : ∀ p, p ∈ [2, 3, 5, 7, 11, 13] → ∀ r, r < p → ∀ s, s < p → (r * s) % p = 0 → r = 0 ∨ s = 0 := by decide +kernel
section LST
variable {p x y z N : Nat} {L : Po}
theorem PrP.pq (hpp : PrP p) : Pq (p : Int) := fun a b h => by
  have hp := hpp.le
  have p0 : (0 : Int) < (p : Int) := by omega
  have e1 := Int.emod_nonneg a (show (p : Int) ≠ 0 by omega)
  have e2 := Int.emod_nonneg b (show (p : Int) ≠ 0 by omega)
  have f1 := Int.emod_lt_of_pos a p0
  have f2 := Int.emod_lt_of_pos b p0
  have k : (a % (p : Int) * (b % (p : Int))) % (p : Int) = 0 := by rw [← Int.mul_emod]; exact Int.emod_eq_zero_of_dvd h
  obtain ⟨r, hr⟩ := Int.eq_ofNat_of_zero_le e1
  obtain ⟨s, hs⟩ := Int.eq_ofNat_of_zero_le e2
  rw [hr] at f1 k
  rw [hs] at f2 k
  have k2 : (r * s) % p = 0 := by
    have : ((r * s % p : Nat) : Int) = 0 := by rw [Int.natCast_emod, Int.natCast_mul]; exact k
    omega
  rcases pq_dec p hpp.mem r (by omega) s (by omega) k2 with c | c
  · exact Or.inl (Int.dvd_of_emod_eq_zero (by rw [hr, c]; rfl))
  · exact Or.inr (Int.dvd_of_emod_eq_zero (by rw [hs, c]; rfl))
theorem PrP.n1 (hpp : PrP p) : ¬ (p : Int) ∣ 1 := fun w => by
  have hp := hpp.le
  have := lt_dv (n := 1) (by omega) w
  omega
/-- weights of monomials at a point -/
def w3 (p x y z : Nat) : Z3 := fun i j k => ((pm p x i * pm p y j * pm p z k : Nat) : Int)
theorem mod_dv (a : Nat) : (p : Int) ∣ ((a % p : Nat) : Int) - (a : Int) := by
  have := Nat.mod_add_div a p
  refine ⟨-((a / p : Nat) : Int), ?_⟩
  have e : (a : Int) = ((a % p : Nat) : Int) + (p : Int) * ((a / p : Nat) : Int) := by rw [← Int.natCast_mul, ← Int.natCast_add, this]
  rw [e]
  generalize ((a / p : Nat) : Int) = t
  rw [Int.mul_neg]; 
  generalize (p : Int) * t = s
  omega
theorem w3_x (i j k : Nat) : (p : Int) ∣ w3 p x y z (i + 1) j k - (x : Int) * w3 p x y z i j k := by
  have := mod_dv (p := p) (pm p x i * x)
  refine dv_of ((pm p y j * pm p z k : Nat) : Int) this ?_
  show ((pm p x i * x % p * pm p y j * pm p z k : Nat) : Int) - (x : Int) * ((pm p x i * pm p y j * pm p z k : Nat) : Int) = _
  simp only [Int.natCast_mul]; grind
theorem w3_y (i j k : Nat) : (p : Int) ∣ w3 p x y z i (j + 1) k - (y : Int) * w3 p x y z i j k := by
  have := mod_dv (p := p) (pm p y j * y)
  refine dv_of ((pm p x i * pm p z k : Nat) : Int) this ?_
  show ((pm p x i * (pm p y j * y % p) * pm p z k : Nat) : Int) - (y : Int) * ((pm p x i * pm p y j * pm p z k : Nat) : Int) = _
  simp only [Int.natCast_mul]; grind
theorem w3_z (i j k : Nat) : (p : Int) ∣ w3 p x y z i j (k + 1) - (z : Int) * w3 p x y z i j k := by
  have := mod_dv (p := p) (pm p z k * z)
  refine dv_of ((pm p x i * pm p y j : Nat) : Int) this ?_
  show ((pm p x i * pm p y j * (pm p z k * z % p) : Nat) : Int) - (z : Int) * ((pm p x i * pm p y j * pm p z k : Nat) : Int) = _
  simp only [Int.natCast_mul]; grind
theorem isum_nat (f : Nat → Nat) : ∀ n, isum n (fun i => (f i : Int)) = ((sumTo n f : Nat) : Int)
  | 0 => rfl
  | n + 1 => by
    show isum n (fun i => (f i : Int)) + (f n : Int) = ((sumTo n f + f n : Nat) : Int)
    rw [isum_nat f n, Int.natCast_add]
theorem ev_vS (hw : wf p L) (hN : 41 ≤ N) : ev N (cz L) (w3 p x y z) = ((vS p L x y z : Nat) : Int) := by
  have e : ev N (cz L) (w3 p x y z) = ((sumTo N (fun i => sumTo N (fun j => sumTo N (fun k => cf L i j k * (pm p x i * pm p y j * pm p z k)))) : Nat) : Int) := by
    unfold ev
    rw [← isum_nat]
    congr 1; funext i
    rw [← isum_nat]
    congr 1; funext j
    rw [← isum_nat]
    congr 1
  rw [e]
  congr 1
  have e2 : ∀ i j k, cf L i j k * (pm p x i * pm p y j * pm p z k) = sumTo L.length (fun t => if isAt (tm L t) i j k then vT p x y z (tm L t) else 0) := fun i j k => by
    unfold cf
    rw [← sumTo_mul_r]
    refine sumTo_congr (fun t ht => ?_)
    split
    · rename_i h
      obtain ⟨h1, h2, h3⟩ := h
      unfold vT
      rw [h1, h2, h3]
      simp only [Nat.mul_assoc]
    · exact Nat.zero_mul _
  have e3 : sumTo N (fun i => sumTo N (fun j => sumTo N (fun k => cf L i j k * (pm p x i * pm p y j * pm p z k)))) = sumTo L.length (fun t => sumTo N (fun i => sumTo N (fun j => sumTo N (fun k => if isAt (tm L t) i j k then vT p x y z (tm L t) else 0)))) := by
    rw [sumTo_swap L.length N]
    refine sumTo_congr (fun i _ => ?_)
    rw [sumTo_swap L.length N]
    refine sumTo_congr (fun j _ => ?_)
    rw [sumTo_swap L.length N]
    exact sumTo_congr (fun k _ => e2 i j k)
  rw [e3]
  unfold vS
  refine sumTo_congr (fun t ht => ?_)
  obtain ⟨b1, b2, b3, -⟩ := hw.2.1 t ht
  rw [sumTo_single (tm L t).x (by omega) (fun i _ ne => sumTo_zero (fun j _ => sumTo_zero (fun k _ => if_neg (fun w => ne w.1.symm))))]
  rw [sumTo_single (tm L t).y (by omega) (fun j _ ne => sumTo_zero (fun k _ => if_neg (fun w => ne w.2.1.symm)))]
  rw [sumTo_single (tm L t).z (by omega) (fun k _ ne => if_neg (fun w => ne w.2.2.symm))]
  exact if_pos ⟨rfl, rfl, rfl⟩
theorem cz_su (hw : wf p L) : Su (p : Int) 41 (cz L) := fun x y z c => by
  show (p : Int) ∣ ((cf L x y z : Nat) : Int)
  rw [cf_none (fun i hi w => by
    obtain ⟨b1, b2, b3, -⟩ := hw.2.1 i hi
    obtain ⟨w1, w2, w3⟩ := w
    omega)]
  exact Int.dvd_zero _
/-- A line that goes in: the values of the highest part are 0 on it (moved to go through nothing) -/
theorem hi_zero {a b c d D : Nat} {Lt : Po} (hpp : PrP p) (hln : Ln p a b c d) (hw : wf p L) (ht : wf p Lt) (hD : 0 < D) (hd : ∀ x y z, D < x + y + z → cf L x y z = 0) (he : ∀ x y z, cf Lt x y z = if x + y + z = D then cf L x y z else 0) (h : Dv (p : Int) (lv a b c d) (cz L)) (on : (a * x + b * y + c * z) % p = 0) : vF p Lt x y z = 0 := by
  obtain ⟨N, Q, hs, hA⟩ := h
  have hp := hpp.le
  have hl : Nz (p : Int) ((a : Int), (b : Int), (c : Int), 0) := by
    have l0 : Ln p a b c 0 := ⟨hln.1, by omega⟩
    exact l0.nz (by omega)
  have top := (hm_top (D := D) hpp.pq hl hs hA (fun x y z k => by show (p : Int) ∣ ((cf L x y z : Nat) : Int); rw [hd x y z k]; exact Int.dvd_zero _)).2 (D - 1) (by omega)
  have eT : hm D (cz L) = cz Lt := by
    funext x y z
    unfold hm cz
    rw [he]
    split <;> rfl
  rw [eT] at top
  have sQ : Su (p : Int) (N + 41) (hm (D - 1) Q) := fun x y z k => by
    unfold hm
    split
    · exact hs x y z (by omega)
    · exact Int.dvd_zero _
  have e1 := ev_al (N := N + 41 + 1) (w := w3 p x y z) top
  have e2 := ev_lm (a := (a : Int)) (b := (b : Int)) (c := (c : Int)) (d := 0) sQ (w3_x (p := p) (x := x) (y := y) (z := z)) w3_y w3_z
  have e3 : (p : Int) ∣ ((a : Int) * x + (b : Int) * y + (c : Int) * z + 0) * ev (N + 41 + 1) (hm (D - 1) Q) (w3 p x y z) := by
    refine Int.dvd_mul_of_dvd_left ?_
    have : (p : Int) ∣ ((a * x + b * y + c * z : Nat) : Int) := Int.natCast_dvd_natCast.2 (Nat.dvd_of_mod_eq_zero on)
    simpa [Int.natCast_add, Int.natCast_mul] using this
  rw [ev_vS ht (by omega)] at e1
  have e4 : (p : Int) ∣ ((vS p Lt x y z : Nat) : Int) := by
    have := Int.dvd_add (Int.dvd_add e1 e2) e3
    rw [show ∀ A B C : Int, (A - B) + (B - C) + C = A from fun A B C => by omega] at this
    exact this
  exact Nat.mod_eq_zero_of_dvd (Int.natCast_dvd_natCast.1 e4)
end LST
