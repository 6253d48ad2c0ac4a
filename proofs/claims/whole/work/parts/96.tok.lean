/-! tell: tokens and the machine that reads them. -/
def isB (b : Nat) : Prop := b = 32 ∨ b = 10
def isF (b : Nat) : Prop := 48 ≤ b ∧ b ≤ 57
/-- blanks passed -/
def skb (tx : Nat → Nat) : Nat → Nat → Nat
  | 0, p => p
  | m + 1, p => if tx p = 32 ∨ tx p = 10 then skb tx m (p + 1) else p
/-- figures passed -/
def skf (tx : Nat → Nat) : Nat → Nat → Nat
  | 0, p => p
  | m + 1, p => if 48 ≤ tx p ∧ tx p ≤ 57 then skf tx m (p + 1) else p
/-- the number that j figures from s on tell -/
def nuv (tx : Nat → Nat) (s : Nat) : Nat → Nat
  | 0 => 0
  | j + 1 => min 1000 (nuv tx s j * 10 + tx (s + j) - 48)
/-- a token: its first byte, the byte behind it, what it is, its number -/
abbrev Tk : Type := Nat × Nat × Nat × Nat
def tks (tx : Nat → Nat) (n p : Nat) : Nat := skb tx (n - p) p
def tke (tx : Nat → Nat) (n p : Nat) : Nat := if n ≤ tks tx n p then tks tx n p else if 48 ≤ tx (tks tx n p) ∧ tx (tks tx n p) ≤ 57 then skf tx (n - tks tx n p) (tks tx n p) else tks tx n p + 1
def tkc (tx : Nat → Nat) (n p : Nat) : Nat := if n ≤ tks tx n p then 257 else if 48 ≤ tx (tks tx n p) ∧ tx (tks tx n p) ≤ 57 then 256 else tx (tks tx n p)
def tkv (tx : Nat → Nat) (n p : Nat) : Nat := nuv tx (tks tx n p) (tke tx n p - tks tx n p)
theorem skb_le {tx : Nat → Nat} : ∀ m p, p ≤ skb tx m p ∧ skb tx m p ≤ p + m := by
  intro m
  induction m with
  | zero => intro p; exact ⟨Nat.le_refl _, Nat.le_refl _⟩
  | succ m ih =>
    intro p
    unfold skb
    split
    · have := ih (p + 1); omega
    · omega
theorem skf_le {tx : Nat → Nat} : ∀ m p, p ≤ skf tx m p ∧ skf tx m p ≤ p + m := by
  intro m
  induction m with
  | zero => intro p; exact ⟨Nat.le_refl _, Nat.le_refl _⟩
  | succ m ih =>
    intro p
    unfold skf
    split
    · have := ih (p + 1); omega
    · omega
theorem nuv_le {tx : Nat → Nat} {s : Nat} : ∀ j, nuv tx s j ≤ 1000 := by
  intro j
  cases j with
  | zero => unfold nuv; omega
  | succ j => unfold nuv; omega
section TOK
variable {tx : Nat → Nat} {n p : Nat}
theorem tks_le (h : p ≤ n) : p ≤ tks tx n p ∧ tks tx n p ≤ n := by
  have := skb_le (tx := tx) (n - p) p
  unfold tks; omega
theorem tke_le (h : p ≤ n) : tks tx n p ≤ tke tx n p ∧ tke tx n p ≤ n ∧ (tkc tx n p ≠ 257 → p < tke tx n p) := by
  have a := tks_le (tx := tx) h
  unfold tke tkc
  by_cases h1 : n ≤ tks tx n p
  · rw [if_pos h1, if_pos h1]; exact ⟨Nat.le_refl _, by omega, fun c => absurd rfl c⟩
  · rw [if_neg h1, if_neg h1]
    by_cases h2 : 48 ≤ tx (tks tx n p) ∧ tx (tks tx n p) ≤ 57
    · rw [if_pos h2, if_pos h2]
      have b := skf_le (tx := tx) (n - tks tx n p) (tks tx n p)
      obtain ⟨m, hm⟩ : ∃ m, n - tks tx n p = m + 1 := ⟨n - tks tx n p - 1, by omega⟩
      have c : tks tx n p + 1 ≤ skf tx (n - tks tx n p) (tks tx n p) := by
        rw [hm, skf, if_pos h2]
        exact (skf_le m (tks tx n p + 1)).1
      exact ⟨by omega, by omega, fun _ => by omega⟩
    · rw [if_neg h2, if_neg h2]
      exact ⟨by omega, by omega, fun _ => by omega⟩
end TOK
/-- a step as it is told: name, sign, two atoms -/
abbrev Sq : Type := Nat × Nat × Nat × Nat
/-- what may come next, the steps that are told, the one at hand -/
abbrev Mt : Type := Nat × List Sq × Sq
def sq (D : List Sq) (s : Nat) : Sq := D.getD s (0, 0, 0, 0)
/-- the step of a name, or -1 (as one less) -/
def lkp (D : List Sq) (nm : Nat) : Nat → Nat
  | 0 => 0
  | k + 1 => if lkp D nm k = 0 then (if (sq D k).1 = nm then k + 1 else 0) else lkp D nm k
abbrev lk1 (D : List Sq) (nm : Nat) : Nat := lkp D nm D.length
def stQ (q : Nat) (D : List Sq) (c : Sq) (at_ : Nat) : Mt := if q = 3 then (4, D, (c.1, c.2.1, at_, c.2.2.2)) else (7, D, (c.1, c.2.1, c.2.2.1, at_))
/-- a token is taken: the fault, or 0 and what comes then -/
def tkA (q : Nat) (D : List Sq) (c : Sq) (k v : Nat) : Nat × Mt := if k = 256 then (if 99 < v then (2, (q, D, c)) else (0, stQ q D c v)) else if k < 97 ∨ 122 < k then (1, (q, D, c)) else if 120 ≤ k then (0, stQ q D c (100 + k - 120)) else if lk1 D (k - 96) = 0 then (3, (q, D, c)) else (0, stQ q D c (103 + (lk1 D (k - 96) - 1)))
def tkE (q : Nat) (D : List Sq) (c : Sq) (k : Nat) : Nat × Mt := if k ≠ 59 ∧ k ≠ 257 then (1, (q, D, c)) else (0, (1, D ++ [c], (0, 0, 0, 0)))
def tkN (q : Nat) (D : List Sq) (c : Sq) (k : Nat) : Nat × Mt := if k = 257 ∧ q = 1 then (0, (q, D, c)) else if k < 97 ∨ 119 < k then (1, (q, D, c)) else if lk1 D (k - 96) ≠ 0 then (3, (q, D, c)) else (0, (2, D, (k - 96, 0, 0, 0)))
def tkS (q : Nat) (D : List Sq) (c : Sq) (k : Nat) : Nat × Mt := if k = 43 ∨ k = 45 ∨ k = 42 ∨ k = 94 then (0, (if k = 94 then 6 else 5, D, (c.1, k, c.2.2.1, c.2.2.2))) else tkE q D c k
def tkX (q : Nat) (D : List Sq) (c : Sq) (k v : Nat) : Nat × Mt := if k ≠ 256 then (1, (q, D, c)) else if 9 < v then (2, (q, D, c)) else (0, (7, D, (c.1, c.2.1, c.2.2.1, v)))
def tak (m : Mt) (k v : Nat) : Nat × Mt := if m.1 ≤ 1 then tkN m.1 m.2.1 m.2.2 k else if m.1 = 2 then (if k = 61 then (0, (3, m.2.1, m.2.2)) else (1, m)) else if m.1 = 3 ∨ m.1 = 5 then tkA m.1 m.2.1 m.2.2 k v else if m.1 = 4 then tkS m.1 m.2.1 m.2.2 k else if m.1 = 6 then tkX m.1 m.2.1 m.2.2 k v else tkE m.1 m.2.1 m.2.2 k
/-- what comes of a text: fault, its place, the steps -/
abbrev Ot : Type := Nat × Nat × List Sq
def rnM (tx : Nat → Nat) (n : Nat) : Nat → Nat → Mt → Ot
  | 0, _, _ => (1, 0, [])
  | f + 1, p, m => if (tak m (tkc tx n p) (tkv tx n p)).1 ≠ 0 then ((tak m (tkc tx n p) (tkv tx n p)).1, tks tx n p, []) else if tkc tx n p = 257 then (0, 0, (tak m (tkc tx n p) (tkv tx n p)).2.2.1) else rnM tx n f (tke tx n p) (tak m (tkc tx n p) (tkv tx n p)).2
/-- the machine at p will come to o -/
def Jm (tx : Nat → Nat) (n p : Nat) (m : Mt) (o : Ot) : Prop := p ≤ n ∧ ∃ f, n < f + p ∧ rnM tx n f p m = o
theorem Jm.go {tx : Nat → Nat} {n p : Nat} {m : Mt} {o : Ot} (h : Jm tx n p m o) : ((tak m (tkc tx n p) (tkv tx n p)).1 ≠ 0 → o = ((tak m (tkc tx n p) (tkv tx n p)).1, tks tx n p, [])) ∧ ((tak m (tkc tx n p) (tkv tx n p)).1 = 0 → (tkc tx n p = 257 → o = (0, 0, (tak m (tkc tx n p) (tkv tx n p)).2.2.1)) ∧ (tkc tx n p ≠ 257 → Jm tx n (tke tx n p) (tak m (tkc tx n p) (tkv tx n p)).2 o)) := by
  obtain ⟨hp, f, hf, e⟩ := h
  obtain ⟨f, rfl⟩ : ∃ g, f = g + 1 := ⟨f - 1, by omega⟩
  rw [rnM] at e
  refine ⟨fun c => by rw [if_pos c] at e; exact e.symm, fun c => ⟨fun c2 => by rw [if_neg (fun w => w c), if_pos c2] at e; exact e.symm, fun c2 => ?_⟩⟩
  rw [if_neg (fun w => w c), if_neg c2] at e
  have := tke_le (tx := tx) hp
  exact ⟨this.2.1, f, by have := this.2.2 c2; omega, e⟩
/-! The machine's states are well made. -/
def stOk (s : Nat) (c : Sq) : Prop := (c.2.1 = 0 ∨ c.2.1 = 94 ∨ isTwo c.2.1) ∧ c.2.2.1 < 103 + s ∧ (isTwo c.2.1 → c.2.2.2 < 103 + s) ∧ (c.2.1 = 94 → c.2.2.2 ≤ 9) ∧ (c.2.1 = 0 → c.2.2.2 = 0)
def cntN (D : List Sq) : Nat := sumTo 23 (fun v => if lk1 D (v + 1) = 0 then 0 else 1)
def DOk (D : List Sq) : Prop := D.length ≤ 23 ∧ cntN D = D.length ∧ ∀ s, s < D.length → (1 ≤ (sq D s).1 ∧ (sq D s).1 ≤ 23) ∧ stOk s (sq D s)
def Wm (m : Mt) : Prop := m.1 ≤ 7 ∧ DOk m.2.1 ∧ (m.1 ≤ 1 → m.2.2 = (0, 0, 0, 0)) ∧ (2 ≤ m.1 → (1 ≤ m.2.2.1 ∧ m.2.2.1 ≤ 23) ∧ lk1 m.2.1 m.2.2.1 = 0 ∧ m.2.1.length ≤ 22) ∧ (m.1 ≤ 3 → m.2.2.2 = (0, 0, 0)) ∧ (4 ≤ m.1 → m.2.2.2.2.1 < 103 + m.2.1.length) ∧ (m.1 ≤ 6 → m.2.2.2.2.2 = 0) ∧ (m.1 = 4 → m.2.2.2.1 = 0) ∧ (m.1 = 5 → isTwo m.2.2.2.1) ∧ (m.1 = 6 → m.2.2.2.1 = 94) ∧ (m.1 = 7 → stOk m.2.1.length m.2.2)
theorem lkp_le {D : List Sq} {nm : Nat} : ∀ k, lkp D nm k ≤ k := by
  intro k
  induction k with
  | zero => exact Nat.le_refl _
  | succ k ih => unfold lkp; split; split <;> omega; omega
theorem lkp_at {D : List Sq} {nm : Nat} : ∀ k, lkp D nm k ≠ 0 → (sq D (lkp D nm k - 1)).1 = nm := by
  intro k
  induction k with
  | zero => intro h; exact absurd rfl h
  | succ k ih =>
    intro h
    unfold lkp at h ⊢
    by_cases c : lkp D nm k = 0
    · rw [if_pos c] at h ⊢
      by_cases c2 : (sq D k).1 = nm
      · rw [if_pos c2, Nat.add_sub_cancel]; exact c2
      · rw [if_neg c2] at h; exact absurd rfl h
    · rw [if_neg c]; exact ih c
theorem sq_l {D : List Sq} {c : Sq} {s : Nat} (h : s < D.length) : sq (D ++ [c]) s = sq D s := by
  unfold sq
  rw [List.getD_eq_getElem?_getD, List.getD_eq_getElem?_getD, List.getElem?_append_left h]
theorem sq_r {D : List Sq} {c : Sq} : sq (D ++ [c]) D.length = c := by simp [sq, List.getD]
theorem lkp_app {D : List Sq} {c : Sq} {nm : Nat} : ∀ k, k ≤ D.length → lkp (D ++ [c]) nm k = lkp D nm k := by
  intro k
  induction k with
  | zero => intro _; rfl
  | succ k ih => intro h; unfold lkp; rw [ih (by omega), sq_l (by omega)]
theorem lk1_app {D : List Sq} {c : Sq} {nm : Nat} : lk1 (D ++ [c]) nm = if lk1 D nm = 0 then (if c.1 = nm then D.length + 1 else 0) else lk1 D nm := by
  show lkp (D ++ [c]) nm (D ++ [c]).length = _
  rw [List.length_append, List.length_singleton, lkp, lkp_app _ (Nat.le_refl _), sq_r]
theorem cnt_new {D : List Sq} {nm : Nat} (h1 : 1 ≤ nm ∧ nm ≤ 23) (h : lk1 D nm = 0) : cntN D ≤ 22 := by
  unfold cntN
  rw [sumTo_pick (k := nm - 1) _ (by omega), show nm - 1 + 1 = nm by omega, if_pos h, Nat.add_zero, sumTo_pick (k := nm - 1) _ (by omega), if_pos rfl, Nat.add_zero]
  have key : ∀ (m k : Nat) (f : Nat → Nat), k < m → (∀ i, f i ≤ 1) → sumTo m (fun i => if i = k then 0 else f i) ≤ m - 1 := by
    intro m
    induction m with
    | zero => intro k f hk; omega
    | succ m ih =>
      intro k f hk hf
      rw [sumTo]
      by_cases e : m = k
      · rw [if_pos e]
        have := sumTo_le (n := m) (B := 1) (f := fun i => if i = k then 0 else f i) (fun i _ => by split; omega; exact hf i)
        omega
      · rw [if_neg e]
        have := ih k f (by omega) hf
        have := hf m
        omega
  have := key 23 (nm - 1) (fun i => if i = nm - 1 then 0 else if lk1 D (i + 1) = 0 then 0 else 1) (by omega) (fun i => by split; omega; split <;> omega)
  exact this
theorem cnt_app {D : List Sq} {c : Sq} (h1 : 1 ≤ c.1 ∧ c.1 ≤ 23) (h : lk1 D c.1 = 0) : cntN (D ++ [c]) = cntN D + 1 := by
  unfold cntN
  rw [sumTo_pick (k := c.1 - 1) (fun v => if lk1 (D ++ [c]) (v + 1) = 0 then 0 else 1) (by omega), sumTo_pick (k := c.1 - 1) (fun v => if lk1 D (v + 1) = 0 then 0 else 1) (by omega)]
  rw [show c.1 - 1 + 1 = c.1 by omega, lk1_app, if_pos h, if_pos rfl, if_neg (by omega)]
  have e : sumTo 23 (fun i => if i = c.1 - 1 then 0 else if lk1 (D ++ [c]) (i + 1) = 0 then 0 else 1) = sumTo 23 (fun i => if i = c.1 - 1 then 0 else if lk1 D (i + 1) = 0 then 0 else 1) := sumTo_congr (fun i hi => by
    by_cases g : i = c.1 - 1
    · rw [if_pos g, if_pos g]
    · rw [if_neg g, if_neg g, lk1_app, if_neg (show ¬ c.1 = i + 1 by omega)]
      by_cases g2 : lk1 D (i + 1) = 0
      · rw [if_pos g2, if_pos rfl, if_pos g2]
      · rw [if_neg g2])
  rw [e, if_pos h, Nat.add_zero]
theorem stOk.mo {s t : Nat} {c : Sq} (h : stOk s c) (e : s ≤ t) : stOk t c := ⟨h.1, by have := h.2.1; omega, fun w => by have := h.2.2.1 w; omega, h.2.2.2.1, h.2.2.2.2⟩
theorem DOk.push {D : List Sq} {c : Sq} (h : DOk D) (h1 : 1 ≤ c.1 ∧ c.1 ≤ 23) (h2 : lk1 D c.1 = 0) (h3 : D.length ≤ 22) (ok : stOk D.length c) : DOk (D ++ [c]) := by
  obtain ⟨a1, a2, a3⟩ := h
  have ll : (D ++ [c]).length = D.length + 1 := by rw [List.length_append, List.length_singleton]
  refine ⟨by omega, by rw [cnt_app h1 h2, ll, a2], fun s hs => ?_⟩
  by_cases e : s < D.length
  · rw [sq_l e]; exact a3 s e
  · have e2 : s = D.length := by omega
    rw [e2, sq_r]; exact ⟨h1, ok⟩
theorem dok_nil : DOk [] := by
  refine ⟨by simp, ?_, fun s hs => absurd hs (by simp)⟩
  unfold cntN
  exact sumTo_zero (fun v _ => by rw [if_pos]; rfl)
theorem wm_0 : Wm (0, [], (0, 0, 0, 0)) := ⟨by simp, dok_nil, fun _ => rfl, fun h => absurd h (by simp), fun _ => rfl, fun h => absurd h (by simp), fun _ => rfl, fun h => absurd h (by simp), fun h => absurd h (by simp), fun h => absurd h (by simp), fun h => absurd h (by simp)⟩
/-- a token that is taken leaves a state that is well made -/
theorem Wm.tk {m : Mt} {k v : Nat} (h : Wm m) (h0 : (tak m k v).1 = 0) : Wm (tak m k v).2 := by
  obtain ⟨q, D, c⟩ := m
  obtain ⟨w1, w2, w3, w4, w5, w6, w7, w8, w9, wa, wb⟩ := h
  simp only at w1 w2 w3 w4 w5 w6 w7 w8 w9 wa wb
  -- the end of a step
  have eE : 4 ≤ q → (q = 4 ∨ q = 7) → (tkE q D c k).1 = 0 → Wm (tkE q D c k).2 := fun g4 g h => by
    unfold tkE at h ⊢
    split at h
    · exact absurd h (by simp)
    · rename_i hk
      rw [if_neg hk]
      obtain ⟨n1, n2, n3⟩ := w4 (by omega)
      have ok : stOk D.length c := by
        rcases g with g | g
        · have s0 := w8 g
          have r0 := w7 (by omega)
          refine ⟨Or.inl s0, w6 g4, fun t => ?_, fun t => by omega, fun _ => r0⟩
          unfold isTwo at t; omega
        · exact wb g
      exact ⟨by simp, w2.push n1 n2 n3 ok, fun _ => rfl, fun t => absurd t (by simp), fun _ => rfl, fun t => absurd t (by simp), fun _ => rfl, fun t => absurd t (by simp), fun t => absurd t (by simp), fun t => absurd t (by simp), fun t => absurd t (by simp)⟩
  unfold tak at h0 ⊢
  simp only at h0 ⊢
  by_cases q1 : q ≤ 1
  · rw [if_pos q1] at h0 ⊢
    unfold tkN at h0 ⊢
    by_cases c1 : k = 257 ∧ q = 1
    · rw [if_pos c1]; exact ⟨w1, w2, w3, w4, w5, w6, w7, w8, w9, wa, wb⟩
    · rw [if_neg c1] at h0 ⊢
      by_cases c2 : k < 97 ∨ 119 < k
      · rw [if_pos c2] at h0; exact absurd h0 (by simp)
      · rw [if_neg c2] at h0 ⊢
        by_cases c3 : lk1 D (k - 96) ≠ 0
        · rw [if_pos c3] at h0; exact absurd h0 (by simp)
        · rw [if_neg c3]
          have c3 : lk1 D (k - 96) = 0 := Classical.byContradiction c3
          have := cnt_new (D := D) (nm := k - 96) (by omega) c3
          exact ⟨by simp, w2, fun t => absurd t (by simp), fun _ => ⟨by simp only; omega, c3, by have := w2.2.1; simp only; omega⟩, fun _ => rfl, fun t => absurd t (by simp), fun _ => rfl, fun t => absurd t (by simp), fun t => absurd t (by simp), fun t => absurd t (by simp), fun t => absurd t (by simp)⟩
  · rw [if_neg q1] at h0 ⊢
    have n4 := w4 (by omega)
    by_cases q2 : q = 2
    · rw [if_pos q2] at h0 ⊢
      by_cases c1 : k = 61
      · rw [if_pos c1]
        exact ⟨by simp, w2, fun t => absurd t (by simp), fun _ => n4, fun _ => w5 (by omega), fun t => absurd t (by simp), fun _ => w7 (by omega), fun t => absurd t (by simp), fun t => absurd t (by simp), fun t => absurd t (by simp), fun t => absurd t (by simp)⟩
      · rw [if_neg c1] at h0; exact absurd h0 (by simp)
    · rw [if_neg q2] at h0 ⊢
      by_cases q3 : q = 3 ∨ q = 5
      · rw [if_pos q3] at h0 ⊢
        -- an atom
        have at_ : ∀ a, a < 103 + D.length → Wm (stQ q D c a) := fun a ha => by
          unfold stQ
          by_cases q33 : q = 3
          · rw [if_pos q33]
            have e5 := w5 (by omega)
            exact ⟨by simp, w2, fun t => absurd t (by simp), fun _ => n4, fun t => absurd t (by simp), fun _ => ha, fun _ => w7 (by omega), fun _ => by show c.2.1 = 0; rw [e5], fun t => absurd t (by simp), fun t => absurd t (by simp), fun t => absurd t (by simp)⟩
          · rw [if_neg q33]
            have s9 := w9 (by omega)
            exact ⟨by simp, w2, fun t => absurd t (by simp), fun _ => n4, fun t => absurd t (by simp), fun _ => w6 (by omega), fun t => absurd t (by simp), fun t => absurd t (by simp), fun t => absurd t (by simp), fun t => absurd t (by simp), fun _ => ⟨Or.inr (Or.inr s9), w6 (by omega), fun _ => ha, fun t => absurd t (isTwo_ne s9).2, fun t => absurd t (isTwo_ne s9).1⟩⟩
        unfold tkA at h0 ⊢
        by_cases c1 : k = 256
        · rw [if_pos c1] at h0 ⊢
          by_cases c2 : 99 < v
          · rw [if_pos c2] at h0; exact absurd h0 (by simp)
          · rw [if_neg c2]; exact at_ v (by omega)
        · rw [if_neg c1] at h0 ⊢
          by_cases c2 : k < 97 ∨ 122 < k
          · rw [if_pos c2] at h0; exact absurd h0 (by simp)
          · rw [if_neg c2] at h0 ⊢
            by_cases c3 : 120 ≤ k
            · rw [if_pos c3]; exact at_ _ (by omega)
            · rw [if_neg c3] at h0 ⊢
              by_cases c4 : lk1 D (k - 96) = 0
              · rw [if_pos c4] at h0; exact absurd h0 (by simp)
              · rw [if_neg c4]
                have := lkp_le (D := D) (nm := k - 96) D.length
                exact at_ _ (by show 103 + (lkp D (k - 96) D.length - 1) < _; have : lkp D (k - 96) D.length ≠ 0 := c4; omega)
      · rw [if_neg q3] at h0 ⊢
        by_cases q4 : q = 4
        · rw [if_pos q4] at h0 ⊢
          unfold tkS at h0 ⊢
          by_cases c1 : k = 43 ∨ k = 45 ∨ k = 42 ∨ k = 94
          · rw [if_pos c1]
            by_cases c2 : k = 94
            · rw [if_pos c2]
              exact ⟨by simp, w2, fun t => absurd t (by simp), fun _ => n4, fun t => absurd t (by simp), fun _ => w6 (by omega), fun _ => w7 (by omega), fun t => absurd t (by simp), fun t => absurd t (by simp), fun _ => c2, fun t => absurd t (by simp)⟩
            · rw [if_neg c2]
              exact ⟨by simp, w2, fun t => absurd t (by simp), fun _ => n4, fun t => absurd t (by simp), fun _ => w6 (by omega), fun _ => w7 (by omega), fun t => absurd t (by simp), fun _ => by unfold isTwo; show k = 43 ∨ k = 45 ∨ k = 42; omega, fun t => absurd t (by simp), fun t => absurd t (by simp)⟩
          · rw [if_neg c1] at h0 ⊢
            exact eE (by omega) (Or.inl q4) h0
        · rw [if_neg q4] at h0 ⊢
          by_cases q6 : q = 6
          · rw [if_pos q6] at h0 ⊢
            unfold tkX at h0 ⊢
            by_cases c1 : k ≠ 256
            · rw [if_pos c1] at h0; exact absurd h0 (by simp)
            · rw [if_neg c1] at h0 ⊢
              by_cases c2 : 9 < v
              · rw [if_pos c2] at h0; exact absurd h0 (by simp)
              · rw [if_neg c2]
                have s9 := wa q6
                exact ⟨by simp, w2, fun t => absurd t (by simp), fun _ => n4, fun t => absurd t (by simp), fun _ => w6 (by omega), fun t => absurd t (by simp), fun t => absurd t (by simp), fun t => absurd t (by simp), fun t => absurd t (by simp), fun _ => ⟨Or.inr (Or.inl s9), w6 (by omega), fun t => absurd s9 (isTwo_ne t).2, fun _ => by show v ≤ 9; omega, fun t => by have t : c.2.1 = 0 := t; omega⟩⟩
          · rw [if_neg q6] at h0 ⊢
            exact eE (by omega) (Or.inr (by omega)) h0
/-! The class reads a token. -/
def sqC (D : List Sq) (c : Sq) (s : Nat) : Sq := if s < D.length then sq D s else if s = D.length then c else (0, 0, 0, 0)
/-- Reader and Program being told -/
def RdL (h0 : Nat) (S : HS) (g n : Nat) (tx : Nat → Nat) : Prop := hT S (g + 10) = 9 ∧ hP S (g + 10) 1 = some (h0 + 55) ∧ hI S (g + 10) 2 = ι n ∧ hP S (g + 10) 3 = some g ∧ hP S (g + 10) 4 = some (g + 11) ∧ hT S (g + 11) = 21 ∧ hN S (g + 11) = 23 ∧ hT S g = 8 ∧ (∀ f, 1 ≤ f → f ≤ 4 → hP S g f = some (g + f) ∧ hT S (g + f) = 21 ∧ hN S (g + f) = 23) ∧ hT S (h0 + 55) = 21 ∧ hN S (h0 + 55) = 200 ∧ (∀ i, i < n → hI S (h0 + 55) i = ι (tx i) ∧ tx i < 256) ∧ n ≤ 200 ∧ h0 + 56 ≤ g ∧ g + 12 ≤ hX S
def RdM (S : HS) (g : Nat) (m : Mt) : Prop := hI S (g + 10) 8 = ι m.1 ∧ hI S g 0 = ι m.2.1.length ∧ (∀ s, s < 23 → hI S (g + 1) s = ι (sqC m.2.1 m.2.2 s).1 ∧ hI S (g + 2) s = ι (sqC m.2.1 m.2.2 s).2.1 ∧ hI S (g + 3) s = ι (sqC m.2.1 m.2.2 s).2.2.1 ∧ hI S (g + 4) s = ι (sqC m.2.1 m.2.2 s).2.2.2) ∧ ∀ v, v < 23 → hI S (g + 11) v = if lk1 m.2.1 (v + 1) = 0 then -1 else ι (lk1 m.2.1 (v + 1) - 1)
/-- what reading writes -/
def W8 (g b k : Nat) : Prop := (b = g + 10 ∧ (k = 0 ∨ k = 5 ∨ k = 6 ∨ k = 7 ∨ k = 8)) ∨ (b = g ∧ k = 0) ∨ (g + 1 ≤ b ∧ b ≤ g + 4) ∨ b = g + 11
def W8t (g b k : Nat) : Prop := b = g + 10 ∧ (k = 0 ∨ k = 5 ∨ k = 6 ∨ k = 7)
section RTK
variable {M : Nat × Nat} {S S1 S2 : HS} {K : Int32 → HS → Prop} {h0 g n p : Nat} {tx : Nat → Nat} {m : Mt}
theorem W8t.w {b k : Nat} (h : W8t g b k) : W8 g b k := by unfold W8t at h; unfold W8; omega
theorem RdL.go (h : RdL h0 S1 g n tx) (e : Ext S1 S2 (W8 g) V0) : RdL h0 S2 g n tx := by
  obtain ⟨a1, a2, a3, a4, a5, a6, a7, a8, a9, b1, b2, b3, b4, b5, b6⟩ := h
  have q0 := e.2.2.1 g (by omega)
  have q10 := e.2.2.1 (g + 10) (by omega)
  have q11 := e.2.2.1 (g + 11) (by omega)
  have q54 := e.2.2.1 (h0 + 55) (by omega)
  refine ⟨by rw [q10.1]; exact a1, by rw [q10.2.2.2 1 (fun c => c)]; exact a2, by rw [q10.2.2.1 2 (by unfold W8; omega)]; exact a3, by rw [q10.2.2.2 3 (fun c => c)]; exact a4, by rw [q10.2.2.2 4 (fun c => c)]; exact a5, by rw [q11.1]; exact a6, by rw [q11.2.1]; exact a7, by rw [q0.1]; exact a8, fun f f1 f2 => ?_, by rw [q54.1]; exact b1, by rw [q54.2.1]; exact b2, fun i hi => by rw [q54.2.2.1 i (by unfold W8; omega)]; exact b3 i hi, b4, b5, by have := e.1; omega⟩
  have qf := e.2.2.1 (g + f) (by omega)
  rw [q0.2.2.2 f (fun c => c), qf.1, qf.2.1]
  exact a9 f f1 f2
theorem RdM.go (h : RdM S1 g m) (hl : RdL h0 S1 g n tx) (e : Ext S1 S2 (W8t g) V0) : RdM S2 g m := by
  obtain ⟨a1, a2, a3, a4⟩ := h
  have b6 := hl.2.2.2.2.2.2.2.2.2.2.2.2.2.2
  have q0 := e.2.2.1 g (by omega)
  have q10 := e.2.2.1 (g + 10) (by omega)
  have q11 := e.2.2.1 (g + 11) (by omega)
  refine ⟨by rw [q10.2.2.1 8 (by unfold W8t; omega)]; exact a1, by rw [q0.2.2.1 0 (by unfold W8t; omega)]; exact a2, fun s hs => ?_, fun v hv => by rw [q11.2.2.1 v (by unfold W8t; omega)]; exact a4 v hv⟩
  rw [(e.2.2.1 (g + 1) (by omega)).2.2.1 s (by unfold W8t; omega), (e.2.2.1 (g + 2) (by omega)).2.2.1 s (by unfold W8t; omega), (e.2.2.1 (g + 3) (by omega)).2.2.1 s (by unfold W8t; omega), (e.2.2.1 (g + 4) (by omega)).2.2.1 s (by unfold W8t; omega)]
  exact a3 s hs
theorem c_isFig {x : Int32} {b : Nat} (hb : b < 256) (hx : x = ι b) (h1 : 48 ≤ b ∧ b ≤ 57 → K 1 S) (hn : ¬ (48 ≤ b ∧ b ≤ 57) → K 0 S) : wp_X8_isFigure M x S K := by
  subst hx
  unfold wp_X8_isFigure
  rw [show (48 : Int32) = ι 48 from rfl, show (57 : Int32) = ι 57 from rfl, ι_lt (by omega) (by omega), ι_lt (by omega) (by omega)]
  exact ⟨fun c => hn (by omega), fun c => ⟨fun c2 => hn (by omega), fun c2 => h1 (by omega)⟩⟩
/-- figures -/
theorem c_readNum {s : Nat} (hl : RdL h0 S g n tx) (hs : s ≤ n) (h5 : hI S (g + 10) 5 = ι s) (h : ∀ S', Ext S S' (W8t g) V0 → hX S' = hX S → hS S' = hS S → hI S' (g + 10) 0 = hI S (g + 10) 0 → hI S' (g + 10) 6 = hI S (g + 10) 6 → hI S' (g + 10) 5 = ι (skf tx (n - s) s) → hI S' (g + 10) 7 = ι (nuv tx s (skf tx (n - s) s - s)) → K 0 S') : wp_X8_readNumber M (g + 10) S K := by
  have n2 := hl.2.2.2.2.2.2.2.2.2.2.2.2.1
  have loop : ∀ (r q : Nat) (S1 : HS), q + r = n → s ≤ q → skf tx (n - s) s = skf tx r q → Ext S S1 (W8t g) V0 → hX S1 = hX S → hS S1 = hS S → hI S1 (g + 10) 0 = hI S (g + 10) 0 → hI S1 (g + 10) 6 = hI S (g + 10) 6 → hI S1 (g + 10) 5 = ι q → hI S1 (g + 10) 7 = ι (nuv tx s (q - s)) → wl_X8_readNumber_5 M K (r + 1) (g + 10) S1 := by
    intro r
    induction r with
    | zero =>
      intro q S1 hq hsq e x1 y1 z1 i0 i6 i5 i7
      have l1 := hl.go (x1.mo (fun b k w => w.w) (fun _ _ c => c))
      show wb_X8_readNumber_5 _ _ _ _ _
      unfold wb_X8_readNumber_5
      rw [l1.2.2.1, i5, ι_le (by omega) (by omega)]
      refine ⟨l1.1, l1.1, fun _ => h S1 x1 y1 z1 i0 i6 (by rw [i5, e]; rfl) (by rw [i7, e]; rfl), fun c => absurd (by omega) c⟩
    | succ r ih =>
      intro q S1 hq hsq e x1 y1 z1 i0 i6 i5 i7
      have l1 := hl.go (x1.mo (fun b k w => w.w) (fun _ _ c => c))
      obtain ⟨a1, a2, a3, a4, a5, a6, a7, a8, a9, b1, b2, b3, b4, b5, b6⟩ := l1
      have bq := b3 q (by omega)
      show wb_X8_readNumber_5 _ _ _ _ _
      unfold wb_X8_readNumber_5
      rw [a3, i5, ι_le (by omega) (by omega), ι_cl (by omega)]
      refine ⟨a1, a1, fun c => absurd c (by omega), fun _ => ⟨a1, h0 + 55, a2, a1, b1, by rw [b2]; exact ι_in (by omega) (by omega), ?_⟩⟩
      refine c_isFig bq.2 bq.1 (fun fg => ⟨fun c => absurd c (by decide), fun _ => ⟨a1, a1, h0 + 55, a2, a1, b1, ?_⟩⟩) (fun nf => ⟨fun _ => h S1 x1 y1 z1 i0 i6 ?_ ?_, fun c => absurd rfl c⟩)
      · rw [i5, ι_cl (by omega), b2, bq.1, i7]
        have nl := nuv_le (tx := tx) (s := s) (q - s)
        have v : (if 1000 < (ι (nuv tx s (q - s)) * 10 + ι (tx q)) - 48 then (1000 : Int32) else (ι (nuv tx s (q - s)) * 10 + ι (tx q)) - 48) = ι (nuv tx s (q + 1 - s)) := by
          rw [show (10 : Int32) = ι 10 from rfl, show (1000 : Int32) = ι 1000 from rfl, show (48 : Int32) = ι 48 from rfl, ι_mul, ι_add, ι_sub (by omega), show q + 1 - s = q - s + 1 by omega, nuv, show s + (q - s) = q by omega]
          by_cases c : 1000 < nuv tx s (q - s) * 10 + tx q - 48
          · rw [if_pos (by rw [ι_lt (by omega) (by omega)]; exact c)]; congr 1; omega
          · rw [if_neg (by rw [ι_lt (by omega) (by omega)]; exact c)]; congr 1; omega
        rw [v]
        refine ⟨ι_in (by omega) (by omega), a1, a1, a1, ih (q + 1) _ (by omega) (by omega) ?_ ((x1.sI (Or.inr (Or.inr (Or.inr rfl)) |> fun t => ⟨rfl, t⟩)).sI ⟨rfl, Or.inr (Or.inl rfl)⟩) y1 z1 ?_ ?_ ?_ ?_⟩
        · rw [e, skf, if_pos fg]
        · rw [sI_eq, if_neg (by omega), sI_eq, if_neg (by omega)]; exact i0
        · rw [sI_eq, if_neg (by omega), sI_eq, if_neg (by omega)]; exact i6
        · rw [sI_eq, if_pos rfl, sI_eq, if_neg (by omega), i5, show (1 : Int32) = ι 1 from rfl, ι_add]
        · rw [sI_eq, if_neg (by omega), sI_eq, if_pos rfl]
      · rw [i5, e, skf, if_neg nf]
      · rw [i7, e, skf, if_neg nf]
  unfold wp_X8_readNumber
  have e0 : Ext S (sI S (g + 10) 7 0) (W8t g) V0 := (Ext.rf S _ _).sI ⟨rfl, Or.inr (Or.inr (Or.inr rfl))⟩
  refine ⟨hl.1, n - s + 1, loop (n - s) s _ (by omega) (Nat.le_refl _) rfl e0 rfl rfl ?_ ?_ ?_ ?_⟩
  · rw [sI_eq, if_neg (by omega)]
  · rw [sI_eq, if_neg (by omega)]
  · rw [sI_eq, if_neg (by omega)]; exact h5
  · rw [sI_eq, if_pos rfl, Nat.sub_self]; rfl
theorem c_readToken (hl : RdL h0 S g n tx) (hp : p ≤ n) (h5 : hI S (g + 10) 5 = ι p) (h : ∀ S', Ext S S' (W8t g) V0 → hX S' = hX S → hS S' = hS S → hI S' (g + 10) 0 = ι (tks tx n p) → hI S' (g + 10) 5 = ι (tke tx n p) → hI S' (g + 10) 6 = ι (tkc tx n p) → (tkc tx n p = 256 → hI S' (g + 10) 7 = ι (tkv tx n p)) → K 0 S') : wp_X8_readToken M (g + 10) S K := by
  have n200 := hl.2.2.2.2.2.2.2.2.2.2.2.2.1
  -- behind the blanks
  have fin : ∀ (S1 : HS) (s : Nat), s ≤ n → s = tks tx n p → Ext S S1 (W8t g) V0 → hX S1 = hX S → hS S1 = hS S → hI S1 (g + 10) 5 = ι s → w_X8_readToken_52 M K (g + 10) S1 := by
    intro S1 s hs es x1 y1 z1 i5
    have l1 := hl.go (x1.mo (fun b k w => w.w) (fun _ _ c => c))
    have e2 : Ext S (sI S1 (g + 10) 0 (ι s)) (W8t g) V0 := x1.sI ⟨rfl, Or.inl rfl⟩
    have l2 := hl.go (e2.mo (fun b k w => w.w) (fun _ _ c => c))
    have j5 : hI (sI S1 (g + 10) 0 (ι s)) (g + 10) 5 = ι s := by rw [sI_eq, if_neg (by omega)]; exact i5
    have j0 : hI (sI S1 (g + 10) 0 (ι s)) (g + 10) 0 = ι s := by rw [sI_eq, if_pos rfl]
    unfold w_X8_readToken_52
    rw [i5, j5, l2.2.2.1, ι_lt (by omega) (by omega), ι_cl (by omega)]
    have y2 : hX (sI S1 (g + 10) 0 (ι s)) = hX S := y1
    have z2 : hS (sI S1 (g + 10) 0 (ι s)) = hS S := z1
    have t9 := l1.1
    generalize sI S1 (g + 10) 0 (ι s) = S2 at e2 l2 j5 j0 y2 z2 ⊢
    obtain ⟨a1, a2, a3, a4, a5, a6, a7, a8, a9, b1, b2, b3, b4, b5, b6⟩ := l2
    have ec : tke tx n p = (if n ≤ s then s else if 48 ≤ tx s ∧ tx s ≤ 57 then skf tx (n - s) s else s + 1) ∧ tkc tx n p = (if n ≤ s then 257 else if 48 ≤ tx s ∧ tx s ≤ 57 then 256 else tx s) := by unfold tke tkc; rw [← es]; exact ⟨rfl, rfl⟩
    obtain ⟨ec1, ec2⟩ := ec
    refine ⟨t9, t9, a1, a1, fun lt => ⟨a1, h0 + 55, a2, a1, b1, by rw [b2]; exact ι_in (by omega) (by omega), ?_⟩, fun ge => ⟨a1, h _ (e2.sI ⟨rfl, Or.inr (Or.inr (Or.inl rfl))⟩) y2 z2 ?_ ?_ ?_ (fun c => ?_)⟩⟩
    · have bs := b3 s lt
      rw [if_neg (c := n ≤ s) (by omega)] at ec1 ec2
      refine c_isFig bs.2 bs.1 (fun fg => ⟨fun c => absurd c (by decide), fun _ => ⟨a1, a1, ?_⟩⟩) (fun nf => ⟨fun _ => ⟨a1, h0 + 55, a2, a1, b1, ?_⟩, fun c => absurd rfl c⟩)
      · rw [if_pos (c := 48 ≤ tx s ∧ tx s ≤ 57) fg] at ec1 ec2
        have e3 : Ext S (sI S2 (g + 10) 6 256) (W8t g) V0 := e2.sI ⟨rfl, Or.inr (Or.inr (Or.inl rfl))⟩
        have l3 := hl.go (e3.mo (fun b k w => w.w) (fun _ _ c => c))
        refine c_readNum l3 (s := s) hs (by rw [sI_eq, if_neg (by omega)]; exact j5) (fun S4 e4 x4 y4 k0 k6 k5 k7 => h S4 (e3.tr e4) (by rw [x4]; exact y2) (by rw [y4]; exact z2) ?_ ?_ ?_ (fun _ => ?_))
        · rw [k0, sI_eq, if_neg (by omega), j0, es]
        · rw [k5, ec1]
        · rw [k6, sI_eq, if_pos rfl, ec2]; rfl
        · rw [k7]; unfold tkv; rw [ec1, ← es]
      · rw [if_neg (c := 48 ≤ tx s ∧ tx s ≤ 57) nf] at ec1 ec2
        rw [j5, ι_cl (by omega), bs.1]
        refine ⟨by rw [b2]; exact ι_in (by omega) (by omega), a1, a1, a1, h _ ((e2.sI ⟨rfl, Or.inr (Or.inr (Or.inl rfl))⟩).sI ⟨rfl, Or.inr (Or.inl rfl)⟩) y2 z2 ?_ ?_ ?_ (fun c => ?_)⟩
        · rw [sI_eq, if_neg (by omega), sI_eq, if_neg (by omega), j0, es]
        · rw [sI_eq, if_pos rfl, sI_eq, if_neg (by omega), j5, show (1 : Int32) = ι 1 from rfl, ι_add, ec1]
        · rw [sI_eq, if_neg (by omega), sI_eq, if_pos rfl, ec2]
        · rw [ec2] at c; omega
    · rw [sI_eq, if_neg (by omega), j0, es]
    · rw [sI_eq, if_neg (by omega), j5, ec1, if_pos (by omega)]
    · rw [sI_eq, if_pos rfl, ec2, if_pos (by omega)]; rfl
    · rw [ec2, if_pos (by omega)] at c; omega
  have loop : ∀ (r q : Nat) (S1 : HS), q + r = n → tks tx n p = skb tx r q → Ext S S1 (W8t g) V0 → hX S1 = hX S → hS S1 = hS S → hI S1 (g + 10) 5 = ι q → wl_X8_readToken_0 M K (r + 1) (g + 10) S1 := by
    intro r
    induction r with
    | zero =>
      intro q S1 hq e x1 y1 z1 i5
      have l1 := hl.go (x1.mo (fun b k w => w.w) (fun _ _ c => c))
      show wb_X8_readToken_0 _ _ _ _ _
      unfold wb_X8_readToken_0
      rw [l1.2.2.1, i5, ι_le (by omega) (by omega)]
      exact ⟨l1.1, l1.1, fun _ => fin S1 q (by omega) e.symm x1 y1 z1 i5, fun c => absurd (by omega) c⟩
    | succ r ih =>
      intro q S1 hq e x1 y1 z1 i5
      have l1 := hl.go (x1.mo (fun b k w => w.w) (fun _ _ c => c))
      obtain ⟨a1, a2, a3, a4, a5, a6, a7, a8, a9, b1, b2, b3, b4, b5, b6⟩ := l1
      have bq := b3 q (by omega)
      have e39 : tx q = 32 ∨ tx q = 10 → w_X8_readToken_39 M (wl_X8_readToken_0 M K (r + 1)) K (g + 10) S1 := fun bl => by
        refine ⟨a1, a1, ih (q + 1) _ (by omega) ?_ (x1.sI ⟨rfl, Or.inr (Or.inl rfl)⟩) y1 z1 ?_⟩
        · rw [e, skb, if_pos bl]
        · rw [sI_eq, if_pos rfl, i5, show (1 : Int32) = ι 1 from rfl, ι_add]
      show wb_X8_readToken_0 _ _ _ _ _
      unfold wb_X8_readToken_0
      rw [a3, i5, ι_le (by omega) (by omega), ι_cl (by omega)]
      refine ⟨a1, a1, fun c => absurd c (by omega), fun _ => ⟨a1, h0 + 55, a2, a1, b1, by rw [b2]; exact ι_in (by omega) (by omega), ?_⟩⟩
      rw [bq.1, show (32 : Int32) = ι 32 from rfl, ι_eq (by omega) (by omega)]
      refine ⟨fun c => e39 (Or.inl c), fun c => ⟨a1, h0 + 55, a2, a1, b1, by rw [b2]; exact ι_in (by omega) (by omega), ?_⟩⟩
      rw [bq.1, show (10 : Int32) = ι 10 from rfl, ι_eq (by omega) (by omega)]
      exact ⟨fun c2 => fin S1 q (by omega) (by rw [e, skb, if_neg (by omega)]) x1 y1 z1 i5, fun c2 => e39 (Or.inr c2)⟩
  exact ⟨n - p + 1, loop (n - p) p S (by omega) rfl (Ext.rf S _ _) rfl rfl h5⟩
end RTK
