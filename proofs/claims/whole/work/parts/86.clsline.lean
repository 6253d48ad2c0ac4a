/-! Lines in the class. -/
def fsL (l : Nat) : Nat := if l = 0 then 1 else 0
def scL (l : Nat) : Nat := if l = 2 then 1 else 2
/-- a line at q -/
def LnAt (S : HS) (q a b c d : Nat) : Prop := hT S q = 4 ∧ hI S q 0 = ι (led a b) ∧ hI S q 1 = ι (fsL (led a b)) ∧ hI S q 2 = ι (scL (led a b)) ∧ hI S q 3 = ι (l1 a b) ∧ hI S q 4 = ι (l2 a b c) ∧ hI S q 5 = ι d
/-- where a line is, by the two other variables -/
def exL (p s : Nat) : Nat := if s % p = 0 then 0 else p - s % p
theorem exL_lt {p s : Nat} (hp : 0 < p) : exL p s < p := by
  unfold exL
  split
  · exact hp
  · omega
theorem exL_iff {p s x : Nat} (hx : x < p) : (x + s) % p = 0 ↔ x = exL p s := by
  have hm := Nat.mod_lt s (show 0 < p by omega)
  unfold exL
  rw [Nat.add_mod, Nat.mod_eq_of_lt hx]
  generalize s % p = m at *
  by_cases c : x + m < p
  · rw [Nat.mod_eq_of_lt c]
    split <;> omega
  · rw [Nat.mod_eq_sub_mod (by omega), Nat.mod_eq_of_lt (by omega)]
    split <;> omega
theorem van_iff {p a b c d : Nat} {V : N3} (h : Ln p a b c d) : van p a b c d V ↔ ∀ i k, i < p → k < p → twN (led a b) V (exL p (i * l1 a b + k * l2 a b c + d)) i k = 0 := by
  have hp : 0 < p := by have := h.2; omega
  unfold van
  obtain ⟨h | h | h, hd⟩ := h
  · obtain ⟨rfl, hb, hc⟩ := h
    show _ ↔ ∀ i k, i < p → k < p → V (exL p (i * b + k * c + d)) i k = 0
    constructor
    · intro w i k hi hk
      refine w _ i k (exL_lt hp) hi hk ?_
      rw [show 1 * exL p (i * b + k * c + d) + b * i + c * k + d = exL p (i * b + k * c + d) + (i * b + k * c + d) by rw [Nat.one_mul, Nat.mul_comm b, Nat.mul_comm c]; omega]
      exact (exL_iff (exL_lt hp)).2 rfl
    · intro w x y z hx hy hz e
      rw [show 1 * x + b * y + c * z + d = x + (y * b + z * c + d) by rw [Nat.one_mul, Nat.mul_comm b, Nat.mul_comm c]; omega, exL_iff hx] at e
      rw [e]; exact w y z hy hz
  · obtain ⟨rfl, rfl, hc⟩ := h
    show _ ↔ ∀ i k, i < p → k < p → V i (exL p (i * 0 + k * c + d)) k = 0
    constructor
    · intro w i k hi hk
      refine w i _ k hi (exL_lt hp) hk ?_
      rw [show 0 * i + 1 * exL p (i * 0 + k * c + d) + c * k + d = exL p (i * 0 + k * c + d) + (i * 0 + k * c + d) by rw [Nat.one_mul, Nat.mul_comm c]; omega]
      exact (exL_iff (exL_lt hp)).2 rfl
    · intro w x y z hx hy hz e
      rw [show 0 * x + 1 * y + c * z + d = y + (x * 0 + z * c + d) by rw [Nat.one_mul, Nat.mul_comm c]; omega, exL_iff hy] at e
      rw [e]; exact w x z hx hz
  · obtain ⟨rfl, rfl, rfl⟩ := h
    show _ ↔ ∀ i k, i < p → k < p → V i k (exL p (i * 0 + k * 0 + d)) = 0
    constructor
    · intro w i k hi hk
      refine w i k _ hi hk (exL_lt hp) ?_
      rw [show 0 * i + 0 * k + 1 * exL p (i * 0 + k * 0 + d) + d = exL p (i * 0 + k * 0 + d) + (i * 0 + k * 0 + d) by omega]
      exact (exL_iff (exL_lt hp)).2 rfl
    · intro w x y z hx hy hz e
      rw [show 0 * x + 0 * y + 1 * z + d = z + (x * 0 + y * 0 + d) by omega, exL_iff hz] at e
      rw [e]; exact w x y hx hy
section CLN
variable {M : Nat × Nat} {S : HS} {K : Int32 → HS → Prop} {p q w a b c d : Nat}
/-- the stride of a variable -/
def strP (p v : Nat) : Nat := if v = 0 then p * p else if v = 1 then p else 1
theorem c_stride {v : Nat} (hv : v ≤ 2) (ht : hT S w = 6) (hp2 : hI S w 2 = ι p) (h : K (ι (strP p v)) S) : wp_X5_stride M w (ι v) S K := by
  unfold wp_X5_stride
  unfold strP at h
  rw [hp2, ι_mul, show (0 : Int32) = ι 0 from rfl, show (1 : Int32) = ι 1 from rfl, ι_eq (by omega) (by omega), ι_eq (by omega) (by omega)]
  refine ⟨fun c => ⟨fun c2 => ?_, fun c2 => ⟨ht, ?_⟩⟩, fun c => ⟨ht, ht, ?_⟩⟩
  · rw [if_neg c, if_neg c2] at h; exact h
  · rw [if_neg c, if_pos c2] at h; exact h
  · rw [if_pos c] at h; exact h
theorem str_ix {l e i k : Nat} (hl : l ≤ 2) : e * strP p l + i * strP p (fsL l) + k * strP p (scL l) = if l = 0 then (e * p + i) * p + k else if l = 1 then (i * p + e) * p + k else (i * p + k) * p + e := by
  have : l = 0 ∨ l = 1 ∨ l = 2 := by omega
  rcases this with rfl | rfl | rfl
  · show e * (p * p) + i * p + k * 1 = (e * p + i) * p + k
    rw [Nat.add_mul, Nat.mul_assoc, Nat.mul_one]
  · show e * p + i * (p * p) + k * 1 = (i * p + e) * p + k
    rw [Nat.add_mul, Nat.mul_assoc, Nat.mul_one]; omega
  · show e * 1 + i * (p * p) + k * p = (i * p + k) * p + e
    rw [Nat.add_mul, Nat.mul_assoc, Nat.mul_one]; omega
theorem c_isZeroOn {V : N3} (hpp : PrP p) (hln : Ln p a b c d) (hq : LnAt S q a b c d) (ht : hT S w = 6) (hP : hP S w 0 = some (w + 1)) (ht1 : hT S (w + 1) = 21) (hn1 : hN S (w + 1) = 2197) (hp2 : hI S w 2 = ι p) (hV : ∀ x y z, x < p → y < p → z < p → hI S (w + 1) ((x * p + y) * p + z) = ι (V x y z) ∧ V x y z < p) (h1 : van p a b c d V → K 1 S) (h0 : ¬ van p a b c d V → K 0 S) : wp_X5_isZeroOn M w q S K := by
  have hp := hpp.le
  obtain ⟨p3, p4⟩ := p3_le hpp
  rw [van_iff hln] at h1 h0
  obtain ⟨q0, q1, q2, q3, q4, q5, q6⟩ := hq
  have hl2 : led a b ≤ 2 := by unfold led; split; omega; split <;> omega
  have lb : l1 a b < p ∧ l2 a b c < p ∧ d < p := by
    obtain ⟨h | h | h, hd⟩ := hln
    · obtain ⟨rfl, hb, hc⟩ := h; exact ⟨hb, hc, hd⟩
    · obtain ⟨rfl, rfl, hc⟩ := h; exact ⟨by show 0 < p; omega, hc, hd⟩
    · obtain ⟨rfl, rfl, rfl⟩ := h; exact ⟨by show 0 < p; omega, by show 0 < p; omega, hd⟩
  generalize led a b = l at *
  generalize l1 a b = β at *
  generalize l2 a b c = γ at *
  have one : (1 : Int32) = ι 1 := rfl
  have nul : (0 : Int32) = ι 0 := rfl
  have cell : ∀ e i k, e < p → i < p → k < p → hI S (w + 1) (e * strP p l + i * strP p (fsL l) + k * strP p (scL l)) = ι (twN l V e i k) ∧ twN l V e i k < p ∧ e * strP p l + i * strP p (fsL l) + k * strP p (scL l) < 2197 := fun e i k he hi hk => by
    rw [str_ix hl2]
    unfold twN
    split
    · have := idx_lt he hi hk
      exact ⟨(hV e i k he hi hk).1, (hV e i k he hi hk).2, by omega⟩
    · split
      · have := idx_lt hi he hk
        exact ⟨(hV i e k hi he hk).1, (hV i e k hi he hk).2, by omega⟩
      · have := idx_lt hi hk he
        exact ⟨(hV i k e hi hk he).1, (hV i k e hi hk he).2, by omega⟩
  have kk : ∀ (K31 : Nat → Nat → Int32 → Int32 → Int32 → Int32 → HS → Prop) (i : Nat), i < p → ((∀ k, k < p → twN l V (exL p (i * β + k * γ + d)) i k = 0) → K31 w q (ι (strP p l)) (ι (strP p (fsL l))) (ι (strP p (scL l))) (ι (i + 1)) S) → ∀ m k, k + m = p → (∀ k', k' < k → twN l V (exL p (i * β + k' * γ + d)) i k' = 0) → wl_X5_isZeroOn_43 M K31 K (m + 1) w q (ι (strP p l)) (ι (strP p (fsL l))) (ι (strP p (scL l))) (ι i) (ι k) S := by
    intro K31 i hi hn m
    induction m with
    | zero =>
      intro k hk z1
      show wb_X5_isZeroOn_43 _ _ _ _ _ _ _ _ _ _ _ _
      unfold wb_X5_isZeroOn_43
      rw [hp2, ι_le (by omega) (by omega), one, ι_add]
      exact ⟨ht, fun _ => hn (fun k' hk' => z1 k' (by omega)), fun q => absurd (by omega) q⟩
    | succ m ih =>
      intro k hk z1
      have hkp : k < p := by omega
      have b1 := Nat.mul_le_mul (show i ≤ 12 by omega) (show β ≤ 12 by omega)
      have b2 := Nat.mul_le_mul (show k ≤ 12 by omega) (show γ ≤ 12 by omega)
      have he := exL_lt (p := p) (s := i * β + k * γ + d) (by omega)
      obtain ⟨c1, c2, c3⟩ := cell _ i k he hi hkp
      have hm := Nat.mod_lt (i * β + k * γ + d) (show 0 < p by omega)
      have fin : w_X5_isZeroOn_95 M K31 (wl_X5_isZeroOn_43 M K31 K (m + 1)) K w q (ι (strP p l)) (ι (strP p (fsL l))) (ι (strP p (scL l))) (ι i) (ι k) (ι (exL p (i * β + k * γ + d))) S := by
        unfold w_X5_isZeroOn_95
        rw [ι_mul, ι_mul, ι_mul, ι_add, ι_add, one, ι_add]
        refine ⟨ht, w + 1, hP, ht1, by rw [hn1]; exact ι_in c3 (by omega), ?_, ?_⟩
        · rw [ι_cl (by omega), c1, nul, ι_eq (by omega) (by omega)]
          exact fun z => ih (k + 1) (by omega) (fun k' hk' => by
            by_cases e : k' = k
            · rw [e]; exact z
            · exact z1 k' (by omega))
        · rw [ι_cl (by omega), c1, nul, ι_eq (by omega) (by omega)]
          exact fun z => h0 (fun w' => z (w' i k hi hkp))
      show wb_X5_isZeroOn_43 _ _ _ _ _ _ _ _ _ _ _ _
      unfold wb_X5_isZeroOn_43
      rw [hp2, q4, q5, q6, ι_le (by omega) (by omega), ι_mul, ι_mul, ι_add, ι_add, ι_rem (by omega) (by omega), nul, ι_eq (by omega) (by omega)]
      refine ⟨ht, fun q => absurd q (by omega), fun _ => ⟨q0, q0, q0, ht, by omega, fun v1 e1 => ?_⟩⟩
      rw [e1, ι_eq (by omega) (by omega), ι_sub (by omega)]
      unfold exL at fin
      refine ⟨fun z => ⟨ht, ?_⟩, fun z => ?_⟩
      · rw [if_neg z] at fin; exact fin
      · rw [if_pos z] at fin; exact fin
  have ki : ∀ m i, i + m = p → (∀ i' k, i' < i → k < p → twN l V (exL p (i' * β + k * γ + d)) i' k = 0) → wl_X5_isZeroOn_31 M K (m + 1) w q (ι (strP p l)) (ι (strP p (fsL l))) (ι (strP p (scL l))) (ι i) S := by
    intro m
    induction m with
    | zero =>
      intro i hi z1
      show wb_X5_isZeroOn_31 _ _ _ _ _ _ _ _ _ _
      unfold wb_X5_isZeroOn_31
      rw [hp2, ι_le (by omega) (by omega)]
      exact ⟨ht, fun _ => h1 (fun i' k hi' hk => z1 i' k (by omega) hk), fun q => absurd (by omega) q⟩
    | succ m ih =>
      intro i hi z1
      show wb_X5_isZeroOn_31 _ _ _ _ _ _ _ _ _ _
      unfold wb_X5_isZeroOn_31
      rw [hp2, ι_le (by omega) (by omega)]
      refine ⟨ht, fun q => absurd q (by omega), fun _ => ⟨p + 1, kk _ i (by omega) (fun z2 => ih (i + 1) (by omega) (fun i' k hi' hk => ?_)) p 0 (by omega) (fun k' hk' => absurd hk' (by omega))⟩⟩
      by_cases e : i' = i
      · rw [e]; exact z2 k hk
      · exact z1 i' k (by omega) hk
  unfold wp_X5_isZeroOn
  rw [q1]
  refine ⟨q0, ht, c_stride hl2 ht hp2 ⟨q0, ht, ?_⟩⟩
  rw [q2]
  refine c_stride (by unfold fsL; split <;> omega) ht hp2 ⟨q0, ht, ?_⟩
  rw [q3]
  exact c_stride (by unfold scL; split <;> omega) ht hp2 ⟨p + 1, ki p 0 (by omega) (fun i' k hi' _ => absurd hi' (by omega))⟩
end CLN
section CLS
variable {M : Nat × Nat} {S : HS} {K : Int32 → HS → Prop} {p q w a b c d : Nat}
/-- where a line is written -/
def Wl (q : Nat) (x _k : Nat) : Prop := x = q
theorem c_set (hp : 2 ≤ p ∧ p ≤ 13) (hln : Ln p a b c d) (ht : hT S q = 4) (h : ∀ S', Ext S S' (Wl q) V0 → hX S' = hX S → hS S' = hS S → LnAt S' q a b c d → K 0 S') : wp_X3_set M q (ι a) (ι b) (ι c) (ι d) S K := by
  have nul : (0 : Int32) = ι 0 := rfl
  have two : (2 : Int32) = ι 2 := rfl
  have abc : a < p ∧ b < p ∧ c < p ∧ d < p := by
    obtain ⟨h | h | h, hd⟩ := hln <;> omega
  have hl2 : led a b ≤ 2 := by unfold led; split; omega; split <;> omega
  have fin : ∀ v1 v2 v3 v4 : Int32, v1 = ι (fsL (led a b)) → v2 = ι (scL (led a b)) → v3 = ι (l1 a b) → v4 = ι (l2 a b c) → K 0 (sI (sI (sI (sI (sI (sI S q 0 (ι (led a b))) q 1 v1) q 2 v2) q 3 v3) q 4 v4) q 5 (ι d)) := fun v1 v2 v3 v4 e1 e2 e3 e4 => by
    refine h _ ((((((Ext.rf S (Wl q) V0).sI rfl).sI rfl).sI rfl).sI rfl).sI rfl |>.sI rfl) rfl rfl ⟨ht, ?_, ?_, ?_, ?_, ?_, ?_⟩ <;> simp only [sI_eq] <;> simp [e1, e2, e3, e4]
  have k67 : ∀ (v1 v2 v3 : Int32), v1 = ι (fsL (led a b)) → v2 = ι (scL (led a b)) → v3 = ι (l1 a b) → w_X3_set_67 M K q (ι c) (ι d) v3 q (sI (sI (sI S q 0 (ι (led a b))) q 1 v1) q 2 v2) := fun v1 v2 v3 e1 e2 e3 => by
    unfold w_X3_set_67
    rw [show hI (sI (sI (sI (sI S q 0 (ι (led a b))) q 1 v1) q 2 v2) q 3 v3) q 0 = ι (led a b) by simp only [sI_eq]; simp, two, ι_eq (by omega) (by omega)]
    refine ⟨ht, ht, fun g => ⟨ht, ht, fin v1 v2 v3 _ e1 e2 e3 ?_⟩, fun g => ⟨ht, ht, fin v1 v2 v3 _ e1 e2 e3 ?_⟩⟩
    · unfold l2
      unfold led at g
      by_cases g1 : a = 1
      · rw [if_pos g1]
      · rw [if_neg g1] at g ⊢
        by_cases g2 : b = 1
        · rw [if_pos g2]
        · rw [if_neg g2] at g; exact absurd rfl g
    · unfold l2
      unfold led at g
      by_cases g1 : a = 1
      · rw [if_pos g1] at g; exact absurd g (by decide)
      · rw [if_neg g1] at g ⊢
        by_cases g2 : b = 1
        · rw [if_pos g2] at g; exact absurd g (by decide)
        · rw [if_neg g2]; rfl
  have k51 : ∀ (v1 v2 : Int32), v1 = ι (fsL (led a b)) → v2 = ι (scL (led a b)) → w_X3_set_51 M K q (ι b) (ι c) (ι d) v2 q (sI (sI S q 0 (ι (led a b))) q 1 v1) := fun v1 v2 e1 e2 => by
    unfold w_X3_set_51
    rw [show hI (sI (sI (sI S q 0 (ι (led a b))) q 1 v1) q 2 v2) q 0 = ι (led a b) by simp only [sI_eq]; simp, nul, ι_eq (by omega) (by omega)]
    refine ⟨ht, ht, fun g => k67 v1 v2 _ e1 e2 ?_, fun g => k67 v1 v2 _ e1 e2 ?_⟩
    · unfold l1
      unfold led at g
      by_cases g1 : a = 1
      · rw [if_pos g1] at g; exact absurd rfl g
      · rw [if_neg g1]
    · unfold l1
      unfold led at g
      by_cases g1 : a = 1
      · rw [if_pos g1]
      · rw [if_neg g1] at g
        split at g <;> omega
  have k34 : ∀ (v1 : Int32), v1 = ι (fsL (led a b)) → w_X3_set_34 M K q (ι b) (ι c) (ι d) v1 q (sI S q 0 (ι (led a b))) := fun v1 e1 => by
    unfold w_X3_set_34
    rw [show hI (sI (sI S q 0 (ι (led a b))) q 1 v1) q 0 = ι (led a b) by simp only [sI_eq]; simp, two, ι_eq (by omega) (by omega)]
    refine ⟨ht, ht, fun g => k51 v1 _ e1 ?_, fun g => k51 v1 _ e1 ?_⟩
    · unfold scL; rw [if_neg g]
    · unfold scL; rw [if_pos g]; rfl
  have k18 : w_X3_set_18 M K q (ι b) (ι c) (ι d) (ι (led a b)) q S := by
    unfold w_X3_set_18
    rw [show hI (sI S q 0 (ι (led a b))) q 0 = ι (led a b) by rw [sI_eq, if_pos rfl], nul, ι_eq (by omega) (by omega)]
    refine ⟨ht, ht, fun g => k34 _ ?_, fun g => k34 _ ?_⟩
    · unfold fsL; rw [if_neg g]
    · unfold fsL; rw [if_pos g]; rfl
  unfold wp_X3_set
  rw [nul, ι_eq (by omega) (by omega), ι_eq (by omega) (by omega)]
  unfold led at k18
  refine ⟨fun g => ⟨fun g2 => ?_, fun g2 => ?_⟩, fun g => ?_⟩
  · rw [if_neg (by omega), if_neg (by omega)] at k18; exact k18
  · rw [if_neg (by omega), if_pos (by obtain ⟨h | h | h, hd⟩ := hln <;> omega)] at k18; exact k18
  · rw [if_pos (by obtain ⟨h | h | h, hd⟩ := hln <;> omega)] at k18; exact k18
/-- whether a line can go in, by the degrees -/
def cgo (D : Nat → Nat) (a b c : Nat) : Prop := 0 < D (led a b) ∧ (l1 a b = 0 ∨ 0 < D (fsL (led a b))) ∧ (l2 a b c = 0 ∨ 0 < D (scL (led a b)))
theorem c_canGoIn {D : Nat → Nat} {g : Nat} (hp : p ≤ 13) (hln : Ln p a b c d) (hq : LnAt S q a b c d) (ht : hT S w = 3) (hP : hP S w 8 = some g) (hg : hT S g = 21) (hgn : hN S g = 3) (hD : ∀ v, v ≤ 2 → hI S g v = ι (D v) ∧ D v ≤ 40) (h1 : cgo D a b c → K 1 S) (h0 : ¬ cgo D a b c → K 0 S) : wp_X2_canGoIn M w q S K := by
  have nul : (0 : Int32) = ι 0 := rfl
  obtain ⟨q0, q1, q2, q3, q4, q5, q6⟩ := hq
  have hl2 : led a b ≤ 2 := by unfold led; split; omega; split <;> omega
  have hf2 : fsL (led a b) ≤ 2 := by unfold fsL; split <;> omega
  have hs2 : scL (led a b) ≤ 2 := by unfold scL; split <;> omega
  have lb : l1 a b < p ∧ l2 a b c < p := by
    obtain ⟨h | h | h, hd⟩ := hln
    · obtain ⟨rfl, hb, hc⟩ := h; exact ⟨hb, hc⟩
    · obtain ⟨rfl, rfl, hc⟩ := h; exact ⟨by show 0 < p; omega, hc⟩
    · obtain ⟨rfl, rfl, rfl⟩ := h; exact ⟨by show 0 < p; omega, by show 0 < p; omega⟩
  have d0 := hD _ hl2
  have d1 := hD _ hf2
  have d2 := hD _ hs2
  unfold cgo at h1 h0
  unfold wp_X2_canGoIn
  rw [q1, q2, q4, ι_cl (by omega), ι_cl (by omega), nul, ι_eq (by omega) (by omega)]
  have k31 : 0 < D (led a b) → (l1 a b = 0 ∨ 0 < D (fsL (led a b))) → w_X2_canGoIn_31 M K w q S := fun g1 g2 => by
    unfold w_X2_canGoIn_31
    rw [q3, q5, ι_cl (by omega), nul, ι_eq (by omega) (by omega)]
    refine ⟨q0, fun g3 => h1 ⟨g1, g2, Or.inl g3⟩, fun g3 => ⟨ht, g, hP, q0, hg, by rw [hgn]; exact ι_in (by omega) (by omega), ?_, ?_⟩⟩
    · rw [d2.1, ι_le (by omega) (by omega)]; exact fun g4 => h0 (fun w => by omega)
    · rw [d2.1, ι_le (by omega) (by omega)]; exact fun g4 => h1 ⟨g1, g2, Or.inr (by omega)⟩
  refine ⟨ht, g, hP, q0, hg, by rw [hgn]; exact ι_in (by omega) (by omega), ?_, ?_⟩
  · rw [d0.1, ι_le (by omega) (by omega)]; exact fun g4 => h0 (fun w => by omega)
  · rw [d0.1, ι_le (by omega) (by omega)]
    refine fun g1 => ⟨q0, fun g3 => k31 (by omega) (Or.inl g3), fun g3 => ⟨ht, g, hP, q0, hg, by rw [hgn]; exact ι_in (by omega) (by omega), ?_, ?_⟩⟩
    · rw [d1.1, ι_le (by omega) (by omega)]; exact fun g4 => h0 (fun w => by omega)
    · rw [d1.1, ι_le (by omega) (by omega)]; exact fun g4 => k31 (by omega) (Or.inr (by omega))
end CLS
/-! hasOneDegree in the class. -/
theorem one_rt {L : Po} : (∀ i, i < L.length → dgt (rt L i) = dgt (rt L 0)) ↔ ∀ i, i < L.length → dgt (tm L i) = dgt (tm L 0) := by
  have fl : ∀ i, i < L.length → rt L (L.length - 1 - i) = tm L i := fun i hi => by
    show tm L (L.length - 1 - (L.length - 1 - i)) = tm L i
    rw [show L.length - 1 - (L.length - 1 - i) = i by omega]
  constructor
  · intro h i hi
    have h1 := h (L.length - 1 - i) (by omega)
    have h2 := h (L.length - 1 - 0) (by omega)
    rw [fl i hi] at h1
    rw [fl 0 (by omega)] at h2
    rw [h1, h2]
  · intro h i hi
    show dgt (tm L (L.length - 1 - i)) = dgt (tm L (L.length - 1 - 0))
    rw [h _ (by omega), h (L.length - 1 - 0) (by omega)]
theorem c_oneDegree {M : Nat × Nat} {a p : Nat} {L : Po} {S : HS} {K : Int32 → HS → Prop} (hw : wf p L) (pa : Rd S a L) (h1 : (∀ i, i < L.length → dgt (tm L i) = dgt (tm L 0)) → K 1 S) (h0 : (¬ ∀ i, i < L.length → dgt (tm L i) = dgt (tm L 0)) → K 0 S) : wp_X6_hasOneDegree M a S K := by
  rw [← one_rt] at h1 h0
  have hle := hw.1
  obtain ⟨a1, a2, a3, a4, a5, a6, a7, a8, a9, a10, a11, a12⟩ := pa
  have one : (1 : Int32) = ι 1 := rfl
  have sm1 : ∀ i, i < L.length → sm (rt L i) := fun i hi => hw.sm (by omega)
  have key : ∀ m i, L.length ≤ i + m → i ≤ 1 + L.length → (∀ j, j < i → j < L.length → dgt (rt L j) = dgt (rt L 0)) → wl_X6_hasOneDegree_2 M K (m + 1) a (ι i) S := by
    intro m
    induction m with
    | zero =>
      intro i hi hi2 z1
      show wb_X6_hasOneDegree_2 _ _ _ _ _ _
      unfold wb_X6_hasOneDegree_2
      rw [a11, ι_le (by omega) (by omega)]
      exact ⟨a2, fun _ => h1 (fun j hj => z1 j (by omega) hj), fun q => absurd (by omega) q⟩
    | succ m ih =>
      intro i hi hi2 z1
      show wb_X6_hasOneDegree_2 _ _ _ _ _ _
      unfold wb_X6_hasOneDegree_2
      rw [a11, ι_le (by omega) (by omega)]
      refine ⟨a2, fun q => h1 (fun j hj => z1 j (by omega) hj), fun q => ⟨a2, a + 1, a3, a5, ι_in (by omega) (by omega), ?_⟩⟩
      rw [ι_cl (by omega)]
      have s1 := sm1 i (by omega)
      have s0 := sm1 0 (by omega)
      refine c_degreeOf s1 (a12 i (by omega)).1 ⟨a2, a + 1, a3, a5, ι_in (a := 0) (by omega) (by omega), ?_⟩
      refine c_degreeOf s0 (a12 0 (by omega)).1 ?_
      have b1 : dgt (rt L i) ≤ 120 := by unfold dgt; have := s1; omega
      have b0 : dgt (rt L 0) ≤ 120 := by unfold dgt; have := s0; omega
      rw [ι_eq (by omega) (by omega), one, ι_add]
      refine ⟨fun e => ih (i + 1) (by omega) (by omega) (fun j hj hj2 => ?_), fun e => h0 (fun w => e (w i (by omega)))⟩
      by_cases c : j = i
      · rw [c]; exact e
      · exact z1 j (by omega) hj2
  exact ⟨L.length + 1, key L.length 1 (by omega) (by omega) (fun j hj _ => by rw [show j = 0 by omega])⟩
