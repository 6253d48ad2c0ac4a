/-! What is said. -/
def numT (n : Nat) : List Nat := if n < 10 then [48 + n] else [48 + n / 10, 48 + n % 10]
def varT (st : Bool) (v e : Nat) : List Nat := if e = 0 then [] else (if st then [42] else []) ++ [120 + v] ++ (if e = 1 then [] else 94 :: numT e)
def st0 (t : Tm) : Bool := decide (t.n ≠ 1 ∨ k6 t = 0)
def stv (st : Bool) (e : Nat) : Bool := st || decide (e ≠ 0)
def trmT (t : Tm) : List Nat := (if st0 t then numT t.n else []) ++ varT (st0 t) 0 t.x ++ varT (stv (st0 t) t.x) 1 t.y ++ varT (stv (stv (st0 t) t.x) t.y) 2 t.z
theorem numT_len (n : Nat) : (numT n).length ≤ 2 := by unfold numT; split <;> simp
theorem varT_len (st : Bool) (v e : Nat) : (varT st v e).length ≤ 5 := by
  have := numT_len e
  unfold varT
  split
  · simp
  · rw [List.length_append, List.length_append]
    have h1 : (if st = true then [42] else ([] : List Nat)).length ≤ 1 := by split <;> simp
    have h2 : (if e = 1 then [] else 94 :: numT e).length ≤ 3 := by
      split
      · simp
      · rw [List.length_cons]; omega
    simp only [List.length_singleton]
    omega
theorem trmT_len (t : Tm) : (trmT t).length ≤ 17 := by
  unfold trmT
  rw [List.length_append, List.length_append, List.length_append]
  have h1 : (if st0 t = true then numT t.n else []).length ≤ 2 := by
    split
    · exact numT_len _
    · simp
  have h2 := varT_len (st0 t) 0 t.x
  have h3 := varT_len (stv (st0 t) t.x) 1 t.y
  have h4 := varT_len (stv (stv (st0 t) t.x) t.y) 2 t.z
  omega
def sayT (τ : Nat → Tm) : Nat → List Nat
  | 0 => []
  | n + 1 => sayT τ n ++ (if n = 0 then [] else [43]) ++ trmT (τ n)
theorem sayT_len (τ : Nat → Tm) : ∀ n, (sayT τ n).length ≤ 18 * n := by
  intro n
  induction n with
  | zero => simp [sayT]
  | succ n ih =>
    rw [sayT, List.length_append, List.length_append]
    have h1 : (if n = 0 then [] else [43] : List Nat).length ≤ 1 := by split <;> simp
    have h2 := trmT_len (τ n)
    omega
theorem getD_l {A B : List Nat} {i : Nat} (h : i < A.length) : (A ++ B).getD i 0 = A.getD i 0 := by
  rw [List.getD_eq_getElem?_getD, List.getD_eq_getElem?_getD, List.getElem?_append_left h]
theorem getD_r {A : List Nat} {b : Nat} : (A ++ [b]).getD A.length 0 = b := by
  rw [List.getD_eq_getElem?_getD, List.getElem?_append_right (Nat.le_refl _)]
  simp
/-- each byte is small -/
def by7 (T : List Nat) : Prop := ∀ b, b ∈ T → b < 128
theorem numT_7 {n : Nat} (h : n < 100) : by7 (numT n) := by
  intro b hb
  unfold numT at hb
  split at hb <;> simp at hb <;> omega
theorem varT_7 {st : Bool} {v e : Nat} (hv : v < 3) (he : e < 100) : by7 (varT st v e) := by
  intro b hb
  unfold varT at hb
  split at hb
  · simp at hb
  · rw [List.mem_append, List.mem_append] at hb
    rcases hb with (hb | hb) | hb
    · split at hb <;> simp at hb
      omega
    · simp at hb; omega
    · split at hb
      · simp at hb
      · rcases List.mem_cons.mp hb with q | q
        · omega
        · exact numT_7 he b q
theorem trmT_7 {t : Tm} (hs : sm t) (hn : t.n < 100) : by7 (trmT t) := by
  intro b hb
  unfold trmT at hb
  rw [List.mem_append, List.mem_append, List.mem_append] at hb
  rcases hb with ((hb | hb) | hb) | hb
  · split at hb
    · exact numT_7 hn b hb
    · simp at hb
  · exact varT_7 (by omega) (by omega) b hb
  · exact varT_7 (by omega) (by omega) b hb
  · exact varT_7 (by omega) (by omega) b hb
theorem sayT_7 {τ : Nat → Tm} : ∀ n, (∀ i, i < n → sm (τ i) ∧ (τ i).n < 100) → by7 (sayT τ n) := by
  intro n
  induction n with
  | zero => intro _ b hb; simp [sayT] at hb
  | succ n ih =>
    intro h b hb
    rw [sayT, List.mem_append, List.mem_append] at hb
    rcases hb with (hb | hb) | hb
    · exact ih (fun i hi => h i (by omega)) b hb
    · split at hb <;> simp at hb
      omega
    · exact trmT_7 (h n (by omega)).1 (h n (by omega)).2 b hb
theorem nar_b : ∀ b : Nat, b < 128 → vp_nar .byte (Int8.toInt32 (Int32.toInt8 (Int32.ofNat b))) = Int32.ofNat b := by decide +kernel
def Ws (h0 b _k : Nat) : Prop := b = h0 + 50 ∨ b = h0 + 51
section SAYC
variable {M : Nat × Nat} {h0 : Nat} {S : HS} {K : Int32 → HS → Prop}
/-- what the writing methods leave -/
def Wn2 (h0 : Nat) (S S' : HS) (T : List Nat) : Prop := Ext S S' (Ws h0) V0 ∧ hX S' = hX S ∧ hS S' = hS S ∧ CSp h0 S' T
theorem Wn2.tr {S1 S2 : HS} {T T' : List Nat} (h : Wn2 h0 S S1 T) (g : Wn2 h0 S1 S2 T') : Wn2 h0 S S2 T' := ⟨h.1.tr g.1, by have := h.2.1; have := g.2.1; omega, by have := h.2.2.1; have := g.2.2.1; omega, g.2.2.2⟩
theorem c_wb {b : Nat} {x1 : Int32} {T : List Nat} (hL : Lay h0 S) (hc : CSp h0 S T) (hl : T.length < 5400) (h1 : x1 = ι b) (hb : b < 128) (h : ∀ S', Wn2 h0 S S' (T ++ [b]) → K 0 S') : wp_X10_writeByte M (h0 + 50) x1 S K := by
  subst h1
  obtain ⟨c1, c2⟩ := hc
  unfold wp_X10_writeByte
  refine ⟨hL.t50, hL.t50, h0 + 51, hL.p50_1, Or.inr (Or.inl hL.t51), ?_⟩
  rw [hL.n51, c1, ι_of, ι_le (by omega) (by omega)]
  refine ⟨fun c => absurd c (by omega), fun _ => ⟨hL.t50, h0 + 51, hL.p50_1, hL.t50, hL.t51, by rw [hL.n51]; exact ι_in (by omega) (by omega), hL.t50, hL.t50, ?_⟩⟩
  have hn : vp_nar .byte (Int8.toInt32 (Int32.toInt8 (ι b))) = ι b := nar_b b hb
  rw [ι_cl (by omega), hn, sI_ne (by omega), c1, show (1 : Int32) = ι 1 from rfl, ι_add]
  refine h _ ⟨((Ext.rf S (Ws h0) V0).sI (Or.inr rfl)).sI (Or.inl rfl), rfl, rfl, ?_, fun i hi => ?_⟩
  · rw [sI_eq, if_pos rfl, List.length_append, List.length_singleton]
  · rw [List.length_append, List.length_singleton] at hi
    rw [sI_ne (by omega), sI_eq]
    by_cases c : i = T.length
    · rw [if_pos c, c, getD_r]
    · rw [if_neg c, getD_l (by omega)]; exact c2 i (by omega)
theorem Wn2.lay {S1 : HS} {T : List Nat} (h : Wn2 h0 S S1 T) (hL : Lay h0 S) (hx : h0 + 60 ≤ hX S) : Lay h0 S1 ∧ h0 + 60 ≤ hX S1 := ⟨hL.go hx h.1 (fun q hq c => c), by have := h.2.1; omega⟩
theorem c_wn {n : Nat} {x1 : Int32} {T : List Nat} (hL : Lay h0 S) (hx : h0 + 60 ≤ hX S) (hc : CSp h0 S T) (hl : T.length + (numT n).length ≤ 5400) (h1 : x1 = ι n) (hn : n < 100) (h : ∀ S', Wn2 h0 S S' (T ++ numT n) → K 0 S') : wp_X10_writeNumber M (h0 + 50) x1 S K := by
  subst h1
  unfold wp_X10_writeNumber
  rw [show (10 : Int32) = ι 10 from rfl, ι_lt (by omega) (by omega)]
  unfold numT at h hl
  refine ⟨fun c => ?_, fun c => ⟨hL.t50, ?_⟩⟩
  · rw [if_pos c] at h hl
    simp only [List.length_singleton] at hl
    unfold w_X10_writeNumber_17
    rw [show (10 : Int32) = ι 10 from rfl, ι_rem (by omega) (by omega), show (48 : Int32) = ι 48 from rfl, ι_add, Nat.mod_eq_of_lt c]
    exact ⟨hL.t50, c_wb hL hc (by omega) rfl (by omega) h⟩
  · rw [if_neg c] at h hl
    simp only [List.length_cons, List.length_nil] at hl
    rw [ι_div (by omega) (by omega), show (48 : Int32) = ι 48 from rfl, ι_add]
    refine c_wb hL hc (by omega) rfl (by omega) (fun S1 w1 => ?_)
    obtain ⟨hL1, hx1⟩ := w1.lay hL hx
    unfold w_X10_writeNumber_17
    rw [show (10 : Int32) = ι 10 from rfl, ι_rem (by omega) (by omega), show (48 : Int32) = ι 48 from rfl, ι_add]
    refine ⟨hL1.t50, c_wb hL1 w1.2.2.2 (by rw [List.length_append, List.length_singleton]; omega) rfl (by omega) (fun S2 w2 => ?_)⟩
    have := w1.tr w2
    rw [List.append_assoc] at this
    exact h S2 this
theorem c_wt {t : Tm} {x1 x2 : Int32} {T : List Nat} (hL : Lay h0 S) (hx : h0 + 60 ≤ hX S) (hc : CSp h0 S T) (hl : T.length + 17 ≤ 5400) (h1 : x1 = ι (k6 t)) (h2 : x2 = ι t.n) (hs : sm t) (hn : t.n < 100) (h : ∀ S', Wn2 h0 S S' (T ++ trmT t) → K 0 S') : wp_X10_writeTerm M (h0 + 50) x1 x2 S K := by
  subst h1 h2
  have hk := k6_lt hs
  -- one variable
  have var : ∀ (v m : Nat) (st : Bool) (S1 : HS) (T1 : List Nat), v < 3 → Wn2 h0 S S1 T1 → T1.length + 5 ≤ 5400 → (∀ S2, Wn2 h0 S S2 (T1 ++ varT st v (exv t v)) → wl_X10_writeTerm_27 M K m (h0 + 50) (ι (k6 t)) (ιb (stv st (exv t v))) (ι (v + 1)) S2) → wl_X10_writeTerm_27 M K (m + 1) (h0 + 50) (ι (k6 t)) (ιb st) (ι v) S1 := by
    intro v m st S1 T1 hv w1 hl1 hk2
    obtain ⟨hL1, hx1⟩ := w1.lay hL hx
    have he := exv_le hs v
    show wb_X10_writeTerm_27 _ _ _ _ _ _ _ _
    unfold wb_X10_writeTerm_27
    refine ⟨fun c => absurd c (by rw [show (3 : Int32) = ι 3 from rfl, ι_le (by omega) (by omega)]; omega), fun _ => c_exp hs rfl rfl hv ?_⟩
    have e0 : ι (exv t v) = 0 ↔ exv t v = 0 := by rw [show (0 : Int32) = ι 0 from rfl, ι_eq (by omega) (by omega)]
    have body : exv t v ≠ 0 → ∀ (S2 : HS) (T2 : List Nat), Wn2 h0 S S2 T2 → T2 = T1 ++ (if st then [42] else []) → w_X10_writeTerm_59 M (wl_X10_writeTerm_27 M K m) K (h0 + 50) (ι (k6 t)) (ι v) (ι (exv t v)) S2 := by
      intro hne S2 T2 w2 hT2
      obtain ⟨hL2, hx2⟩ := w2.lay hL hx
      have hl2 : T2.length ≤ T1.length + 1 := by
        rw [hT2, List.length_append]
        split <;> simp
      have est : stv st (exv t v) = true := by unfold stv; simp [hne]
      rw [est] at hk2
      unfold varT at hk2
      rw [if_neg hne] at hk2
      unfold w_X10_writeTerm_59
      rw [show (120 : Int32) = ι 120 from rfl, ι_add, show (1 : Int32) = ι 1 from rfl, ι_le (by omega) (by omega), ι_add]
      refine ⟨hL2.t50, c_wb hL2 w2.2.2.2 (by omega) rfl (by omega) (fun S3 w3 => ⟨fun c => ?_, fun c => ?_⟩)⟩
      · rw [if_pos (show exv t v = 1 by omega), List.append_nil, ← List.append_assoc, ← hT2] at hk2
        exact hk2 S3 (w2.tr w3)
      · rw [if_neg (show ¬ exv t v = 1 by omega)] at hk2
        obtain ⟨hL3, hx3⟩ := (w2.tr w3).lay hL hx
        have hnl := numT_len (exv t v)
        refine ⟨hL3.t50, c_wb (b := 94) hL3 w3.2.2.2 (by rw [List.length_append, List.length_singleton]; omega) rfl (by omega) (fun S4 w4 => ?_)⟩
        obtain ⟨hL4, hx4⟩ := ((w2.tr w3).tr w4).lay hL hx
        refine ⟨hL4.t50, c_wn hL4 hx4 w4.2.2.2 (by rw [List.length_append, List.length_append, List.length_singleton, List.length_singleton]; omega) rfl (by omega) (fun S5 w5 => hk2 S5 ?_)⟩
        have := ((w2.tr w3).tr w4).tr w5
        rw [hT2] at this
        simpa [List.append_assoc] using this
    refine ⟨fun c => ⟨fun c2 => ?_, fun c2 => ⟨hL1.t50, ?_⟩⟩, fun c => ?_⟩
    · have hst := (ιb_0 st).mp c2
      exact body (fun e => c (e0.mpr e)) S1 T1 w1 (by rw [hst]; simp)
    · have hst : st = true := by
        cases st with
        | false => exact absurd rfl c2
        | true => rfl
      refine c_wb (b := 42) hL1 w1.2.2.2 (by omega) rfl (by omega) (fun S2 w2 => body (fun e => c (e0.mpr e)) S2 _ (w1.tr w2) (by rw [hst]; rfl))
    · have ez := e0.mp c
      have := hk2 S1 (by unfold varT; rw [if_pos ez, List.append_nil]; exact w1)
      rw [ez] at this
      have e9 : stv st 0 = st := by unfold stv; simp
      rw [e9] at this
      rw [show (1 : Int32) = ι 1 from rfl, ι_add]
      exact this
  -- all three
  have vars : ∀ (st : Bool) (S1 : HS) (T1 : List Nat), Wn2 h0 S S1 T1 → T1.length + 15 ≤ 5400 → T ++ trmT t = T1 ++ varT st 0 t.x ++ varT (stv st t.x) 1 t.y ++ varT (stv (stv st t.x) t.y) 2 t.z → ∃ nn, wl_X10_writeTerm_27 M K nn (h0 + 50) (ι (k6 t)) (ιb st) 0 S1 := by
    intro st S1 T1 w1 hl1 eT
    have l0 := varT_len st 0 (exv t 0)
    have l1 := varT_len (stv st (exv t 0)) 1 (exv t 1)
    refine ⟨4, var 0 3 st S1 T1 (by omega) w1 (by omega) (fun S2 w2 => var 1 2 _ S2 _ (by omega) w2 (by rw [List.length_append]; omega) (fun S3 w3 => var 2 1 _ S3 _ (by omega) w3 (by rw [List.length_append, List.length_append]; omega) (fun S4 w4 => ?_)))⟩
    show wb_X10_writeTerm_27 _ _ _ _ _ _ _ _
    unfold wb_X10_writeTerm_27
    refine ⟨fun _ => h S4 ?_, fun c => absurd (by decide) c⟩
    rw [eT]; exact w4
  have w0 : Wn2 h0 S S T := ⟨Ext.rf _ _ _, rfl, rfl, hc⟩
  have st1 : st0 t = true → w_X10_writeTerm_14 M K (h0 + 50) (ι (k6 t)) (ι t.n) 1 S := by
    intro hst
    unfold w_X10_writeTerm_14
    have hnl := numT_len t.n
    refine ⟨fun c => absurd c (by decide), fun _ => ⟨hL.t50, c_wn hL hx hc (by omega) rfl hn (fun S1 w1 => ?_)⟩⟩
    exact vars true S1 _ w1 (by rw [List.length_append]; omega) (by unfold trmT; rw [hst, if_pos rfl]; simp [List.append_assoc])
  have e1 : ι t.n = 1 ↔ t.n = 1 := by rw [show (1 : Int32) = ι 1 from rfl, ι_eq (by omega) (by omega)]
  have e2 : ι (k6 t) = 0 ↔ k6 t = 0 := by rw [show (0 : Int32) = ι 0 from rfl, ι_eq (by omega) (by omega)]
  unfold wp_X10_writeTerm
  refine ⟨fun c => st1 (by unfold st0; simp; exact Or.inl (fun e => c (e1.mpr e))), fun c => ⟨fun c2 => ?_, fun c2 => st1 (by unfold st0; simp; exact Or.inr (e2.mp c2))⟩⟩
  have hst : st0 t = false := by
    unfold st0
    simp
    exact ⟨e1.mp c, fun e => c2 (e2.mpr e)⟩
  unfold w_X10_writeTerm_14
  refine ⟨fun _ => ?_, fun c => absurd rfl c⟩
  exact vars false S T w0 (by omega) (by unfold trmT; rw [hst]; simp [List.append_assoc])
end SAYC
/-! say. -/
/-- the reference's text -/
def Ry (R : RS) (T : List Nat) : Prop := R 0 28 = ι T.length ∧ ∀ i, i < T.length → R 27 i = ι (T.getD i 0)
section SAYR
variable {R : RS} {K : Int32 → RS → Prop}
def Wr2 (R R' : RS) (T : List Nat) : Prop := Fr R R' [27] [28] ∧ Ry R' T
theorem Wr2.tr {R1 R2 : RS} {T T' : List Nat} (h : Wr2 R R1 T) (g : Wr2 R1 R2 T') : Wr2 R R2 T' := ⟨h.1.tr g.1, g.2⟩
theorem s_wb {b : Nat} {x1 : Int32} {T : List Nat} (hc : Ry R T) (hl : T.length < 5400) (h1 : x1 = ι b) (h : ∀ R', Wr2 R R' (T ++ [b]) → K 0 R') : wp_writes x1 R K := by
  subst h1
  obtain ⟨c1, c2⟩ := hc
  unfold wp_writes
  rw [c1, upN (by omega), c1, ι_cl (by omega), show (1 : Int32) = ι 1 from rfl, ι_add]
  refine ⟨ι_in (by omega) (by omega), h _ ⟨((Fr.rf R [27] [28]).w (by simp) (by omega)).w0 (by simp), ?_, fun i hi => ?_⟩⟩
  · rw [upE, if_pos rfl, List.length_append, List.length_singleton]
  · rw [List.length_append, List.length_singleton] at hi
    rw [upN (by omega), upE]
    by_cases c : i = T.length
    · rw [if_pos c, c, getD_r]
    · rw [if_neg c, getD_l (by omega)]; exact c2 i (by omega)
theorem s_wn {n : Nat} {x1 : Int32} {T : List Nat} (hc : Ry R T) (hl : T.length + (numT n).length ≤ 5400) (h1 : x1 = ι n) (hn : n < 100) (h : ∀ R', Wr2 R R' (T ++ numT n) → K 0 R') : wp_writesNumber x1 R K := by
  subst h1
  unfold wp_writesNumber
  rw [show (9 : Int32) = ι 9 from rfl, ι_le (by omega) (by omega)]
  unfold numT at h hl
  refine ⟨fun c => ?_, fun c => ?_⟩
  · rw [if_pos (show n < 10 by omega)] at h hl
    simp only [List.length_singleton] at hl
    unfold w_writesNumber_14
    rw [show (10 : Int32) = ι 10 from rfl, ι_rem (by omega) (by omega), show (48 : Int32) = ι 48 from rfl, ι_add, Nat.mod_eq_of_lt (by omega)]
    exact s_wb hc (by omega) rfl h
  · rw [if_neg (show ¬ n < 10 by omega)] at h hl
    simp only [List.length_cons, List.length_nil] at hl
    rw [show (10 : Int32) = ι 10 from rfl, ι_div (by omega) (by omega)]
    unfold wp_writesNumber0
    rw [show (9 : Int32) = ι 9 from rfl, ι_le (by omega) (by omega)]
    refine ⟨fun _ => ?_, fun c => by omega⟩
    unfold w_writesNumber0_14
    rw [show (10 : Int32) = ι 10 from rfl, ι_rem (by omega) (by omega), show (48 : Int32) = ι 48 from rfl, ι_add, show n / 10 % 10 = n / 10 by omega]
    refine s_wb hc (by omega) rfl (fun R1 w1 => ?_)
    unfold w_writesNumber_14
    rw [show (10 : Int32) = ι 10 from rfl, ι_rem (by omega) (by omega), show (48 : Int32) = ι 48 from rfl, ι_add]
    refine s_wb w1.2 (by rw [List.length_append, List.length_singleton]; omega) rfl (fun R2 w2 => ?_)
    have := w1.tr w2
    rw [List.append_assoc] at this
    exact h R2 this
theorem k41_k6 {t : Tm} : k41 t = 0 ↔ k6 t = 0 := by unfold k41 k6; omega
theorem s_wt {t : Tm} {x1 x2 : Int32} {T : List Nat} (hc : Ry R T) (hl : T.length + 17 ≤ 5400) (h1 : x1 = ι (k41 t)) (h2 : x2 = ι t.n) (hs : sm t) (hn : t.n < 100) (h : ∀ R', Wr2 R R' (T ++ trmT t) → K 0 R') : wp_writesTerm x1 x2 R K := by
  subst h1 h2
  have hk := k41_lt hs
  have var : ∀ (v m : Nat) (st : Bool) (R1 : RS) (T1 : List Nat), v < 3 → Wr2 R R1 T1 → T1.length + 5 ≤ 5400 → (∀ R2, Wr2 R R2 (T1 ++ varT st v (exv t v)) → wl_writesTerm_21 K m (ι (k41 t)) (ιb (!(stv st (exv t v)))) (ι (v + 1)) R2) → wl_writesTerm_21 K (m + 1) (ι (k41 t)) (ιb (!st)) (ι v) R1 := by
    intro v m st R1 T1 hv w1 hl1 hk2
    have he := exv_le hs v
    show wb_writesTerm_21 _ _ _ _ _ _
    unfold wb_writesTerm_21
    refine ⟨fun c => absurd c (by rw [show (3 : Int32) = ι 3 from rfl, ι_le (by omega) (by omega)]; omega), fun _ => s_ex hs rfl rfl hv ?_⟩
    have e0 : ι (exv t v) = 0 ↔ exv t v = 0 := by rw [show (0 : Int32) = ι 0 from rfl, ι_eq (by omega) (by omega)]
    have e1 : ι (exv t v) = 1 ↔ exv t v = 1 := by rw [show (1 : Int32) = ι 1 from rfl, ι_eq (by omega) (by omega)]
    have body : exv t v ≠ 0 → ∀ (R2 : RS) (T2 : List Nat), Wr2 R R2 T2 → T2 = T1 ++ (if st then [42] else []) → w_writesTerm_53 (wl_writesTerm_21 K m) K (ι (k41 t)) (ι v) (ι (exv t v)) R2 := by
      intro hne R2 T2 w2 hT2
      have hl2 : T2.length ≤ T1.length + 1 := by
        rw [hT2, List.length_append]
        split <;> simp
      have est : stv st (exv t v) = true := by unfold stv; simp [hne]
      rw [est] at hk2
      unfold varT at hk2
      rw [if_neg hne] at hk2
      unfold w_writesTerm_53
      rw [show (120 : Int32) = ι 120 from rfl, ι_add]
      refine s_wb w2.2 (by omega) rfl (fun R3 w3 => ⟨fun c => ?_, fun c => ?_⟩)
      · have c' : ¬ exv t v = 1 := fun e => c (e1.mpr e)
        rw [if_neg c'] at hk2
        have hnl := numT_len (exv t v)
        refine s_wb (b := 94) w3.2 (by rw [List.length_append, List.length_singleton]; omega) rfl (fun R4 w4 => s_wn w4.2 (by rw [List.length_append, List.length_append, List.length_singleton, List.length_singleton]; omega) rfl (by omega) (fun R5 w5 => ?_))
        rw [show (1 : Int32) = ι 1 from rfl, ι_add]
        refine hk2 R5 ?_
        have := ((w2.tr w3).tr w4).tr w5
        rw [hT2] at this
        simpa [List.append_assoc] using this
      · rw [if_pos (e1.mp c), List.append_nil, ← List.append_assoc, ← hT2] at hk2
        rw [show (1 : Int32) = ι 1 from rfl, ι_add]
        exact hk2 R3 (w2.tr w3)
    refine ⟨fun c => ⟨fun c2 => ?_, fun c2 => ?_⟩, fun c => ?_⟩
    · have hst : st = false := by
        cases st with
        | false => rfl
        | true => exact absurd rfl c2
      exact body (fun e => c (e0.mpr e)) R1 T1 w1 (by rw [hst]; simp)
    · have hst : st = true := by
        cases st with
        | false => exact absurd c2 (by decide)
        | true => rfl
      exact s_wb (b := 42) w1.2 (by omega) rfl (fun R2 w2 => body (fun e => c (e0.mpr e)) R2 _ (w1.tr w2) (by rw [hst]; rfl))
    · have ez := e0.mp c
      have := hk2 R1 (by unfold varT; rw [if_pos ez, List.append_nil]; exact w1)
      rw [ez] at this
      have e9 : stv st 0 = st := by unfold stv; simp
      rw [e9] at this
      rw [show (1 : Int32) = ι 1 from rfl, ι_add]
      exact this
  have vars : ∀ (st : Bool) (R1 : RS) (T1 : List Nat), Wr2 R R1 T1 → T1.length + 15 ≤ 5400 → T ++ trmT t = T1 ++ varT st 0 t.x ++ varT (stv st t.x) 1 t.y ++ varT (stv (stv st t.x) t.y) 2 t.z → ∃ nn, wl_writesTerm_21 K nn (ι (k41 t)) (ιb (!st)) 0 R1 := by
    intro st R1 T1 w1 hl1 eT
    have l0 := varT_len st 0 (exv t 0)
    have l1 := varT_len (stv st (exv t 0)) 1 (exv t 1)
    refine ⟨4, var 0 3 st R1 T1 (by omega) w1 (by omega) (fun R2 w2 => var 1 2 _ R2 _ (by omega) w2 (by rw [List.length_append]; omega) (fun R3 w3 => var 2 1 _ R3 _ (by omega) w3 (by rw [List.length_append, List.length_append]; omega) (fun R4 w4 => ?_)))⟩
    show wb_writesTerm_21 _ _ _ _ _ _
    unfold wb_writesTerm_21
    refine ⟨fun _ => h R4 ?_, fun c => absurd (by decide) c⟩
    rw [eT]; exact w4
  have w0 : Wr2 R R T := ⟨Fr.rf _ _ _, hc⟩
  have st1 : st0 t = true → w_writesTerm_11 K (ι (k41 t)) (ι t.n) R := by
    intro hst
    unfold w_writesTerm_11
    have hnl := numT_len t.n
    refine s_wn hc (by omega) rfl hn (fun R1 w1 => ?_)
    exact vars true R1 _ w1 (by rw [List.length_append]; omega) (by unfold trmT; rw [hst, if_pos rfl]; simp [List.append_assoc])
  have e1 : ι t.n = 1 ↔ t.n = 1 := by rw [show (1 : Int32) = ι 1 from rfl, ι_eq (by omega) (by omega)]
  have e2 : ι (k41 t) = 0 ↔ k6 t = 0 := by rw [show (0 : Int32) = ι 0 from rfl, ι_eq (by omega) (by omega), k41_k6]
  unfold wp_writesTerm
  refine ⟨fun c => st1 (by unfold st0; simp; exact Or.inl (fun e => c (e1.mpr e))), fun c => ⟨fun c2 => ?_, fun c2 => st1 (by unfold st0; simp; exact Or.inr (e2.mp c2))⟩⟩
  have hst : st0 t = false := by
    unfold st0
    simp
    exact ⟨e1.mp c, fun e => c2 (e2.mpr e)⟩
  exact vars false R T w0 (by omega) (by unfold trmT; rw [hst]; simp [List.append_assoc])
end SAYR
/-- what is said of a polynomial whose terms are τ -/
def sayA (τ : Nat → Tm) (n : Nat) : List Nat := if n = 0 then [48] else sayT τ n
theorem sayA_ok {τ : Nat → Tm} {n : Nat} (hn : n ≤ 300) (h : ∀ i, i < n → sm (τ i) ∧ (τ i).n < 100) : (sayA τ n).length ≤ 5400 ∧ ∀ i, i < (sayA τ n).length → (sayA τ n).getD i 0 < 128 := by
  have hl := sayT_len τ n
  have h7 := sayT_7 n h
  unfold sayA
  split
  · refine ⟨by simp, fun i hi => ?_⟩
    simp only [List.length_singleton] at hi
    rw [show i = 0 by omega]
    decide
  · refine ⟨by omega, fun i hi => h7 _ ?_⟩
    rw [List.getD_eq_getElem?_getD, List.getElem?_eq_getElem hi]
    exact List.getElem_mem hi
theorem c_write {M : Nat × Nat} {h0 a p : Nat} {L : Po} {V : Nat → Nat} {S : HS} {K : Int32 → HS → Prop} (hL : Lay h0 S) (hx : h0 + 60 ≤ hX S) (hw : wf p L) (hp : p ≤ 13) (ka : Ka h0 a) (pa : PolyAt S a L) (cv : Cv h0 S L.length V) (hV : ∀ i, i < L.length → V i % 512 < L.length) (h : ∀ S', Wn2 h0 S S' (sayA (fun i => rt L (V i % 512)) L.length) → K 0 S') : wp_X10_write M (h0 + 50) a (h0 + 48) S K := by
  have hle := hw.1
  have goP : ∀ {S1 : HS}, Ext S S1 (Ws h0) V0 → PolyAt S1 a L := fun e => pa.go e (fun k => by
    unfold Ka at ka
    refine ⟨?_, ?_, ?_, fun c => c⟩ <;> (unfold Ws; omega))
  have key : ∀ (k i : Nat) (S1 : HS), i + k = L.length → Wn2 h0 S S1 (sayT (fun i => rt L (V i % 512)) i) → wl_X10_write_7 M K (k + 1) (h0 + 50) a (h0 + 48) (ι i) S1 := by
    intro k
    induction k with
    | zero =>
      intro i S1 hi w1
      obtain ⟨p1, p2, p3, p4, p5, p6, p7, p8, p9, p10, p11⟩ := goP w1.1
      obtain ⟨hL1, hx1⟩ := w1.lay hL hx
      have ei : i = L.length := by omega
      subst ei
      unfold sayA at h
      show wb_X10_write_7 _ _ _ _ _ _ _ _
      unfold wb_X10_write_7
      rw [p9]
      have e0 : ι L.length = 0 ↔ L.length = 0 := by rw [show (0 : Int32) = ι 0 from rfl, ι_eq (by omega) (by omega)]
      refine ⟨p2, fun _ => ⟨p2, fun c => ?_, fun c => ⟨hL1.t50, ?_⟩⟩, fun c => absurd (by rw [ι_le (by omega) (by omega)]; omega) c⟩
      · rw [if_neg (fun e => c (e0.mpr e))] at h
        exact h S1 w1
      · rw [if_pos (e0.mp c)] at h
        have w1' := w1
        rw [e0.mp c] at w1'
        exact c_wb (b := 48) (T := []) hL1 w1'.2.2.2 (by simp) rfl (by omega) (fun S2 w2 => h S2 (w1.tr w2))
    | succ k ih =>
      intro i S1 hi w1
      obtain ⟨hL1, hx1⟩ := w1.lay hL hx
      obtain ⟨p1, p2, p3, p4, p5, p6, p7, p8, p9, p10, p11⟩ := goP w1.1
      have hlen := sayT_len (fun i => rt L (V i % 512)) i
      have hvi := hV i (by omega)
      have body : ∀ (S2 : HS), Wn2 h0 S S2 (sayT (fun i => rt L (V i % 512)) i ++ (if i = 0 then [] else [43])) → w_X10_write_25 M (wl_X10_write_7 M K (k + 1)) K (h0 + 50) a (h0 + 48) (ι i) S2 := by
        intro S2 w2
        obtain ⟨hL2, hx2⟩ := w2.lay hL hx
        obtain ⟨p1, p2, p3, p4, p5, p6, p7, p8, p9, p10, p11⟩ := goP w2.1
        have cv2 : Cv h0 S2 L.length V := fun k hk => by rw [(w2.1.2.2.1 _ (by omega)).2.2.1 k (by unfold Ws; omega)]; exact cv k hk
        unfold w_X10_write_25
        refine ⟨hL2.t48, c_indexOf hL2 hle cv2 rfl (by omega) ⟨p2, a + 1, p3, p5, by rw [p7]; exact ι_in (by omega) (by omega), p2, a + 2, p4, p6, by rw [p8]; exact ι_in (by omega) (by omega), hL2.t50, ?_⟩⟩
        have hn := rt_n hw hvi
        refine c_wt (t := rt L (V i % 512)) hL2 hx2 w2.2.2.2 ?_ (by rw [ι_cl (by omega)]; exact (p11 _ hvi).1) (by rw [ι_cl (by omega)]; exact (p11 _ hvi).2) (rt_sm hw hvi) (by omega) (fun S3 w3 => ?_)
        · rw [List.length_append]
          have : (if i = 0 then [] else [43] : List Nat).length ≤ 1 := by split <;> simp
          omega
        · rw [show (1 : Int32) = ι 1 from rfl, ι_add]
          exact ih (i + 1) S3 (by omega) (w2.tr w3)
      show wb_X10_write_7 _ _ _ _ _ _ _ _
      unfold wb_X10_write_7
      rw [p9]
      refine ⟨p2, fun c => absurd c (by rw [ι_le (by omega) (by omega)]; omega), fun _ => ⟨fun c => body S1 ?_, fun c => ⟨hL1.t50, c_wb (b := 43) hL1 w1.2.2.2 (by omega) rfl (by omega) (fun S2 w2 => body S2 ?_)⟩⟩⟩
      · rw [show (0 : Int32) = ι 0 from rfl, ι_le (by omega) (by omega)] at c
        rw [if_pos (by omega), List.append_nil]
        exact w1
      · rw [show (0 : Int32) = ι 0 from rfl, ι_le (by omega) (by omega)] at c
        rw [if_neg (by omega)]
        exact w1.tr w2
  unfold wp_X10_write
  refine ⟨hL.t50, L.length + 1, key L.length 0 _ (by omega) ⟨(Ext.rf S (Ws h0) V0).sI (Or.inl rfl), rfl, rfl, by rw [sI_eq, if_pos rfl]; rfl, fun i hi => by simp [sayT] at hi⟩⟩
def Wsy (h0 b _k : Nat) : Prop := b = h0 + 49 ∨ b = h0 + 50 ∨ b = h0 + 51
/-- another text -/
theorem CI.said {h0 s0 n p : Nat} {P : Nat → Po} {A : List (Nat × Po)} {T Tx Tx' : List Nat} {ft : Int32} {Q : List Sp} {B : Nat → Nat} {S S' : HS} (h : CI h0 s0 n S (p, P, A, T, Tx, ft, Q, B)) (e : Ext S S' (Wsy h0) V0) (hx : hX S' = hX S) (hs : hS S' = hS S) (hT : CSp h0 S' Tx') : CI h0 s0 n S' (p, P, A, T, Tx', ft, Q, B) := by
  obtain ⟨c1, c2, c3, c4, c5, c6, c7, c8, c9, c10, c11, c12⟩ := h
  have h60 := c2.1
  have pk : PK h0 S S' := PK.of e (fun a L ka _ k => by
    unfold Ka at ka
    refine ⟨?_, ?_, ?_, fun c => c⟩ <;> (unfold Wsy; omega))
  have nI : ∀ b k, b < hX S → ¬ Wsy h0 b k → hI S' b k = hI S b k := fun b k hb w => (e.2.2.1 b hb).2.2.1 k w
  have nP : ∀ b k, b < hX S → hP S' b k = hP S b k := fun b k hb => (e.2.2.1 b hb).2.2.2 k (fun c => c)
  have ho : ∀ o, o = 12 ∨ o = 15 ∨ o = 39 ∨ o = 42 → hP S' (h0 + o) 0 = hP S (h0 + o) 0 := fun o _ => nP _ _ (by omega)
  have b39 := c10.1.2.2.1
  exact ⟨c1.go c2.1 e (fun q hq c => c), c2.go e pk (c2.tp e hx), by rw [nI _ _ (by omega) (by unfold Wsy; omega)]; exact c3, c4.go pk (fun k hk => nP _ _ (by omega)), c5.go pk (fun k => nI _ _ (by omega) (by unfold Wsy; omega)) (fun k => nI _ _ (by omega) (by unfold Wsy; omega)) (fun k => nP _ _ (by omega)), c6.go (nI _ _ (by omega) (by unfold Wsy; omega)) (fun i => nI _ _ (by omega) (by unfold Wsy; omega)), hT, by rw [nI _ _ (by omega) (by unfold Wsy; omega)]; exact c8, c9.go pk e (nP _ _ (by omega)) (fun o ho => Or.inl (nP _ _ (by omega))) (fun g hg _ f k hf => ⟨by unfold Wsy; omega, fun c => c⟩), c10.go e ho, c11.go (e.2.2.1 _ b39.2.1).2.1 pk (nP _ _ (by omega)) (ho 39 (by omega)) (fun k => nI _ _ (by omega) (by unfold Wsy; omega)) (fun k => nI _ _ (by omega) (by unfold Wsy; omega)) (fun k => nI _ _ (by omega) (by unfold Wsy; omega)) (nI _ _ (by omega) (by unfold Wsy; omega)) (nI _ _ (by omega) (by unfold Wsy; omega)) (fun k => nI _ _ b39.2.1 (by have := b39.2.2.2.2.1; unfold Wsy; omega)), c12.same e c10 ho hx hs⟩
theorem RI.said {p : Nat} {P : Nat → Po} {A : List (Nat × Po)} {T Tx Tx' : List Nat} {ft : Int32} {Q : List Sp} {B : Nat → Nat} {R R' : RS} (h : RI R (p, P, A, T, Tx, ft, Q, B)) (r : Fr R R' [27] [28]) (hT : Ry R' Tx') : RI R' (p, P, A, T, Tx', ft, Q, B) := by
  obtain ⟨u1, u2, u3, u4, u5, u6, u7⟩ := h
  have nf : ∀ f, f ≠ 0 → f ≠ 27 → R' f = R f := fun f h0 hf => r.1 f h0 (by simp; exact hf)
  have n0 : ∀ k, k ≠ 28 → R' 0 k = R 0 k := fun k hk => r.2 k (by simp; exact hk)
  refine ⟨u1.fr r (by simp) (by simp) (by simp) (by simp), fun k hk => ?_, ?_, ?_, hT, by rw [n0 51 (by omega)]; exact u6, ?_⟩
  · have := u2 k hk
    unfold Sl at this ⊢
    rw [nf 2 (by omega) (by omega), nf 3 (by omega) (by omega), nf 4 (by omega) (by omega)]; exact this
  · unfold RAc at u3 ⊢
    rw [n0 13 (by omega), nf 9 (by omega) (by omega), nf 10 (by omega) (by omega), nf 11 (by omega) (by omega), nf 12 (by omega) (by omega)]; exact u3
  · rw [n0 43 (by omega), nf 42 (by omega) (by omega)]; exact u4
  · unfold RPg Sl at u7 ⊢
    rw [n0 37 (by omega), nf 2 (by omega) (by omega), nf 3 (by omega) (by omega), nf 4 (by omega) (by omega), nf 29 (by omega) (by omega), nf 30 (by omega) (by omega), nf 31 (by omega) (by omega), nf 32 (by omega) (by omega)]; exact u7
theorem call_19 {h0 s0 n : Nat} {S : HS} {R : RS} (hn : n < 512) (y1 : Int32) (v : Int64) (h : Inv h0 s0 n S R) : wq_19 (Mx h0 s0) h0 y1 S R v (Inv h0 s0 (n + 1)) := by
  obtain ⟨⟨p, P, A, T, Tx, ft, Q, B⟩, hc, hv, hr⟩ := h
  have hL := hc.1
  have hroom := hc.room hn
  have hpp := hv.1
  have hple := hpp.le
  have hX0 := hc.2.1.1
  have hr0 := hr.code hv 0
  have rm : hX S + 1 ≤ (Mx h0 s0).1 ∧ hS S + 6 ≤ (Mx h0 s0).2 := ⟨by show hX S + 1 ≤ h0 + 601024; omega, by show hS S + 6 ≤ s0 + 7293034; omega⟩
  refine ⟨hL.t0, ?_⟩
  unfold wp_X11_say
  refine ⟨hL.t0, c_polyAt hL hc.2.2.2.1 rm.1 rm.2 (fun k a hk e1 ka pa => ⟨hL.t0, h0 + 48, hL.p0_5, a, rfl, hL.t48, ?_⟩) (fun hne => ⟨rfl, fun S'' re => ?_⟩)⟩
  rotate_left
  · unfold wp_say
    refine s_isPlace (fun k hk e => absurd e (hne k hk)) (fun _ => ⟨fun c => absurd rfl c, fun _ => ?_⟩)
    unfold wp_fail wp_thrown
    exact ⟨by rw [upE, if_pos rfl], fun c => absurd c (by decide), _, hc.re re, hv, hr0.code hv 1⟩
  have wa := hv.2.1 k hk
  have hle := wa.1
  have bs := hc.bs hpp
  refine c_sort (o := 0) hL hX0 wa (pa.rd wa) (rs_ka ka pa bs.2.2.1) rfl (by omega) (fun S1 V e3 x3 s3 cv pm ds => ?_)
  have e3z := e3.mo (W' := Wz h0 S) (V' := V0) W48.z (fun _ _ c => c)
  have bs1 := bs.go e3z x3
  have hL1 := bs1.1
  have pa1 := pa.go e3z (ka_z bs.2.2.1 a _ ka pa)
  have hVc : ∀ i, i < (P k).length → V i % 512 < (P k).length ∧ aC 0 (P k) (rk 0 (rt (P k) (V i % 512))) (P k).length = i ∧ ∀ t, t < (P k).length → aC 0 (P k) (rk 0 (tm (P k) t)) (P k).length = i → t = (P k).length - 1 - V i % 512 := fun i hi => by
    obtain ⟨c0, hc0, hVc, hac, hun⟩ := srt_place wa pm ds hi
    rw [hVc, cd_mod wa hc0]
    exact ⟨hc0, hac, hun⟩
  refine ⟨hL1.t0, h0 + 50, hL1.p0_6, a, rfl, hL1.t0, h0 + 48, hL1.p0_5, hL1.t50, ?_⟩
  refine c_write hL1 bs1.2.1.1 wa hple.2 ka pa1 cv (fun i hi => (hVc i hi).1) (fun S2 w2 => ?_)
  obtain ⟨hL2, hx2⟩ := w2.lay hL1 bs1.2.1.1
  refine ⟨hL2.t0, h0 + 50, hL2.p0_6, hL2.t50, ?_⟩
  rw [w2.2.2.2.1]
  generalize hτ : (fun i => rt (P k) (V i % 512)) = τ at *
  have hτi : ∀ i, τ i = rt (P k) (V i % 512) := fun i => by rw [← hτ]
  have hok := sayA_ok (τ := τ) hle (fun i hi => by
    rw [hτi]
    have := rt_n wa (hVc i hi).1
    exact ⟨rt_sm wa (hVc i hi).1, by omega⟩)
  have hc2 : CI h0 s0 (n + 1) S2 (p, P, A, T, sayA τ (P k).length, ft, Q, B) := (hc.said (Tx' := sayA τ (P k).length) ((e3.mo (fun b k q => Or.inl q) (fun _ _ c => c)).tr (w2.1.mo (fun b k q => Or.inr q) (fun _ _ c => c))) (by have := w2.2.1; omega) (by have := w2.2.2.1; omega) w2.2.2.2).next
  have hv2 : VI (p, P, A, T, sayA τ (P k).length, ft, Q, B) := by
    obtain ⟨v1, v2, v3, v4, v5, v6⟩ := hv
    exact ⟨v1, v2, v3, v4, hok, v6⟩
  -- the reference
  have hl0 := hr0.2.1 k hk
  have fin : ∀ R', Wr2 (up R 0 0 0) R' (sayA τ (P k).length) → R' 0 0 = 0 ∧ Inv h0 s0 (n + 1) S2 R' := fun R' w => ⟨by rw [w.1.2 0 (by simp), upE, if_pos rfl], _, hc2, hv2, hr0.said w.1 w.2⟩
  have hw0 : Wr2 (up R 0 0 0) (up (up R 0 0 0) 0 28 0) [] := ⟨(Fr.rf _ _ _).w0 (by simp), by rw [upE, if_pos rfl]; rfl, fun i hi => by simp at hi⟩
  have goL : ∀ {R1 : RS}, Fr (up R 0 0 0) R1 [27] [28] → Sl R1 k (P k) := fun r => hl0.go hle (r.fs [] (by simp)) (by simp)
  unfold wp_say
  subst e1
  refine s_isPlace (fun _ _ _ => ⟨fun _ => ⟨ι_in (by omega) (by omega), ?_⟩, fun c => absurd c (by decide)⟩) (fun h => absurd rfl (h k hk))
  rw [ι_cl (by omega), (goL hw0.1).1]
  have key : ∀ (m i : Nat) (R1 : RS), i + m = (P k).length → Wr2 (up R 0 0 0) R1 (if (P k).length = 0 then [48] else sayT τ i) → wl_say_40 (fun q R1 => wp_thrown R1 (fun t R2 => t = 0 ∧ ((0 : Int32) = 0 → Int32.toInt64 (ι (sayA τ (P k).length).length) = Int32.toInt64 q) ∧ Inv h0 s0 (n + 1) S2 R2)) (m + 1) (ι k) (ι i) R1 := by
    intro m
    induction m with
    | zero =>
      intro i R1 hi w1
      show wb_say_40 _ _ _ _ _
      unfold wb_say_40
      rw [ι_cl (by omega), (goL w1.1).1]
      have ei : i = (P k).length := by omega
      subst ei
      have f := fin R1 w1
      refine ⟨ι_in (by omega) (by omega), fun _ => ⟨f.1, fun _ => ?_, f.2⟩, fun c => absurd (by rw [ι_le (by omega) (by omega)]; omega) c⟩
      rw [w1.2.1]; rfl
    | succ m ih =>
      intro i R1 hi w1
      rw [if_neg (show ¬ (P k).length = 0 by omega)] at w1
      obtain ⟨vc, ac, un⟩ := hVc i (by omega)
      have hn := rt_n wa vc
      have hlen := sayT_len τ i
      have body : ∀ R2, Wr2 (up R 0 0 0) R2 (sayT τ i ++ (if i = 0 then [] else [43])) → w_say_68 (wl_say_40 (fun q R1 => wp_thrown R1 (fun t R2 => t = 0 ∧ ((0 : Int32) = 0 → Int32.toInt64 (ι (sayA τ (P k).length).length) = Int32.toInt64 q) ∧ Inv h0 s0 (n + 1) S2 R2)) (m + 1)) (fun q R1 => wp_thrown R1 (fun t R2 => t = 0 ∧ ((0 : Int32) = 0 → Int32.toInt64 (ι (sayA τ (P k).length).length) = Int32.toInt64 q) ∧ Inv h0 s0 (n + 1) S2 R2)) (ι k) (ι i) (ι ((P k).length - 1 - V i % 512)) R2 := by
        intro R2 w2
        have l2 := goL w2.1
        unfold w_say_68
        refine s_keyAt rfl rfl (by omega) (by omega) (s_numAt rfl rfl (by omega) (by omega) ?_)
        refine s_wt (t := τ i) w2.2 ?_ (by rw [(l2.2 _ (by omega)).1, hτi]; rfl) (by rw [(l2.2 _ (by omega)).2, hτi]; rfl) (by rw [hτi]; exact rt_sm wa vc) (by rw [hτi]; omega) (fun R3 w3 => ?_)
        · rw [List.length_append]
          have : (if i = 0 then [] else [43] : List Nat).length ≤ 1 := by split <;> simp
          omega
        · rw [show (1 : Int32) = ι 1 from rfl, ι_add]
          exact ih (i + 1) R3 (by omega) (by rw [if_neg (show ¬ (P k).length = 0 by omega)]; exact w2.tr w3)
      show wb_say_40 _ _ _ _ _
      unfold wb_say_40
      rw [ι_cl (by omega), (goL w1.1).1]
      refine ⟨ι_in (by omega) (by omega), fun c => absurd c (by rw [ι_le (by omega) (by omega)]; omega), fun _ => ?_⟩
      refine s_placeOf (o := 0) (t0 := (P k).length - 1 - V i % 512) rfl rfl rfl (by omega) (by omega) (by omega) wa (goL w1.1) (by omega) ac un ⟨fun c => body R1 ?_, fun c => s_wb (b := 43) w1.2 (by omega) rfl (fun R2 w2 => body R2 ?_)⟩
      · rw [show (0 : Int32) = ι 0 from rfl, ι_le (by omega) (by omega)] at c
        rw [if_pos (by omega), List.append_nil]
        exact w1
      · rw [show (0 : Int32) = ι 0 from rfl, ι_le (by omega) (by omega)] at c
        rw [if_neg (by omega)]
        exact w1.tr w2
  have e0 : ι (P k).length = 0 ↔ (P k).length = 0 := by rw [show (0 : Int32) = ι 0 from rfl, ι_eq (by omega) (by omega)]
  refine ⟨fun c => ⟨(P k).length + 1, key (P k).length 0 _ (by omega) ?_⟩, fun c => s_wb (b := 48) (T := []) hw0.2 (by simp) rfl (fun R2 w2 => ⟨(P k).length + 1, key (P k).length 0 R2 (by omega) ?_⟩)⟩
  · rw [if_neg (fun e => c (e0.mpr e))]
    exact hw0
  · rw [if_pos (e0.mp c)]
    exact hw0.tr w2
