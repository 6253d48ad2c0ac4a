/-! The reference reads tokens. -/
def tkd (k : Nat) : Nat := if k = 257 then 0 else if k = 256 then 2 else if 97 ≤ k ∧ k ≤ 122 then 1 else 3
def Rt (R : RS) (tx : Nat → Nat) (n : Nat) : Prop := R 0 44 = ι n ∧ n ≤ 200 ∧ ∀ i, i < n → R 42 i = ι (tx i) ∧ tx i < 256
def Rk (R : RS) (tx : Nat → Nat) (n p : Nat) : Prop := R 0 47 = ι (tks tx n p) ∧ R 0 45 = ι (tke tx n p) ∧ R 0 48 = ι (tke tx n p) ∧ R 0 46 = ι (tkd (tkc tx n p))
abbrev tkK : List Nat := [45, 46, 47, 48]
section RTK2
variable {R R' : RS} {K : Int32 → RS → Prop} {tx : Nat → Nat} {n p : Nat}
theorem tok_f {s : Nat} (es : s = tks tx n p) (hs : s < n) (fg : 48 ≤ tx s ∧ tx s ≤ 57) : tke tx n p = skf tx (n - s) s ∧ tkc tx n p = 256 := by
  subst es
  unfold tke tkc
  exact ⟨by rw [if_neg (by omega), if_pos fg], by rw [if_neg (by omega), if_pos fg]⟩
theorem tok_b {s : Nat} (es : s = tks tx n p) (hs : s < n) (nf : ¬ (48 ≤ tx s ∧ tx s ≤ 57)) : tke tx n p = s + 1 ∧ tkc tx n p = tx s := by
  subst es
  unfold tke tkc
  exact ⟨by rw [if_neg (by omega), if_neg nf], by rw [if_neg (by omega), if_neg nf]⟩
theorem tok_e {s : Nat} (es : s = tks tx n p) (hs : n ≤ s) : tke tx n p = s ∧ tkc tx n p = 257 := by
  subst es
  unfold tke tkc
  exact ⟨by rw [if_pos hs], by rw [if_pos hs]⟩
theorem Rt.go {fs ks : List Nat} (h : Rt R tx n) (r : Fr R R' fs ks) (h1 : 42 ∉ fs) (h2 : 44 ∉ ks) : Rt R' tx n := by
  obtain ⟨a1, a2, a3⟩ := h
  exact ⟨by rw [r.2 44 h2]; exact a1, a2, fun i hi => by rw [r.1 42 (by omega) h1]; exact a3 i hi⟩
theorem fr_up {R1 : RS} {fs ks : List Nat} {j : Nat} {x : Int32} (h : Fr R R1 fs ks) (hj : j ∈ ks) : Fr R (up R1 0 j x) fs ks := ⟨fun f a b => by rw [upN a]; exact h.1 f a b, fun k a => by rw [upE, if_neg (fun e => a (by rw [e]; exact hj))]; exact h.2 k a⟩
theorem fr_upF {R1 : RS} {fs ks : List Nat} {f j : Nat} {x : Int32} (h : Fr R R1 fs ks) (hf : f ∈ fs) (f0 : f ≠ 0) : Fr R (up R1 f j x) fs ks := ⟨fun f' a b => by rw [upN (fun e => b (by rw [e]; exact hf))]; exact h.1 f' a b, fun k a => by rw [upN (fun e => f0 e.symm)]; exact h.2 k a⟩
theorem fr_rf {fs ks : List Nat} : Fr R R fs ks := ⟨fun _ _ _ => rfl, fun _ _ => rfl⟩
theorem s_byteAt {x : Int32} {i : Nat} (h : Rt R tx n) (hx : x = ι i) (hi : i ≤ 200) (h1 : i < n → K (ι (tx i)) R) (h0 : n ≤ i → K (-1) R) : wp_byteAt x R K := by
  subst hx
  obtain ⟨a1, a2, a3⟩ := h
  unfold wp_byteAt
  rw [a1, ι_le (by omega) (by omega)]
  exact ⟨h0, fun c => ⟨ι_in (by omega) (by omega), by rw [ι_cl (by omega), (a3 i (by omega)).1]; exact h1 (by omega)⟩⟩
theorem s_isFig {b : Nat} (hb : b < 256) (h1 : 48 ≤ b ∧ b ≤ 57 → K 1 R) (hn : ¬ (48 ≤ b ∧ b ≤ 57) → K 0 R) : wp_isFigure (ι b) R K := by
  unfold wp_isFigure
  rw [show (48 : Int32) = ι 48 from rfl, show (57 : Int32) = ι 57 from rfl, ι_lt (by omega) (by omega), ι_lt (by omega) (by omega)]
  exact ⟨fun c => hn (by omega), fun c => ⟨fun c2 => hn (by omega), fun c2 => h1 (by omega)⟩⟩
theorem s_next (h : Rt R tx n) (hp : p ≤ n) (h5 : R 0 45 = ι p) (hK : ∀ R', Fr R R' [] tkK → Rk R' tx n p → K 0 R') : wp_next R K := by
  have n200 := h.2.1
  -- figures
  have figs : ∀ (r q s : Nat) (R1 : RS), q + r = n → s = tks tx n p → skf tx (n - s) s = skf tx r q → s < n → (48 ≤ tx s ∧ tx s ≤ 57) → Fr R R1 [] tkK → R1 0 45 = ι q → R1 0 47 = ι s → wl_next_76 K (r + 1) R1 := by
    intro r
    induction r with
    | zero =>
      intro q s R1 hq es ef hs fg f1 i5 i7
      have t1 := h.go f1 (by simp) (by simp)
      show wb_next_76 _ _ _
      unfold wb_next_76
      rw [i5]
      refine s_byteAt t1 rfl (by omega) (fun c => absurd c (by omega)) (fun _ => ?_)
      refine ⟨fun _ => ⟨fun _ => ?_, fun c => absurd rfl c⟩, fun c => absurd (by decide) c⟩
      have ec : tke tx n p = q ∧ tkc tx n p = 256 := by
        have t := tok_f es hs fg
        exact ⟨by rw [t.1, ef]; rfl, t.2⟩
      refine hK _ (fr_up (fr_up f1 (by simp)) (by simp)) ⟨?_, ?_, ?_, ?_⟩
      · rw [upE, if_neg (by omega), upE, if_neg (by omega), i7, es]
      · rw [upE, if_neg (by omega), upE, if_neg (by omega), i5, ec.1]
      · rw [upE, if_pos rfl, upE, if_neg (by omega), i5, ec.1]
      · rw [upE, if_neg (by omega), upE, if_pos rfl, ec.2]; rfl
    | succ r ih =>
      intro q s R1 hq es ef hs fg f1 i5 i7
      have t1 := h.go f1 (by simp) (by simp)
      have bq := t1.2.2 q (by omega)
      show wb_next_76 _ _ _
      unfold wb_next_76
      rw [i5]
      refine s_byteAt t1 rfl (by omega) (fun _ => s_isFig bq.2 (fun fq => ⟨fun c => absurd c (by decide), fun _ => ?_⟩) (fun nf => ⟨fun _ => ?_, fun c => absurd rfl c⟩)) (fun c => absurd c (by omega))
      · refine ih (q + 1) s _ (by omega) es ?_ hs fg (fr_up f1 (by simp)) ?_ ?_
        · rw [ef, skf, if_pos fq]
        · rw [upE, if_pos rfl, i5, show (1 : Int32) = ι 1 from rfl, ι_add]
        · rw [upE, if_neg (by omega)]; exact i7
      · have ec : tke tx n p = q ∧ tkc tx n p = 256 := by
          have t := tok_f es hs fg
          exact ⟨by rw [t.1, ef, skf, if_neg nf], t.2⟩
        refine hK _ (fr_up (fr_up f1 (by simp)) (by simp)) ⟨?_, ?_, ?_, ?_⟩
        · rw [upE, if_neg (by omega), upE, if_neg (by omega), i7, es]
        · rw [upE, if_neg (by omega), upE, if_neg (by omega), i5, ec.1]
        · rw [upE, if_pos rfl, upE, if_neg (by omega), i5, ec.1]
        · rw [upE, if_neg (by omega), upE, if_pos rfl, ec.2]; rfl
  -- behind the blanks
  have fin : ∀ (q : Nat) (R1 : RS) (K0 : RS → Prop), q ≤ n → q = tks tx n p → (q < n → ¬ (tx q = 32 ∨ tx q = 10)) → Fr R R1 [] tkK → R1 0 45 = ι q → wp_byteAt ((up R1 0 47 (R1 0 45)) 0 45) (up R1 0 47 (R1 0 45)) (fun r3 R3 => (¬ r3 = (-1) → wp_isFigure r3 R3 (fun r4 R4 => (r4 = 0 → (r3 < 97 → K 0 (up (up (up R4 0 45 ((R4 0 45) + 1)) 0 46 3) 0 48 ((up (up R4 0 45 ((R4 0 45) + 1)) 0 46 3) 0 45))) ∧ (¬ (r3 < 97) → (122 < r3 → K 0 (up (up (up R4 0 45 ((R4 0 45) + 1)) 0 46 3) 0 48 ((up (up R4 0 45 ((R4 0 45) + 1)) 0 46 3) 0 45))) ∧ (¬ (122 < r3) → K 0 (up (up (up R4 0 45 ((R4 0 45) + 1)) 0 46 1) 0 48 ((up (up R4 0 45 ((R4 0 45) + 1)) 0 46 1) 0 45))))) ∧ (¬ (r4 = 0) → ∃ nn : Nat, wl_next_76 K nn R4))) ∧ (r3 = (-1) → K 0 (up (up R3 0 46 0) 0 48 ((up R3 0 46 0) 0 45)))) := by
    intro q R1 K0 hq es nb f1 i5
    have f2 : Fr R (up R1 0 47 (R1 0 45)) [] tkK := fr_up f1 (by simp)
    have j5 : (up R1 0 47 (R1 0 45)) 0 45 = ι q := by rw [upE, if_neg (by omega)]; exact i5
    have j7 : (up R1 0 47 (R1 0 45)) 0 47 = ι q := by rw [upE, if_pos rfl]; exact i5
    generalize up R1 0 47 (R1 0 45) = R2 at f2 j5 j7 ⊢
    have t2 := h.go f2 (by simp) (by simp)
    refine s_byteAt t2 j5 (by omega) (fun lt => ⟨fun _ => ?_, fun c => absurd c (ι_ne1 (by have := (t2.2.2 q lt).2; omega))⟩) (fun ge => ⟨fun c => absurd rfl c, fun _ => ?_⟩)
    · have bq := (t2.2.2 q lt).2
      refine s_isFig bq (fun fg => ⟨fun c => absurd c (by decide), fun _ => ⟨n - q + 1, figs (n - q) q q R2 (by omega) es rfl lt fg f2 j5 j7⟩⟩) (fun nf => ⟨fun _ => ?_, fun c => absurd rfl c⟩)
      rw [show (97 : Int32) = ι 97 from rfl, show (122 : Int32) = ι 122 from rfl, ι_lt (by omega) (by omega), ι_lt (by omega) (by omega)]
      have ec : tke tx n p = q + 1 ∧ tkc tx n p = tx q := tok_b es lt nf
      have out : ∀ x : Nat, x = tkd (tx q) → K 0 (up (up (up R2 0 45 ((R2 0 45) + 1)) 0 46 (ι x)) 0 48 ((up (up R2 0 45 ((R2 0 45) + 1)) 0 46 (ι x)) 0 45)) := fun x hx => by
        refine hK _ (fr_up (fr_up (fr_up f2 (by simp)) (by simp)) (by simp)) ⟨?_, ?_, ?_, ?_⟩
        · rw [upE, if_neg (by omega), upE, if_neg (by omega), upE, if_neg (by omega), j7, es]
        · rw [upE, if_neg (by omega), upE, if_neg (by omega), upE, if_pos rfl, j5, show (1 : Int32) = ι 1 from rfl, ι_add, ec.1]
        · rw [upE, if_pos rfl, upE, if_neg (by omega), upE, if_pos rfl, j5, show (1 : Int32) = ι 1 from rfl, ι_add, ec.1]
        · rw [upE, if_neg (by omega), upE, if_pos rfl, ec.2, hx]
      have k3 : tx q < 97 ∨ 122 < tx q → tkd (tx q) = 3 := fun w => by unfold tkd; rw [if_neg (by omega), if_neg (by omega), if_neg (by omega)]
      refine ⟨fun c => out 3 (k3 (Or.inl c)).symm, fun c => ⟨fun c2 => out 3 (k3 (Or.inr c2)).symm, fun c2 => out 1 ?_⟩⟩
      unfold tkd; rw [if_neg (by omega), if_neg (by omega), if_pos (by omega)]
    · have ec : tke tx n p = q ∧ tkc tx n p = 257 := tok_e es ge
      refine hK _ (fr_up (fr_up f2 (by simp)) (by simp)) ⟨?_, ?_, ?_, ?_⟩
      · rw [upE, if_neg (by omega), upE, if_neg (by omega), j7, es]
      · rw [upE, if_neg (by omega), upE, if_neg (by omega), j5, ec.1]
      · rw [upE, if_pos rfl, upE, if_neg (by omega), j5, ec.1]
      · rw [upE, if_neg (by omega), upE, if_pos rfl, ec.2]; rfl
  have loop : ∀ (r q : Nat) (R1 : RS), q + r = n → tks tx n p = skb tx r q → Fr R R1 [] tkK → R1 0 45 = ι q → wl_next_0 K (r + 1) R1 := by
    intro r
    induction r with
    | zero =>
      intro q R1 hq e f1 i5
      have t1 := h.go f1 (by simp) (by simp)
      show wb_next_0 _ _ _
      unfold wb_next_0
      refine s_byteAt t1 i5 (by omega) (fun c => absurd c (by omega)) (fun _ => ⟨fun c => absurd c (by decide), fun _ => ?_⟩)
      refine s_byteAt t1 i5 (by omega) (fun c => absurd c (by omega)) (fun _ => ⟨fun _ => ?_, fun c => absurd c (by decide)⟩)
      exact fin q R1 (fun _ => True) (by omega) e.symm (fun c => absurd c (by omega)) f1 i5
    | succ r ih =>
      intro q R1 hq e f1 i5
      have t1 := h.go f1 (by simp) (by simp)
      have bq := t1.2.2 q (by omega)
      have e26 : tx q = 32 ∨ tx q = 10 → w_next_26 (wl_next_0 K (r + 1)) K R1 := fun bl => by
        refine ih (q + 1) _ (by omega) ?_ (fr_up f1 (by simp)) ?_
        · rw [e, skb, if_pos bl]
        · rw [upE, if_pos rfl, i5, show (1 : Int32) = ι 1 from rfl, ι_add]
      show wb_next_0 _ _ _
      unfold wb_next_0
      refine s_byteAt t1 i5 (by omega) (fun _ => ?_) (fun c => absurd c (by omega))
      rw [show (32 : Int32) = ι 32 from rfl, ι_eq (by omega) (by omega)]
      refine ⟨fun c => e26 (Or.inl c), fun c => s_byteAt t1 i5 (by omega) (fun _ => ?_) (fun c => absurd c (by omega))⟩
      rw [show (10 : Int32) = ι 10 from rfl, ι_eq (by omega) (by omega)]
      exact ⟨fun c2 => fin q R1 (fun _ => True) (by omega) (by rw [e, skb, if_neg (by omega)]) (fun _ => by omega) f1 i5, fun c2 => e26 (Or.inr c2)⟩
  exact ⟨n - p + 1, loop (n - p) p R (by omega) rfl fr_rf h5⟩
end RTK2
/-! The reference: signs, names, numbers, atoms. -/
/-- a fault is told -/
def fltR (R : RS) (f : Nat) : RS := up (up R 0 49 (ι f)) 0 50 (R 0 47)
def RD (R : RS) (D : List Sq) : Prop := R 0 38 = ι D.length ∧ ∀ s, s < D.length → R 33 s = ι (sq D s).1 ∧ R 34 s = ι (sq D s).2.1 ∧ R 35 (2 * s) = ι (atK (sq D s).2.2.1) ∧ R 36 (2 * s) = ι (atV (sq D s).2.2.1) ∧ (isTwo (sq D s).2.1 → R 35 (2 * s + 1) = ι (atK (sq D s).2.2.2) ∧ R 36 (2 * s + 1) = ι (atV (sq D s).2.2.2)) ∧ ((sq D s).2.1 = 94 → R 36 (2 * s + 1) = ι (sq D s).2.2.2)
abbrev fltK : List Nat := [45, 46, 47, 48, 49, 50]
section RPA
variable {R : RS} {K : Int32 → RS → Prop} {tx : Nat → Nat} {n p : Nat} {D : List Sq}
theorem kd_0 {k : Nat} : tkd k = 0 ↔ k = 257 := by unfold tkd; split; simp [*]; split; simp_all; split <;> simp_all
theorem kd_2 {k : Nat} : tkd k = 2 ↔ k = 256 := by
  unfold tkd
  by_cases h : k = 257
  · rw [if_pos h]; omega
  · rw [if_neg h]
    by_cases h2 : k = 256
    · rw [if_pos h2]; omega
    · rw [if_neg h2]; split <;> omega
theorem kd_1 {k : Nat} : tkd k = 1 ↔ 97 ≤ k ∧ k ≤ 122 := by
  unfold tkd
  by_cases h : k = 257
  · rw [if_pos h]; omega
  · rw [if_neg h]
    by_cases h2 : k = 256
    · rw [if_pos h2]; omega
    · rw [if_neg h2]; split <;> omega
theorem kd_le {k : Nat} : tkd k ≤ 3 := by unfold tkd; split; omega; split; omega; split <;> omega
/-- a token that is a byte -/
theorem tk_byte (h1 : tkc tx n p ≠ 257) (h2 : tkc tx n p ≠ 256) : tks tx n p < n ∧ tx (tks tx n p) = tkc tx n p := by
  unfold tkc at h1 h2 ⊢
  by_cases e : n ≤ tks tx n p
  · rw [if_pos e] at h1; exact absurd rfl h1
  · rw [if_neg e] at h1 h2 ⊢
    by_cases f : 48 ≤ tx (tks tx n p) ∧ tx (tks tx n p) ≤ 57
    · rw [if_pos f] at h2; exact absurd rfl h2
    · rw [if_neg f]; exact ⟨by omega, rfl⟩
theorem flt_fr {f : Nat} : Fr R (fltR R f) [] fltK := fr_up (fr_up fr_rf (by simp)) (by simp)
theorem flt_49 {f : Nat} : fltR R f 0 49 = ι f := by unfold fltR; rw [upE, if_neg (by omega), upE, if_pos rfl]
theorem flt_50 {f : Nat} : fltR R f 0 50 = R 0 47 := by unfold fltR; rw [upE, if_pos rfl]
theorem s_wrong0 {x : Int32} {f : Nat} (hx : x = ι f) (h9 : R 0 49 = 0) (h : K 0 (fltR R f)) : wp_wrong x R K := by
  subst hx
  refine ⟨fun _ => ?_, fun c => absurd h9 c⟩
  have e : (up R 0 49 (ι f)) 0 47 = R 0 47 := by rw [upE, if_neg (by omega)]
  rw [e]
  exact h
theorem s_wrongF {x : Int32} (h9 : R 0 49 ≠ 0) (h : K 0 R) : wp_wrong x R K := ⟨fun c => absurd c h9, fun _ => h⟩
theorem s_passF (h9 : R 0 49 ≠ 0) (h : K 0 R) : wp_pass R K := ⟨fun _ => h, fun c => absurd c h9⟩
theorem s_pass0 (h9 : R 0 49 = 0) (t : Rt R tx n) (k : Rk R tx n p) (hp : p ≤ n) (h : ∀ R', Fr R R' [] tkK → Rk R' tx n (tke tx n p) → K 0 R') : wp_pass R K := ⟨fun c => absurd h9 c, fun _ => s_next t (tke_le hp).2.1 k.2.1 h⟩
theorem s_isSignF {x : Int32} (h9 : R 0 49 ≠ 0) (h : K 0 R) : wp_isSign x R K := ⟨fun _ => h, fun c => absurd c h9⟩
theorem s_isSign0 {x : Nat} (h9 : R 0 49 = 0) (t : Rt R tx n) (k : Rk R tx n p) (hx : x < 97) (hp : p ≤ n) (h1 : tkc tx n p = x → K 1 R) (hn : tkc tx n p ≠ x → K 0 R) : wp_isSign (ι x) R K := by
  refine ⟨fun c => absurd h9 c, fun _ => ?_⟩
  have kl := kd_le (k := tkc tx n p)
  have n2 := t.2.1
  rw [k.2.2.2, show (3 : Int32) = ι 3 from rfl, ι_eq (by omega) (by omega)]
  refine ⟨fun c => hn (fun e => c ?_), fun c => ?_⟩
  · unfold tkd
    by_cases f : 48 ≤ x ∧ x ≤ 57
    · -- a figure is no token by itself
      exfalso
      have b := tk_byte (tx := tx) (n := n) (p := p) (by omega) (by omega)
      have tf := tok_f (tx := tx) (p := p) rfl b.1 (by rw [b.2, e]; exact f)
      omega
    · rw [if_neg (by omega), if_neg (by omega), if_neg (by omega)]
  · have z0 : tkc tx n p ≠ 257 := fun e => by have := kd_0.mpr e; omega
    have z2 : tkc tx n p ≠ 256 := fun e => by have := kd_2.mpr e; omega
    have b := tk_byte z0 z2
    have tb := t.2.2 _ b.1
    rw [k.1, ι_cl (by omega), tb.1, b.2, ι_eq (by have := tb.2; omega) (by omega)]
    exact ⟨ι_in (by omega) (by omega), hn, h1⟩
theorem s_named {nm : Nat} (hd : R 0 38 = ι D.length) (hD : D.length ≤ 23) (hN : ∀ s, s < D.length → R 33 s = ι (sq D s).1 ∧ (sq D s).1 ≤ 23) (hn : nm ≤ 1000) (h : K (if lk1 D nm = 0 then -1 else ι (lk1 D nm - 1)) R) : wp_named (ι nm) R K := by
  have loop : ∀ r i, i + r = D.length → lkp D nm i = 0 → wl_named_2 K (r + 1) (ι nm) (ι i) R := by
    intro r
    induction r with
    | zero =>
      intro i hi z
      show wb_named_2 _ _ _ _ _
      unfold wb_named_2
      rw [hd, ι_le (by omega) (by omega)]
      have e : i = D.length := by omega
      rw [e] at z
      refine ⟨fun _ => ?_, fun c => absurd (by omega) c⟩
      rw [if_pos z] at h; exact h
    | succ r ih =>
      intro i hi z
      have ni := hN i (by omega)
      show wb_named_2 _ _ _ _ _
      unfold wb_named_2
      rw [hd, ι_le (by omega) (by omega), ι_cl (by omega), ni.1, ι_eq (by omega) (by omega), show (1 : Int32) = ι 1 from rfl, ι_add]
      refine ⟨fun c => absurd c (by omega), fun _ => ⟨ι_in (by omega) (by omega), fun ne => ih (i + 1) (by omega) (by unfold lkp; rw [if_pos z, if_neg ne]), fun e => ?_⟩⟩
      have st : ∀ j, i + 1 ≤ j → lkp D nm j = i + 1 := by
        intro j hj
        induction j with
        | zero => omega
        | succ j ihj =>
          unfold lkp
          by_cases g : j = i
          · rw [g, if_pos z, if_pos e]
          · rw [ihj (by omega), if_neg (by omega)]
      have l1 : lk1 D nm = i + 1 := st D.length (by omega)
      rw [l1, if_neg (by omega), Nat.add_sub_cancel] at h
      exact h
  exact ⟨D.length + 1, loop D.length 0 (by omega) rfl⟩
theorem s_readNum {lim : Nat} {x : Int32} (hx : x = ι lim) (hl : lim ≤ 99) (h9 : R 0 49 = 0) (t : Rt R tx n) (k : Rk R tx n p) (hp : p ≤ n) (h1 : tkc tx n p = 256 → tkv tx n p ≤ lim → ∀ R', Fr R R' [] tkK → Rk R' tx n (tke tx n p) → K (ι (tkv tx n p)) R') (h2 : tkc tx n p = 256 → lim < tkv tx n p → K (ι (tkv tx n p)) (fltR R 2)) (h3 : tkc tx n p ≠ 256 → K 0 (fltR R 1)) : wp_readNumber x R K := by
  subst hx
  have ts := tks_le (tx := tx) hp
  have te := tke_le (tx := tx) hp
  have n2 := t.2.1
  have kl := kd_le (k := tkc tx n p)
  have nlv := nuv_le (tx := tx) (s := tks tx n p) (tke tx n p - tks tx n p)
  unfold wp_readNumber
  refine ⟨fun c => absurd h9 c, fun _ => ?_⟩
  rw [k.2.2.2, show (2 : Int32) = ι 2 from rfl, ι_eq (by omega) (by omega), kd_2]
  refine ⟨fun e => ?_, fun e => ?_⟩
  · -- the figures
    have sn : tks tx n p < n := by
      apply Classical.byContradiction; intro c
      have := tok_e (tx := tx) (p := p) rfl (show n ≤ tks tx n p by omega)
      omega
    have fgs : ∀ j, tks tx n p ≤ j → j < tke tx n p → 48 ≤ tx j ∧ tx j ≤ 57 := by
      have fg : 48 ≤ tx (tks tx n p) ∧ tx (tks tx n p) ≤ 57 := by
        apply Classical.byContradiction; intro c
        have tb := tok_b (tx := tx) (p := p) rfl sn c
        have := (t.2.2 _ sn).2
        omega
      have ef := (tok_f (tx := tx) (p := p) rfl sn fg).1
      have key : ∀ m q j, q ≤ j → j < skf tx m q → 48 ≤ tx j ∧ tx j ≤ 57 := by
        intro m
        induction m with
        | zero => intro q j h1 h2; unfold skf at h2; omega
        | succ m ih =>
          intro q j h1 h2
          unfold skf at h2
          by_cases g : 48 ≤ tx q ∧ tx q ≤ 57
          · rw [if_pos g] at h2
            by_cases e : j = q
            · rw [e]; exact g
            · exact ih (q + 1) j (by omega) h2
          · rw [if_neg g] at h2; omega
      intro j h1 h2
      rw [ef] at h2
      exact key _ _ j h1 h2
    have loop : ∀ r j, j + r = tke tx n p → tks tx n p ≤ j → wl_readNumber_27 K (r + 1) (ι lim) (ι (nuv tx (tks tx n p) (j - tks tx n p))) (ι j) R := by
      intro r
      induction r with
      | zero =>
        intro j hj hs
        have ej : j = tke tx n p := by omega
        rw [ej]
        show wb_readNumber_27 _ _ _ _ _ _
        unfold wb_readNumber_27
        rw [k.2.2.1, ι_le (by omega) (by omega)]
        refine ⟨fun c => absurd h9 c, fun _ => ⟨fun _ => ?_, fun c => absurd (by omega) c⟩⟩
        unfold w_readNumber_69
        rw [ι_le (by omega) (by omega)]
        refine ⟨fun c => s_pass0 h9 t k hp (fun R' r' k' => h1 e c R' r' k'), fun c => s_wrong0 (f := 2) rfl h9 ?_⟩
        exact s_passF (by rw [flt_49]; decide) (h2 e (by unfold tkv; omega))
      | succ r ih =>
        intro j hj hs
        have bj := t.2.2 j (by omega)
        have fg := fgs j hs (by omega)
        have nl := nuv_le (tx := tx) (s := tks tx n p) (j - tks tx n p)
        show wb_readNumber_27 _ _ _ _ _ _
        unfold wb_readNumber_27
        rw [k.2.2.1, ι_le (by omega) (by omega), ι_cl (by omega), bj.1, show (1 : Int32) = ι 1 from rfl, ι_add]
        refine ⟨fun c => absurd h9 c, fun _ => ⟨fun c => absurd c (by omega), fun _ => ⟨ι_in (by omega) (by omega), fun v1 e1 => ?_⟩⟩⟩
        have ev : v1 = ι (nuv tx (tks tx n p) (j + 1 - tks tx n p)) := by
          rw [e1, show (10 : Int32) = ι 10 from rfl, show (1000 : Int32) = ι 1000 from rfl, show (48 : Int32) = ι 48 from rfl, ι_mul, ι_add, ι_sub (by omega), show j + 1 - tks tx n p = j - tks tx n p + 1 by omega, nuv, show tks tx n p + (j - tks tx n p) = j by omega, Nat.mul_comm 10]
          by_cases c : nuv tx (tks tx n p) (j - tks tx n p) * 10 + tx j - 48 < 1000
          · rw [if_pos (by rw [ι_lt (by omega) (by omega)]; exact c)]; congr 1; omega
          · rw [if_neg (by rw [ι_lt (by omega) (by omega)]; exact c)]; congr 1; omega
        rw [ev]
        exact ih (j + 1) (by omega) (by omega)
    refine ⟨tke tx n p - tks tx n p + 1, ?_⟩
    have := loop (tke tx n p - tks tx n p) (tks tx n p) (by omega) (Nat.le_refl _)
    rw [Nat.sub_self] at this
    rw [k.1]
    exact this
  · refine s_wrong0 (f := 1) rfl h9 ?_
    have f9 : fltR R 1 0 49 ≠ 0 := by rw [flt_49]; decide
    refine ⟨1, ?_⟩
    show wb_readNumber_27 _ _ _ _ _ _
    unfold wb_readNumber_27
    refine ⟨fun _ => ?_, fun c => absurd c f9⟩
    unfold w_readNumber_69
    exact ⟨fun _ => s_passF f9 (h3 e), fun c => absurd (ι_le0 (by omega)) c⟩
end RPA
/-! The reference: atoms and steps. -/
section RAT
variable {R : RS} {K : Int32 → RS → Prop} {tx : Nat → Nat} {n p q w : Nat} {D : List Sq} {c : Sq}
/-- only slot w of 35 and 36 changes -/
def AtW (R R' : RS) (w : Nat) : Prop := Fr R R' [35, 36] fltK ∧ ∀ j, j ≠ w → R' 35 j = R 35 j ∧ R' 36 j = R 36 j
theorem AtW.rf : AtW R R w := ⟨fr_rf, fun _ _ => ⟨rfl, rfl⟩⟩
theorem AtW.u5 {R1 : RS} {x : Int32} (h : AtW R R1 w) : AtW R (up R1 35 w x) w := ⟨fr_upF h.1 (by simp) (by omega), fun j hj => by rw [upE, if_neg hj, upN (by omega)]; exact h.2 j hj⟩
theorem AtW.u6 {R1 : RS} {x : Int32} (h : AtW R R1 w) : AtW R (up R1 36 w x) w := ⟨fr_upF h.1 (by simp) (by omega), fun j hj => by rw [upN (by omega), upE, if_neg hj]; exact h.2 j hj⟩
theorem AtW.fr {R1 R2 : RS} (h : AtW R R1 w) (r : Fr R1 R2 [] fltK) : AtW R R2 w := ⟨h.1.tr (r.mo (by decide) (by decide)), fun j hj => by rw [r.1 35 (by omega) (by simp), r.1 36 (by omega) (by simp)]; exact h.2 j hj⟩
theorem Rk.go {R1 R2 : RS} {fs ks : List Nat} (h : Rk R1 tx n p) (r : Fr R1 R2 fs ks) (hk : ∀ k ∈ tkK, k ∉ ks) : Rk R2 tx n p := by
  obtain ⟨a1, a2, a3, a4⟩ := h
  exact ⟨by rw [r.2 47 (hk 47 (by simp))]; exact a1, by rw [r.2 45 (hk 45 (by simp))]; exact a2, by rw [r.2 48 (hk 48 (by simp))]; exact a3, by rw [r.2 46 (hk 46 (by simp))]; exact a4⟩
theorem s_readAtom {x : Int32} (hx : x = ι w) (hw : w < 46) (hD : DOk D) (hd : RD R D) (h9 : R 0 49 = 0) (t : Rt R tx n) (k : Rk R tx n p) (hp : p ≤ n) (h : ∀ R', AtW R R' w → ((tkA q D c (tkc tx n p) (tkv tx n p)).1 ≠ 0 → R' 0 49 = ι (tkA q D c (tkc tx n p) (tkv tx n p)).1 ∧ R' 0 50 = ι (tks tx n p)) → (∀ a, tkA q D c (tkc tx n p) (tkv tx n p) = (0, stQ q D c a) → R' 0 49 = 0 ∧ Rk R' tx n (tke tx n p) ∧ R' 35 w = ι (atK a) ∧ R' 36 w = ι (atV a)) → K 0 R') : wp_readAtom x R K := by
  subst hx
  have kl := kd_le (k := tkc tx n p)
  have n2 := t.2.1
  have i46 : vp_in (ι w) 46 := ι_in (by omega) (by omega)
  have frK : ∀ {A B : RS}, Fr A B [] tkK → Fr A B [] fltK := fun r => r.mo (by decide) (by decide)
  have dis : ∀ {a f : Nat} {m : Mt}, f ≠ 0 → ∀ {b : Mt}, ((f, m) : Nat × Mt) = (0, b) → False := fun hf _ e => hf (congrArg Prod.fst e)
  have inj : ∀ {a b : Nat}, ((0, stQ q D c a) : Nat × Mt) = (0, stQ q D c b) → a = b := fun {a b} e => by
    have e2 := congrArg Prod.snd e
    unfold stQ at e2
    by_cases g : q = 3
    · rw [if_pos g, if_pos g] at e2
      simp at e2
      exact e2
    · rw [if_neg g, if_neg g] at e2
      simp at e2
      exact e2
  unfold wp_readAtom
  refine ⟨fun _ => ?_, fun c => absurd h9 c⟩
  rw [k.2.2.2, show (2 : Int32) = ι 2 from rfl, show (1 : Int32) = ι 1 from rfl, ι_eq (by omega) (by omega), ι_eq (by omega) (by omega), kd_2, kd_1, ι_cl (by omega)]
  refine ⟨fun ne => ⟨fun al => ?_, fun na => ?_⟩, fun e => ⟨i46, ?_⟩⟩
  · -- a letter
    have b := tk_byte (tx := tx) (n := n) (p := p) (by omega) (by omega)
    have tb := t.2.2 _ b.1
    rw [k.1, ι_cl (by omega), tb.1, b.2]
    refine ⟨ι_in (by omega) (by omega), fun v1 e1 => ?_⟩
    rw [e1, show (120 : Int32) = ι 120 from rfl, ι_lt (by omega) (by omega)]
    have pas : ∀ (R1 : RS) (a : Nat), AtW R R1 w → Fr R R1 [35, 36] [] → R1 35 w = ι (atK a) → R1 36 w = ι (atV a) → tkA q D c (tkc tx n p) (tkv tx n p) = (0, stQ q D c a) → w_readAtom_119 K R1 := fun R1 a aw f1 k5 k6 et => by
      refine s_pass0 (by rw [f1.2 49 (by simp)]; exact h9) (t.go f1 (by simp) (by simp)) (k.go f1 (by simp)) hp (fun R2 r2 k2 => h R2 (aw.fr (frK r2)) (fun z => absurd (by rw [et]) z) (fun a' e' => ?_))
      rw [et] at e'
      have := inj e'
      subst this
      exact ⟨by rw [r2.2 49 (by simp), f1.2 49 (by simp)]; exact h9, k2, by rw [r2.1 35 (by omega) (by simp)]; exact k5, by rw [r2.1 36 (by omega) (by simp)]; exact k6⟩
    refine ⟨fun lt => ?_, fun ge => ?_⟩
    · unfold w_readAtom_76
      rw [show (120 : Int32) = ι 120 from rfl, ι_lt (by omega) (by omega), ι_cl (by omega), show (96 : Int32) = ι 96 from rfl, ι_sub (by omega)]
      refine ⟨i46, fun _ => ?_, fun c => absurd lt c⟩
      have f1 : Fr R (up R 35 w (ι 2)) [35, 36] [] := fr_upF fr_rf (by simp) (by omega)
      have a1 : AtW R (up R 35 w (ι 2)) w := AtW.rf.u5
      refine s_named (by rw [f1.2 38 (by simp)]; exact hd.1) hD.1 (fun s hs => ⟨by rw [f1.1 33 (by omega) (by simp)]; exact (hd.2 s hs).1, (hD.2.2 s hs).1.2⟩) (by omega) ?_
      unfold w_readAtom_103
      rw [ι_cl (by omega), upE, if_pos rfl]
      refine ⟨i46, i46, ?_⟩
      have le := lkp_le (D := D) (nm := tkc tx n p - 96) D.length
      have d23 := hD.1
      by_cases z : lk1 D (tkc tx n p - 96) = 0
      · rw [if_pos z]
        have et : tkA q D c (tkc tx n p) (tkv tx n p) = (3, (q, D, c)) := by unfold tkA; rw [if_neg ne, if_neg (by omega), if_neg (by omega), if_pos z]
        refine ⟨fun c => absurd rfl c, fun _ => ?_⟩
        have f2 : Fr R (up (up R 35 w (ι 2)) 36 w (-1)) [35, 36] [] := fr_upF f1 (by simp) (by omega)
        refine s_wrong0 (f := 3) rfl (by rw [f2.2 49 (by simp)]; exact h9) (s_passF (by rw [flt_49]; decide) (h _ (a1.u6.fr flt_fr) (fun _ => ?_) (fun a e' => ?_)))
        · rw [flt_49, flt_50, et]; exact ⟨rfl, by rw [f2.2 47 (by simp)]; exact k.1⟩
        · rw [et] at e'; exact absurd (congrArg Prod.fst e') (by simp)
      · rw [if_neg z]
        have le2 : lk1 D (tkc tx n p - 96) ≤ 23 := Nat.le_trans le d23
        refine ⟨fun _ => pas _ (103 + (lk1 D (tkc tx n p - 96) - 1)) a1.u6 (fr_upF f1 (by simp) (by omega)) ?_ ?_ (by unfold tkA; rw [if_neg ne, if_neg (by omega), if_neg (by omega), if_neg z]), fun cc => absurd cc (ι_ne1 (by omega))⟩
        · rw [upN (by omega), upE, if_pos rfl]; unfold atK; rw [if_neg (by omega), if_neg (by omega)]
        · rw [upE, if_pos rfl]; unfold atV; rw [if_neg (by omega), if_neg (by omega)]; congr 1; omega
    · unfold w_readAtom_76
      rw [show (120 : Int32) = ι 120 from rfl, ι_lt (by omega) (by omega), ι_cl (by omega), ι_sub (by omega)]
      refine ⟨i46, fun c => absurd c ge, fun _ => ?_⟩
      unfold w_readAtom_103
      rw [ι_cl (by omega), upE, if_pos rfl]
      have ek : atK (100 + tkc tx n p - 120) = 1 := by
        have g : 100 ≤ 100 + tkc tx n p - 120 ∧ 100 + tkc tx n p - 120 < 103 := by omega
        generalize 100 + tkc tx n p - 120 = z at g
        unfold atK; rw [if_neg (by omega), if_pos (by omega)]
      have ev : atV (100 + tkc tx n p - 120) = tkc tx n p - 120 := by
        have g : 100 ≤ 100 + tkc tx n p - 120 ∧ 100 + tkc tx n p - 120 < 103 := by omega
        have g2 : tkc tx n p - 120 = 100 + tkc tx n p - 120 - 100 := by omega
        rw [g2]
        generalize 100 + tkc tx n p - 120 = z at g
        unfold atV; rw [if_neg (by omega), if_pos (by omega)]
      refine ⟨i46, i46, fun _ => pas _ (100 + tkc tx n p - 120) AtW.rf.u5.u6 (fr_upF (fr_upF fr_rf (by simp) (by omega)) (by simp) (by omega)) ?_ ?_ (by unfold tkA; rw [if_neg ne, if_neg (by omega), if_pos (by omega)]), fun cc => absurd cc (ι_ne1 (by omega))⟩
      · rw [upN (by omega), upE, if_pos rfl, ek]
      · rw [upE, if_pos rfl, ev]
  · have et : tkA q D c (tkc tx n p) (tkv tx n p) = (1, (q, D, c)) := by unfold tkA; rw [if_neg ne, if_pos (by omega)]
    refine s_wrong0 (f := 1) rfl h9 (h _ (AtW.rf.fr flt_fr) (fun _ => ?_) (fun a e' => ?_))
    · rw [flt_49, flt_50, et]; exact ⟨rfl, k.1⟩
    · rw [et] at e'; exact absurd (congrArg Prod.fst e') (by simp)
  · -- a number
    have f1 : Fr R (up R 35 w 0) [35, 36] [] := fr_upF fr_rf (by simp) (by omega)
    have h91 : (up R 35 w 0) 0 49 = 0 := by rw [f1.2 49 (by simp)]; exact h9
    refine s_readNum (lim := 99) rfl (by omega) h91 (t.go f1 (by simp) (by simp)) (k.go f1 (by simp)) hp (fun _ le R' r' k' => ⟨i46, ?_⟩) (fun _ gt => ⟨i46, ?_⟩) (fun c => absurd e c)
    · have et : tkA q D c (tkc tx n p) (tkv tx n p) = (0, stQ q D c (tkv tx n p)) := by unfold tkA; rw [if_pos e, if_neg (by omega)]
      refine h _ ((AtW.rf.u5.fr (frK r')).u6) (fun z => absurd (by rw [et]) z) (fun a e' => ?_)
      rw [et] at e'
      have := inj e'
      subst this
      refine ⟨?_, ?_, ?_, ?_⟩
      · rw [upN (by omega), r'.2 49 (by simp)]; exact h91
      · exact k'.go (fr_upF (fs := [36]) (ks := []) fr_rf (by simp) (by omega)) (by simp)
      · rw [upN (by omega), r'.1 35 (by omega) (by simp), upE, if_pos rfl]; unfold atK; rw [if_pos (by omega)]; rfl
      · rw [upE, if_pos rfl]; unfold atV; rw [if_pos (by omega)]
    · have et : tkA q D c (tkc tx n p) (tkv tx n p) = (2, (q, D, c)) := by unfold tkA; rw [if_pos e, if_pos (by omega)]
      refine h _ ((AtW.rf.u5.fr flt_fr).u6) (fun _ => ?_) (fun a e' => ?_)
      · rw [upN (by omega), flt_49, flt_50, et]; exact ⟨rfl, by rw [f1.2 47 (by simp)]; exact k.1⟩
      · rw [et] at e'; exact absurd (congrArg Prod.fst e') (by simp)
end RAT
