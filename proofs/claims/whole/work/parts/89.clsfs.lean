/-! A computation of Factors: what it may write, its room. -/
def FS (h0 X0 S0 : Nat) (S S1 : HS) : Prop := Ext S S1 (Wk h0 S) (Vk h0) ∧ Tp S1 ∧ CBx h0 S1 ∧ (∀ o, o = 12 ∨ o = 15 ∨ o = 39 ∨ o = 42 → hP S1 (h0 + o) 0 = hP S (h0 + o) 0 ∨ hX S ≤ bxC h0 S1 o) ∧ (hI S1 (h0 + 41) 2 = ι 1 ∧ hI S1 (h0 + 44) 2 = ι 1) ∧ CRr h0 X0 S0 S1
/-- what Factors writes beside its Boxes' strides -/
def Wy (h0 : Nat) (S : HS) (b _k : Nat) : Prop := b = h0 + 25 ∨ b = h0 + 26 ∨ (h0 + 30 ≤ b ∧ b < h0 + 50 ∧ b ≠ h0 + 41 ∧ b ≠ h0 + 44) ∨ b = bxC h0 S 39 ∨ b = bxC h0 S 42
theorem vk_ptr {h0 : Nat} : ∀ q ∈ ptrL, ¬ Vk h0 (h0 + q.1) q.2.1 := by
  have h : ∀ q ∈ ptrL, (q.1 = 12 → q.2.1 ≠ 0) ∧ (q.1 = 15 → q.2.1 ≠ 0) ∧ (q.1 = 39 → q.2.1 ≠ 0) ∧ (q.1 = 42 → q.2.1 ≠ 0) ∧ (q.1 = 25 → q.2.1 ≠ 13) := by decide
  intro q hq
  have := h q hq
  unfold Vk
  omega
section FSS
variable {h0 X0 S0 : Nat} {S S1 S2 : HS}
theorem CRr.mo {a b : Nat} (h : CRr h0 X0 S0 S) (ha : X0 ≤ a) (hb : S0 ≤ b) : CRr h0 a b S := by
  obtain ⟨q0, b1, b2, b3, b4, q1, q2⟩ := h
  exact ⟨by omega, b1, b2, b3, b4, by omega, q2⟩
theorem CRr.room (h : CRr h0 X0 S0 S) (hb : CBx h0 S) : hX S ≤ X0 ∧ hS S ≤ S0 + 1634055 ∧ hN S (bxC h0 S 39) ≤ 137842 := by
  obtain ⟨q0, b1, b2, b3, b4, q1, q2, q3, q4, q5, q6, q7, q8, q9⟩ := h
  have hb := hb.1.2.1.2.2.2.1
  refine ⟨q0, ?_, q6⟩
  rcases q4 with q4 | q4
  · omega
  · omega
theorem CBx.new {o : Nat} {W : Nat → Nat → Prop} (ho : o = 12 ∨ o = 15 ∨ o = 39 ∨ o = 42) (hb : CBx h0 S) (ht : Tp S) (h60 : h0 + 60 ≤ hX S) (e : Ext S S1 W (Vg h0 o)) (pn : hP S1 (h0 + o) 0 = some (hX S)) (hx : hX S < hX S1) (tn : hT S1 (hX S) = 21) (nn : hN S1 (hX S) ≤ 269001) : CBx h0 S1 := by
  have same : ∀ o2, o2 ≠ o → o2 ≤ 42 → hP S1 (h0 + o2) 0 = hP S (h0 + o2) 0 := fun o2 h1 h2 => (e.2.2.1 (h0 + o2) (by omega)).2.2.2 0 (by unfold Vg; omega)
  have hbc : bxC h0 S1 o = hX S := by unfold bxC; rw [pn]; rfl
  have oth : ∀ o2, o2 ≠ o → o2 ≤ 42 → Bx h0 S o2 → Bx h0 S1 o2 ∧ bxC h0 S1 o2 = bxC h0 S o2 ∧ bxC h0 S o2 < hX S := fun o2 h1 h2 h3 => ⟨h3.go e (same o2 h1 h2), bxC.go (same o2 h1 h2), h3.2.1⟩
  have new : Bx h0 S1 o := by
    unfold Bx
    rw [hbc, pn]
    refine ⟨rfl, hx, tn, nn, Or.inr (by omega), ?_, ?_⟩
    · rw [(e.2.2.1 (hX S - 1) (by omega)).1]; exact ht.1
    · rw [(e.2.2.1 (hX S - 2) (by omega)).1]; exact ht.2
  obtain ⟨⟨b1, b2, b3, b4⟩, d1, d2, d3, d4, d5, d6⟩ := hb
  rcases ho with rfl | rfl | rfl | rfl
  · obtain ⟨f2, g2, k2⟩ := oth 15 (by omega) (by omega) b2
    obtain ⟨f3, g3, k3⟩ := oth 39 (by omega) (by omega) b3
    obtain ⟨f4, g4, k4⟩ := oth 42 (by omega) (by omega) b4
    refine ⟨⟨new, f2, f3, f4⟩, ?_⟩
    rw [hbc, g2, g3, g4]; omega
  · obtain ⟨f2, g2, k2⟩ := oth 12 (by omega) (by omega) b1
    obtain ⟨f3, g3, k3⟩ := oth 39 (by omega) (by omega) b3
    obtain ⟨f4, g4, k4⟩ := oth 42 (by omega) (by omega) b4
    refine ⟨⟨f2, new, f3, f4⟩, ?_⟩
    rw [hbc, g2, g3, g4]; omega
  · obtain ⟨f2, g2, k2⟩ := oth 12 (by omega) (by omega) b1
    obtain ⟨f3, g3, k3⟩ := oth 15 (by omega) (by omega) b2
    obtain ⟨f4, g4, k4⟩ := oth 42 (by omega) (by omega) b4
    refine ⟨⟨f2, f3, new, f4⟩, ?_⟩
    rw [hbc, g2, g3, g4]; omega
  · obtain ⟨f2, g2, k2⟩ := oth 12 (by omega) (by omega) b1
    obtain ⟨f3, g3, k3⟩ := oth 15 (by omega) (by omega) b2
    obtain ⟨f4, g4, k4⟩ := oth 39 (by omega) (by omega) b3
    refine ⟨⟨f2, f3, f4, new⟩, ?_⟩
    rw [hbc, g2, g3, g4]; omega
theorem tp_new {W V : Nat → Nat → Prop} (ht : Tp S) (h60 : h0 + 60 ≤ hX S) (e : Ext S S1 W V) (hx : hX S1 = hX S + 1) (tn : hT S1 (hX S) = 21) : Tp S1 := by
  unfold Tp
  rw [hx, show hX S + 1 - 1 = hX S by omega, show hX S + 1 - 2 = hX S - 1 by omega, tn, (e.2.2.1 (hX S - 1) (by omega)).1]
  exact ⟨by decide, ht.1⟩
theorem tp_same {W V : Nat → Nat → Prop} (ht : Tp S) (h60 : h0 + 60 ≤ hX S) (e : Ext S S1 W V) (hx : hX S1 = hX S) : Tp S1 := by
  unfold Tp
  rw [hx, (e.2.2.1 (hX S - 1) (by omega)).1, (e.2.2.1 (hX S - 2) (by omega)).1]
  exact ht
theorem FS.lay (h : FS h0 X0 S0 S S1) (hL : Lay h0 S) (h60 : h0 + 60 ≤ hX S) : Lay h0 S1 := hL.go h60 h.1 vk_ptr
theorem FS.mo {a b : Nat} (h : FS h0 X0 S0 S S1) (ha : X0 ≤ a) (hb : S0 ≤ b) : FS h0 a b S S1 := ⟨h.1, h.2.1, h.2.2.1, h.2.2.2.1, h.2.2.2.2.1, h.2.2.2.2.2.mo ha hb⟩
/-- where a Box lies -/
theorem FS.bx (h : FS h0 X0 S0 S S1) {o : Nat} (ho : o = 12 ∨ o = 15 ∨ o = 39 ∨ o = 42) : bxC h0 S1 o = bxC h0 S o ∨ hX S ≤ bxC h0 S1 o := (h.2.2.2.1 o ho).imp (fun e => bxC.go e) id
theorem FS.scr {W : Nat → Nat → Prop} (h : FS h0 X0 S0 S S1) (h60 : h0 + 60 ≤ hX S) (e : Ext S1 S2 W V0) (hw : ∀ b k, W b k → Wy h0 S1 b k) (hx : hX S2 = hX S1) (hs : hS S2 = hS S1) : FS h0 X0 S0 S S2 := by
  have k39 := h.bx (o := 39) (by omega)
  have k42 := h.bx (o := 42) (by omega)
  obtain ⟨a1, a2, a3, a4, a5, a6⟩ := h
  have h61 : h0 + 60 ≤ hX S1 := by have := a1.1; omega
  have p9 := a3.1.2.2.1.2.2.2.2.1
  have p2 := a3.1.2.2.2.2.2.2.2.1
  have nP : ∀ o, o ≤ 42 → hP S2 (h0 + o) 0 = hP S1 (h0 + o) 0 := fun o ho => (e.2.2.1 _ (by omega)).2.2.2 0 (fun c => c)
  have ho : ∀ o, o = 12 ∨ o = 15 ∨ o = 39 ∨ o = 42 → hP S2 (h0 + o) 0 = hP S1 (h0 + o) 0 := fun o ho => nP o (by omega)
  refine ⟨a1.tr2 e (fun b k hb w => ?_) (fun b k hb w => absurd w (fun c => c)), tp_same a2 h61 e hx, a3.go e ho, fun o ho2 => ?_, ⟨?_, ?_⟩, ?_⟩
  · have := hw b k w
    unfold Wy at this
    unfold Wk
    omega
  · rw [ho o ho2, bxC.go (ho o ho2)]; exact a4 o ho2
  · rw [(e.2.2.1 (h0 + 41) (by omega)).2.2.1 2 (fun w => by have := hw _ _ w; unfold Wy at this; omega)]; exact a5.1
  · rw [(e.2.2.1 (h0 + 44) (by omega)).2.2.1 2 (fun w => by have := hw _ _ w; unfold Wy at this; omega)]; exact a5.2
  · have := a6.go (a := 0) (b := 0) e a3 ho (by omega) (by omega)
    exact this
theorem FS.open9 {X Y Z : Nat} (h : FS h0 X0 S0 S S1) (h60 : h0 + 60 ≤ hX S) (op : Op h0 S1 S2 39 X Y Z) (hus : usd X Y Z ≤ 68921) : FS h0 (X0 + 1) S0 S S2 := by
  have k39 := h.bx (o := 39) (by omega)
  obtain ⟨a1, a2, a3, a4, a5, a6⟩ := h
  have h61 : h0 + 60 ≤ hX S1 := by have := a1.1; omega
  have p9 := a3.1.2.2.1.2.2.2.2.1
  obtain ⟨e, bo, oc⟩ := op
  have e12 : Ext S S2 (Wk h0 S) (Vk h0) := a1.tr2 e (fun b k hb w => by unfold Wo at w; unfold Wk; omega) (fun b k hb w => by unfold Vg at w; unfold Vk; omega)
  have same : ∀ o2, o2 ≠ 39 → o2 ≤ 42 → hP S2 (h0 + o2) 0 = hP S1 (h0 + o2) 0 := fun o2 h1 h2 => (e.2.2.1 (h0 + o2) (by omega)).2.2.2 0 (by unfold Vg; omega)
  have s5 : hI S2 (h0 + 41) 2 = ι 1 ∧ hI S2 (h0 + 44) 2 = ι 1 := ⟨by rw [(e.2.2.1 (h0 + 41) (by omega)).2.2.1 2 (by unfold Wo; omega)]; exact a5.1, by rw [(e.2.2.1 (h0 + 44) (by omega)).2.2.1 2 (by unfold Wo; omega)]; exact a5.2⟩
  have len : ∀ o2, o2 ≠ 39 → (o2 = 12 ∨ o2 = 15 ∨ o2 = 42) → Bx h0 S1 o2 → hN S2 (bxC h0 S2 o2) = hN S1 (bxC h0 S1 o2) := fun o2 h1 h2 h3 => by
    rw [bxC.go (same o2 h1 (by omega)), (e.2.2.1 _ h3.2.1).2.1]
  have l12 := len 12 (by omega) (by omega) a3.1.1
  have l15 := len 15 (by omega) (by omega) a3.1.2.1
  have l42 := len 42 (by omega) (by omega) a3.1.2.2.2
  obtain ⟨q0, b1, b2, b3, b4, q1, q2, q3, q4, q5, q6, q7, q8, q9⟩ := a6
  rcases oc with ⟨c1, c2, c3, c4⟩ | ⟨c1, c2, c3, c4, c5, c6⟩
  · have ho : ∀ o, o = 12 ∨ o = 15 ∨ o = 39 ∨ o = 42 → hP S2 (h0 + o) 0 = hP S1 (h0 + o) 0 := fun o ho => by
      by_cases g : o = 39
      · rw [g]; exact c2
      · exact same o g (by omega)
    have l39 : hN S2 (bxC h0 S2 39) = hN S1 (bxC h0 S1 39) := by rw [c1, (e.2.2.1 _ a3.1.2.2.1.2.1).2.1]
    refine ⟨e12, tp_same a2 h61 e c3, a3.go e ho, fun o ho2 => ?_, s5, by omega, b1, b2, b3, b4, by omega, ?_⟩
    · rw [ho o ho2, bxC.go (ho o ho2)]; exact a4 o ho2
    · rw [l12, l15, l39, l42]; exact ⟨q2, q3, q4, q5, q6, q7, q8, q9⟩
  · have hbc : bxC h0 S2 39 = hX S1 := by unfold bxC; rw [c1]; rfl
    have hlen := bo.2.2.2.2.1
    obtain ⟨n1, n2, n3⟩ := nl_le (ln := hN S1 (bxC h0 S1 39)) hlen
    have hnl : nl (usd X Y Z) (hN S1 (bxC h0 S1 39)) ≤ 137842 ∧ 2 * hN S1 (bxC h0 S1 39) ≤ nl (usd X Y Z) (hN S1 (bxC h0 S1 39)) := by
      unfold nl
      split <;> split <;> omega
    refine ⟨e12, tp_new a2 h61 e c2 c4, CBx.new (by omega) a3 a2 h61 e c1 (by omega) c4 (by rw [c5]; exact n2), fun o ho2 => ?_, s5, by omega, b1, b2, b3 + nl (usd X Y Z) (hN S1 (bxC h0 S1 39)), b4, by omega, ?_⟩
    · by_cases g : o = 39
      · rw [g, hbc]; exact Or.inr a1.1
      · rw [same o g (by omega), bxC.go (same o g (by omega))]; exact a4 o ho2
    · rw [l12, l15, l42, hbc, c5]; exact ⟨q2, q3, q4, by omega, hnl.1, q7, q8, Or.inr (by omega)⟩
theorem FS.copy {X Y Z u : Nat} (h : FS h0 X0 S0 S S1) (h60 : h0 + 60 ≤ hX S) (cp : Cp h0 S1 S2 u) (hu : u ≤ usd X Y Z) (hus : usd X Y Z ≤ hN S1 (bxC h0 S1 39)) : (FS h0 X0 S0 S S2 ∧ hN S2 (bxC h0 S2 42) = hN S1 (bxC h0 S1 42)) ∨ (FS h0 (X0 + 1) S0 S S2 ∧ hN S1 (bxC h0 S1 42) < usd X Y Z ∧ usd X Y Z ≤ hN S2 (bxC h0 S2 42)) := by
  have k42 := h.bx (o := 42) (by omega)
  obtain ⟨a1, a2, a3, a4, a5, a6⟩ := h
  have h61 : h0 + 60 ≤ hX S1 := by have := a1.1; omega
  have p2 := a3.1.2.2.2.2.2.2.2.1
  obtain ⟨e, bo, i2, oc⟩ := cp
  have e12 : Ext S S2 (Wk h0 S) (Vk h0) := a1.tr2 e (fun b k hb w => by unfold Wo at w; unfold Wk; omega) (fun b k hb w => by unfold Vg at w; unfold Vk; omega)
  have same : ∀ o2, o2 ≠ 42 → o2 ≤ 42 → hP S2 (h0 + o2) 0 = hP S1 (h0 + o2) 0 := fun o2 h1 h2 => (e.2.2.1 (h0 + o2) (by omega)).2.2.2 0 (by unfold Vg; omega)
  have s5 : hI S2 (h0 + 41) 2 = ι 1 ∧ hI S2 (h0 + 44) 2 = ι 1 := ⟨by rw [(e.2.2.1 (h0 + 41) (by omega)).2.2.1 2 (by unfold Wo; omega)]; exact a5.1, by rw [i2]; exact a5.2⟩
  have len : ∀ o2, o2 ≠ 42 → (o2 = 12 ∨ o2 = 15 ∨ o2 = 39) → Bx h0 S1 o2 → hN S2 (bxC h0 S2 o2) = hN S1 (bxC h0 S1 o2) := fun o2 h1 h2 h3 => by
    rw [bxC.go (same o2 h1 (by omega)), (e.2.2.1 _ h3.2.1).2.1]
  have l12 := len 12 (by omega) (by omega) a3.1.1
  have l15 := len 15 (by omega) (by omega) a3.1.2.1
  have l39 := len 39 (by omega) (by omega) a3.1.2.2.1
  obtain ⟨q0, b1, b2, b3, b4, q1, q2, q3, q4, q5, q6, q7, q8, q9⟩ := a6
  rcases oc with ⟨c1, c2, c3, c4⟩ | ⟨c1, c2, c3, c4, c5, c6⟩
  · have ho : ∀ o, o = 12 ∨ o = 15 ∨ o = 39 ∨ o = 42 → hP S2 (h0 + o) 0 = hP S1 (h0 + o) 0 := fun o ho => by
      by_cases g : o = 42
      · rw [g]; exact c2
      · exact same o g (by omega)
    have l42 : hN S2 (bxC h0 S2 42) = hN S1 (bxC h0 S1 42) := by rw [c1, (e.2.2.1 _ a3.1.2.2.2.2.1).2.1]
    refine Or.inl ⟨⟨e12, tp_same a2 h61 e c3, a3.go e ho, fun o ho2 => ?_, s5, by omega, b1, b2, b3, b4, by omega, ?_⟩, l42⟩
    · rw [ho o ho2, bxC.go (ho o ho2)]; exact a4 o ho2
    · rw [l12, l15, l39, l42]; exact ⟨q2, q3, q4, q5, q6, q7, q8, q9⟩
  · have hbc : bxC h0 S2 42 = hX S1 := by unfold bxC; rw [c1]; rfl
    refine Or.inr ⟨⟨e12, tp_new a2 h61 e c2 c4, CBx.new (by omega) a3 a2 h61 e c1 (by omega) c4 (by rw [c5]; omega), fun o ho2 => ?_, s5, by omega, b1, b2, b3, b4 + hN S1 (bxC h0 S1 39), by omega, ?_⟩, by omega, by rw [hbc, c5]; exact hus⟩
    · by_cases g : o = 42
      · rw [g, hbc]; exact Or.inr a1.1
      · rw [same o g (by omega), bxC.go (same o g (by omega))]; exact a4 o ho2
    · rw [l12, l15, l39, hbc, c5]; exact ⟨q2, q3, q4, q5, q6, by omega, q6, Or.inl rfl⟩
end FSS
/-! A line is taken out of what is left. -/
/-- Factors at work on F: degrees D, degree T, Box of X, Y, Z -/
def FA (h0 : Nat) (S : HS) (p : Nat) (D : Nat → Nat) (T X Y Z : Nat) (F : N3) : Prop := FL h0 S p D T X Y Z ∧ Bu h0 S 39 X Y Z (ub D Y Z) F ∧ Sp3 p D F ∧ (∃ x y z, F x y z ≠ 0) ∧ Dg3 T F
/-- where Factors keeps what a division leaves alone -/
def Kp (h0 : Nat) (S S' : HS) : Prop := ∀ x, x = h0 + 25 ∨ x = h0 + 26 ∨ x = h0 + 46 ∨ x = h0 + 47 ∨ (h0 + 27 ≤ x ∧ x ≤ h0 + 38) → ∀ k, (¬ (x = h0 + 25 ∧ k = 9) → hI S' x k = hI S x k) ∧ hP S' x k = hP S x k
theorem Kp.rf {h0 : Nat} {S : HS} : Kp h0 S S := fun _ _ _ => ⟨fun _ => rfl, rfl⟩
theorem Kp.tr {h0 : Nat} {S S1 S2 : HS} (h : Kp h0 S S1) (g : Kp h0 S1 S2) : Kp h0 S S2 := fun x hx k => ⟨fun w => ((g x hx k).1 w).trans ((h x hx k).1 w), (g x hx k).2.trans (h x hx k).2⟩
/-- the room: one cell more at most -/
def FT (h0 X0 S0 : Nat) (S S1 : HS) (X Y Z : Nat) : Prop := FS h0 X0 S0 S S1 ∨ (FS h0 (X0 + 1) S0 S S1 ∧ usd X Y Z ≤ hN S1 (bxC h0 S1 42))
/-- where a line may lie -/
def Qo (h0 : Nat) (S : HS) (q : Nat) : Prop := q < hX S ∧ (q = h0 + 47 ∨ h0 + 56 ≤ q) ∧ q ≠ bxC h0 S 39 ∧ q ≠ bxC h0 S 42
section DIV2
variable {M : Nat × Nat} {S S1 S2 : HS} {K : Int32 → HS → Prop} {h0 X0 S0 p q a b c d T X Y Z : Nat} {D : Nat → Nat} {F : N3}
theorem FT.fs (h : FT h0 X0 S0 S S1 X Y Z) : FS h0 (X0 + 1) S0 S S1 := h.elim (fun h => h.mo (by omega) (by omega)) (fun h => h.1)
theorem FT.scr {W : Nat → Nat → Prop} (h : FT h0 X0 S0 S S1 X Y Z) (h60 : h0 + 60 ≤ hX S) (e : Ext S1 S2 W V0) (hw : ∀ b k, W b k → Wy h0 S1 b k) (hx : hX S2 = hX S1) (hs : hS S2 = hS S1) : FT h0 X0 S0 S S2 X Y Z := by
  rcases h with h | ⟨h, h2⟩
  · exact Or.inl (h.scr h60 e hw hx hs)
  · refine Or.inr ⟨h.scr h60 e hw hx hs, ?_⟩
    have h61 : h0 + 60 ≤ hX S1 := by have := h.1.1; omega
    rw [bxC.go ((e.2.2.1 _ (by omega)).2.2.2 0 (fun c => c)), (e.2.2.1 _ h.2.2.1.1.2.2.2.2.1).2.1]
    exact h2
theorem Qo.go {V : Nat → Nat → Prop} {W : Nat → Nat → Prop} (h : Qo h0 S q) (h60 : h0 + 60 ≤ hX S) (e : Ext S S1 W V) (hb : ∀ o, o = 39 ∨ o = 42 → bxC h0 S1 o = bxC h0 S o ∨ hX S ≤ bxC h0 S1 o) : Qo h0 S1 q := by
  have := hb 39 (by omega)
  have := hb 42 (by omega)
  have := e.1
  obtain ⟨h1, h2, h3, h4⟩ := h
  exact ⟨by omega, h2, by omega, by omega⟩
theorem qo_bx (h60 : h0 + 60 ≤ hX S) {W : Nat → Nat → Prop} (e : Ext S S1 W V0) : ∀ o, o = 39 ∨ o = 42 → bxC h0 S1 o = bxC h0 S o ∨ hX S ≤ bxC h0 S1 o := fun o ho => Or.inl (bxC.go ((e.2.2.1 _ (by omega)).2.2.2 0 (fun c => c)))
/-- a cell in the order of a line -/
theorem Bu.tw {o u l e v w : Nat} (bo : Bu h0 S o X Y Z u F) (hl : l ≤ 2) (h1 : e ≤ dm X Y Z l) (h2 : v ≤ dm X Y Z (fsL l)) (h3 : w ≤ dm X Y Z (scL l)) : hI S (bxC h0 S o) (cxl Y Z l e v w) = ι (twN l F e v w) := by
  have := bo.2.2.2.2.2
  have hh : l = 0 ∨ l = 1 ∨ l = 2 := by omega
  rcases hh with rfl | rfl | rfl
  · exact this e v w h1 h2 h3
  · exact this v e w h2 h1 h3
  · exact this v w e h2 h3 h1
theorem Cq.tb (h : Cq h0 S S1 (ub D Y Z)) (bo : Bu h0 S 39 X Y Z (ub D Y Z) F) (h2 : hI S1 (h0 + 44) 2 = ι 1) : Tb h0 S1 Y Z D := by
  refine ⟨fun v hv => ?_, h.2.2.1⟩
  have : v = 0 ∨ v = 1 ∨ v = 2 := by omega
  rcases this with rfl | rfl | rfl
  · rw [h.1]; exact bo.2.1
  · rw [h.2.1]; exact bo.1
  · exact h2
/-- fewer cells are used -/
theorem c_narrow {u : Nat} (t9 : hT S (h0 + 39) = 2) (p2 : hP S (h0 + 39) 2 = some (h0 + 41)) (ts : hT S (h0 + 41) = 21) (ns : hN S (h0 + 41) = 3) (s0 : hI S (h0 + 41) 0 = ι ((Y + 1) * (Z + 1))) (s1 : hI S (h0 + 41) 1 = ι (Z + 1)) (hu : hI S (h0 + 39) 1 = ι u) (hle : ub D Y Z ≤ u) (hu9 : u ≤ 269001) (h : K 0 (sI S (h0 + 39) 1 (ι (ub D Y Z)))) : wp_X1_narrow M (h0 + 39) (ι (D 0)) (ι (D 1)) (ι (D 2)) S K := by
  unfold wp_X1_narrow
  have e : ι (D 0) * ι ((Y + 1) * (Z + 1)) + ι (D 1) * ι (Z + 1) + ι (D 2) + 1 = ι (ub D Y Z) := by
    rw [show (1 : Int32) = ι 1 from rfl, ι_mul, ι_mul, ι_add, ι_add, ι_add]
    congr 1
    unfold ub cx
    omega
  refine ⟨t9, t9, h0 + 41, p2, ts, by rw [ns]; exact ι_in (a := 0) (by omega) (by omega), t9, h0 + 41, p2, ts, by rw [ns]; exact ι_in (a := 1) (by omega) (by omega), t9, ?_⟩
  rw [show Int32.toNatClampNeg 0 = 0 from rfl, show Int32.toNatClampNeg 1 = 1 from rfl, s0, s1, hu, e]
  by_cases c : ub D Y Z < u
  · rw [if_pos ((ι_lt (by omega) (by omega)).mpr c)]; exact h
  · rw [if_neg (fun w => c ((ι_lt (by omega) (by omega)).mp w)), show u = ub D Y Z by omega]; exact h
/-- the quotient as what is left -/
theorem qt_bo {w : Nat} (hfl : FL h0 S p D T X Y Z) (bo : Bu h0 S 39 X Y Z w F) (hs : Sp3 p D F) {Q : N3} (qt : QtI S S1 (bxC h0 S 39) (cxl Y Z (led a b)) (D (led a b)) (D (fsL (led a b))) (D (scL (led a b))) Q (D (led a b) + 1) 0 0) (hQ : ∀ e u v, D (led a b) < e ∨ D (fsL (led a b)) < u ∨ D (scL (led a b)) < v → Q e u v = 0) : Bu h0 S1 39 X Y Z w (utN (led a b) Q) := by
  obtain ⟨hL, h60, hb, hp10, hD, hXYZ, hpp, -⟩ := hfl
  obtain ⟨e1, x1, s1, qi, qo⟩ := qt
  have hl2 := led_le (a := a) (b := b)
  obtain ⟨f1, f2, f3, f4, f5⟩ := fsL_ne hl2
  have d0 := (hD _ hl2).2
  have d1 := (hD _ f4).2
  have d2 := (hD _ f5).2
  have p9 := hb.1.2.2.1.2.2.2.2.1
  have e39 : bxC h0 S1 39 = bxC h0 S 39 := bxC.go ((e1.2.2.1 _ (by omega)).2.2.2 0 (fun c => c))
  have n39 := (e1.2.2.1 _ hb.1.2.2.1.2.1).2.1
  obtain ⟨o1, o2, o3, o4, o5, o6⟩ := bo
  refine ⟨?_, ?_, ?_, by rw [e39, n39]; exact o4, o5, ?_⟩
  · rw [(e1.2.2.1 (h0 + 39 + 2) (by omega)).2.2.1 1 (by unfold Wc; omega)]; exact o1
  · rw [(e1.2.2.1 (h0 + 39 + 2) (by omega)).2.2.1 0 (by unfold Wc; omega)]; exact o2
  · rw [(e1.2.2.1 (h0 + 39) (by omega)).2.2.1 1 (by unfold Wc; omega)]; exact o3
  · rw [e39]
    -- in the order of the line
    have key : ∀ e u v, e ≤ dm X Y Z (led a b) → u ≤ dm X Y Z (fsL (led a b)) → v ≤ dm X Y Z (scL (led a b)) → hI S (bxC h0 S 39) (cxl Y Z (led a b) e u v) = ι (twN (led a b) F e u v) → hI S1 (bxC h0 S 39) (cxl Y Z (led a b) e u v) = ι (Q e u v) := fun e u v he hu hv hF => by
      by_cases g : D (led a b) < e ∨ D (fsL (led a b)) < u ∨ D (scL (led a b)) < v
      · rw [qo _ (fun e' u' v' he' hu' hv' hh => ?_), hF, hs.tw hl2 e u v g, hQ e u v g]
        have := cxl_inj (X := X) (Y := Y) (Z := Z) hl2 he hu hv (by omega) (by omega) (by omega) hh
        omega
      · exact (qi e u v (by omega) (by omega) (by omega)).1 (Or.inl (by omega))
    intro x y z hx hy hz
    have h3 : led a b = 0 ∨ led a b = 1 ∨ led a b = 2 := by omega
    rcases h3 with h | h | h <;> rw [h] at key ⊢
    · exact key x y z hx hy hz (o6 x y z hx hy hz)
    · exact key y x z hy hx hz (o6 x y z hx hy hz)
    · exact key z x y hz hx hy (o6 x y z hx hy hz)
def Wdk (h0 b k : Nat) : Prop := b = h0 + 45 ∨ (b = h0 + 39 ∧ k = 1)
theorem dcD_3 {v : Nat} (hv : v ≤ 2) : (v = led a b ∨ v = fsL (led a b) ∨ v = scL (led a b)) ∧ dcD D a b c v = if v = led a b then D v - 1 else if v = fsL (led a b) then D v - (if l1 a b = 0 then 0 else 1) else D v - (if l2 a b c = 0 then 0 else 1) := by
  have hl2 := led_le (a := a) (b := b)
  refine ⟨by unfold fsL scL; split <;> split <;> omega, ?_⟩
  unfold dcD; split; rfl; split <;> rfl
/-- the last degree, and the cells used -/
theorem c_dv136 {s0 s1 : Nat} (hp : 2 ≤ p ∧ p ≤ 13) (hL : Lay h0 S) (h60 : h0 + 60 ≤ hX S) (hD : ∀ v, v ≤ 2 → hI S (h0 + 45) v = ι (D v)) (d40 : ∀ v, v ≤ 2 → D v ≤ 40) (o1 : hI S (h0 + 41) 1 = ι (Z + 1)) (o2 : hI S (h0 + 41) 0 = ι ((Y + 1) * (Z + 1))) (o3 : hI S (h0 + 39) 1 = ι (ub D Y Z)) (hub : ub D Y Z ≤ 269001) (cg : cgo D a b c) (hs0 : s0 = (if l1 a b = 0 then 0 else 1)) (hs1 : s1 = (if l2 a b c = 0 then 0 else 1))
    (last : ∀ S8, Ext S S8 (Wdk h0) V0 → hX S8 = hX S → hS S8 = hS S → (∀ v, v ≤ 2 → hI S8 (h0 + 45) v = ι (dcD D a b c v)) → hI S8 (h0 + 39) 1 = ι (ub (dcD D a b c) Y Z) → K 1 S8) : w_X2_divide_136 M K (h0 + 25) (ι s1) (ι (D (scL (led a b)))) (ι (scL (led a b))) (h0 + 45) (sI (sI S (h0 + 45) (led a b) (ι (D (led a b) - 1))) (h0 + 45) (fsL (led a b)) (ι (D (fsL (led a b)) - s0))) := by
  have hl2 := led_le (a := a) (b := b)
  obtain ⟨f1, f2, f3, f4, f5⟩ := fsL_ne hl2
  have d2 := d40 _ f5
  unfold cgo at cg
  have s11 : s1 ≤ D (scL (led a b)) := by rw [hs1]; split <;> omega
  unfold w_X2_divide_136
  rw [ι_cl (by omega), ι_sub s11]
  refine ⟨hL.t45, by show vp_in _ (hN S (h0 + 45)); rw [hL.n45]; exact ι_in (by omega) (by omega), ?_⟩
  generalize hSA : sI (sI (sI S (h0 + 45) (led a b) (ι (D (led a b) - 1))) (h0 + 45) (fsL (led a b)) (ι (D (fsL (led a b)) - s0))) (h0 + 45) (scL (led a b)) (ι (D (scL (led a b)) - s1)) = SA
  have eA : Ext S SA (Wdk h0) V0 := by rw [← hSA]; exact (((Ext.rf S _ _).sI (Or.inl rfl)).sI (Or.inl rfl)).sI (Or.inl rfl)
  have xA : hX SA = hX S := by rw [← hSA]; rfl
  have yA : hS SA = hS S := by rw [← hSA]; rfl
  have nA : ∀ w, w ≠ h0 + 45 → hI SA w = hI S w := fun w hw => by rw [← hSA, sI_ne hw, sI_ne hw, sI_ne hw]
  have hvA : ∀ v, v ≤ 2 → hI SA (h0 + 45) v = ι (dcD D a b c v) := fun v hv => by
    obtain ⟨v3, dc⟩ := dcD_3 (a := a) (b := b) (c := c) (D := D) hv
    rw [dc, ← hSA, sI_eq, sI_eq, sI_eq]
    rcases v3 with g | g | g
    · rw [if_neg (fun w => f2 (w.symm.trans g)), if_neg (fun w => f1 (w.symm.trans g)), if_pos g, if_pos g, g]
    · rw [if_neg (fun w => f3 (g.symm.trans w)), if_pos g, if_neg (fun w => f1 (g.symm.trans w)), if_pos g, g, hs0]
    · rw [if_pos g, if_neg (fun w => f2 (g.symm.trans w)), if_neg (fun w => f3 (w.symm.trans g)), hs1, g]
  have LA : Lay h0 SA := hL.go h60 eA (fun _ _ c => c)
  have dle : ∀ v, v ≤ 2 → dcD D a b c v ≤ D v := fun v _ => by unfold dcD; omega
  refine ⟨LA.t25, h0 + 39, LA.p25_6, LA.t25, h0 + 45, LA.p25_8, LA.t45, by rw [LA.n45]; exact ι_in (a := 0) (by omega) (by omega), LA.t25, h0 + 45, LA.p25_8, LA.t45, by rw [LA.n45]; exact ι_in (a := 1) (by omega) (by omega), LA.t25, h0 + 45, LA.p25_8, LA.t45, by rw [LA.n45]; exact ι_in (a := 2) (by omega) (by omega), LA.t39, ?_⟩
  rw [show Int32.toNatClampNeg 0 = 0 from rfl, show Int32.toNatClampNeg 1 = 1 from rfl, show Int32.toNatClampNeg 2 = 2 from rfl, hvA 0 (by omega), hvA 1 (by omega), hvA 2 (by omega)]
  refine c_narrow (D := dcD D a b c) (Y := Y) (Z := Z) (u := ub D Y Z) LA.t39 LA.p39_2 LA.t41 LA.n41 ?_ ?_ ?_ (ub_mo dle) hub (last _ (eA.sI (Or.inr ⟨rfl, rfl⟩)) xA yA (fun v hv => ?_) ?_)
  · rw [nA _ (by omega)]; exact o2
  · rw [nA _ (by omega)]; exact o1
  · rw [nA _ (by omega)]; exact o3
  · rw [sI_ne (by omega)]; exact hvA v hv
  · rw [sI_eq, if_pos rfl]
theorem c_dv112 {s0 : Nat} (hp : 2 ≤ p ∧ p ≤ 13) (hln : Ln p a b c d) (hL : Lay h0 S) (h60 : h0 + 60 ≤ hX S) (hq : LnAt S q a b c d) (hqn : q = h0 + 47 ∨ h0 + 56 ≤ q) (hD : ∀ v, v ≤ 2 → hI S (h0 + 45) v = ι (D v)) (d40 : ∀ v, v ≤ 2 → D v ≤ 40) (o1 : hI S (h0 + 41) 1 = ι (Z + 1)) (o2 : hI S (h0 + 41) 0 = ι ((Y + 1) * (Z + 1))) (o3 : hI S (h0 + 39) 1 = ι (ub D Y Z)) (hub : ub D Y Z ≤ 269001) (cg : cgo D a b c) (hs0 : s0 = (if l1 a b = 0 then 0 else 1))
    (last : ∀ S8, Ext S S8 (Wdk h0) V0 → hX S8 = hX S → hS S8 = hS S → (∀ v, v ≤ 2 → hI S8 (h0 + 45) v = ι (dcD D a b c v)) → hI S8 (h0 + 39) 1 = ι (ub (dcD D a b c) Y Z) → K 1 S8) : w_X2_divide_112 M K (h0 + 25) q (ι s0) (ι (D (fsL (led a b)))) (ι (fsL (led a b))) (h0 + 45) (sI S (h0 + 45) (led a b) (ι (D (led a b) - 1))) := by
  have hl2 := led_le (a := a) (b := b)
  obtain ⟨f1, f2, f3, f4, f5⟩ := fsL_ne hl2
  have lb := hln.lb
  have cg' := cg
  unfold cgo at cg'
  have q46 : q ≠ h0 + 45 := by omega
  obtain ⟨g0, g1, g2, g3, g4, g5, g6⟩ := hq
  have s01 : s0 ≤ D (fsL (led a b)) := by rw [hs0]; split <;> omega
  have i2 : hI (sI (sI S (h0 + 45) (led a b) (ι (D (led a b) - 1))) (h0 + 45) (fsL (led a b)) (ι (D (fsL (led a b)) - s0))) q 2 = ι (scL (led a b)) := by rw [sI_ne q46, sI_ne q46]; exact g3
  have i4 : hI (sI (sI S (h0 + 45) (led a b) (ι (D (led a b) - 1))) (h0 + 45) (fsL (led a b)) (ι (D (fsL (led a b)) - s0))) q 4 = ι (l2 a b c) := by rw [sI_ne q46, sI_ne q46]; exact g5
  have i45 : hI (sI (sI S (h0 + 45) (led a b) (ι (D (led a b) - 1))) (h0 + 45) (fsL (led a b)) (ι (D (fsL (led a b)) - s0))) (h0 + 45) (scL (led a b)) = ι (D (scL (led a b))) := by rw [sI_eq, if_neg (fun w => f3 w.symm), sI_eq, if_neg f2]; exact hD _ f5
  have g136 := fun s1 hs1 => c_dv136 (M := M) (K := K) (s0 := s0) (s1 := s1) hp hL h60 hD d40 o1 o2 o3 hub cg hs0 hs1 last
  unfold w_X2_divide_112
  rw [ι_cl (by omega), ι_sub s01]
  refine ⟨hL.t45, by rw [sI_N, hL.n45]; exact ι_in (by omega) (by omega), hL.t25, h0 + 45, hL.p25_8, g0, hL.t45, ?_⟩
  rw [i2, i4, ι_cl (by omega), show (0 : Int32) = ι 0 from rfl, ι_eq (by omega) (by omega), i45]
  exact ⟨by show vp_in _ (hN S (h0 + 45)); rw [hL.n45]; exact ι_in (by omega) (by omega), g0, fun w => g136 1 (by rw [if_neg w]), fun w => g136 0 (by rw [if_pos w])⟩
def Wdn (h0 b k : Nat) : Prop := b = h0 + 45 ∨ (b = h0 + 39 ∧ k = 1) ∨ (b = h0 + 25 ∧ k = 9)
set_option maxHeartbeats 4000000 in
theorem c_divide (h60 : h0 + 60 ≤ hX S) (ft : FT h0 X0 S0 S S1 X Y Z) (fa : FA h0 S1 p D T X Y Z F) (hln : Ln p a b c d) (hq : LnAt S1 q a b c d) (hqo : Qo h0 S1 q) (r1 : X0 + 2 ≤ M.1) (r2 : S0 + 2000000 ≤ M.2)
    (h1 : ∀ S2, FT h0 X0 S0 S S2 X Y Z → FA h0 S2 p (dcD D a b c) (T - 1) X Y Z (dvF p a b c d D F) → LnAt S2 q a b c d → Qo h0 S2 q → cgo D a b c → Al (p : Int) (nz3 F) (lm (lv a b c d) (nz3 (dvF p a b c d D F))) → Kp h0 S1 S2 → K 1 S2)
    (hz : ∀ S2, FT h0 X0 S0 S S2 X Y Z → FA h0 S2 p D T X Y Z F → LnAt S2 q a b c d → Qo h0 S2 q → ¬ Dv (p : Int) (lv a b c d) (nz3 F) → Kp h0 S1 S2 → K 0 S2) : wp_X2_divide M (h0 + 25) q S1 K := by
  obtain ⟨fl, bo, hs, ne, hg⟩ := fa
  have hfl := fl
  obtain ⟨hL, h61, hb, hp10, hD, hXYZ, hpp, hT9⟩ := fl
  have hp := hpp.le
  have hl2 := led_le (a := a) (b := b)
  obtain ⟨f1, f2, f3, f4, f5⟩ := fsL_ne hl2
  have d0 := hD _ hl2
  have d1 := hD _ f4
  have d2 := hD _ f5
  have m0 := dm_le (v := led a b) hXYZ
  have m1 := dm_le (v := fsL (led a b)) hXYZ
  have m2 := dm_le (v := scL (led a b)) hXYZ
  have lb := hln.lb
  have rm := ft.fs.2.2.2.2.2.room hb
  have nul : (0 : Int32) = ι 0 := rfl
  have one : (1 : Int32) = ι 1 := rfl
  have hul : ub D Y Z ≤ usd X Y Z := ub_le (fun v hv => (hD v hv).2)
  unfold wp_X2_divide
  refine ⟨hL.t25, c_canGoIn (by omega) hln hq hL.t25 hL.p25_8 hL.t45 hL.n45 (fun v hv => ⟨(hD v hv).1, by have := (hD v hv).2; have := dm_le (v := v) hXYZ; omega⟩) (fun cg => ⟨fun _ => ?_, fun w => absurd w (by decide)⟩) (fun cg => ⟨fun w => absurd rfl w, fun _ => hz S1 ft ⟨hfl, bo, hs, ne, hg⟩ hq hqo (dv_cgo hpp hln hs ne cg) Kp.rf⟩)⟩
  refine ⟨hL.t25, h0 + 42, hL.p25_7, hL.t25, h0 + 39, hL.p25_6, hL.t42, c_copyFrom hL h61 hb bo hul (by omega) (by omega) (fun S3 cp => ?_)⟩
  -- behind the copy
  have k42p := hb.1.2.2.2.2.2.2.2.1
  have k39p := hb.1.2.2.1.2.2.2.2.1
  have k42x := hb.1.2.2.2.2.1
  have k39x := hb.1.2.2.1.2.1
  have ft3 : FT h0 X0 S0 S S3 X Y Z := by
    rcases ft with ft | ⟨ft, ft2⟩
    · rcases ft.copy (X := X) (Y := Y) (Z := Z) h60 cp hul bo.2.2.2.1 with t | t
      · exact Or.inl t.1
      · exact Or.inr ⟨t.1, t.2.2⟩
    · rcases ft.copy (X := X) (Y := Y) (Z := Z) h60 cp hul bo.2.2.2.1 with t | t
      · exact Or.inr ⟨t.1, by rw [t.2]; exact ft2⟩
      · omega
  have fs3 := ft3.fs
  have e13 := cp.1
  have hb3 := fs3.2.2.1
  have bx3 := fs3.bx (o := 42) (by omega)
  have cpb : bxC h0 S3 42 = bxC h0 S1 42 ∨ hX S1 ≤ bxC h0 S3 42 := by
    rcases cp.2.2.2 with w | w
    · exact Or.inl w.1
    · exact Or.inr (by unfold bxC; rw [w.1]; exact Nat.le_refl _)
  have e39 : hP S3 (h0 + 39) 0 = hP S1 (h0 + 39) 0 := (e13.2.2.1 _ (by omega)).2.2.2 0 (by unfold Vg; omega)
  have bne := hb.2.2.2.2.2.2
  have bo3 : Bu h0 S3 39 X Y Z (ub D Y Z) F := bo.go2 hb.1.2.2.1 (by omega) h61 e13 (by unfold Vg; omega) (fun k => ⟨by unfold Wo; omega, by unfold Wo; omega, by unfold Wo; omega⟩)
  have fl3 : FL h0 S3 p D T X Y Z := ⟨hL.go h61 e13 (fun q hq => by have := vk_ptr (h0 := h0) q hq; unfold Vk at this; unfold Vg; omega), by have := e13.1; omega, hb3, by rw [(e13.2.2.1 (h0 + 25) (by omega)).2.2.1 12 (by unfold Wo; omega)]; exact hp10, fun v hv => by rw [(e13.2.2.1 (h0 + 45) (by omega)).2.2.1 v (by unfold Wo; omega)]; exact hD v hv, hXYZ, hpp, by rw [(e13.2.2.1 (h0 + 25) (by omega)).2.2.1 9 (by unfold Wo; omega)]; exact hT9.1, hT9.2⟩
  have hq3 : LnAt S3 q a b c d := hq.go hqo.1 e13 (fun k => by have := hqo.2; unfold Wo; omega)
  have hqo3 : Qo h0 S3 q := hqo.go h61 e13 (fun o ho => by
    rcases ho with rfl | rfl
    · exact Or.inl (bxC.go e39)
    · exact cpb)
  have tb3 : Tb h0 S3 Y Z D := cp.2.1.tb bo fs3.2.2.2.2.1.2
  have kp3 : Kp h0 S1 S3 := fun x hx k => ⟨fun _ => (e13.2.2.1 x (by omega)).2.2.1 k (by unfold Wo; omega), (e13.2.2.1 x (by omega)).2.2.2 k (by unfold Vg; omega)⟩
  have si3 : SIx h0 S3 Y Z p a b c d D T F (D (led a b)) := by
    intro e u v he hu hv
    have cell : hI S3 (bxC h0 S3 42) (cxl Y Z (led a b) e u v) = ι (twN (led a b) F e u v) := by
      rw [cp.2.1.2.2.2 _ (cxl_ub hl2 he hu hv)]
      exact bo.tw hl2 (by omega) (by omega) (by omega)
    refine ⟨fun w => absurd w (by omega), fun w => ⟨twN (led a b) F e u v, ?_, cell, ?_, fun k => hg.tw e u v k⟩, fun _ => cell⟩
    · have := (Bd.tw hs.bd (l := led a b) e u v).1; omega
    · have lt := (Bd.tw hs.bd (l := led a b) e u v).1
      unfold plS
      rw [show D (led a b) + 1 - D (led a b) = 0 + 1 by omega]
      refine rs_of (by omega) ?_
      rw [w]
      have e0 : pln (l1 a b : Int) (l2 a b c : Int) (d : Int) (nz3 (twN (led a b) F)) (D (led a b)) (0 + 1) u v = nz3 (twN (led a b) F) (D (led a b)) u v := by
        have dz : ∀ x, dn (fun _ => (0 : Int)) x = 0 := fun x => by cases x <;> rfl
        show nz3 (twN (led a b) F) (D (led a b) - 0) u v - _ * (0 : Int) - _ * dn (fun _ => (0 : Int)) u - _ * dn (fun _ => (0 : Int)) v = _
        rw [dz, dz]
        simp
      rw [e0]
      show (p : Int) ∣ ((twN (led a b) F (D (led a b)) u v : Nat) : Int) - ((twN (led a b) F (D (led a b)) u v : Nat) : Int)
      rw [Int.sub_self]; exact Int.dvd_zero _
  -- the end of the division
  have fin : ∀ S4, FT h0 X0 S0 S S4 X Y Z → FL h0 S4 p D T X Y Z → Bu h0 S4 39 X Y Z (ub D Y Z) F → LnAt S4 q a b c d → Qo h0 S4 q → Tb h0 S4 Y Z D → Kp h0 S1 S4 → SIx h0 S4 Y Z p a b c d D T F 0 → (∀ i, i ≤ D (led a b) → ∀ u v, u ≤ D (fsL (led a b)) → v ≤ D (scL (led a b)) → badL a b c D u v → plS p a b c d D F i u v = 0) → ∀ nn, wl_X2_divide_31 M K (nn + 1) (h0 + 25) q 0 S4 := by
    intro S4 ft4 fl4 bo4 hq4 hqo4 tb4 kp4 si4 H nn
    have h64 : h0 + 60 ≤ hX S4 := fl4.2.1
    show wb_X2_divide_31 _ _ _ _ _ _ _
    unfold wb_X2_divide_31
    refine ⟨fun _ => ⟨fl4.1.t25, c_isSliceZero fl4 tb4 hq4 si4 (fun hr => ⟨fun _ => ?_, fun w => absurd w (by decide)⟩) (fun ⟨u, v, hn⟩ => ⟨fun w => absurd rfl w, fun _ => hz S4 ft4 ⟨fl4, bo4, hs, ne, hg⟩ hq4 hqo4 (dv_rem hpp hln hs hn) kp4⟩)⟩, fun w => absurd (by decide) w⟩
    obtain ⟨al, sp⟩ := dv_ok hpp hln hs cg H hr
    have b4 := fl4.2.2.1
    have pl0 : ∀ u v, plS p a b c d D F (D (led a b) - D (led a b)) u v = 0 := fun u v => by
      unfold plS
      rw [Nat.sub_self]
      exact (rs_0 (by omega)).mpr (Int.dvd_zero _)
    refine ⟨fl4.1.t25, c_takeQuotient fl4 tb4 hq4 hqo4.1 hqo4.2.2.1 bo4.2.2.2.1 (Q := fun e u v => plS p a b c d D F (D (led a b) - e) u v) (fun e u v he hu hv => ⟨fun g => ?_, fun g => by rw [g]; exact pl0 u v⟩) (fun e u v he hu hv g => ?_) (fun S5 qt => ?_)⟩
    · rw [(si4 (e + 1) u v (by omega) hu hv).1 (by omega), show D (led a b) + 1 - (e + 1) = D (led a b) - e by omega]
    · rw [bo4.tw hl2 (by omega) (by omega) (by omega), hg.tw e u v g]
      show ι 0 = ι (plS p a b c d D F (D (led a b) - e) u v)
      rw [plS_dg (by omega) hg (by omega) (by omega)]
    · have e45 := qt.1
      have x5 := qt.2.1
      have y5 := qt.2.2.1
      have fl5 := fl4.go (Or.inl rfl) e45
      have bo5 : Bu h0 S5 39 X Y Z (ub D Y Z) (dvF p a b c d D F) := qt_bo fl4 bo4 hs qt (fun e u v g => by
        have tw := sp.tw hl2 e u v
        unfold dvF at tw
        rw [twN_ut] at tw
        by_cases g2 : dcD D a b c (led a b) < e ∨ dcD D a b c (fsL (led a b)) < u ∨ dcD D a b c (scL (led a b)) < v
        · exact tw g2
        · unfold dcD at g2; omega)
      have hq5 := hq4.go hqo4.1 e45 (fun k => hqo4.2.2.1)
      have hqo5 : Qo h0 S5 q := hqo4.go h64 e45 (qo_bx h64 e45)
      have k9p := b4.1.2.2.1.2.2.2.2.1
      have k2p := b4.1.2.2.2.2.2.2.2.1
      have ft5 : FT h0 X0 S0 S S5 X Y Z := ft4.scr h60 e45 (fun b k w => by unfold Wc at w; unfold Wy; omega) x5 y5
      have h65 : h0 + 60 ≤ hX S5 := by omega
      -- the degrees
      have hqx5 := hq5
      obtain ⟨g0, g1, g2, g3, g4, g5, g6⟩ := hq5
      obtain ⟨L5, -, B5, P5, D5, -, -, T5⟩ := fl5
      have v0 := (D5 _ hl2).1
      have v1 := (D5 _ f4).1
      have v2 := (D5 _ f5).1
      have q46 : q ≠ h0 + 45 := by have := hqo5.2.1; omega
      have q25 : q ≠ h0 + 25 := by have := hqo5.2.1; omega
      have q39 : q ≠ h0 + 39 := by have := hqo5.2.1; omega
      have ne5 := left_ne hpp hln hs.bd sp.bd ne al
      have T1 : 1 ≤ T := by
        obtain ⟨x, y, z, nz⟩ := ne5
        exact Nat.pos_of_ne_zero (fun t0 => nz (dvF_dg (T := T) (by omega) hg (by omega)))
      have n39 := B5.1.2.2.1.2.2.2.2.1
      have n42 := B5.1.2.2.2.2.2.2.2.1
      obtain ⟨o1, o2, o3, o4, o5, o6⟩ := bo5
      unfold cgo at cg
      have dle : ∀ v, v ≤ 2 → dcD D a b c v ≤ D v := fun v _ => by unfold dcD; omega
      have last : ∀ S8, Ext S5 S8 (Wdn h0) V0 → hX S8 = hX S5 → hS S8 = hS S5 → (∀ v, v ≤ 2 → hI S8 (h0 + 45) v = ι (dcD D a b c v)) → hI S8 (h0 + 25) 9 = ι (T - 1) → hI S8 (h0 + 39) 1 = ι (ub (dcD D a b c) Y Z) → K 1 S8 := fun S8 e6 x6 y6 hv6 ht6 hu6 => by
        have e39 : bxC h0 S8 39 = bxC h0 S5 39 := bxC.go ((e6.2.2.1 _ (by omega)).2.2.2 0 (fun c => c))
        have nI : ∀ b k, b < hX S5 → ¬ Wdn h0 b k → hI S8 b k = hI S5 b k := fun b k hb w => (e6.2.2.1 b hb).2.2.1 k w
        refine h1 S8 (ft5.scr h60 e6 (fun b k w => by unfold Wdn at w; unfold Wy; omega) x6 y6) ⟨⟨L5.go h65 e6 (fun _ _ c => c), by omega, B5.go e6 (fun o ho => (e6.2.2.1 _ (by omega)).2.2.2 0 (fun c => c)), ?_, fun v hv => ⟨hv6 v hv, ?_⟩, hXYZ, hpp, ht6, by omega⟩, ⟨?_, ?_, hu6, ?_, o5, fun x y z hx hy hz => ?_⟩, sp, ne5, fun x y z k => dvF_dg (T := T) (by omega) hg (by omega)⟩ (LnAt.go hqx5 hqo5.1 e6 (fun k => by unfold Wdn; omega)) (hqo5.go h65 e6 (qo_bx h65 e6)) cg al (kp4.tr (fun x hx k => ⟨fun w => ?_, ?_⟩))
        · rw [nI _ _ (by omega) (by unfold Wdn; omega)]; exact P5
        · have := (D5 v hv).2
          have := dle v hv
          omega
        · rw [nI _ _ (by omega) (by unfold Wdn; omega)]; exact o1
        · rw [nI _ _ (by omega) (by unfold Wdn; omega)]; exact o2
        · rw [e39, (e6.2.2.1 _ B5.1.2.2.1.2.1).2.1]; exact o4
        · rw [e39, nI _ _ B5.1.2.2.1.2.1 (by unfold Wdn; omega)]; exact o6 x y z hx hy hz
        · rw [nI _ _ (by omega) (by unfold Wdn; omega), (e45.2.2.1 x (by omega)).2.2.1 k (by unfold Wc; omega)]
        · rw [(e6.2.2.1 x (by omega)).2.2.2 k (fun c => c), (e45.2.2.1 x (by omega)).2.2.2 k (fun c => c)]
      refine ⟨L5.t25, L5.t25, ?_⟩
      rw [T5.1, one, ι_sub T1]
      generalize hSt : sI S5 (h0 + 25) 9 (ι (T - 1)) = St
      have et : Ext S5 St (Wdn h0) V0 := by rw [← hSt]; exact (Ext.rf S5 _ _).sI (Or.inr (Or.inr ⟨rfl, rfl⟩))
      have xt : hX St = hX S5 := by rw [← hSt]; rfl
      have yt : hS St = hS S5 := by rw [← hSt]; rfl
      have it : ∀ b k, ¬ (b = h0 + 25 ∧ k = 9) → hI St b k = hI S5 b k := fun b k w => by
        rw [← hSt]
        by_cases c : b = h0 + 25
        · subst c; rw [sI_eq, if_neg (fun w2 => w ⟨rfl, w2⟩)]
        · rw [sI_ne c]
      have Tt : hI St (h0 + 25) 9 = ι (T - 1) := by rw [← hSt, sI_eq, if_pos rfl]
      have Lt : Lay h0 St := L5.go h65 et (fun _ _ c => c)
      have gt0 : hT St q = 4 := by rw [← hSt]; exact g0
      have gtq : LnAt St q a b c d := hqx5.go hqo5.1 et (fun k => by unfold Wdn; omega)
      have g112 := fun s0 hs0 => c_dv112 (M := M) (K := K) (s0 := s0) hp hln Lt (by omega) gtq hqo5.2.1 (fun v hv => by rw [it _ _ (by omega)]; exact (D5 v hv).1) (fun v hv => by have := (D5 v hv).2; have := dm_le (v := v) hXYZ; omega) (by rw [it _ _ (by omega)]; exact o1) (by rw [it _ _ (by omega)]; exact o2) (by rw [it _ _ (by omega)]; exact o3) (by omega) cg hs0 (fun S8 e8 x8 y8 hv8 hu8 => last S8 (et.tr (e8.mo (fun b k w => by unfold Wdk at w; unfold Wdn; omega) (fun _ _ c => c))) (by omega) (by omega) hv8 (by rw [(e8.2.2.1 (h0 + 25) (by omega)).2.2.1 9 (by unfold Wdk; omega)]; exact Tt) hu8)
      refine ⟨Lt.t25, h0 + 45, Lt.p25_8, gt0, Lt.t45, ?_⟩
      rw [it q 0 (by omega), g1, ι_cl (by omega), Lt.n45, it (h0 + 45) _ (by omega), v0, ι_sub (by omega)]
      refine ⟨ι_in (by omega) (by omega), Lt.t45, ι_in (by omega) (by omega), Lt.t25, h0 + 45, Lt.p25_8, gt0, Lt.t45, ?_⟩
      have i1 : hI (sI St (h0 + 45) (led a b) (ι (D (led a b) - 1))) q 1 = ι (fsL (led a b)) := by rw [sI_ne q46, it _ _ (by omega)]; exact g2
      have i3 : hI (sI St (h0 + 45) (led a b) (ι (D (led a b) - 1))) q 3 = ι (l1 a b) := by rw [sI_ne q46, it _ _ (by omega)]; exact g4
      have i45 : hI (sI St (h0 + 45) (led a b) (ι (D (led a b) - 1))) (h0 + 45) (fsL (led a b)) = ι (D (fsL (led a b))) := by rw [sI_eq, if_neg f1, it _ _ (by omega)]; exact v1
      rw [i1, i3, ι_cl (by omega), i45, nul, ι_eq (by omega) (by omega)]
      exact ⟨by show vp_in _ (hN St (h0 + 45)); rw [Lt.n45]; exact ι_in (by omega) (by omega), gt0, fun w => g112 1 (by rw [if_neg w]), fun w => g112 0 (by rw [if_pos w])⟩
  -- the slices
  have loop : ∀ m S4, m ≤ D (led a b) → FT h0 X0 S0 S S4 X Y Z → FL h0 S4 p D T X Y Z → Bu h0 S4 39 X Y Z (ub D Y Z) F → LnAt S4 q a b c d → Qo h0 S4 q → Tb h0 S4 Y Z D → Kp h0 S1 S4 → SIx h0 S4 Y Z p a b c d D T F m → (∀ i, i + m ≤ D (led a b) → ∀ u v, u ≤ D (fsL (led a b)) → v ≤ D (scL (led a b)) → badL a b c D u v → plS p a b c d D F i u v = 0) → wl_X2_divide_31 M K (m + 1) (h0 + 25) q (ι m) S4 := by
    intro m
    induction m with
    | zero => intro S4 hm ft4 fl4 bo4 hq4 hqo4 tb4 kp4 si4 H; exact fin S4 ft4 fl4 bo4 hq4 hqo4 tb4 kp4 si4 (fun i hi => H i (by omega)) 0
    | succ m ih =>
      intro S4 hm ft4 fl4 bo4 hq4 hqo4 tb4 kp4 si4 H
      have h64 : h0 + 60 ≤ hX S4 := fl4.2.1
      have b4 := fl4.2.2.1
      have k2p := b4.1.2.2.2.2.2.2.2.1
      have bne4 := b4.2.2.2.2.2.2
      have step : ∀ S5, Ext S4 S5 (Wc (bxC h0 S4 42)) V0 → hX S5 = hX S4 → hS S5 = hS S4 → FT h0 X0 S0 S S5 X Y Z ∧ FL h0 S5 p D T X Y Z ∧ Bu h0 S5 39 X Y Z (ub D Y Z) F ∧ LnAt S5 q a b c d ∧ Qo h0 S5 q ∧ Tb h0 S5 Y Z D ∧ Kp h0 S1 S5 := fun S5 e5 x5 y5 =>
        ⟨ft4.scr h60 e5 (fun b k w => by unfold Wc at w; unfold Wy; omega) x5 y5, fl4.go (Or.inr rfl) e5, bo4.go2 b4.1.2.2.1 (by omega) h64 e5 (fun c => c) (fun k => ⟨by unfold Wc; omega, by unfold Wc; omega, bne4⟩), hq4.go hqo4.1 e5 (fun k => hqo4.2.2.2), hqo4.go h64 e5 (qo_bx h64 e5), tb4.go fl4 (Or.inr rfl) e5, kp4.tr (fun x hx k => ⟨fun _ => (e5.2.2.1 x (by omega)).2.2.1 k (by unfold Wc; omega), (e5.2.2.1 x (by omega)).2.2.2 k (fun c => c)⟩)⟩
      show wb_X2_divide_31 _ _ _ _ _ _ _
      unfold wb_X2_divide_31
      rw [nul, ι_le (by omega) (by omega)]
      refine ⟨fun w => absurd w (by omega), fun _ => ⟨fl4.1.t25, c_divideSlice fl4 tb4 hln hq4 hqo4.1 hqo4.2.2.2 ⟨by omega, hm⟩ hs hg si4 (fun S5 e5 x5 y5 si5 z5 => ⟨fun _ => ?_, fun w => absurd w (by decide)⟩) (fun S5 e5 x5 y5 nd => ⟨fun w => absurd rfl w, fun _ => ?_⟩)⟩⟩
      · obtain ⟨t1, t2, t3, t4, t5, t6, t7⟩ := step S5 e5 x5 y5
        rw [show (-1 : Int32) = -ι 1 from rfl, ι_sub' (by omega)]
        refine ih S5 (by omega) t1 t2 t3 t4 t5 t6 t7 si5 (fun i hi u v hu hv bd => ?_)
        by_cases g : i + (m + 1) ≤ D (led a b)
        · exact H i g u v hu hv bd
        · rw [show i = D (led a b) + 1 - (m + 1) by omega]; exact z5 u v hu hv bd
      · obtain ⟨t1, t2, t3, t4, t5, t6, t7⟩ := step S5 e5 x5 y5
        exact hz S5 t1 ⟨t2, t3, hs, ne, hg⟩ t4 t5 nd t7
  have hq33 := hq3
  obtain ⟨g0, g1, -⟩ := hq3
  refine ⟨fl3.1.t25, h0 + 45, fl3.1.p25_8, g0, fl3.1.t45, ?_⟩
  rw [g1, ι_cl (by omega), fl3.1.n45]
  refine ⟨ι_in (by omega) (by omega), fun v6 e6 => ⟨D (led a b) + 1, ?_⟩⟩
  rw [e6, (fl3.2.2.2.2.1 _ hl2).1]
  refine loop _ S3 (Nat.le_refl _) ft3 fl3 bo3 hq33 hqo3 tb3 kp3 si3 (fun i hi u v hu hv bd => ?_)
  rw [show i = 0 by omega]
  unfold plS
  exact (rs_0 (by omega)).mpr (Int.dvd_zero _)
end DIV2
