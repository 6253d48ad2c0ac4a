/-! The class takes a token. -/
def W8m (g b k : Nat) : Prop := (b = g + 10 ∧ k = 8) ∨ (b = g ∧ k = 0) ∨ (g + 1 ≤ b ∧ b ≤ g + 4) ∨ b = g + 11
def setC (c : Sq) (f x : Nat) : Sq := if f = 1 then (x, c.2.1, c.2.2.1, c.2.2.2) else if f = 2 then (c.1, x, c.2.2.1, c.2.2.2) else if f = 3 then (c.1, c.2.1, x, c.2.2.2) else (c.1, c.2.1, c.2.2.1, x)
section CTK
variable {M : Nat × Nat} {S : HS} {K : Int32 → HS → Prop} {h0 g n k v q : Nat} {tx : Nat → Nat} {D : List Sq} {c : Sq} {m : Mt}
theorem W8m.w {b k : Nat} (h : W8m g b k) : W8 g b k := by unfold W8m at h; unfold W8; omega
theorem RdM.set {f x q' : Nat} (h : RdM S g (q, D, c)) (hf : 1 ≤ f ∧ f ≤ 4) (hl : D.length ≤ 22) : RdM (sI (sI S (g + f) D.length (ι x)) (g + 10) 8 (ι q')) g (q', D, setC c f x) := by
  obtain ⟨a1, a2, a3, a4⟩ := h
  have nb : ∀ b, b ≠ g + 10 → hI (sI (sI S (g + f) D.length (ι x)) (g + 10) 8 (ι q')) b = hI (sI S (g + f) D.length (ι x)) b := fun b hb => sI_ne hb
  refine ⟨by rw [sI_eq, if_pos rfl], by rw [nb g (by omega), sI_ne (by omega)]; exact a2, fun s hs => ?_, fun v hv => by rw [nb _ (by omega), sI_ne (by omega)]; exact a4 v hv⟩
  rw [nb _ (by omega), nb _ (by omega), nb _ (by omega), nb _ (by omega)]
  have old := a3 s hs
  by_cases e : s = D.length
  · have e0 : sqC D c s = c := by unfold sqC; rw [if_neg (by omega), if_pos e]
    have e1 : sqC D (setC c f x) s = setC c f x := by unfold sqC; rw [if_neg (by omega), if_pos e]
    show hI _ (g + 1) s = ι (sqC D (setC c f x) s).1 ∧ hI _ (g + 2) s = ι (sqC D (setC c f x) s).2.1 ∧ hI _ (g + 3) s = ι (sqC D (setC c f x) s).2.2.1 ∧ hI _ (g + 4) s = ι (sqC D (setC c f x) s).2.2.2
    rw [e1]
    have old : hI S (g + 1) s = ι c.1 ∧ hI S (g + 2) s = ι c.2.1 ∧ hI S (g + 3) s = ι c.2.2.1 ∧ hI S (g + 4) s = ι c.2.2.2 := by
      have o := old; simp only at o; rw [e0] at o; exact o
    have hf4 : f = 1 ∨ f = 2 ∨ f = 3 ∨ f = 4 := by omega
    rcases hf4 with rfl | rfl | rfl | rfl
    · exact ⟨by rw [sI_eq, if_pos e]; rfl, by rw [sI_ne (by omega)]; exact old.2.1, by rw [sI_ne (by omega)]; exact old.2.2.1, by rw [sI_ne (by omega)]; exact old.2.2.2⟩
    · exact ⟨by rw [sI_ne (by omega)]; exact old.1, by rw [sI_eq, if_pos e]; rfl, by rw [sI_ne (by omega)]; exact old.2.2.1, by rw [sI_ne (by omega)]; exact old.2.2.2⟩
    · exact ⟨by rw [sI_ne (by omega)]; exact old.1, by rw [sI_ne (by omega)]; exact old.2.1, by rw [sI_eq, if_pos e]; rfl, by rw [sI_ne (by omega)]; exact old.2.2.2⟩
    · exact ⟨by rw [sI_ne (by omega)]; exact old.1, by rw [sI_ne (by omega)]; exact old.2.1, by rw [sI_ne (by omega)]; exact old.2.2.1, by rw [sI_eq, if_pos e]; rfl⟩
  · have e1 : sqC D (setC c f x) s = sqC D c s := by
      unfold sqC
      by_cases l : s < D.length
      · rw [if_pos l, if_pos l]
      · rw [if_neg l, if_neg l, if_neg e, if_neg e]
    have one : ∀ j, hI (sI S (g + f) D.length (ι x)) (g + j) s = hI S (g + j) s := fun j => by
      by_cases ej : g + j = g + f
      · rw [ej, sI_eq, if_neg e]
      · rw [sI_ne ej]
    rw [one, one, one, one]
    simp only
    rw [e1]
    exact old
theorem RdM.push (h : RdM S g (q, D, c)) (hl : D.length ≤ 22) (h1 : 1 ≤ c.1 ∧ c.1 ≤ 23) (h2 : lk1 D c.1 = 0) : RdM (sI (sI (sI S (g + 11) (c.1 - 1) (ι D.length)) g 0 (ι (D.length + 1))) (g + 10) 8 (ι 1)) g (1, D ++ [c], (0, 0, 0, 0)) := by
  obtain ⟨a1, a2, a3, a4⟩ := h
  have ll : (D ++ [c]).length = D.length + 1 := by rw [List.length_append, List.length_singleton]
  refine ⟨by rw [sI_eq, if_pos rfl], ?_, fun s hs => ?_, fun v hv => ?_⟩
  · rw [sI_ne (by omega), sI_eq, if_pos rfl]; simp only; rw [ll]
  · have e1 : sqC (D ++ [c]) (0, 0, 0, 0) s = sqC D c s := by
      unfold sqC
      rw [ll]
      by_cases l : s < D.length
      · rw [if_pos l, if_pos (by omega), sq_l l]
      · rw [if_neg l]
        by_cases e : s = D.length
        · rw [if_pos e, if_pos (by omega), e, sq_r]
        · rw [if_neg e, if_neg (by omega)]
          split <;> rfl
    have one : ∀ j, 1 ≤ j → j ≤ 4 → hI (sI (sI (sI S (g + 11) (c.1 - 1) (ι D.length)) g 0 (ι (D.length + 1))) (g + 10) 8 (ι 1)) (g + j) s = hI S (g + j) s := fun j j1 j4 => by rw [sI_ne (by omega), sI_ne (by omega), sI_ne (by omega)]
    rw [one 1 (by omega) (by omega), one 2 (by omega) (by omega), one 3 (by omega) (by omega), one 4 (by omega) (by omega)]
    simp only
    rw [e1]
    exact a3 s hs
  · rw [sI_ne (by omega), sI_ne (by omega), sI_eq]
    simp only
    rw [lk1_app]
    by_cases e : v = c.1 - 1
    · rw [if_pos e, show v + 1 = c.1 by omega, if_pos h2, if_pos rfl, if_neg (by omega), Nat.add_sub_cancel]
    · rw [if_neg e, a4 v hv, if_neg (show ¬ c.1 = v + 1 by omega)]
      simp only
      by_cases z : lk1 D (v + 1) = 0
      · rw [if_pos z, if_pos z, if_pos rfl]
      · rw [if_neg z, if_neg z, if_neg z]
theorem sqC_c (hl : D.length ≤ 22) : sqC D c D.length = c := by unfold sqC; rw [if_neg (by omega), if_pos rfl]
theorem c_setAtom {x : Nat} {x1 : Int32} (hl : RdL h0 S g n tx) (hm : RdM S g (q, D, c)) (hD : D.length ≤ 22) (hq : q = 3 ∨ q = 5) (hx : x1 = ι x) (h : ∀ S', Ext S S' (W8m g) V0 → hX S' = hX S → hS S' = hS S → RdM S' g (stQ q D c x) → K 0 S') : wp_X8_setAtom M (g + 10) x1 S K := by
  subst hx
  obtain ⟨a1, a2, a3, a4, a5, a6, a7, a8, a9, b1, b2, b3, b4, b5, b6⟩ := hl
  obtain ⟨p3, t3, n3⟩ := a9 3 (by omega) (by omega)
  obtain ⟨p4, t4, n4⟩ := a9 4 (by omega) (by omega)
  have m1 : hI S (g + 10) 8 = ι q := hm.1
  have m2 : hI S g 0 = ι D.length := hm.2.1
  unfold wp_X8_setAtom
  rw [m1, show (3 : Int32) = ι 3 from rfl, ι_eq (by omega) (by omega)]
  refine ⟨a1, fun e => ?_, fun e => ?_⟩
  · refine ⟨a1, g, a4, a8, g + 4, p4, a1, g, a4, a8, t4, ?_⟩
    rw [m2, ι_cl (by omega), n4]
    refine ⟨ι_in (by omega) (by omega), a1, a1, h _ (((Ext.rf S (W8m g) V0).sI (Or.inr (Or.inr (Or.inl ⟨by omega, by omega⟩)))).sI (Or.inl ⟨rfl, rfl⟩)) rfl rfl ?_⟩
    have := hm.set (f := 4) (x := x) (q' := 7) (by omega) hD
    unfold stQ
    rw [if_neg e]
    exact this
  · refine ⟨a1, g, a4, a8, g + 3, p3, a1, g, a4, a8, t3, ?_⟩
    rw [m2, ι_cl (by omega), n3]
    refine ⟨ι_in (by omega) (by omega), a1, a1, h _ (((Ext.rf S (W8m g) V0).sI (Or.inr (Or.inr (Or.inl ⟨by omega, by omega⟩)))).sI (Or.inl ⟨rfl, rfl⟩)) rfl rfl ?_⟩
    have := hm.set (f := 3) (x := x) (q' := 4) (by omega) hD
    unfold stQ
    rw [if_pos e]
    exact this
theorem c_stepEnd (hl : RdL h0 S g n tx) (hm : RdM S g (q, D, c)) (hD : D.length ≤ 22) (h1 : 1 ≤ c.1 ∧ c.1 ≤ 23) (h2 : lk1 D c.1 = 0) (h6 : hI S (g + 10) 6 = ι k) (hk : k ≤ 257) (h : ∀ S', Ext S S' (W8m g) V0 → hX S' = hX S → hS S' = hS S → ((tkE q D c k).1 = 0 → RdM S' g (tkE q D c k).2) → K (ι (tkE q D c k).1) S') : wp_X8_takeStepEnd M (g + 10) S K := by
  obtain ⟨a1, a2, a3, a4, a5, a6, a7, a8, a9, b1, b2, b3, b4, b5, b6⟩ := hl
  obtain ⟨p1, t1, n1⟩ := a9 1 (by omega) (by omega)
  have m2 : hI S g 0 = ι D.length := hm.2.1
  have nm : hI S (g + 1) D.length = ι c.1 := by
    have := (hm.2.2.1 D.length (by omega)).1
    simp only at this
    rw [sqC_c hD] at this
    exact this
  have e21 : (k = 59 ∨ k = 257) → w_X8_takeStepEnd_21 M K (g + 10) S := fun e => by
    have t0 : tkE q D c k = (0, (1, D ++ [c], (0, 0, 0, 0))) := by unfold tkE; rw [if_neg (by omega)]
    rw [t0] at h
    unfold w_X8_takeStepEnd_21
    refine ⟨a1, g + 11, a5, a1, g, a4, a8, g + 1, p1, a1, g, a4, a8, t1, ?_⟩
    rw [m2, ι_cl (by omega), n1, nm, show (1 : Int32) = ι 1 from rfl, ι_sub (by omega)]
    refine ⟨ι_in (by omega) (by omega), a1, g, a4, a8, a6, by rw [a7]; exact ι_in (by omega) (by omega), ?_⟩
    rw [ι_cl (by omega), m2]
    refine ⟨a1, g, a4, a8, a8, ?_⟩
    rw [sI_ne (by omega), m2, ι_add]
    exact ⟨a1, a1, h _ ((((Ext.rf S (W8m g) V0).sI (Or.inr (Or.inr (Or.inr rfl)))).sI (Or.inr (Or.inl ⟨rfl, rfl⟩))).sI (Or.inl ⟨rfl, rfl⟩)) rfl rfl (fun _ => hm.push hD h1 h2)⟩
  unfold wp_X8_takeStepEnd
  rw [h6, show (59 : Int32) = ι 59 from rfl, show (257 : Int32) = ι 257 from rfl, ι_eq (by omega) (by omega), ι_eq (by omega) (by omega)]
  refine ⟨a1, fun e => e21 (Or.inl e), fun e => ⟨a1, fun e2 => e21 (Or.inr e2), fun e2 => ?_⟩⟩
  have t0 : tkE q D c k = (1, (q, D, c)) := by unfold tkE; rw [if_pos ⟨e, e2⟩]
  rw [t0] at h
  exact h S (Ext.rf S _ _) rfl rfl (fun z => absurd z (by simp))
theorem c_takeAtom (hl : RdL h0 S g n tx) (hm : RdM S g (q, D, c)) (hD : D.length ≤ 22) (hq : q = 3 ∨ q = 5) (h6 : hI S (g + 10) 6 = ι k) (hk : k ≤ 257) (h7 : k = 256 → hI S (g + 10) 7 = ι v ∧ v ≤ 1000) (h : ∀ S', Ext S S' (W8m g) V0 → hX S' = hX S → hS S' = hS S → ((tkA q D c k v).1 = 0 → RdM S' g (tkA q D c k v).2) → K (ι (tkA q D c k v).1) S') : wp_X8_takeAtom M (g + 10) S K := by
  have hl0 := hl
  obtain ⟨a1, a2, a3, a4, a5, a6, a7, a8, a9, b1, b2, b3, b4, b5, b6⟩ := hl
  have bad : ∀ f, f ≠ 0 → tkA q D c k v = (f, (q, D, c)) → K (ι f) S := fun f f0 e => by
    rw [e] at h
    exact h S (Ext.rf S _ _) rfl rfl (fun z => absurd z f0)
  have ok : ∀ x (x1 : Int32), x1 = ι x → tkA q D c k v = (0, stQ q D c x) → wp_X8_setAtom M (g + 10) x1 S (fun r3 S3 => K r3 S3) := fun x x1 e1 e => by
    rw [e] at h
    exact c_setAtom hl0 hm hD hq e1 (fun S' e' x' y' r' => h S' e' x' y' (fun _ => r'))
  unfold wp_X8_takeAtom
  rw [h6, show (256 : Int32) = ι 256 from rfl, ι_eq (by omega) (by omega)]
  refine ⟨a1, fun e => ⟨a1, ?_⟩, fun e => ⟨a1, ?_⟩⟩
  · rw [show (97 : Int32) = ι 97 from rfl, show (122 : Int32) = ι 122 from rfl, show (120 : Int32) = ι 120 from rfl, ι_lt (by omega) (by omega), ι_le (by omega) (by omega), ι_lt (by omega) (by omega)]
    refine ⟨fun c1 => bad 1 (by omega) (by unfold tkA; rw [if_neg e, if_pos (Or.inl c1)]), fun c1 => ⟨a1, fun c2 => ⟨a1, fun c3 => ⟨a1, g + 11, a5, a1, a6, ?_⟩, fun c3 => ⟨a1, a1, ?_⟩⟩, fun c2 => bad 1 (by omega) (by unfold tkA; rw [if_neg e, if_pos (Or.inr (by omega))])⟩⟩
    · rw [ι_sub (by omega), ι_cl (by omega), a7]
      refine ⟨ι_in (by omega) (by omega), fun v2 e2 => ?_⟩
      have a4' := hm.2.2.2 (k - 97) (by omega)
      simp only at a4'
      rw [show k - 97 + 1 = k - 96 by omega] at a4'
      rw [e2, a4']
      by_cases z : lk1 D (k - 96) = 0
      · rw [if_pos z]
        exact ⟨fun w => absurd rfl w, fun _ => bad 3 (by omega) (by unfold tkA; rw [if_neg e, if_neg (by omega), if_neg (by omega), if_pos z])⟩
      · rw [if_neg z]
        have le := lkp_le (D := D) (nm := k - 96) D.length
        refine ⟨fun _ => ⟨a1, ok (103 + (lk1 D (k - 96) - 1)) _ ?_ (by unfold tkA; rw [if_neg e, if_neg (by omega), if_neg (by omega), if_neg z])⟩, fun w => absurd w (ι_ne1 (by show lkp D (k - 96) D.length - 1 < _; omega))⟩
        rw [show (103 : Int32) = ι 103 from rfl, ι_add]
    · rw [show (100 : Int32) = ι 100 from rfl, ι_add, ι_sub (by omega)]
      exact ok (100 + k - 120) _ rfl (by unfold tkA; rw [if_neg e, if_neg (by omega), if_pos (by omega)])
  · obtain ⟨i7, v7⟩ := h7 e
    rw [i7, show (99 : Int32) = ι 99 from rfl, ι_le (by omega) (by omega)]
    exact ⟨fun c1 => ⟨a1, a1, ok v _ rfl (by unfold tkA; rw [if_pos e, if_neg (by omega)])⟩, fun c1 => bad 2 (by omega) (by unfold tkA; rw [if_pos e, if_pos (by omega)])⟩
theorem c_take (hl : RdL h0 S g n tx) (hm : RdM S g m) (wm : Wm m) (h6 : hI S (g + 10) 6 = ι k) (hk : k ≤ 257) (h7 : k = 256 → hI S (g + 10) 7 = ι v ∧ v ≤ 1000) (h : ∀ S', Ext S S' (W8m g) V0 → hX S' = hX S → hS S' = hS S → ((tak m k v).1 = 0 → RdM S' g (tak m k v).2) → K (ι (tak m k v).1) S') : wp_X8_take M (g + 10) S K := by
  obtain ⟨q, D, c⟩ := m
  obtain ⟨w1, w2, w3, w4, w5, w6, w7, w8, w9, wa, wb⟩ := wm
  simp only at w1 w2 w3 w4 w5 w6 w7 w8 w9 wa wb
  have hl0 := hl
  obtain ⟨a1, a2, a3, a4, a5, a6, a7, a8, a9, b1, b2, b3, b4, b5, b6⟩ := hl
  have m1 : hI S (g + 10) 8 = ι q := hm.1
  have m2 : hI S g 0 = ι D.length := hm.2.1
  have rf := Ext.rf S (W8m g) V0
  have neq : ∀ j : Nat, j ≤ 7 → ι q = ι j → q = j := fun j hj e => by rw [ι_eq (by omega) (by omega)] at e; exact e
  -- a name
  have nam : q ≤ 1 → wp_X8_takeName M (g + 10) S (fun r2 S2 => K r2 S2) := fun q1 => by
    have ht : tak (q, D, c) k v = tkN q D c k := by unfold tak; simp only; rw [if_pos q1]
    rw [ht] at h
    have c0 := w3 q1
    have bad : ∀ f, f ≠ 0 → tkN q D c k = (f, (q, D, c)) → K (ι f) S := fun f f0 e => by
      rw [e] at h
      exact h S rf rfl rfl (fun z => absurd z f0)
    obtain ⟨p1, t1, n1⟩ := a9 1 (by omega) (by omega)
    have k20 : ¬ (k = 257 ∧ q = 1) → w_X8_takeName_20 M (fun r2 S2 => K r2 S2) (g + 10) S := fun ne => by
      unfold w_X8_takeName_20
      rw [h6, show (97 : Int32) = ι 97 from rfl, show (119 : Int32) = ι 119 from rfl, ι_lt (by omega) (by omega), ι_le (by omega) (by omega)]
      refine ⟨a1, fun c1 => bad 1 (by omega) (by unfold tkN; rw [if_neg ne, if_pos (Or.inl c1)]), fun c1 => ⟨a1, fun c2 => ⟨a1, g + 11, a5, a1, a6, ?_⟩, fun c2 => bad 1 (by omega) (by unfold tkN; rw [if_neg ne, if_pos (Or.inr (by omega))])⟩⟩
      rw [ι_sub (by omega), ι_cl (by omega), a7]
      have a4' := hm.2.2.2 (k - 97) (by omega)
      simp only at a4'
      rw [show k - 97 + 1 = k - 96 by omega] at a4'
      rw [a4']
      refine ⟨ι_in (by omega) (by omega), ?_⟩
      by_cases z : lk1 D (k - 96) = 0
      · rw [if_pos z]
        have cn := cnt_new (D := D) (nm := k - 96) (by omega) z
        have d22 : D.length ≤ 22 := by have := w2.2.1; omega
        refine ⟨fun w => absurd rfl w, fun _ => ⟨a1, g, a4, a8, ?_⟩⟩
        rw [m2, show (23 : Int32) = ι 23 from rfl, ι_lt (by omega) (by omega)]
        refine ⟨fun _ => ⟨a1, g, a4, a8, g + 1, p1, a1, g, a4, a8, a1, t1, ?_⟩, fun w => absurd (show D.length < 23 by omega) w⟩
        rw [m2, ι_cl (by omega), n1, show (1 : Int32) = ι 1 from rfl, ι_add, show k - 97 + 1 = k - 96 by omega]
        have t0 : tkN q D c k = (0, (2, D, (k - 96, 0, 0, 0))) := by unfold tkN; rw [if_neg ne, if_neg (by omega), if_neg (fun w => w z)]
        rw [t0] at h
        refine ⟨ι_in (by omega) (by omega), a1, a1, h _ ((rf.sI (Or.inr (Or.inr (Or.inl ⟨by omega, by omega⟩)))).sI (Or.inl ⟨rfl, rfl⟩)) rfl rfl (fun _ => ?_)⟩
        have := hm.set (f := 1) (x := k - 96) (q' := 2) (by omega) d22
        rw [c0] at this
        exact this
      · rw [if_neg z]
        have le := lkp_le (D := D) (nm := k - 96) D.length
        have := w2.1
        exact ⟨fun _ => bad 3 (by omega) (by unfold tkN; rw [if_neg ne, if_neg (by omega), if_pos z]), fun w => absurd w (ι_ne1 (by show lkp D (k - 96) D.length - 1 < _; omega))⟩
    unfold wp_X8_takeName
    rw [h6, m1, show (257 : Int32) = ι 257 from rfl, show (1 : Int32) = ι 1 from rfl, ι_eq (by omega) (by omega), ι_eq (by omega) (by omega)]
    refine ⟨a1, fun e => k20 (fun w => e w.1), fun e => ⟨a1, fun e2 => k20 (fun w => e2 w.2), fun e2 => ?_⟩⟩
    have t0 : tkN q D c k = (0, (q, D, c)) := by unfold tkN; rw [if_pos ⟨e, e2⟩]
    rw [t0] at h
    exact h S rf rfl rfl (fun _ => hm)
  have atm : q = 3 ∨ q = 5 → wp_X8_takeAtom M (g + 10) S (fun r2 S2 => K r2 S2) := fun q3 => by
    have ht : tak (q, D, c) k v = tkA q D c k v := by unfold tak; simp only; rw [if_neg (by omega), if_neg (by omega), if_pos q3]
    rw [ht] at h
    exact c_takeAtom hl0 hm (w4 (by omega)).2.2 q3 h6 hk h7 h
  have ste : q = 4 ∨ q = 7 → (∀ S', Ext S S' (W8m g) V0 → hX S' = hX S → hS S' = hS S → ((tkE q D c k).1 = 0 → RdM S' g (tkE q D c k).2) → K (ι (tkE q D c k).1) S') → wp_X8_takeStepEnd M (g + 10) S (fun r2 S2 => K r2 S2) := fun q3 hh => c_stepEnd hl0 hm (w4 (by omega)).2.2 (w4 (by omega)).1 (w4 (by omega)).2.1 h6 hk hh
  unfold wp_X8_take
  rw [m1]
  refine ⟨a1, fun z => ⟨a1, ?_⟩, fun e => ⟨a1, nam (by have := neq 0 (by omega) e; omega)⟩, fun e => ⟨a1, nam (by have := neq 1 (by omega) e; omega)⟩, fun e => ⟨a1, ?_⟩, fun e => ⟨a1, atm (Or.inl (neq 3 (by omega) e))⟩, fun e => ⟨a1, ?_⟩, fun e => ⟨a1, atm (Or.inr (neq 5 (by omega) e))⟩, fun e => ⟨a1, ?_⟩⟩
  · rw [ι_int (by omega)] at z
    have q7 : q = 7 := by omega
    refine ste (Or.inr q7) ?_
    have ht : tak (q, D, c) k v = tkE q D c k := by unfold tak; simp only; rw [if_neg (by omega), if_neg (by omega), if_neg (by omega), if_neg (by omega), if_neg (by omega)]
    rw [ht] at h
    exact h
  · have q2 := neq 2 (by omega) e
    rw [h6, show (61 : Int32) = ι 61 from rfl, ι_eq (by omega) (by omega)]
    have ht : tak (q, D, c) k v = if k = 61 then (0, (3, D, c)) else (1, (q, D, c)) := by unfold tak; simp only; rw [if_neg (by omega), if_pos q2]
    rw [ht] at h
    refine ⟨fun e1 => ?_, fun e1 => ⟨a1, a1, ?_⟩⟩
    · rw [if_neg e1] at h
      exact h S rf rfl rfl (fun z => absurd z (by simp))
    · rw [if_pos e1] at h
      refine h _ (rf.sI (Or.inl ⟨rfl, rfl⟩)) rfl rfl (fun _ => ?_)
      obtain ⟨x1, x2, x3, x4⟩ := hm
      exact ⟨by rw [sI_eq, if_pos rfl]; rfl, by rw [sI_ne (by omega)]; exact x2, fun s hs => by rw [sI_ne (by omega), sI_ne (by omega), sI_ne (by omega), sI_ne (by omega)]; exact x3 s hs, fun v hv => by rw [sI_ne (by omega)]; exact x4 v hv⟩
  · have q4 := neq 4 (by omega) e
    have ht : tak (q, D, c) k v = tkS q D c k := by unfold tak; simp only; rw [if_neg (by omega), if_neg (by omega), if_neg (by omega), if_pos q4]
    rw [ht] at h
    have d22 := (w4 (by omega)).2.2
    obtain ⟨p2, t2, n2⟩ := a9 2 (by omega) (by omega)
    have k36 : (k = 43 ∨ k = 45 ∨ k = 42 ∨ k = 94) → w_X8_takeSign_36 M (fun r2 S2 => K r2 S2) (g + 10) S := fun sg => by
      have t0 : tkS q D c k = (0, (if k = 94 then 6 else 5, D, (c.1, k, c.2.2.1, c.2.2.2))) := by unfold tkS; rw [if_pos sg]
      rw [t0] at h
      unfold w_X8_takeSign_36
      refine ⟨a1, g, a4, a8, g + 2, p2, a1, g, a4, a8, a1, t2, ?_⟩
      rw [m2, ι_cl (by omega), n2, sI_ne (by omega), h6, show (94 : Int32) = ι 94 from rfl, ι_eq (by omega) (by omega)]
      refine ⟨ι_in (by omega) (by omega), a1, fun e9 => ⟨a1, a1, ?_⟩, fun e9 => ⟨a1, a1, ?_⟩⟩
      · refine h _ ((rf.sI (Or.inr (Or.inr (Or.inl ⟨by omega, by omega⟩)))).sI (Or.inl ⟨rfl, rfl⟩)) rfl rfl (fun _ => ?_)
        rw [if_neg e9]
        exact hm.set (f := 2) (x := k) (q' := 5) (by omega) d22
      · refine h _ ((rf.sI (Or.inr (Or.inr (Or.inl ⟨by omega, by omega⟩)))).sI (Or.inl ⟨rfl, rfl⟩)) rfl rfl (fun _ => ?_)
        rw [if_pos e9]
        exact hm.set (f := 2) (x := k) (q' := 6) (by omega) d22
    unfold wp_X8_takeSign
    rw [h6, show (43 : Int32) = ι 43 from rfl, show (45 : Int32) = ι 45 from rfl, show (42 : Int32) = ι 42 from rfl, show (94 : Int32) = ι 94 from rfl, ι_eq (by omega) (by omega), ι_eq (by omega) (by omega), ι_eq (by omega) (by omega), ι_eq (by omega) (by omega)]
    refine ⟨a1, fun c1 => k36 (by omega), fun c1 => ⟨a1, fun c2 => k36 (by omega), fun c2 => ⟨a1, fun c3 => k36 (by omega), fun c3 => ⟨a1, fun c4 => ⟨a1, ste (Or.inl q4) ?_⟩, fun c4 => k36 (by omega)⟩⟩⟩⟩
    have t0 : tkS q D c k = tkE q D c k := by unfold tkS; rw [if_neg (by omega)]
    rw [t0] at h
    exact h
  · have q6 := neq 6 (by omega) e
    have ht : tak (q, D, c) k v = tkX q D c k v := by unfold tak; simp only; rw [if_neg (by omega), if_neg (by omega), if_neg (by omega), if_neg (by omega), if_pos q6]
    rw [ht] at h
    have d22 := (w4 (by omega)).2.2
    obtain ⟨p4, t4, n4⟩ := a9 4 (by omega) (by omega)
    unfold wp_X8_takeExponent
    rw [h6, show (256 : Int32) = ι 256 from rfl, ι_eq (by omega) (by omega)]
    refine ⟨a1, fun e1 => ⟨a1, ?_⟩, fun e1 => ?_⟩
    · obtain ⟨i7, v7⟩ := h7 e1
      rw [i7, show (9 : Int32) = ι 9 from rfl, ι_le (by omega) (by omega)]
      refine ⟨fun c1 => ⟨a1, g, a4, a8, g + 4, p4, a1, g, a4, a8, a1, t4, ?_⟩, fun c1 => ?_⟩
      · have t0 : tkX q D c k v = (0, (7, D, (c.1, c.2.1, c.2.2.1, v))) := by unfold tkX; rw [if_neg (fun w => w e1), if_neg (by omega)]
        rw [t0] at h
        rw [m2, ι_cl (by omega), n4]
        exact ⟨ι_in (by omega) (by omega), a1, a1, h _ ((rf.sI (Or.inr (Or.inr (Or.inl ⟨by omega, by omega⟩)))).sI (Or.inl ⟨rfl, rfl⟩)) rfl rfl (fun _ => hm.set (f := 4) (x := v) (q' := 7) (by omega) d22)⟩
      · have t0 : tkX q D c k v = (2, (q, D, c)) := by unfold tkX; rw [if_neg (fun w => w e1), if_pos (by omega)]
        rw [t0] at h
        exact h S rf rfl rfl (fun z => absurd z (by simp))
    · have t0 : tkX q D c k v = (1, (q, D, c)) := by unfold tkX; rw [if_pos e1]
      rw [t0] at h
      exact h S rf rfl rfl (fun z => absurd z (by simp))
end CTK
/-! The class reads a text. -/
def neM (m : Mt) : Prop := m.1 = 1 → m.2.1 ≠ []
theorem app_ne {D : List Sq} {c : Sq} : D ++ [c] ≠ [] := by simp
theorem tkE_ne {q k : Nat} {D : List Sq} {c : Sq} (h : (tkE q D c k).1 = 0) : neM (tkE q D c k).2 ∧ (tkE q D c k).2.1 = 1 := by
  unfold tkE at h ⊢
  by_cases e : k ≠ 59 ∧ k ≠ 257
  · rw [if_pos e] at h; exact absurd h (by simp)
  · rw [if_neg e]; exact ⟨fun _ => app_ne, rfl⟩
theorem neM.tk {m : Mt} {k v : Nat} (h : neM m) (hq : m.1 ≤ 7) (h0 : (tak m k v).1 = 0) : neM (tak m k v).2 ∧ (k = 257 → (tak m k v).2.1 = 1) := by
  obtain ⟨q, D, c⟩ := m
  have hq : q ≤ 7 := hq
  have two : ∀ (x : Nat) (D' : List Sq) (c' : Sq), x ≠ 1 → neM (x, D', c') := fun x D' c' hx e => absurd e hx
  unfold tak at h0 ⊢
  simp only at h0 ⊢
  by_cases q1 : q ≤ 1
  · rw [if_pos q1] at h0 ⊢
    unfold tkN at h0 ⊢
    by_cases c1 : k = 257 ∧ q = 1
    · rw [if_pos c1]; exact ⟨h, fun _ => c1.2⟩
    · rw [if_neg c1] at h0 ⊢
      by_cases c2 : k < 97 ∨ 119 < k
      · rw [if_pos c2] at h0; exact absurd h0 (by simp)
      · rw [if_neg c2] at h0 ⊢
        by_cases c3 : lk1 D (k - 96) ≠ 0
        · rw [if_pos c3] at h0; exact absurd h0 (by simp)
        · rw [if_neg c3]; exact ⟨two _ _ _ (by omega), fun e => by omega⟩
  · rw [if_neg q1] at h0 ⊢
    by_cases q2 : q = 2
    · rw [if_pos q2] at h0 ⊢
      by_cases c1 : k = 61
      · rw [if_pos c1]; exact ⟨two _ _ _ (by omega), fun e => by omega⟩
      · rw [if_neg c1] at h0; exact absurd h0 (by simp)
    · rw [if_neg q2] at h0 ⊢
      by_cases q3 : q = 3 ∨ q = 5
      · rw [if_pos q3] at h0 ⊢
        have at_ : ∀ a, neM (stQ q D c a) := fun a => by unfold stQ; split <;> exact two _ _ _ (by omega)
        unfold tkA at h0 ⊢
        by_cases c1 : k = 256
        · rw [if_pos c1] at h0 ⊢
          by_cases c2 : 99 < v
          · rw [if_pos c2] at h0; exact absurd h0 (by simp)
          · rw [if_neg c2]; exact ⟨at_ v, fun e => by omega⟩
        · rw [if_neg c1] at h0 ⊢
          by_cases c2 : k < 97 ∨ 122 < k
          · rw [if_pos c2] at h0; exact absurd h0 (by simp)
          · rw [if_neg c2] at h0 ⊢
            by_cases c3 : 120 ≤ k
            · rw [if_pos c3]; exact ⟨at_ _, fun e => by omega⟩
            · rw [if_neg c3] at h0 ⊢
              by_cases c4 : lk1 D (k - 96) = 0
              · rw [if_pos c4] at h0; exact absurd h0 (by simp)
              · rw [if_neg c4]; exact ⟨at_ _, fun e => by omega⟩
      · rw [if_neg q3] at h0 ⊢
        by_cases q4 : q = 4
        · rw [if_pos q4] at h0 ⊢
          unfold tkS at h0 ⊢
          by_cases c1 : k = 43 ∨ k = 45 ∨ k = 42 ∨ k = 94
          · rw [if_pos c1]
            refine ⟨two _ _ _ ?_, fun e => by omega⟩
            split <;> omega
          · rw [if_neg c1] at h0 ⊢
            exact ⟨(tkE_ne h0).1, fun _ => (tkE_ne h0).2⟩
        · rw [if_neg q4] at h0 ⊢
          by_cases q6 : q = 6
          · rw [if_pos q6] at h0 ⊢
            unfold tkX at h0 ⊢
            by_cases c1 : k ≠ 256
            · rw [if_pos c1] at h0; exact absurd h0 (by simp)
            · rw [if_neg c1] at h0 ⊢
              by_cases c2 : 9 < v
              · rw [if_pos c2] at h0; exact absurd h0 (by simp)
              · rw [if_neg c2]; exact ⟨two _ _ _ (by omega), fun e => by omega⟩
          · rw [if_neg q6] at h0 ⊢
            exact ⟨(tkE_ne h0).1, fun _ => (tkE_ne h0).2⟩
theorem tak_le {m : Mt} {k v : Nat} : (tak m k v).1 ≤ 3 := by
  obtain ⟨q, D, c⟩ := m
  unfold tak tkN tkA tkS tkX tkE
  simp only
  repeat' split
  all_goals simp
section CRD
variable {M : Nat × Nat} {S : HS} {K : Int32 → HS → Prop} {h0 g n : Nat} {tx : Nat → Nat}
theorem tkc_le {p : Nat} (hp : p ≤ n) (hb : ∀ i, i < n → tx i < 256) : tkc tx n p ≤ 257 := by
  unfold tkc
  by_cases e : n ≤ tks tx n p
  · rw [if_pos e]; omega
  · rw [if_neg e]
    split
    · omega
    · have := hb (tks tx n p) (by omega); omega
theorem c_readT (hl : RdL h0 S g n tx) (hm : RdM S g (0, [], (0, 0, 0, 0))) (h5 : hI S (g + 10) 5 = ι 0) (h : ∀ S' o, Ext S S' (W8 g) V0 → hX S' = hX S → hS S' = hS S → Jm tx n 0 (0, [], (0, 0, 0, 0)) o → o.1 ≤ 3 → (o.1 ≠ 0 → hI S' (g + 10) 0 = ι o.2.1 ∧ o.2.1 ≤ 200) → (o.1 = 0 → RdM S' g (1, o.2.2, (0, 0, 0, 0)) ∧ DOk o.2.2 ∧ o.2.2 ≠ []) → K (ι o.1) S') : wp_X8_read M (g + 10) S K := by
  have n200 := hl.2.2.2.2.2.2.2.2.2.2.2.2.1
  have hb := hl.2.2.2.2.2.2.2.2.2.2.2.1
  obtain ⟨O, hO⟩ : ∃ O, rnM tx n (n + 1) 0 (0, [], (0, 0, 0, 0)) = O := ⟨_, rfl⟩
  have loop : ∀ (f i p : Nat) (m : Mt) (S1 : HS), i + f = n + 1 → i ≤ p → p ≤ n → O = rnM tx n f p m → Ext S S1 (W8 g) V0 → hX S1 = hX S → hS S1 = hS S → RdM S1 g m → Wm m → neM m → hI S1 (g + 10) 5 = ι p → wl_X8_read_2 M K (f + 1) (g + 10) (ι i) S1 := by
    intro f
    induction f with
    | zero => intro i p m S1 hi hip hp; omega
    | succ f ih =>
      intro i p m S1 hi hip hp er e1 x1 y1 rm wm nm i5
      have l1 := hl.go e1
      have tk := tke_le (tx := tx) hp
      have ts := tks_le (tx := tx) hp
      have tc := tkc_le (tx := tx) hp (fun i hi => (hb i hi).2)
      show wb_X8_read_2 _ _ _ _ _ _
      unfold wb_X8_read_2
      rw [l1.2.2.1, ι_lt (by omega) (by omega), show (1 : Int32) = ι 1 from rfl, ι_add, ← show (1 : Int32) = ι 1 from rfl]
      refine ⟨l1.1, fun c => absurd c (by omega), fun _ => ⟨l1.1, c_readToken l1 hp i5 (fun S2 e2 x2 y2 j0 j5 j6 j7 => ?_)⟩⟩
      have e12 : Ext S S2 (W8 g) V0 := e1.tr (e2.mo (fun b k w => w.w) (fun _ _ c => c))
      have l2 := hl.go e12
      have rm2 := rm.go l1 e2
      refine ⟨l2.1, c_take l2 rm2 wm j6 tc (fun e => ⟨j7 e, nuv_le _⟩) (fun S3 e3 x3 y3 r3 => ?_)⟩
      have e13 : Ext S S3 (W8 g) V0 := e12.tr (e3.mo (fun b k w => w.w) (fun _ _ c => c))
      have l3 := hl.go e13
      have g2 : g + 12 ≤ hX S2 := l2.2.2.2.2.2.2.2.2.2.2.2.2.2.2
      have keep : ∀ k, k ≠ 8 → hI S3 (g + 10) k = hI S2 (g + 10) k := fun k hk => (e3.2.2.1 (g + 10) (by omega)).2.2.1 k (by unfold W8m; omega)
      rw [rnM] at er
      have tle := tak_le (m := m) (k := tkc tx n p) (v := tkv tx n p)
      have jj : ∀ o, O = o → Jm tx n 0 (0, [], (0, 0, 0, 0)) o := fun o e => ⟨by omega, n + 1, by omega, hO.trans e⟩
      rw [show (0 : Int32) = ι 0 from rfl, ι_eq (by omega) (by omega)]
      refine ⟨fun nz => ?_, fun z => ⟨l3.1, ?_⟩⟩
      · rw [if_pos nz] at er
        exact h S3 _ e13 (by omega) (by omega) (jj _ er) tle (fun _ => ⟨by rw [keep 0 (by omega), j0], by show tks tx n p ≤ 200; omega⟩) (fun w => absurd w nz)
      · rw [if_neg (fun w => w z)] at er
        have nm3 := nm.tk wm.1 z
        rw [keep 6 (by omega), j6, show (257 : Int32) = ι 257 from rfl, ι_eq (by omega) (by omega)]
        refine ⟨fun ne => ?_, fun e => ?_⟩
        · rw [if_neg ne] at er
          exact ih (i + 1) (tke tx n p) _ S3 (by omega) (by have := tk.2.2 ne; omega) tk.2.1 er e13 (by omega) (by omega) (r3 z) (wm.tk z) nm3.1 (by rw [keep 5 (by omega), j5])
        · rw [if_pos e] at er
          have q1 := nm3.2 e
          have wm3 := wm.tk z
          have rr := r3 z
          have key : ∀ m' : Mt, (tak m (tkc tx n p) (tkv tx n p)).2 = m' → m'.1 = 1 → Wm m' → neM m' → RdM S3 g m' → (RdM S3 g (1, m'.2.1, (0, 0, 0, 0)) ∧ DOk m'.2.1 ∧ m'.2.1 ≠ []) := by
            intro m' _ h1 w n r
            obtain ⟨q', D', c'⟩ := m'
            have h1 : q' = 1 := h1
            have cc : c' = (0, 0, 0, 0) := w.2.2.1 (by show q' ≤ 1; omega)
            subst h1 cc
            exact ⟨r, w.2.1, n rfl⟩
          have fin := h S3 _ e13 (by omega) (by omega) (jj _ er) (by show 0 ≤ 3; omega) (fun w => absurd rfl w) (fun _ => key _ rfl q1 wm3 nm3.1 rr)
          rw [z]
          exact fin
  exact ⟨n + 1 + 1, loop (n + 1) 0 0 _ S (by omega) (Nat.le_refl _) (by omega) hO.symm (Ext.rf S _ _) rfl rfl hm wm_0 (fun e => absurd e (by simp)) h5⟩
end CRD
