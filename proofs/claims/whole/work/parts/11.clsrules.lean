/-! Rules of the class's walk: a row an instruction that touches the heap. -/
section CRR
variable {G : CG} {S0 S : HS} {X : Fx} {k : Nat} {rt : Option FieldType} {K : Option Value → HS → Prop} {own : String} {cc : ByteArray} {nL pc : Nat} {L : List (Nat × Value)} {st : List Value} {ci N : Nat} {C : String} {T : u_T} {ty : Nat → FieldType} {a idx : Nat}
theorem c_get (hc : Cx X own cc nL) (hr : Cc G S0 k rt K X) (hi : cInf ci C T N ty) (hci : ci < 20) (f : Nat) (hk : f < N) (d : decode cc pc = .ok (.getfield idx, 3)) (lk : Cond.fieldLink own idx (T f).1 (T f).2.1 (T f).2.2.1 ∈ lw_good) (ha : hT S a = ci + 1) {v : Value} (hv : (fl ci (hI S a) (hP S a))[f]? = some v)
    (kk : MC G S0 X nL S (pc + 3) L (v :: st)) : MC G S0 X nL S pc L (.ref a :: st) := by
  obtain ⟨p, l, e, Rm, s, m, args, below, meth, c, Q⟩ := X
  obtain ⟨hx, hb, hml, hown, hts⟩ := hc
  obtain ⟨hK, -⟩ := hr
  intro H locs ls hI hl
  exact va_get (D := gD G) (ci := ci) (C := C) (T := T) (N := N) hx hb hts hi.2.1 hown hK (hI.1.one (by rw [ha]; omega)) 0 (by rw [cE_o ha hci]; rfl) hi.1 f hk (hts _ lk) (fun _ h9 => h9) hv d (kk H locs ls hI hl)
theorem c_geti (hc : Cx X own cc nL) (hr : Cc G S0 k rt K X) (hi : cInf ci C T N ty) (hci : ci < 20) (f : Nat) (hk : f < N) (hq : (kd ci)[f]? = some false) (d : decode cc pc = .ok (.getfield idx, 3)) (lk : Cond.fieldLink own idx (T f).1 (T f).2.1 (T f).2.2.1 ∈ lw_good) (ha : hT S a = ci + 1)
    (kk : MC G S0 X nL S (pc + 3) L (.int (hI S a f) :: st)) : MC G S0 X nL S pc L (.ref a :: st) :=
  c_get hc hr hi hci f hk d lk ha (by rw [fl_at (by rw [hi.2.2.2.2]; exact hk), hq]; rfl) kk
theorem c_getq (hc : Cx X own cc nL) (hr : Cc G S0 k rt K X) (hi : cInf ci C T N ty) (hci : ci < 20) (f : Nat) (hk : f < N) (hq : (kd ci)[f]? = some true) (d : decode cc pc = .ok (.getfield idx, 3)) (lk : Cond.fieldLink own idx (T f).1 (T f).2.1 (T f).2.2.1 ∈ lw_good) (ha : hT S a = ci + 1)
    (kk : MC G S0 X nL S (pc + 3) L (va_rf (hP S a f) :: st)) : MC G S0 X nL S pc L (.ref a :: st) :=
  c_get hc hr hi hci f hk d lk ha (by rw [fl_at (by rw [hi.2.2.2.2]; exact hk), hq]; rfl) kk
theorem c_getr (hc : Cx X own cc nL) (hr : Cc G S0 k rt K X) (hi : cInf ci C T N ty) (hci : ci < 20) (f : Nat) (hk : f < N) (hq : (kd ci)[f]? = some true) (d : decode cc pc = .ok (.getfield idx, 3)) (lk : Cond.fieldLink own idx (T f).1 (T f).2.1 (T f).2.2.1 ∈ lw_good) (ha : hT S a = ci + 1) {b : Nat} (hb : hP S a f = some b)
    (kk : MC G S0 X nL S (pc + 3) L (.ref b :: st)) : MC G S0 X nL S pc L (.ref a :: st) :=
  c_get hc hr hi hci f hk d lk ha (by rw [fl_at (by rw [hi.2.2.2.2]; exact hk), hq, hb]; rfl) kk
theorem c_putg (hc : Cx X own cc nL) (hr : Cc G S0 k rt K X) (hi : cInf ci C T N ty) (hci : ci < 20) (f : Nat) (hk : f < N) (d : decode cc pc = .ok (.putfield idx, 3)) (lk : Cond.fieldLink own idx (T f).1 (T f).2.1 (T f).2.2.1 ∈ lw_good) (ha : hT S a = ci + 1) (hfin : (T f).2.2.2 = false ∨ ((T f).2.2.2 = true ∧ Ci X ∧ (T f).1 = own)) {v : Value} (hn : narrow (ty f) v = v) (hfit : fits (ty f) v = true)
    {S' : HS} (e1 : hT S' = hT S) (e2 : hX S' = hX S) (e3 : hS S' = hS S) (e4 : ∀ b, ¬ b = a → cE G S' b = cE G S b) (e5 : cE G S' a = .inr (ci, (fl ci (hI S a) (hP S a)).set f v)) (kk : MC G S0 X nL S' (pc + 3) L st) : MC G S0 X nL S pc L (v :: .ref a :: st) := by
  have kk' : MW X nL (InC G S0 X S') (hX S - hX S0) (hS S - hS S0) (pc + 3) L st := by rw [← e2, ← e3]; exact kk
  obtain ⟨p, l, e, Rm, s, m, args, below, meth, c, Q⟩ := X
  obtain ⟨hx, hb, hml, hown, hts⟩ := hc
  obtain ⟨hK, -⟩ := hr
  obtain ⟨hcl, hin, hty, hnm, hlen⟩ := hi
  intro H locs ls hI hl
  have hap := va_apart (own := own) hts hin ty hty hnm hK hcl
  have hne : hT S a ≠ 0 := by rw [ha]; omega
  have hat := (hI.1.1 a hne).2
  rw [cE_o ha hci] at hat
  obtain ⟨r, h1, cell, q1, q2, q3, q4⟩ := hat
  have hr : r = (C, T, N) := Option.some.inj (h1.symm.trans hcl)
  subst hr
  obtain ⟨hSl, hfc, kC, hkC, hkind⟩ := hK.1 ci _ hcl
  obtain ⟨cf, kf, fi, fd, hi, hsl⟩ := hSl f hk
  have hlay := hts _ (hin _ (u_in_lay hk))
  unfold u_lay at hlay
  have hst := (u_facts hfc hkC (u_lays hts hin hk) hi).1
  have key : ∀ H' : Heap, H'[a]? = some (cell.setSlot fd.slot v) → H'.size = H.size → (∀ q, q ≠ a → H'[q]? = H[q]?) → W p l e Rm s m args below meth c H' (locs ++ [⟨a, fd.slot⟩]) (hX S - hX S0) (hS S - hS S0) Q (F0 m (pc + 3) ls st) := by
    intro H' g1 g2 g3
    have hsz : (cell.setSlot fd.slot v).slots.size = cell.slots.size := by simp [Cell.setSlot]
    refine kk' H' _ ls (hI.put (hI.1.put g2 g3 q1 g1 hsz e1 e2 e3 e4 ?_) hne g2 g3 e1 e2 e3) hl
    rw [e5]
    rw [hsl] at g1
    exact ⟨_, hcl, t_OB.to (V := updV (vp_V (fl ci (_root_.Jvm.Pilot.@@N@@.hI S a) (hP S a))) f v) ⟨_, g1, q2, q3, t_set q4 hap hk v⟩ (fun j _ => vp_updV_set (by rw [fl_len, hlen]; exact hk) v j)⟩
  rcases hfin with hfin | ⟨hfin, hin2, hdecl⟩
  · rw [if_neg (by rw [hfin]; decide)] at hlay
    have h6 := u_store hfc hkC hkind hlay hi (hty f hk) hn hfit
    exact W.putK hx hb (f := fd) ⟨hown, hts _ lk, ⟨_, _, _, hi⟩, hst⟩ (by rw [q2]; exact h6) q1 q3 (by rw [hsl]; exact k2_hasslot (q4 f hk)) rfl rfl d key
  · rw [if_pos hfin] at hlay
    have hcf : m.cls = cf := by
      obtain ⟨_, _, c', _, _, _, -, -, hf', -, -, -, hown2, -⟩ := Cond.laysFinal_spec hlay
      have e1 : c' = cf := by have := hi.symm.trans hf'; simp at this; exact this.1.symm
      rw [hdecl] at hown2
      rw [← e1]; exact Option.some.inj (hown.symm.trans hown2)
    have h6 := u_fits hfc hkC hkind (Or.inr hlay) hi (hty f hk) hn hfit
    exact W.putFinK hx hb hown (hts _ lk) hi hst hcf hin2 (by rw [q2]; exact h6) q1 q3 (by rw [hsl]; exact k2_hasslot (q4 f hk)) rfl rfl d key
theorem c_puti (hc : Cx X own cc nL) (hr : Cc G S0 k rt K X) (hi : cInf ci C T N ty) (hci : ci < 20) (f : Nat) (hk : f < N) (hq : (kd ci)[f]? = some false) (d : decode cc pc = .ok (.putfield idx, 3)) (lk : Cond.fieldLink own idx (T f).1 (T f).2.1 (T f).2.2.1 ∈ lw_good) (ha : hT S a = ci + 1) (hfin : (T f).2.2.2 = false ∨ ((T f).2.2.2 = true ∧ Ci X ∧ (T f).1 = own)) {v : Int32} (hn : narrow (ty f) (.int v) = .int v ∧ fits (ty f) (.int v) = true)
    (kk : MC G S0 X nL (sI S a f v) (pc + 3) L st) : MC G S0 X nL S pc L (.int v :: .ref a :: st) := by
  refine c_putg hc hr hi hci f hk d lk ha hfin hn.1 hn.2 (S' := sI S a f v) rfl rfl rfl (fun b hb => cE_off rfl rfl (ud_ne _ _ _ hb) rfl) ?_ kk
  rw [cE_o (S := sI S a f v) ha hci, fl_setI (by rw [hi.2.2.2.2]; exact hk) hq]
  show Sum.inr (ci, fl ci (ud (hI S) a f v a) (hP S a)) = _
  rw [ud_self]
theorem c_putq (hc : Cx X own cc nL) (hr : Cc G S0 k rt K X) (hi : cInf ci C T N ty) (hci : ci < 20) (f : Nat) (hk : f < N) (hq : (kd ci)[f]? = some true) (d : decode cc pc = .ok (.putfield idx, 3)) (lk : Cond.fieldLink own idx (T f).1 (T f).2.1 (T f).2.2.1 ∈ lw_good) (ha : hT S a = ci + 1) (hfin : (T f).2.2.2 = false ∨ ((T f).2.2.2 = true ∧ Ci X ∧ (T f).1 = own)) {r : Option Nat} (hty : (∃ n, ty f = .object n) ∨ ∃ t, ty f = .array t)
    (kk : MC G S0 X nL (sP S a f r) (pc + 3) L st) : MC G S0 X nL S pc L (va_rf r :: .ref a :: st) := by
  have hn : narrow (ty f) (va_rf r) = va_rf r ∧ fits (ty f) (va_rf r) = true := by
    rcases hty with ⟨n, e⟩ | ⟨t, e⟩ <;> rw [e] <;> cases r <;> exact ⟨rfl, rfl⟩
  refine c_putg hc hr hi hci f hk d lk ha hfin hn.1 hn.2 (S' := sP S a f r) rfl rfl rfl (fun b hb => cE_off rfl rfl rfl (ud_ne _ _ _ hb)) ?_ kk
  rw [cE_o (S := sP S a f r) ha hci, fl_setP (by rw [hi.2.2.2.2]; exact hk) hq]
  show Sum.inr (ci, fl ci (hI S a) (ud (hP S) a f r a)) = _
  rw [ud_self]
theorem c_putr (hc : Cx X own cc nL) (hr : Cc G S0 k rt K X) (hi : cInf ci C T N ty) (hci : ci < 20) (f : Nat) (hk : f < N) (hq : (kd ci)[f]? = some true) (d : decode cc pc = .ok (.putfield idx, 3)) (lk : Cond.fieldLink own idx (T f).1 (T f).2.1 (T f).2.2.1 ∈ lw_good) (ha : hT S a = ci + 1) (hfin : (T f).2.2.2 = false ∨ ((T f).2.2.2 = true ∧ Ci X ∧ (T f).1 = own)) {b : Nat} (hty : (∃ n, ty f = .object n) ∨ ∃ t, ty f = .array t)
    (kk : MC G S0 X nL (sP S a f (some b)) (pc + 3) L st) : MC G S0 X nL S pc L (.ref b :: .ref a :: st) := c_putq hc hr hi hci f hk hq d lk ha hfin (r := some b) hty kk
theorem c_iald (hc : Cx X own cc nL) (hr : Cc G S0 k rt K X) (ha : hT S a = 21) {j : Int32} (hin : vp_in j (hN S a)) (d : decode cc pc = .ok (.iaload, 1))
    (kk : MC G S0 X nL S (pc + 1) L (.int (hI S a (Int32.toNatClampNeg j)) :: st)) : MC G S0 X nL S pc L (.int j :: .ref a :: st) := by
  obtain ⟨p, l, e, Rm, s, m, args, below, meth, c, Q⟩ := X
  obtain ⟨hx, hb, hml, hown, hts⟩ := hc
  obtain ⟨hK, -⟩ := hr
  intro H locs ls hI hl
  exact va_iald hx hb hK (hI.1.one (by rw [ha]; decide)) 0 0 (by rw [cE_i ha]; rfl) rfl hin d (kk H locs ls hI hl)
theorem c_bald (hc : Cx X own cc nL) (hr : Cc G S0 k rt K X) (ha : hT S a = 22) {j : Int32} (hin : vp_in j (hN S a)) (d : decode cc pc = .ok (.baload, 1))
    (kk : MC G S0 X nL S (pc + 1) L (.int (hI S a (Int32.toNatClampNeg j)) :: st)) : MC G S0 X nL S pc L (.int j :: .ref a :: st) := by
  obtain ⟨p, l, e, Rm, s, m, args, below, meth, c, Q⟩ := X
  obtain ⟨hx, hb, hml, hown, hts⟩ := hc
  obtain ⟨hK, -⟩ := hr
  intro H locs ls hI hl
  exact va_bald hx hb hK (hI.1.one (by rw [ha]; decide)) 0 1 (by rw [cE_b ha]; rfl) rfl hin d (kk H locs ls hI hl)
theorem c_aaldq (hc : Cx X own cc nL) (hr : Cc G S0 k rt K X) (ha : hT S a = 23) {j : Int32} (hin : vp_in j (hN S a)) (d : decode cc pc = .ok (.aaload, 1))
    (kk : MC G S0 X nL S (pc + 1) L (va_rf (hP S a (Int32.toNatClampNeg j)) :: st)) : MC G S0 X nL S pc L (.int j :: .ref a :: st) := by
  obtain ⟨p, l, e, Rm, s, m, args, below, meth, c, Q⟩ := X
  obtain ⟨hx, hb, hml, hown, hts⟩ := hc
  obtain ⟨hK, -⟩ := hr
  intro H locs ls hI hl
  exact va_aldq hx hb hK (hI.1.one (by rw [ha]; decide)) 0 2 (by rw [cE_p ha]; rfl) rfl hin d (kk H locs ls hI hl)
theorem c_aald (hc : Cx X own cc nL) (hr : Cc G S0 k rt K X) (ha : hT S a = 23) {j : Int32} (hin : vp_in j (hN S a)) {b : Nat} (hb : hP S a (Int32.toNatClampNeg j) = some b) (d : decode cc pc = .ok (.aaload, 1))
    (kk : MC G S0 X nL S (pc + 1) L (.ref b :: st)) : MC G S0 X nL S pc L (.int j :: .ref a :: st) := by
  refine c_aaldq hc hr ha hin d ?_
  rw [hb]
  exact kk
theorem c_alen (hc : Cx X own cc nL) (hr : Cc G S0 k rt K X) (ha : hT S a = 21 ∨ hT S a = 22 ∨ hT S a = 23) (d : decode cc pc = .ok (.arraylength, 1))
    (kk : MC G S0 X nL S (pc + 1) L (.int (Int32.ofNat (hN S a)) :: st)) : MC G S0 X nL S pc L (.ref a :: st) := by
  obtain ⟨p, l, e, Rm, s, m, args, below, meth, c, Q⟩ := X
  obtain ⟨hx, hb, hml, hown, hts⟩ := hc
  obtain ⟨hK, -⟩ := hr
  intro H locs ls hI hl
  rcases ha with ha | ha | ha
  · exact va_alen hx hb hK (hI.1.one (by rw [ha]; decide)) 0 0 (x := (hN S a, .inl (_root_.Jvm.Pilot.@@N@@.hI S a))) (by rw [cE_i ha]; rfl) (ty := .int) rfl rfl d (kk H locs ls hI hl)
  · exact va_alen hx hb hK (hI.1.one (by rw [ha]; decide)) 0 1 (x := (hN S a, .inl (_root_.Jvm.Pilot.@@N@@.hI S a))) (by rw [cE_b ha]; rfl) (ty := .byte) rfl rfl d (kk H locs ls hI hl)
  · exact va_alen hx hb hK (hI.1.one (by rw [ha]; decide)) 0 2 (x := (hN S a, .inr (.inr (.inr (.inr (hP S a)))))) (by rw [cE_p ha]; rfl) (ty := .object "StraightPolys$Poly") rfl rfl d (kk H locs ls hI hl)
theorem c_iast (hc : Cx X own cc nL) (hr : Cc G S0 k rt K X) (ha : hT S a = 21) {j x : Int32} (hin : vp_in j (hN S a)) (d : decode cc pc = .ok (.iastore, 1))
    (kk : MC G S0 X nL (sI S a (Int32.toNatClampNeg j) x) (pc + 1) L st) : MC G S0 X nL S pc L (.int x :: .int j :: .ref a :: st) := by
  obtain ⟨p, l, e, Rm, s, m, args, below, meth, c, Q⟩ := X
  obtain ⟨hx, hb, hml, hown, hts⟩ := hc
  obtain ⟨hK, -⟩ := hr
  intro H locs ls hI hl
  have hne : hT S a ≠ 0 := by rw [ha]; decide
  have hat := (hI.1.1 a hne).2
  rw [cE_i ha] at hat
  have hcell : H[a]? = some (vp_cell (gI G) (hN S a, .inl (_root_.Jvm.Pilot.@@N@@.hI S a))) := hat
  refine W.iast hx hb hcell ((hK.2 0 _ rfl).1 (hN S a) (fun q => .int (_root_.Jvm.Pilot.@@N@@.hI S a q))) (fun q => by cases q) (by show ¬ (j < 0 ∨ (arrV _ _ _).slots.size ≤ _); rw [arrV_size]; exact hin) rfl rfl d fun H1 e1 z oq => ?_
  refine kk H1 _ ls (hI.put (hI.1.put z oq hcell e1 (by simp [Cell.setSlot]) rfl rfl rfl (fun b hb => cE_off rfl rfl (ud_ne _ _ _ hb) rfl) ?_) hne z oq rfl rfl rfl) hl
  rw [cE_i (S := sI S a (Int32.toNatClampNeg j) x) ha]
  show H1[a]? = some (vp_cell _ _)
  rw [e1, vp_cell_i, vp_cell_i, arrV_store]
  congr 2
  funext q
  show _ = Value.int (ud (_root_.Jvm.Pilot.@@N@@.hI S) a (Int32.toNatClampNeg j) x a q)
  rw [ud_self]
  by_cases hq : q = j.toNatClampNeg
  · subst hq
    simp [updV, va_up]
  · simp [updV, va_up, hq]
theorem c_bast (hc : Cx X own cc nL) (hr : Cc G S0 k rt K X) (ha : hT S a = 22) {j x : Int32} (hin : vp_in j (hN S a)) (d : decode cc pc = .ok (.bastore, 1))
    (kk : MC G S0 X nL (sI S a (Int32.toNatClampNeg j) (vp_nar .byte x)) (pc + 1) L st) : MC G S0 X nL S pc L (.int x :: .int j :: .ref a :: st) := by
  obtain ⟨p, l, e, Rm, s, m, args, below, meth, c, Q⟩ := X
  obtain ⟨hx, hb, hml, hown, hts⟩ := hc
  obtain ⟨hK, -⟩ := hr
  intro H locs ls hI hl
  have hne : hT S a ≠ 0 := by rw [ha]; decide
  have hat := (hI.1.1 a hne).2
  rw [cE_b ha] at hat
  have hcell : H[a]? = some (vp_cell (gB G) (hN S a, .inl (_root_.Jvm.Pilot.@@N@@.hI S a))) := hat
  refine W.bast hx hb hcell ((hK.2 1 _ rfl).1 (hN S a) (fun q => .int (_root_.Jvm.Pilot.@@N@@.hI S a q))) (fun q => by cases q) (by show ¬ (j < 0 ∨ (arrV _ _ _).slots.size ≤ _); rw [arrV_size]; exact hin) rfl rfl d fun H1 e1 z oq => ?_
  refine kk H1 _ ls (hI.put (hI.1.put z oq hcell e1 (by simp [Cell.setSlot]) rfl rfl rfl (fun b hb => cE_off rfl rfl (ud_ne _ _ _ hb) rfl) ?_) hne z oq rfl rfl rfl) hl
  rw [cE_b (S := sI S a (Int32.toNatClampNeg j) (vp_nar .byte x)) ha]
  show H1[a]? = some (vp_cell _ _)
  rw [e1, vp_cell_i, vp_cell_i, arrV_store]
  congr 2
  funext q
  show _ = Value.int (ud (_root_.Jvm.Pilot.@@N@@.hI S) a (Int32.toNatClampNeg j) (vp_nar .byte x) a q)
  rw [ud_self]
  by_cases hq : q = j.toNatClampNeg
  · subst hq
    simp [updV, va_up, vp_nar]
    try rfl
  · simp [updV, va_up, hq]
theorem c_aast (hc : Cx X own cc nL) (hr : Cc G S0 k rt K X) (ha : hT S a = 23) {j : Int32} {b : Nat} (hin : vp_in j (hN S a)) (hb7 : hT S b = 7) (d : decode cc pc = .ok (.aastore, 1))
    (kk : MC G S0 X nL (sP S a (Int32.toNatClampNeg j) (some b)) (pc + 1) L st) : MC G S0 X nL S pc L (.ref b :: .int j :: .ref a :: st) := by
  obtain ⟨p, l, e, Rm, s, m, args, below, meth, c, Q⟩ := X
  obtain ⟨hx, hb, hml, hown, hts⟩ := hc
  obtain ⟨hK, -⟩ := hr
  intro H locs ls hI hl
  have hne : hT S a ≠ 0 := by rw [ha]; decide
  have hat := (hI.1.1 a hne).2
  rw [cE_p ha] at hat
  have hcell : H[a]? = some (vp_cell (gP G) (hN S a, .inr (.inr (.inr (.inr (hP S a)))))) := hat
  have hbt := (hI.1.1 b (by rw [hb7]; decide)).2
  rw [cE_o (c := 6) hb7 (by decide)] at hbt
  obtain ⟨r', hr', cellV, g1, g2, g3, -⟩ := hbt
  have hlt : j.toNatClampNeg < hN S a := Nat.not_le.mp fun q => hin (Or.inr q)
  have h0 : ¬ j < 0 := fun q => hin (Or.inl q)
  have hcls := (hK.1 6 (RX6, TX6, 4) rfl).2
  obtain ⟨kA, comp, k1, k2, k3, -⟩ := (hK.2 2 _ rfl).2
  have hcomp : comp = (gD G).1 6 := Option.some.inj (k3.symm.trans hcls.1)
  subst hcomp
  obtain ⟨kC, hkC, -⟩ := hcls.2
  refine W.aast hx hb hcell (fun q h => by cases h) (fun h => by cases h) k1 k2 rfl hkC ⟨h0, by show _ < (arrV _ _ _).slots.size; rw [arrV_size]; exact hlt⟩ g1 (fun q h => by rw [g3] at h; cases h) (by rw [g2]; exact hkC) (by rw [g2]; exact va_assign hcls) rfl rfl d fun H1 e1 z oq => ?_
  refine kk H1 _ ls (hI.put (hI.1.put z oq hcell e1 (by simp [Cell.setSlot]) rfl rfl rfl (fun b hb => cE_off rfl rfl rfl (ud_ne _ _ _ hb)) ?_) hne z oq rfl rfl rfl) hl
  rw [cE_p (S := sP S a (Int32.toNatClampNeg j) (some b)) ha]
  show H1[a]? = some (vp_cell _ _)
  rw [e1, vp_cell_q, vp_cell_q, arrV_store]
  congr 2
  funext q
  show _ = va_rf (ud (hP S) a (Int32.toNatClampNeg j) (some b) a q)
  rw [ud_self]
  by_cases hq : q = j.toNatClampNeg
  · subst hq
    simp [updV, va_up, va_rf]
  · simp [updV, va_up, hq]
theorem c_iret (hc : Cx X own cc nL) {K : Int32 → HS → Prop} (hr : Cc G S0 k (some .int) (kI K) X) {v : Int32} (d : decode cc pc = .ok (.ireturn, 1)) (hK : K v S) : MC G S0 X nL S pc L [.int v] := by
  obtain ⟨p, l, e, Rm, s, m, args, below, meth, c, Q⟩ := X
  obtain ⟨hx, hb, hml, hown, hts⟩ := hc
  obtain ⟨-, -, hrt, hlocks, hQ, -⟩ := hr
  intro H locs ls hI hl
  refine hQ _ _ _ _ _ ?_
  refine W.widen (k := gC G - hX S0) (n := gS G - hS S0) (Nat.sub_le_sub_right hI.1.2.2.2.1 _) (Nat.sub_le_sub_right hI.1.2.2.2.2 _) ?_
  exact W.iret (v := v) hx hb hrt (fun t ht hW => ⟨⟨_, S, rfl, ⟨v, rfl, hK⟩, by rw [ht]; exact hI.1, hI.2.1, hI.2.2.2.1, hI.2.2.2.2⟩, hI.2.2.1.F ht⟩) hI.2.2.1.2.2 d hlocks
theorem c_zret (hc : Cx X own cc nL) {K : Int32 → HS → Prop} (hr : Cc G S0 k (some .boolean) (kI K) X) {v : Int32} (d : decode cc pc = .ok (.ireturn, 1)) (hv : v = 0 ∨ v = 1) (hK : K v S) : MC G S0 X nL S pc L [.int v] := by
  obtain ⟨p, l, e, Rm, s, m, args, below, meth, c, Q⟩ := X
  obtain ⟨hx, hb, hml, hown, hts⟩ := hc
  obtain ⟨-, -, hrt, hlocks, hQ, -⟩ := hr
  intro H locs ls hI hl
  refine hQ _ _ _ _ _ ?_
  refine W.widen (k := gC G - hX S0) (n := gS G - hS S0) (Nat.sub_le_sub_right hI.1.2.2.2.1 _) (Nat.sub_le_sub_right hI.1.2.2.2.2 _) ?_
  exact W.zret (v := v) hx hb hrt (by rcases hv with rfl | rfl <;> rfl) (fun t ht hW => ⟨⟨_, S, rfl, ⟨v, rfl, hK⟩, by rw [ht]; exact hI.1, hI.2.1, hI.2.2.2.1, hI.2.2.2.2⟩, hI.2.2.1.F ht⟩) hI.2.2.1.2.2 d hlocks
theorem c_vret (hc : Cx X own cc nL) {K : Int32 → HS → Prop} (hr : Cc G S0 k none (kV K) X) (d : decode cc pc = .ok (.return_, 1)) (hK : K 0 S) : MC G S0 X nL S pc L [] := by
  obtain ⟨p, l, e, Rm, s, m, args, below, meth, c, Q⟩ := X
  obtain ⟨hx, hb, hml, hown, hts⟩ := hc
  obtain ⟨-, -, hrt, hlocks, hQ, -⟩ := hr
  intro H locs ls hI hl
  refine hQ _ _ _ _ _ ?_
  refine W.widen (k := gC G - hX S0) (n := gS G - hS S0) (Nat.sub_le_sub_right hI.1.2.2.2.1 _) (Nat.sub_le_sub_right hI.1.2.2.2.2 _) ?_
  exact W.vret hx hb hrt (fun t ht hW => ⟨⟨_, S, rfl, ⟨rfl, hK⟩, by rw [ht]; exact hI.1, hI.2.1, hI.2.2.2.1, hI.2.2.2.2⟩, hI.2.2.1.F ht⟩) hI.2.2.1.2.2 d hlocks
theorem c_aret (hc : Cx X own cc nL) {K : Option Nat → HS → Prop} {C : String} (hr : Cc G S0 k (some (.object C)) (kR K) X) {r : Option Nat} (d : decode cc pc = .ok (.areturn, 1)) (hK : K r S) : MC G S0 X nL S pc L [va_rf r] := by
  obtain ⟨p, l, e, Rm, s, m, args, below, meth, c, Q⟩ := X
  obtain ⟨hx, hb, hml, hown, hts⟩ := hc
  obtain ⟨-, -, hrt, hlocks, hQ, -⟩ := hr
  intro H locs ls hI hl
  refine hQ _ _ _ _ _ ?_
  refine W.widen (k := gC G - hX S0) (n := gS G - hS S0) (Nat.sub_le_sub_right hI.1.2.2.2.1 _) (Nat.sub_le_sub_right hI.1.2.2.2.2 _) ?_
  exact W.aret (v := va_rf r) hx hb hrt (Or.inl ⟨_, rfl⟩) (by cases r with | none => exact Or.inl rfl | some b => exact Or.inr ⟨b, rfl⟩) (fun t ht hW => ⟨⟨_, S, rfl, ⟨r, rfl, hK⟩, by rw [ht]; exact hI.1, hI.2.1, hI.2.2.2.1, hI.2.2.2.2⟩, hI.2.2.1.F ht⟩) hI.2.2.1.2.2 d hlocks
theorem c_room (hr : Cc G S0 (k + 1) rt K X) (h1 : hX S ≤ gC G) (h2 : hS S ≤ gS G) : 1 ≤ (fRoom X).frames ∧ 30 ≤ (fRoom X).locals ∧ hX S - hX S0 ≤ (fRoom X).cells ∧ hS S - hS S0 ≤ (fRoom X).slots := by
  obtain ⟨p, l, e, Rm, s, m, args, below, meth, c, Q⟩ := X
  obtain ⟨-, ⟨N, hN, rfl⟩, -⟩ := hr
  show 1 ≤ N ∧ 30 ≤ 64 * N ∧ hX S - hX S0 ≤ gC G - hX S0 ∧ hS S - hS S0 ≤ gS G - hS S0
  omega
end CRR
