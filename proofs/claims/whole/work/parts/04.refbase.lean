/-! The reference's own world: one object (at G.h) and its rows of ints (row of field f at G.a f). Its state R: R f is row f, R 0 f the number in field f. -/
abbrev RS : Type := Nat → Nat → Int32
abbrev RG : Type := va_G × ClassId × Nat × (Nat → Nat)
abbrev cls : List vw_C := [(RX0, TX0, 4), (RX1, TX1, 3), (RX2, TX2, 14), (RX3, TX3, 6), (RX4, TX4, 1), (RX5, TX5, 4), (RX6, TX6, 4), (RX7, TX7, 10), (RX8, TX8, 9), (RX9, TX9, 9), (RX10, TX10, 2), (RX11, TX11, 12), (RX12, TX12, 52)]
def rArr : List Nat := [2, 3, 4, 5, 6, 8, 9, 10, 11, 12, 14, 15, 16, 17, 18, 19, 20, 21, 26, 27, 29, 30, 31, 32, 33, 34, 35, 36, 39, 40, 41, 42]
def rlen (f : Nat) : Nat := match f with
  | 2 => 56 | 3 => 16800 | 4 => 16800 | 5 => 531441 | 6 => 90600 | 8 => 123 | 9 => 20 | 10 => 20 | 11 => 6000 | 12 => 6000 | 14 => 3 | 15 => 41 | 16 => 41
  | 17 => 68921 | 18 => 68921 | 19 => 1764 | 20 => 1764 | 21 => 2197 | 26 => 531441 | 27 => 6000 | 29 => 23 | 30 => 23 | 31 => 46 | 32 => 46 | 33 => 23 | 34 => 23 | 35 => 46 | 36 => 46
  | 39 => 23 | 40 => 23 | 41 => 23 | 42 => 200 | _ => 0
def rfs (a : Nat → Nat) (R : RS) : List Value := (List.range 52).map (fun f => if rArr.contains f then .ref (a f) else .int (R 0 f))
def wsR (G : RG) (R : RS) : va_W := (G.2.2.1, .inr (12, rfs G.2.2.2 R)) :: rArr.map (fun f => (G.2.2.2 f, .inl (G.2.1, rlen f, .inl (R f))))
/-- the addresses of the reference's world -/
def rA (G : RG) : Nat → Prop := fun q => q = G.2.2.1 ∨ ∃ f, f ∈ rArr ∧ q = G.2.2.2 f
def okG (G : RG) : Prop := ∀ R : RS, va_D (rA G) (wsR G R)
/-- a row's place, or a field's number, is written -/
def up (R : RS) (f j : Nat) (x : Int32) : RS := fun g => if g = f then upd (R f) j x else R g
theorem up_self (R : RS) (f j : Nat) (x : Int32) : up R f j x f = upd (R f) j x := by simp [up]
theorem up_ne (R : RS) {f g : Nat} (j : Nat) (x : Int32) (h : ¬ g = f) : up R f j x g = R g := by simp [up, h]
theorem up_at (R : RS) (f j : Nat) (x : Int32) : up R f j x f j = x := by simp [up, upd]
theorem up_off (R : RS) {f j : Nat} (x : Int32) {g i : Nat} (h : ¬ (g = f ∧ i = j)) : up R f j x g i = R g i := by
  by_cases hg : g = f
  · subst hg
    simp only [up, upd, if_pos]
    rw [if_neg (fun e => h ⟨rfl, e⟩)]
  · rw [up_ne R j x hg]
theorem rfs_at {a : Nat → Nat} {R : RS} {f : Nat} (hf : f < 52) : (rfs a R)[f]? = some (if rArr.contains f then .ref (a f) else .int (R 0 f)) := by
  simp [rfs, List.getElem?_map, List.getElem?_range hf]
theorem rfs_len {a : Nat → Nat} {R : RS} : (rfs a R).length = 52 := by simp [rfs]
theorem rfs_up {a : Nat → Nat} {R : RS} {f j : Nat} {x : Int32} (hf : ¬ 0 = f) : rfs a (up R f j x) = rfs a R := by
  simp only [rfs, up_ne R j x hf]
theorem rfs_set {a : Nat → Nat} {R : RS} {f : Nat} {x : Int32} (hf : f < 52) (hs : rArr.contains f = false) : (rfs a R).set f (.int x) = rfs a (up R 0 f x) := by
  apply List.ext_getElem?
  intro i
  by_cases hi : i < 52
  · by_cases e : i = f
    · subst e
      rw [List.getElem?_set_self (by rw [rfs_len]; exact hi), rfs_at hi, hs]
      simp [up, upd]
    · rw [List.getElem?_set_ne (fun z => e z.symm), rfs_at hi, rfs_at hi, up_self]
      simp [upd, e]
  · rw [List.getElem?_eq_none (by rw [List.length_set, rfs_len]; omega), List.getElem?_eq_none (by rw [rfs_len]; omega)]
theorem wsR_0 (G : RG) (R : RS) : (wsR G R)[0]? = some (G.2.2.1, .inr (12, rfs G.2.2.2 R)) := rfl
theorem wsR_s (G : RG) (R : RS) {i f : Nat} (h : rArr[i]? = some f) : (wsR G R)[i + 1]? = some (G.2.2.2 f, .inl (G.2.1, rlen f, .inl (R f))) := by
  show (rArr.map _)[i]? = _
  rw [List.getElem?_map, h]; rfl
theorem rArr_inj : ∀ i, i < 32 → ∀ j, j < 32 → rArr[i]? = rArr[j]? → i = j := by decide +kernel
theorem rArr_0 : ¬ 0 ∈ rArr := by decide +kernel
theorem wsR_put (G : RG) (R : RS) {f : Nat} {x : Int32} (hf : f < 52) (hs : rArr.contains f = false) : (wsR G R).set 0 (G.2.2.1, .inr (12, (rfs G.2.2.2 R).set f (.int x))) = wsR G (up R 0 f x) := by
  have h1 : rArr.map (fun g => (G.2.2.2 g, (Sum.inl (G.2.1, rlen g, Sum.inl (up R 0 f x g)) : va_E))) = rArr.map (fun g => (G.2.2.2 g, (Sum.inl (G.2.1, rlen g, Sum.inl (R g)) : va_E))) := by
    apply List.map_congr_left
    intro g hg
    have hg0 : ¬ g = 0 := fun e => rArr_0 (by rw [← e]; exact hg)
    rw [up_ne R f x hg0]
  unfold wsR
  rw [h1, ← rfs_set hf hs]
  rfl
theorem wsR_sto (G : RG) (R : RS) {i f j : Nat} {x : Int32} (h : rArr[i]? = some f) : (wsR G R).set (i + 1) (G.2.2.2 f, .inl (G.2.1, rlen f, .inl (upd (R f) j x))) = wsR G (up R f j x) := by
  have h0 : ¬ 0 = f := fun e => rArr_0 (e ▸ List.mem_of_getElem? h)
  show _ :: (rArr.map _).set i _ = _ :: _
  rw [rfs_up h0]
  congr 1
  apply List.ext_getElem?
  intro k
  by_cases hk : k = i
  · subst hk
    rw [List.getElem?_set_self (by rw [List.length_map]; exact (List.getElem?_eq_some_iff.mp h).1), List.getElem?_map, h]
    simp [up]
  · rw [List.getElem?_set_ne (fun z => hk z.symm), List.getElem?_map, List.getElem?_map]
    cases hg : rArr[k]? with
    | none => rfl
    | some g =>
      have hgf : ¬ g = f := fun e => by
        subst e
        have hki : k < 32 := (List.getElem?_eq_some_iff.mp hg).1
        have hii : i < 32 := (List.getElem?_eq_some_iff.mp h).1
        exact hk (rArr_inj k hki i hii (hg.trans h.symm))
      simp [up, hgf]
/-- the room of a method that makes nothing, n frames deep -/
def rmR (n : Nat) : Room := { frames := n, cells := 0, slots := 0, locals := 64 * n }
def rvR (rt : Option FieldType) (r : Int32) : Option Value := match rt with
  | none => none
  | some _ => some (.int r)
def QcR (G : RG) (rt : Option FieldType) (K : Int32 → RS → Prop) : Array Value → State → Outcome → State → Prop := fun _ st o t => (∃ (r : Int32) (R' : RS), o = .returned (rvR rt r) ∧ K r R' ∧ va_P G.1 cls (wsR G R') t.heap) ∧ va_F (rA G) st t ∧ t.heap.size = st.heap.size ∧ hsum t.heap = hsum st.heap
/-- THE CONTRACT: called with these values in the state R, the method returns r and leaves R' with K r R' -/
def CF (k : Nat) (y : MethodName) (cc : ByteArray) (nL : Nat) (rt : Option FieldType) (av : List Value) (G : RG) (R : RS) (K : Int32 → RS → Prop) : Prop :=
  ∀ (l : Launch) (n : Nat), k ≤ n → Met l y (Cond.code y cc nL rt :: lw_good) (rmR n) (va_Pc av (fun U => va_P G.1 cls (wsR G R) U.heap ∧ va_K G.1 cls [(G.2.1, .int)] U)) (QcR G rt K) 0 0 (rA G)
/-- what holds through a walk of a method of the reference -/
def Cr (G : RG) (k : Nat) (rt : Option FieldType) (K : Int32 → RS → Prop) (X : Fx) : Prop := match X with
  | (_, _, _, Rm, s, _, args, below, meth, _, Q) => va_K G.1 cls [(G.2.1, .int)] s ∧ (∃ n, k ≤ n ∧ Rm = rmR n) ∧ meth.sig.returnType = rt ∧ meth.locks = false ∧ Q = MQ below (QcR G rt K) args s 0 0 (rA G) ∧ okG G
def InR (G : RG) (X : Fx) (R : RS) : Heap → List Loc → Prop := fun H locs => va_P G.1 cls (wsR G R) H ∧ va_S (rA G) (fS X).heap H locs ∧ H.size = (fS X).heap.size ∧ hsum H = hsum (fS X).heap
abbrev MR (G : RG) (X : Fx) (nL : Nat) (R : RS) (pc : Nat) (L : List (Nat × Value)) (st : List Value) : Prop := MW X nL (InR G X R) 0 0 pc L st
theorem CF.of {k : Nat} {y : MethodName} {cc : ByteArray} {nL : Nat} {rt : Option FieldType} {av : List Value} {G : RG} {R : RS} {K : Int32 → RS → Prop} (hy : plainName y.cls = true) (hok : okG G) (hlen : (lg_sl av).length ≤ nL)
    (body : ∀ X : Fx, Cx X y.cls cc nL → Cr G k rt K X → MR G X nL R 0 (lv_args 0 av) []) : CF k y cc nL rt av G R K := by
  intro l n hn
  refine Met.ofW (cc := cc) (maxL := nL) (ret := rt) hy rfl ?_
  intro p e s m args below meth c s₁ B hml hv
  obtain ⟨rfl, hP, hK⟩ := hv
  have hts := atoms_spec (ws := Cond.code y cc nL rt :: lw_good) B.pre
  have hown : s.vm.findClass y.cls = some m.cls := findClass_of_methodNamed B.named
  have hl := lv_entry av (n := nL) hlen
  rw [lg_entry_eq]
  exact body (p, l, e, _, s, m, av.toArray, below, meth, c, _) ⟨B.exec, B.bytes, hml, hown, fun w h => hts w (List.mem_cons_of_mem _ h)⟩ ⟨hK, ⟨n, hn, rfl⟩, B.returns, B.notSynchronized, rfl, hok⟩ s.heap [] _ ⟨hP, va_S.rf, rfl, rfl⟩ hl
theorem inX12 : ∀ w ∈ u_ws RX12 TX12 52, w ∈ lw_good := by
  have h : u_ws RX12 TX12 52 = [1595, 1597, 1599, 1601, 1603, 1605, 1607, 1609, 1611, 1613, 1615, 1617, 1619, 1621, 1623, 1625, 1627, 1629, 1631, 1633, 1635, 1637, 1639, 1641, 1643, 1645, 1647, 1649, 1651, 1653, 1655, 1657, 1659, 1661, 1663, 1665, 1667, 1669, 1671, 1673, 1675, 1677, 1679, 1681, 1683, 1685, 1687, 1689, 1691, 1693, 1695, 1697].filterMap (fun i => lw_tbl[i]?) := by decide +kernel
  have h2 : (u_ws RX12 TX12 52).all goodWord = true := by decide +kernel
  intro w hw
  have h3 := List.all_eq_true.mp h2 w hw
  rw [h] at hw
  obtain ⟨i, -, hi⟩ := List.mem_filterMap.mp hw
  exact List.mem_filter.mpr ⟨List.mem_of_getElem? hi, h3⟩
section RR
variable {G : RG} {X : Fx} {k : Nat} {rt : Option FieldType} {K : Int32 → RS → Prop} {own : String} {cc : ByteArray} {nL pc : Nat} {R : RS} {L : List (Nat × Value)} {st : List Value}
theorem r_geti (hc : Cx X own cc nL) (hr : Cr G k rt K X) (f : Nat) {idx : Nat} (d : decode cc pc = .ok (.getfield idx, 3)) (lk : Cond.fieldLink own idx (TX12 f).1 (TX12 f).2.1 (TX12 f).2.2.1 ∈ lw_good) (hf : f < 52) (hs : rArr.contains f = false)
    (kk : MR G X nL R (pc + 3) L (.int (R 0 f) :: st)) : MR G X nL R pc L (.ref G.2.2.1 :: st) := by
  obtain ⟨p, l, e, Rm, s, m, args, below, meth, c, Q⟩ := X
  obtain ⟨hx, hb, hml, hown, hts⟩ := hc
  obtain ⟨hK, -⟩ := hr
  intro H locs ls hI hl
  exact va_get (D := G.1) (ci := 12) (C := RX12) (T := TX12) (N := 52) hx hb hts inX12 hown hK hI.1 0 (wsR_0 G R) rfl f hf (hts _ lk) (fun _ h9 => h9) (v := .int (R 0 f)) (by rw [rfs_at hf, hs]; rfl) d (kk H locs ls hI hl)
theorem r_geta (hc : Cx X own cc nL) (hr : Cr G k rt K X) (f : Nat) {idx : Nat} (d : decode cc pc = .ok (.getfield idx, 3)) (lk : Cond.fieldLink own idx (TX12 f).1 (TX12 f).2.1 (TX12 f).2.2.1 ∈ lw_good) (hf : f < 52) (hs : rArr.contains f = true)
    (kk : MR G X nL R (pc + 3) L (.ref (G.2.2.2 f) :: st)) : MR G X nL R pc L (.ref G.2.2.1 :: st) := by
  obtain ⟨p, l, e, Rm, s, m, args, below, meth, c, Q⟩ := X
  obtain ⟨hx, hb, hml, hown, hts⟩ := hc
  obtain ⟨hK, -⟩ := hr
  intro H locs ls hI hl
  exact va_get (D := G.1) (ci := 12) (C := RX12) (T := TX12) (N := 52) hx hb hts inX12 hown hK hI.1 0 (wsR_0 G R) rfl f hf (hts _ lk) (fun _ h9 => h9) (v := .ref (G.2.2.2 f)) (by rw [rfs_at hf, hs]; rfl) d (kk H locs ls hI hl)
theorem r_put (hc : Cx X own cc nL) (hr : Cr G k rt K X) (f : Nat) {idx : Nat} {x : Int32} (d : decode cc pc = .ok (.putfield idx, 3)) (lk : Cond.fieldLink own idx (TX12 f).1 (TX12 f).2.1 (TX12 f).2.2.1 ∈ lw_good) (hf : f < 52) (hs : rArr.contains f = false) (hfin : (TX12 f).2.2.2 = false) (hty : parseFieldDescriptor (TX12 f).2.2.1 = some .int)
    (kk : MR G X nL (up R 0 f x) (pc + 3) L st) : MR G X nL R pc L (.int x :: .ref G.2.2.1 :: st) := by
  obtain ⟨p, l, e, Rm, s, m, args, below, meth, c, Q⟩ := X
  obtain ⟨hx, hb, hml, hown, hts⟩ := hc
  obtain ⟨hK, -, -, -, -, hok⟩ := hr
  intro H locs ls hI hl
  have hap := va_apart (own := own) hts inX12 tyX12 tyX12_ok nmX12 hK (show cls[12]? = some (RX12, TX12, 52) from rfl)
  obtain ⟨r, h1, cell, q1, q2, q3, q4⟩ := hI.1 0 _ (wsR_0 G R)
  have hr9 : r = (RX12, TX12, 52) := Option.some.inj (h1.symm.trans rfl)
  subst hr9
  obtain ⟨hSl, hfc, kC, hkC, hkind⟩ := hK.1 12 (RX12, TX12, 52) rfl
  obtain ⟨cf, kf, fi, fd, hi, hsl⟩ := hSl f hf
  have hlay := hts _ (inX12 _ (u_in_lay hf))
  unfold u_lay at hlay
  rw [if_neg (by rw [hfin]; decide)] at hlay
  have hst := (u_facts hfc hkC (u_lays hts inX12 hf) hi).1
  have h6 := u_store (v := .int x) hfc hkC hkind hlay hi hty rfl rfl
  refine W.putK hx hb (f := fd) ⟨hown, hts _ lk, ⟨_, _, _, hi⟩, hst⟩ (by rw [q2]; exact h6) q1 q3 (by rw [hsl]; exact k2_hasslot (q4 f hf)) rfl rfl d fun H' e1 e2 e3 => ?_
  have hsz : (cell.setSlot fd.slot (.int x)).slots.size = cell.slots.size := by simp [Cell.setSlot]
  have hsum' := hsum_set e2 e3 q1 e1 hsz
  have hP1 : va_P G.1 cls ((wsR G R).set 0 (G.2.2.1, .inr (12, (rfs G.2.2.2 R).set f (.int x)))) H' := by
    refine hI.1.set (hok R) (wsR_0 G R) ?_ e3
    rw [hsl] at e1
    exact ⟨_, rfl, t_OB.to (V := updV (vp_V (rfs G.2.2.2 R)) f (.int x)) ⟨_, e1, q2, q3, t_set q4 hap hf (.int x)⟩ (fun j _ => vp_updV_set (by rw [rfs_len]; exact hf) (.int x) j)⟩
  rw [wsR_put G R hf hs] at hP1
  exact kk H' _ ls ⟨hP1, hI.2.1.put e2 e3 ((hok R).2 0 _ (wsR_0 G R)), e2.trans hI.2.2.1, hsum'.trans hI.2.2.2⟩ hl
theorem r_iald (hc : Cx X own cc nL) (hr : Cr G k rt K X) {i f : Nat} (hi : rArr[i]? = some f) {j : Int32} (hin : vp_in j (rlen f)) (d : decode cc pc = .ok (.iaload, 1))
    (kk : MR G X nL R (pc + 1) L (.int (R f j.toNatClampNeg) :: st)) : MR G X nL R pc L (.int j :: .ref (G.2.2.2 f) :: st) := by
  obtain ⟨p, l, e, Rm, s, m, args, below, meth, c, Q⟩ := X
  obtain ⟨hx, hb, hml, hown, hts⟩ := hc
  obtain ⟨hK, -⟩ := hr
  intro H locs ls hI hl
  exact va_iald hx hb hK hI.1 (i + 1) 0 (wsR_s G R hi) rfl hin d (kk H locs ls hI hl)
theorem r_iast (hc : Cx X own cc nL) (hr : Cr G k rt K X) {i f : Nat} (hi : rArr[i]? = some f) {j x : Int32} (hin : vp_in j (rlen f)) (d : decode cc pc = .ok (.iastore, 1))
    (kk : MR G X nL (up R f j.toNatClampNeg x) (pc + 1) L st) : MR G X nL R pc L (.int x :: .int j :: .ref (G.2.2.2 f) :: st) := by
  obtain ⟨p, l, e, Rm, s, m, args, below, meth, c, Q⟩ := X
  obtain ⟨hx, hb, hml, hown, hts⟩ := hc
  obtain ⟨hK, -, -, -, -, hok⟩ := hr
  intro H locs ls hI hl
  have hcell : H[G.2.2.2 f]? = some (vp_cell G.2.1 (rlen f, .inl (R f))) := hI.1 (i + 1) _ (wsR_s G R hi)
  refine W.iast hx hb hcell ((hK.2 0 _ rfl).1 (rlen f) (fun q => .int (R f q))) (fun q => by cases q) (by show ¬ (j < 0 ∨ (arrV _ _ _).slots.size ≤ _); rw [arrV_size]; exact hin) rfl rfl d fun H1 e1 z oq => ?_
  have hsum' := hsum_set z oq hcell e1 (by simp [Cell.setSlot])
  have hP1 : va_P G.1 cls ((wsR G R).set (i + 1) (G.2.2.2 f, .inl (G.2.1, rlen f, .inl (upd (R f) j.toNatClampNeg x)))) H1 := by
    refine hI.1.set (hok R) (wsR_s G R hi) ?_ oq
    show H1[G.2.2.2 f]? = some (vp_cell _ _)
    rw [e1, vp_cell_i, vp_cell_i, arrV_store]
    congr 2
    funext q
    by_cases hq : q = j.toNatClampNeg
    · subst hq
      simp [updV, upd]
    · simp [updV, upd, hq]
  rw [wsR_sto G R hi] at hP1
  exact kk H1 _ ls ⟨hP1, hI.2.1.put z oq ((hok R).2 (i + 1) _ (wsR_s G R hi)), z.trans hI.2.2.1, hsum'.trans hI.2.2.2⟩ hl
theorem r_alen (hc : Cx X own cc nL) (hr : Cr G k rt K X) {i f : Nat} (hi : rArr[i]? = some f) {v : Int32} (hv : Int32.ofNat (rlen f) = v) (d : decode cc pc = .ok (.arraylength, 1))
    (kk : MR G X nL R (pc + 1) L (.int v :: st)) : MR G X nL R pc L (.ref (G.2.2.2 f) :: st) := by
  obtain ⟨p, l, e, Rm, s, m, args, below, meth, c, Q⟩ := X
  obtain ⟨hx, hb, hml, hown, hts⟩ := hc
  obtain ⟨hK, -⟩ := hr
  intro H locs ls hI hl
  exact va_alen hx hb hK hI.1 (i + 1) 0 (wsR_s G R hi) (ty := .int) rfl hv d (kk H locs ls hI hl)
theorem r_iret (hc : Cx X own cc nL) (hr : Cr G k (some .int) K X) {v : Int32} (d : decode cc pc = .ok (.ireturn, 1)) (hK : K v R) : MR G X nL R pc L [.int v] := by
  obtain ⟨p, l, e, Rm, s, m, args, below, meth, c, Q⟩ := X
  obtain ⟨hx, hb, hml, hown, hts⟩ := hc
  obtain ⟨-, -, hrt, hlocks, rfl, -⟩ := hr
  intro H locs ls hI hl
  exact W.iret (v := v) hx hb hrt (fun t ht hW => ⟨⟨v, R, rfl, hK, by rw [ht]; exact hI.1⟩, hI.2.1.F ht, by rw [ht]; exact hI.2.2.1, by rw [ht]; exact hI.2.2.2⟩) hI.2.1.2.2 d hlocks
theorem r_zret (hc : Cx X own cc nL) (hr : Cr G k (some .boolean) K X) {v : Int32} (d : decode cc pc = .ok (.ireturn, 1)) (hv : v = 0 ∨ v = 1) (hK : K v R) : MR G X nL R pc L [.int v] := by
  obtain ⟨p, l, e, Rm, s, m, args, below, meth, c, Q⟩ := X
  obtain ⟨hx, hb, hml, hown, hts⟩ := hc
  obtain ⟨-, -, hrt, hlocks, rfl, -⟩ := hr
  intro H locs ls hI hl
  exact W.zret (v := v) hx hb hrt (by rcases hv with rfl | rfl <;> rfl) (fun t ht hW => ⟨⟨v, R, rfl, hK, by rw [ht]; exact hI.1⟩, hI.2.1.F ht, by rw [ht]; exact hI.2.2.1, by rw [ht]; exact hI.2.2.2⟩) hI.2.1.2.2 d hlocks
theorem r_vret (hc : Cx X own cc nL) (hr : Cr G k none K X) (d : decode cc pc = .ok (.return_, 1)) (hK : K 0 R) : MR G X nL R pc L [] := by
  obtain ⟨p, l, e, Rm, s, m, args, below, meth, c, Q⟩ := X
  obtain ⟨hx, hb, hml, hown, hts⟩ := hc
  obtain ⟨-, -, hrt, hlocks, rfl, -⟩ := hr
  intro H locs ls hI hl
  exact W.vret hx hb hrt (fun t ht hW => ⟨⟨0, R, rfl, hK, by rw [ht]; exact hI.1⟩, hI.2.1.F ht, by rw [ht]; exact hI.2.2.1, by rw [ht]; exact hI.2.2.2⟩) hI.2.1.2.2 d hlocks
/-- the words of a method, of a call -/
def MtV (y : MethodName) (cc : ByteArray) (nL : Nat) (rt : Option FieldType) (n : Nat) : Prop := Cond.code y cc nL rt ∈ lw_good ∧ Cond.initialized y.cls ∈ lw_good ∧ Cond.instanceMethod y ∈ lw_good ∧ Cond.selects y.cls y y ∈ lw_good ∧ nL ≤ 45 ∧ (y.cls ≠ "java/lang/invoke/MethodHandle" ∧ y.cls ≠ "java/lang/invoke/VarHandle" ∧ (parseMethodDescriptor y.desc).map (fun d => d.parameters.length) = some n)
def MtS (y : MethodName) (cc : ByteArray) (nL : Nat) (rt : Option FieldType) (n : Nat) : Prop := Cond.code y cc nL rt ∈ lw_good ∧ Cond.initialized y.cls ∈ lw_good ∧ Cond.static y ∈ lw_good ∧ nL ≤ 45 ∧ (y.cls ≠ "java/lang/invoke/MethodHandle" ∧ y.cls ≠ "java/lang/invoke/VarHandle" ∧ (parseMethodDescriptor y.desc).map (fun d => d.parameters.length) = some n)
variable {y : MethodName} {cc' : ByteArray} {nL' n k' : Nat} {rt' : Option FieldType} {K' : Int32 → RS → Prop} {As rest : List Value}
theorem r_after {p : Program} {l : Launch} {e : Env} {Rm : Room} {s : State} {m : MethodId} {args : Array Value} {below : List Frame} {meth : Method} {c : Code} {Q : State → Prop} {H : Heap} {locs : List Loc} {ls : Array Slot} {st0 : List Value} {a : Array Value}
    (hr : va_Run p l e Rm s m args below meth c H locs 0 0 0 0 (F0 m pc ls st0) rest (QcR G rt' K' a) (rA G)) (hS : va_S (rA G) s.heap H locs) (hz1 : H.size = s.heap.size) (hz2 : hsum H = hsum s.heap)
    (kk : ∀ (r : Int32) (R' : RS), K' r R' → ∀ (H1 : Heap) (locs1 : List Loc), va_P G.1 cls (wsR G R') H1 → va_S (rA G) s.heap H1 locs1 → H1.size = s.heap.size → hsum H1 = hsum s.heap → W p l e Rm s m args below meth c H1 locs1 0 0 Q (F0 m (pc + 3) ls ((rvR rt' r).toList ++ rest))) : W p l e Rm s m args below meth c H locs 0 0 Q (F0 m pc ls st0) := by
  intro T hT X
  obtain ⟨v, st₀, t, T', L, h0, X', hL, e1, e2, ⟨⟨r, R', hv, hp, hb⟩, ⟨hz, hk⟩, hy1, hy2⟩, st⟩ := hr T hT X
  cases hv
  rw [h0] at hz hk hy1 hy2
  obtain ⟨t2, a1, b1⟩ := kk r R' hp T'.heap (locs ++ L) (by rw [e1]; exact hb)
    ⟨Nat.le_trans hS.1 (by rw [e1]; exact hz), fun q h1 h2 => by rw [e1, hk q (Nat.lt_of_lt_of_le h1 hS.1) h2]; exact hS.2.1 q h1 h2, fun q hq => by
      rcases List.mem_append.mp hq with h | h
      · exact hS.2.2 q h
      · exact hL q h⟩ (by rw [e1, hy1]; exact hz1) (by rw [e1, hy2]; exact hz2) T' rfl X'
  exact ⟨t2, st t2 a1, b1⟩
theorem r_blind {av : List Value} : FrameBlind (va_Pc av (fun U => va_P G.1 cls (wsR G R) U.heap ∧ va_K G.1 cls [(G.2.1, .int)] U)) := fun a U g mk q => ⟨q.1, q.2.1, va_K.moved (u := U) (U := U.calling g mk a) (Vm.Alike.refl U.vm) q.2.2⟩
theorem r_callV (hc : Cx X own cc nL) (hr : Cr G k rt K X) {idx : Nat} (mt : MtV y cc' nL' rt' n) (hy : y.cls = RX12) (lk : Cond.methodLink own idx y ∈ lw_good) (hM : CF k' y cc' nL' rt' (.ref G.2.2.1 :: As) G R K') (hk : k' < k) (d : decode cc pc = .ok (.invokevirtual idx, 3)) (hn : As.length = n) (hst : st = As.reverse ++ .ref G.2.2.1 :: rest) (hw : (rest.map fun v => v.category).sum ≤ 8)
    (kk : ∀ (r : Int32) (R' : RS), K' r R' → MR G X nL R' (pc + 3) L ((rvR rt' r).toList ++ rest)) : MR G X nL R pc L st := by
  obtain ⟨p, l, e, Rm, s, m, args, below, meth, c, Q⟩ := X
  obtain ⟨hx, hb, hml, hown, hts⟩ := hc
  obtain ⟨hK, ⟨N, hN, rfl⟩, -⟩ := hr
  intro H locs ls hI hl
  obtain ⟨N', rfl⟩ : ∃ N', N = N' + 1 := ⟨N - 1, by omega⟩
  obtain ⟨m1, m2, m3, m4, m5, m6⟩ := mt
  have hG : GoodIn lw_good (Cond.code y cc' nL' rt' :: lw_good) := fun w h => (List.mem_cons.mp h).elim (fun e => e ▸ lw_gg _ m1) (lw_gg w)
  have cb : CallB (rmR (N' + 1)) s args own idx y cc' nL' rt' (Cond.code y cc' nL' rt' :: lw_good) (rmR N') 0 0 n := callB_of n hts hG rfl rfl rfl (hts _ m2) (hts _ lk) m6 ⟨Nat.le_refl _, by show 8 + (nL' + 11) + 64 * N' ≤ 64 * (N' + 1); omega⟩
  refine r_after (va_runV (As := As) (rest := rest) ⟨hx, hb, hml, hown, hts⟩ (hM l N' (by omega)) (C := y.cls) ⟨cb, hts _ m3, hts _ m4⟩ ⟨r_blind, ?_, fun U hU hW => ⟨rfl, by rw [hU]; exact hI.1, va_K.moved hW.alike hK⟩⟩ rfl hn hl.1 hst (lv_room hw) d ⟨Nat.zero_le _, Nat.zero_le _⟩) hI.2.1 hI.2.2.1 hI.2.2.2 (fun r R' hk H1 locs1 hP hS y1 y2 => kk r R' hk H1 locs1 ls ⟨hP, hS, y1, y2⟩ hl)
  rw [hy]
  exact va_recv hK hI.1 (ci := 12) (q0 := 0) rfl (wsR_0 G R)
theorem r_callS (hc : Cx X own cc nL) (hr : Cr G k rt K X) {idx : Nat} (mt : MtS y cc' nL' rt' n) (lk : Cond.methodLink own idx y ∈ lw_good) (hM : CF k' y cc' nL' rt' As G R K') (hk : k' < k) (d : decode cc pc = .ok (.invokestatic idx, 3)) (hn : As.length = n) (hst : st = As.reverse ++ rest) (hw : (rest.map fun v => v.category).sum ≤ 8)
    (kk : ∀ (r : Int32) (R' : RS), K' r R' → MR G X nL R' (pc + 3) L ((rvR rt' r).toList ++ rest)) : MR G X nL R pc L st := by
  obtain ⟨p, l, e, Rm, s, m, args, below, meth, c, Q⟩ := X
  obtain ⟨hx, hb, hml, hown, hts⟩ := hc
  obtain ⟨hK, ⟨N, hN, rfl⟩, -⟩ := hr
  intro H locs ls hI hl
  obtain ⟨N', rfl⟩ : ∃ N', N = N' + 1 := ⟨N - 1, by omega⟩
  obtain ⟨m1, m2, m3, m5, m6⟩ := mt
  have hG : GoodIn lw_good (Cond.code y cc' nL' rt' :: lw_good) := fun w h => (List.mem_cons.mp h).elim (fun e => e ▸ lw_gg _ m1) (lw_gg w)
  have cb : CallB (rmR (N' + 1)) s args own idx y cc' nL' rt' (Cond.code y cc' nL' rt' :: lw_good) (rmR N') 0 0 n := callB_of n hts hG rfl rfl rfl (hts _ m2) (hts _ lk) m6 ⟨Nat.le_refl _, by show 8 + (nL' + 11) + 64 * N' ≤ 64 * (N' + 1); omega⟩
  exact r_after (va_runS (As := As) (rest := rest) ⟨hx, hb, hml, hown, hts⟩ (hM l N' (by omega)) ⟨cb, hts _ m3⟩ ⟨r_blind, fun U hU hW => ⟨rfl, by rw [hU]; exact hI.1, va_K.moved hW.alike hK⟩⟩ rfl hn hl.1 hst (lv_room hw) d ⟨Nat.zero_le _, Nat.zero_le _⟩) hI.2.1 hI.2.2.1 hI.2.2.2 (fun r R' hk H1 locs1 hP hS y1 y2 => kk r R' hk H1 locs1 ls ⟨hP, hS, y1, y2⟩ hl)
theorem r_callVi {t : FieldType} (hc : Cx X own cc nL) (hr : Cr G k rt K X) {idx : Nat} (mt : MtV y cc' nL' (some t) n) (hy : y.cls = RX12) (lk : Cond.methodLink own idx y ∈ lw_good) (hM : CF k' y cc' nL' (some t) (.ref G.2.2.1 :: As) G R K') (hk : k' < k) (d : decode cc pc = .ok (.invokevirtual idx, 3)) (hn : As.length = n) (hst : st = As.reverse ++ .ref G.2.2.1 :: rest) (hw : (rest.map fun v => v.category).sum ≤ 8)
    (kk : ∀ (r : Int32) (R' : RS), K' r R' → MR G X nL R' (pc + 3) L (.int r :: rest)) : MR G X nL R pc L st := r_callV hc hr mt hy lk hM hk d hn hst hw kk
theorem r_callVv (hc : Cx X own cc nL) (hr : Cr G k rt K X) {idx : Nat} (mt : MtV y cc' nL' none n) (hy : y.cls = RX12) (lk : Cond.methodLink own idx y ∈ lw_good) (hM : CF k' y cc' nL' none (.ref G.2.2.1 :: As) G R K') (hk : k' < k) (d : decode cc pc = .ok (.invokevirtual idx, 3)) (hn : As.length = n) (hst : st = As.reverse ++ .ref G.2.2.1 :: rest) (hw : (rest.map fun v => v.category).sum ≤ 8)
    (kk : ∀ (r : Int32) (R' : RS), K' r R' → MR G X nL R' (pc + 3) L rest) : MR G X nL R pc L st := r_callV hc hr mt hy lk hM hk d hn hst hw kk
theorem r_callSi {t : FieldType} (hc : Cx X own cc nL) (hr : Cr G k rt K X) {idx : Nat} (mt : MtS y cc' nL' (some t) n) (lk : Cond.methodLink own idx y ∈ lw_good) (hM : CF k' y cc' nL' (some t) As G R K') (hk : k' < k) (d : decode cc pc = .ok (.invokestatic idx, 3)) (hn : As.length = n) (hst : st = As.reverse ++ rest) (hw : (rest.map fun v => v.category).sum ≤ 8)
    (kk : ∀ (r : Int32) (R' : RS), K' r R' → MR G X nL R' (pc + 3) L (.int r :: rest)) : MR G X nL R pc L st := r_callS hc hr mt lk hM hk d hn hst hw kk
def rP (f : Nat) : Prop := ∃ i : Nat, rArr[i]? = some f
theorem r_room (hr : Cr G (k + 1) rt K X) : 1 ≤ (fRoom X).frames ∧ 30 ≤ (fRoom X).locals ∧ 0 ≤ (fRoom X).cells ∧ 0 ≤ (fRoom X).slots := by
  obtain ⟨p, l, e, Rm, s, m, args, below, meth, c, Q⟩ := X
  obtain ⟨-, ⟨N, hN, rfl⟩, -⟩ := hr
  show 1 ≤ N ∧ 30 ≤ 64 * N ∧ 0 ≤ 0 ∧ 0 ≤ 0
  omega
end RR
