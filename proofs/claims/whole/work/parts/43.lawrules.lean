def R_law : String := "StraightPolysLaw"
def lw_P (b : Addr) (xs : List Int32) (args : Array Value) (s : State) : Prop := args = #[.ref b] ∧ s.IntsAt b xs ∧ xs.length ≤ 3072 ∧ (Jvm.Cond.and given_1 narrow_1).before args s = true
def lw_Q (_ : Array Value) (s : State) (o : Outcome) (t : State) : Prop := o = .returned (some (.int 1)) ∧ Framed s o t [] 601024 7293034
def lw_Z (below : List Frame) (a : Array Value) (s : State) : State → Prop := fun t => ∃ o, t.status = .running ∧ Ended t below o ∧ lw_Q a s o t
/-- the law's own end, with 1 on the stack, nothing written that was there before, its room as the claim has it -/
theorem lw_ret {p : Program} {l : Launch} {e : Env} {s : State} {m : MethodId} {below : List Frame} {meth : Method} {c : Code} {b : Nat} (hx : p.tables.exec = Jvm.exec) (hb : c.code = code) (hr : meth.sig.returnType = ret) (hlocks : meth.locks = false) {pc : Nat} {H : Heap} {ls : Array Slot} (hdg : decode code pc = .ok (.ireturn, 1)) : W p l e room_1 s m #[Value.ref b] below meth c H [] 601024 7293034 (lw_Z below #[Value.ref b] s) (F0 m pc ls [.int 1]) := by
  intro T hT X
  obtain ⟨fs, hret, hrun, hended, hW, hframe⟩ := X.leave (v := some (.int 1)) (hlocks := hlocks) (fun h => by rw [hr] at h; cases h)
  have hmeth' : T.vm.method? m = some meth := X.method'
  refine ⟨T.setFrames fs, ?_, .returned (some (.int 1)), hrun, hended, rfl, ⟨_, rfl⟩, hW, hframe⟩
  jvm_step X.here [X.here.top, hx, hb, hdg, hmeth', hr, ret, narrow_b1]
  (try refine ⟨rfl, ?_⟩); (try refine ⟨rfl, ?_⟩)
  first | (intro acts; rw [hret _ acts rfl rfl rfl]) | rw [hret _ _ rfl rfl rfl]
  exact Steps.refl _
/-- what holds at the law's entry: the machine, the code, the tables' words (any of lw_tbl by 'hts w (by decide +kernel)'), the script of L ints xs at the cell b, what the Statement gives of the start (any of its parts by flat_of_before) -/
def lw_At (p : Program) (s : State) (m : MethodId) (meth : Method) (c : Code) (b L : Nat) (xs : Nat → Int32) : Prop :=
  p.tables.exec = Jvm.exec ∧ c.code = code ∧ meth.sig.returnType = ret ∧ c.maxLocals = 7 ∧ s.vm.findClass R_law = some m.cls ∧ (∀ w ∈ lw_tbl, w.before #[Value.ref b] s = true) ∧ va_X b L xs s s.heap ∧ b < s.heap.size ∧ meth.locks = false ∧ (Jvm.Cond.and given_1 narrow_1).before #[Value.ref b] s = true
theorem lg_cmp_self (x : Int64) : lg_cmp x x = 0 := by simp [lg_cmp]
def bz (y : Int32) : Int32 := if y = 0 then 0 else 1
def bl (y : Int32) : Int64 := if y = 0 then 0 else 1
section LR3
variable {X : Fx} {own : String} {cc : ByteArray} {nL cells slots pc : Nat} {I : Heap → List Loc → Prop} {L : List (Nat × Value)} {st : List Value}
theorem m_lcmp (hc : Cx X own cc nL) {x y : Int64} (d : decode cc pc = .ok (.lcmp, 1)) (k : MW X nL I cells slots (pc + 1) L (.int (lg_cmp x y) :: st)) : MW X nL I cells slots pc L (.long y :: .long x :: st) := by
  obtain ⟨p, l, e, R, s, m, args, below, meth, c, Q⟩ := X
  obtain ⟨hx, hb, hml, hown, hts⟩ := hc
  intro H locs ls hI hl
  exact W.lcmp hx hb d (k H locs ls hI hl)
theorem m_bz (hc : Cx X own cc nL) {y : Int32} {o1 o2 : Int} (d1 : decode cc pc = .ok (.ifCond .eq o1, 3)) (h1 : (pc : Int) + o1 = ((pc + 7 : Nat) : Int)) (d2 : decode cc (pc + 3) = .ok (.iconst 1, 1)) (d3 : decode cc (pc + 4) = .ok (.goto o2, 3)) (h2 : ((pc + 4 : Nat) : Int) + o2 = ((pc + 8 : Nat) : Int)) (d4 : decode cc (pc + 7) = .ok (.iconst 0, 1)) (k : MW X nL I cells slots (pc + 8) L (.int (bz y) :: st)) : MW X nL I cells slots pc L (.int y :: st) := by
  refine m_if_eq hc (pc + 7) d1 h1 (fun e => ?_) (fun e => ?_)
  · refine m_iconst hc 0 d4 (by decide) ?_
    rw [show bz y = 0 from if_pos e] at k
    exact k
  · refine m_iconst hc 1 d2 (by decide) ?_
    refine m_goto hc (pc + 8) d3 h2 ?_
    rw [show bz y = 1 from if_neg e] at k
    exact k
theorem m_bl (hc : Cx X own cc nL) {y : Int32} {o1 o2 : Int} (d1 : decode cc pc = .ok (.ifCond .eq o1, 3)) (h1 : (pc : Int) + o1 = ((pc + 7 : Nat) : Int)) (d2 : decode cc (pc + 3) = .ok (.lconst 1, 1)) (d3 : decode cc (pc + 4) = .ok (.goto o2, 3)) (h2 : ((pc + 4 : Nat) : Int) + o2 = ((pc + 8 : Nat) : Int)) (d4 : decode cc (pc + 7) = .ok (.lconst 0, 1)) (k : MW X nL I cells slots (pc + 8) L (.long (bl y) :: st)) : MW X nL I cells slots pc L (.int y :: st) := by
  refine m_if_eq hc (pc + 7) d1 h1 (fun e => ?_) (fun e => ?_)
  · refine m_lconst hc 0 d4 (by decide) ?_
    rw [show bl y = 0 from if_pos e] at k
    exact k
  · refine m_lconst hc 1 d2 (by decide) ?_
    refine m_goto hc (pc + 8) d3 h2 ?_
    rw [show bl y = 1 from if_neg e] at k
    exact k
end LR3
/-- the script, and the law's own end -/
def Sx (X : Fx) (b Ln : Nat) (xs : Nat → Int32) : Prop := match X with
  | (_, _, _, _, s, _, args, below, meth, _, Q) => va_X b Ln xs s s.heap ∧ b < s.heap.size ∧ args = #[.ref b] ∧ Q = lw_Z below #[.ref b] s ∧ meth.sig.returnType = ret ∧ meth.locks = false
def At6 (Ln : Nat) (xs : Nat → Int32) (i y0 y1 y2 y3 y4 y5 : Int32) : Prop := (vp_in i Ln ∧ xs i.toNatClampNeg = y0) ∧ (vp_in (i + 1) Ln ∧ xs (i + 1).toNatClampNeg = y1) ∧ (vp_in (i + 2) Ln ∧ xs (i + 2).toNatClampNeg = y2) ∧ (vp_in (i + 3) Ln ∧ xs (i + 3).toNatClampNeg = y3) ∧ (vp_in (i + 4) Ln ∧ xs (i + 4).toNatClampNeg = y4) ∧ (vp_in (i + 5) Ln ∧ xs (i + 5).toNatClampNeg = y5)
section LR4
variable {G : CG} {GR : RG} {cJ : ClassId} {o : Nat} {S : HS} {R : RS} {v0 : Int64} {X : Fx} {cc : ByteArray} {nL pc : Nat} {L : List (Nat × Value)} {st : List Value}
variable {own : String} {y : MethodName} {cc' : ByteArray} {nL' n k' a idx : Nat} {rt' : Option FieldType} {As rest : List Value} {b Ln : Nat} {xs : Nat → Int32}
theorem w_sld (hc : Cx X own cc nL) (hs : Sx X b Ln xs) {i w : Int32} (hi : vp_in i Ln ∧ xs i.toNatClampNeg = w) (d : decode cc pc = .ok (.iaload, 1)) (kk : ML G GR cJ o X nL S R v0 (pc + 1) L (.int w :: st)) : ML G GR cJ o X nL S R v0 pc L (.int i :: .ref b :: st) := by
  obtain ⟨p, l, e, Rm, s, m, args, below, meth, c, Q⟩ := X
  obtain ⟨hx, hb, hml, hown, hts⟩ := hc
  obtain ⟨hX, hbl, -⟩ := hs
  intro H locs ls hI hl
  have hk := kk H locs ls hI hl
  rw [← hi.2] at hk
  exact va_sld hx hb hX hbl (A := Aw s) (Nat.not_le.mpr hbl) hI.2.2.2.2.2.2.2.2 hi.1 d hk
theorem w_slen (hc : Cx X own cc nL) (hs : Sx X b Ln xs) (d : decode cc pc = .ok (.arraylength, 1)) (kk : ML G GR cJ o X nL S R v0 (pc + 1) L (.int (Int32.ofNat Ln) :: st)) : ML G GR cJ o X nL S R v0 pc L (.ref b :: st) := by
  obtain ⟨p, l, e, Rm, s, m, args, below, meth, c, Q⟩ := X
  obtain ⟨hx, hb, hml, hown, hts⟩ := hc
  obtain ⟨hX, hbl, -⟩ := hs
  intro H locs ls hI hl
  exact va_slen hx hb hX hbl (A := Aw s) (Nat.not_le.mpr hbl) hI.2.2.2.2.2.2.2.2 d (kk H locs ls hI hl)
theorem w_lald (hc : Cx X own cc nL) (hr : Cw G GR cJ o X) (d : decode cc pc = .ok (.laload, 1)) (kk : ML G GR cJ o X nL S R v0 (pc + 1) L (.long v0 :: st)) : ML G GR cJ o X nL S R v0 pc L (.int 0 :: .ref o :: st) := by
  obtain ⟨p, l, e, Rm, s, m, args, below, meth, c, Q⟩ := X
  obtain ⟨hx, hb, hml, hown, hts⟩ := hc
  obtain ⟨-, -, hK, -⟩ := hr
  intro H locs ls hI hl
  have hcell : H[o]? = some (oCell cJ v0) := hI.2.2.2.2.1
  exact W.lald (v := .long v0) hx hb hcell ((hK.2 3 _ rfl).1 1 (fun q => .long v0)) (fun q => by cases q) (by show ¬ ((0 : Int32) < 0 ∨ (arrV _ _ _).slots.size ≤ _); rw [arrV_size]; show ¬ ((0 : Int32) < 0 ∨ 1 ≤ Int32.toNatClampNeg 0); decide) rfl rfl rfl d (kk H locs ls hI hl)
theorem w_callCi {K' : Int32 → HS → Prop} (hc : Cx X own cc nL) (hr : Cw G GR cJ o X) (ha : hT S a = 12) (mt : MtV y cc' nL' rt' n) (hy : y.cls = RX11) (lk : Cond.methodLink own idx y ∈ lw_good) (hM : CC k' y cc' nL' rt' (.ref a :: As) G S (kI K')) (hk : k' ≤ 100) (d : decode cc pc = .ok (.invokevirtual idx, 3)) (hn : As.length = n) (hst : st = As.reverse ++ .ref a :: rest) (hw : (rest.map fun v => v.category).sum ≤ 8)
    (kk : ∀ (r : Int32) (S' : HS), K' r S' → ML G GR cJ o X nL S' R v0 (pc + 3) L (.int r :: rest)) : ML G GR cJ o X nL S R v0 pc L st :=
  w_callC hc hr ha mt hy lk hM hk d hn hst hw (fun v S' h => by obtain ⟨r, rfl, h⟩ := h; exact kk r S' h)
theorem w_callRi {t : FieldType} {K' : Int32 → RS → Prop} (hc : Cx X own cc nL) (hr : Cw G GR cJ o X) (mt : MtV y cc' nL' (some t) n) (hy : y.cls = RX12) (lk : Cond.methodLink own idx y ∈ lw_good) (hM : CF k' y cc' nL' (some t) (.ref GR.2.2.1 :: As) GR R K') (hk : k' ≤ 100) (d : decode cc pc = .ok (.invokevirtual idx, 3)) (hn : As.length = n) (hst : st = As.reverse ++ .ref GR.2.2.1 :: rest) (hw : (rest.map fun v => v.category).sum ≤ 8)
    (kk : ∀ (r : Int32) (R' : RS), K' r R' → ML G GR cJ o X nL S R' v0 (pc + 3) L (.int r :: rest)) : ML G GR cJ o X nL S R v0 pc L st :=
  w_callR hc hr mt hy lk hM hk d hn hst hw kk
/-- the law's end: true -/
theorem w_ret (hc : Cx X RL code 7) (hr : Cw G GR cJ o X) (hs : Sx X b Ln xs) (d : decode code pc = .ok (.ireturn, 1)) : ML G GR cJ o X 7 S R v0 pc L [.int 1] := by
  obtain ⟨p, l, e, Rm, s, m, args, below, meth, c, Q⟩ := X
  obtain ⟨hx, hb, hml, hown, hts⟩ := hc
  obtain ⟨-, -, rfl, rfl, hrt, hlk⟩ := hs
  obtain ⟨-, rfl, -, hgC, hgS, -⟩ := hr
  intro H locs ls hI hl
  have h1 := hI.1.2.2.2.1
  have h2 := hI.1.2.2.2.2
  refine W.widen (k := 601024) (n := 7293034) (by show hX S - s.heap.size ≤ _; omega) (by show hS S - hsum s.heap ≤ _; omega) ?_
  exact va_forget (fun q hq => hI.2.2.2.2.2.2.2.2.2.2 q hq) (lw_ret hx hb hrt hlk d)
end LR4
