/-! Methods that may throw. -/
theorem hsum_ext {H H' : Heap} (ho : ∀ q : Nat, q < H.size → H'[q]? = H[q]?) (hz : H.size ≤ H'.size) : hsum H' = hsum H + ((H'.toList.drop H.size).map (fun c => c.slots.size)).sum := by
  have h : H'.toList = H.toList ++ H'.toList.drop H.size := by
    apply List.ext_getElem?
    intro q
    by_cases hq : q < H.size
    · rw [List.getElem?_append_left (by simpa using hq), Array.getElem?_toList, Array.getElem?_toList, ho q hq]
    · rw [List.getElem?_append_right (by simpa using Nat.le_of_not_lt hq), List.getElem?_drop, Array.length_toList, show H.size + (q - H.size) = q by omega]
  unfold hsum
  conv => lhs; rw [h]
  rw [List.map_append, List.sum_append]
def yAtoms (own : String) (ic : Nat) (X : String) (ix : Nat) (bx : ByteArray) : List Cond :=
  Bundle.throwableAtoms ++ Bundle.throwableSAtoms ++ (Bundle.passSAtoms X "java/lang/RuntimeException" ix bx ++ Bundle.chainSAtoms "java/lang/RuntimeException" ["java/lang/Exception"]) ++
  [.methodLink own ic (Bundle.initS X), .instantiable X 6, .castable X X, .selects X Bundle.tFill0 Bundle.tFill0, .selects X Bundle.tFill Bundle.tFill,
   .lays X Bundle.tN "cause" "Ljava/lang/Throwable;", .lays X Bundle.tN "stackTrace" Bundle.steD, .lays X Bundle.tN "suppressedExceptions" Bundle.listD, .lays X Bundle.tN "detailMessage" "Ljava/lang/String;",
   .isRef (.static Bundle.tN "UNASSIGNED_STACK" Bundle.steD), .isRef (.static Bundle.tN "SUPPRESSED_SENTINEL" Bundle.listD),
   .fieldLink Bundle.tN 198 Bundle.tN "backtrace" "Ljava/lang/Object;", .lays Bundle.tN Bundle.tN "backtrace" "Ljava/lang/Object;", .lays X Bundle.tN "backtrace" "Ljava/lang/Object;"]
section XCM
variable {p : Program} {l : Launch} {e : Env} {R : Room} {s : State} {m₀ : MethodId} {args : Array Value} {below : List Frame} {meth : Method} {c : Code} {W : State} {locs : List Loc} {cells slots : Nat}
set_option maxHeartbeats 4000000 in
theorem vy_ctorMadeS (X : Stand p l e R s m₀ args below meth c W locs cells slots) (hexec : p.tables.exec = Jvm.exec) (htr : e.platform.stackTraces = false) {own cls : String} {ic ix : Nat} {bx : ByteArray}
    (hown : s.vm.findClass own = some m₀.cls) (hcls : Bundle.fit cls = true) (b0 : decode bx 0 = .ok (.aload_n 0, 1)) (b1 : decode bx 1 = .ok (.aload_n 1, 1)) (b2 : decode bx 2 = .ok (.invokespecial ix, 3)) (b5 : decode bx 5 = .ok (.return_, 1))
    (h : ∀ a ∈ yAtoms own ic cls ix bx, a.before args s = true)
    (hlocs : ∀ x ∈ locs, ∀ cell, s.heap[x.base]? = some cell → cell.vm.isStatics = false)
    {a : Addr} {cX : ClassId} {kX : Class} (hfoundX : s.vm.findClass cls = some cX) (hkX : s.vm.classes[cX]? = some kX) (hcell : W.heap[a]? = some (freshCell cX kX)) (hnew : s.heap.size ≤ a)
    {msg : Value} (hmsg : msg.isRef = true)
    {g : JFrame} (hg : g.method = m₀) (hsize : g.locals.size = c.maxLocals) {rest : List Value} (hstack : g.stack = msg :: .ref a :: .ref a :: rest)
    (hd6 : decode c.code g.pc = .ok (.invokespecial ic, 3))
    (hRframes : 2 + 3 < R.frames) (hRlocals : 2 * g.monitorRoom + ((Value.ref a :: rest).map fun v => v.category).sum + (13 * (2 + 1) + 42) ≤ R.locals) :
    ∃ (V : State) (ce : Cell) (L : List Loc), Stand p l e R s m₀ args below meth c (V.setCell a ce) (locs ++ L) cells slots ∧ (∀ y ∈ L, y.base = a) ∧ a < V.heap.size ∧ ce.cls = cX ∧ ce.vm = .none ∧
      ∀ target, Steps p.tables e below ((V.setCell a ce).setTop { g with stack := .ref a :: rest, pc := g.pc + 3 }) target → Steps p.tables e below (W.setTop g) target := by
  have howns : e.platform.frameOwnsMonitors = true := by rw [X.admits.platform]
  have hfin : e.platform.finalization = false := by rw [X.admits.platform]
  have hpl : e.platform.magicAccessors = ({} : Platform).magicAccessors := by rw [X.admits.platform]
  have a' : ∀ x, x ∈ yAtoms own ic cls ix bx → x.holds args s none s [] = true := fun x hx => h x hx
  obtain ⟨T, Z0, L, -, Y⟩ := ThrowableC.of_atoms (args := args) howns hfin hpl (fun x hx => h x (by simp [yAtoms, hx]))
  obtain ⟨Z, M, LZ, LM, hnZ⟩ := Init0T.ofS_atoms (args := args) hpl L Y (fun x hx => h x (by simp [yAtoms, hx]))
  obtain ⟨P1, L1, hP1m, hs1⟩ := PassC.ofS_atoms (args := args) (s := s) hpl (X := cls) (Y := "java/lang/RuntimeException") (Bundle.fit_spec hcls).1 (by decide) b0 b1 b2 b5 (fun x hx => h x (by simp [yAtoms, hx]))
  obtain ⟨P2, Qs, hlen2, L2, hL2, hm2, hsup2, hpass2⟩ := Bundle.chainS (args := args) hpl hnZ ["java/lang/Exception"] "java/lang/RuntimeException" (by decide +kernel) (by decide +kernel) (fun x hx => h x (by simp [yAtoms, hx]))
  obtain ⟨Ps, hPs⟩ : ∃ Ps, Ps = P2 :: Qs := ⟨_, rfl⟩
  have hlen : Ps.length = 2 := by rw [hPs]; simp [hlen2]
  have hL : ∀ P, P ∈ Ps → P.LinksS e.platform s := by
    intro Q hQ
    rw [hPs] at hQ
    rcases List.mem_cons.mp hQ with rfl | hQ
    · exact L2
    · exact hL2 Q hQ
  have hlink1 : P1.sup = firstOf (Z.m T.toThrowableT) (Ps.map (·.toPassT)) := by rw [hPs]; exact Option.some.inj (hs1.symm.trans hm2)
  have hlink : PassesOn (Z.m T.toThrowableT) (Ps.map (·.toPassT)) := by rw [hPs]; exact ⟨hsup2, hpass2⟩
  have hfound : s.vm.findClass cls = some P1.m.cls := findClass_of_methodNamed hP1m
  cases Option.some.inj (hfoundX.symm.trans hfound)
  obtain ⟨c1, kX', hc1, hk, hord, -, -, hn6⟩ := Cond.instantiable_spec (a' (.instantiable cls 6) (by simp [yAtoms]))
  cases Option.some.inj (hc1.symm.trans hfound)
  cases Option.some.inj (hkX.symm.trans hk)
  have hsel0 : selectMethod e.platform s.vm P1.m.cls T.fill0 = .method T.fill0 := by
    obtain ⟨c2, r2, m2, q1, q2, q3, q4, -⟩ := Cond.selects_spec (a' (.selects cls Bundle.tFill0 Bundle.tFill0) (by simp [yAtoms]))
    cases Option.some.inj (q1.symm.trans hfound)
    cases Option.some.inj (q2.symm.trans (State.methodFound?_of_named Y.fill0 (by decide)))
    cases Option.some.inj (q3.symm.trans Y.fill0)
    rw [Launch.admits_selectMethod X.admits]; exact q4
  have hselF : selectMethod e.platform s.vm P1.m.cls T.fill = .method T.fill := by
    obtain ⟨c2, r2, m2, q1, q2, q3, q4, -⟩ := Cond.selects_spec (a' (.selects cls Bundle.tFill Bundle.tFill) (by simp [yAtoms]))
    cases Option.some.inj (q1.symm.trans hfound)
    cases Option.some.inj (q2.symm.trans (State.methodFound?_of_named Y.fill (by decide)))
    cases Option.some.inj (q3.symm.trans Y.fill)
    rw [Launch.admits_selectMethod X.admits]; exact q4
  obtain ⟨cellS0, hcS0, hiss⟩ := Y.statics
  obtain ⟨u0, hu0⟩ := Cond.staticRefV Y.unassigned L.unassignedStatic L.statics hcS0 hiss (a' (.isRef (.static Bundle.tN "UNASSIGNED_STACK" Bundle.steD)) (by simp [yAtoms]))
  obtain ⟨sen, hsen⟩ := Cond.staticRefV Y.sentinel L.sentinelStatic L.statics hcS0 hiss (a' (.isRef (.static Bundle.tN "SUPPRESSED_SENTINEL" Bundle.listD)) (by simp [yAtoms]))
  obtain ⟨ci198, i198, fB, hk198, hg198, ha198, hsB, -, hnB, htB, hffB⟩ := Cond.ownField (t := .object "java/lang/Object") Y.found L.cls (by decide +kernel) (a' (.fieldLink Bundle.tN 198 Bundle.tN "backtrace" "Ljava/lang/Object;") (by simp [yAtoms])) (a' (.lays Bundle.tN Bundle.tN "backtrace" "Ljava/lang/Object;") (by simp [yAtoms])) e.platform hpl
  obtain ⟨cellS, hcS', heS, -, hkeep⟩ := X.same.2.2.2.2.2 T.aS cellS0 hcS0
  have hcellS : W.heap[T.aS]? = some cellS := hcS'
  have hout' : ∀ i, (⟨T.aS, i⟩ : Loc) ∉ locs := fun i hmem => by
    have := hlocs _ hmem cellS0 hcS0
    rw [hiss] at this; cases this
  have hknownS : cellS.vm ≠ .unknown := by
    rw [heS]; intro hu
    rw [show cellS0.vm = .unknown from hu] at hiss
    cases hiss
  have hneS : T.aS ≠ a := Nat.ne_of_lt (Nat.lt_of_lt_of_le (Array.getElem?_eq_some_iff.mp hcS0).1 hnew)
  obtain ⟨iM, hffM⟩ := Y.msg
  obtain ⟨tyC, dC, hdC, hdnC⟩ := Cond.laysAt hfound hk Y.cause (a' (.lays cls Bundle.tN "cause" "Ljava/lang/Throwable;") (by simp [yAtoms]))
  obtain ⟨tyS, dS, hdS, hdnS⟩ := Cond.laysAt hfound hk Y.stack (a' (.lays cls Bundle.tN "stackTrace" Bundle.steD) (by simp [yAtoms]))
  obtain ⟨tyP, dP, hdP, hdnP⟩ := Cond.laysAt hfound hk Y.supp (a' (.lays cls Bundle.tN "suppressedExceptions" Bundle.listD) (by simp [yAtoms]))
  obtain ⟨tyM, dM, hdM, hdnM⟩ := Cond.laysAt hfound hk hffM (a' (.lays cls Bundle.tN "detailMessage" "Ljava/lang/String;") (by simp [yAtoms]))
  obtain ⟨tyB, dB, hdB, hdnB⟩ := Cond.laysAt hfound hk hffB (a' (.lays cls Bundle.tN "backtrace" "Ljava/lang/Object;") (by simp [yAtoms]))
  have bC := Cond.laysApart hdB hdC hdnB hdnC (by rw [hnB, Y.causeName]; decide)
  have bS := Cond.laysApart hdB hdS hdnB hdnS (by rw [hnB, Y.stackName]; decide)
  have bP := Cond.laysApart hdB hdP hdnB hdnP (by rw [hnB, Y.suppName]; decide)
  have hskip : SkipFacts T e.platform s (fun u => u) u0 ((preparedCellV T.toThrowableT (freshCell P1.m.cls kX) a u0 sen).withEntry W.cur) :=
    ⟨{ ci198 := ci198, i198 := i198, fBack := fB }, ⟨hk198, hg198, ha198, hsB⟩, by
      have := fresh_default (c := P1.m.cls) tyB
      rw [htB] at this
      simpa [preparedCellV, Cell.setSlot, Cell.withEntry, Array.getElem?_setIfInBounds, bC, bS, bP, bC.symm, bS.symm, bP.symm, defaultValue] using this, fun _ _ => rfl⟩
  obtain ⟨tm, methC, cdC, kC, vm₁, hnC, -, -, -, -, -, -, -, hW₁, st1⟩ := Steps.initColdS (tb := p.tables) (e := e) (below := below) (s := s) (U := W) X.here hexec X.warmed hpl hown (t := Bundle.initS cls) rfl rfl (Bundle.fit_spec hcls).2
    (a' (.methodLink own ic (Bundle.initS cls)) (by simp [yAtoms])) (h (.instanceMethod (Bundle.initS cls)) (by simp [yAtoms, Bundle.passSAtoms])) (bytes := bx) (maxL := 2) (h (.code (Bundle.initS cls) bx 2 none) (by simp [yAtoms, Bundle.passSAtoms]))
    (f := g) hg (a := a) (msg := msg) (rest := .ref a :: rest) hstack hd6
  cases Option.some.inj (hnC.symm.trans hP1m)
  have X₁ := X.noted hW₁
  obtain ⟨vm₂, X₂, st2⟩ := X₁.ctorMessageOffV hexec (g := { g with stack := .ref a :: rest }) hg hsize T L Z LZ M LM (P1 :: Ps)
    (fun P hP => by rcases List.mem_cons.mp hP with rfl | hP; exact L1; exact hL P hP) ⟨hlink1, hlink⟩ (u0 := u0) (sen := sen) (self := a) hmsg (cell := freshCell P1.m.cls kX) (cellS := cellS)
    hcell (fun _ => by simp) (by simp) rfl rfl hsel0 hselF hcellS hneS hknownS (by rw [hkeep _ (hout' _)]; exact hu0) (by rw [hkeep _ (hout' _)]; exact hsen)
    (Takes.of_laid hk hord tyC (by rw [Y.causeType]; rfl)) (Takes.of_laid hk hord tyS (by rw [Y.stackType]; exact fits_refV_array _ u0)) (Takes.of_laid hk hord tyP (by rw [Y.suppType]; exact fits_refV_object _ sen))
    (Takes.of_laid hk hord tyM (by rw [Y.msgType]; exact fits_refV_object _ ⟨msg, hmsg⟩)) Y.objLocals hskip htr [] hd6
    (by simp only [List.length_cons, hlen]; omega) (by simp only [List.length_cons, hlen]; exact hRlocals)
  have hlt : a < ((W.setVm vm₁).setVm vm₂).heap.size := (Array.getElem?_eq_some_iff.mp hcell).1
  refine ⟨(W.setVm vm₁).setVm vm₂, _, _, X₂, fun y hy => ?_, hlt, rfl, rfl, fun target hwalk => st1 _ (fun acts => ?_)⟩
  · simp only [List.mem_cons, List.not_mem_nil, or_false] at hy
    rcases hy with rfl | rfl | rfl | rfl | rfl <;> rfl
  · rw [doInvoke_state]
    exact st2 _ hwalk
end XCM
section XTH
variable {p : Program} {l : Launch} {e : Env} {R : Room} {s : State} {m : MethodId} {args : Array Value} {below : List Frame} {meth : Method} {c : Code} {H : Heap} {locs : List Loc} {cells slots : Nat}
variable {free : Addr → Prop} {ls : Array Slot} {rest : List Value} {Qc : Array Value → State → Outcome → State → Prop} {XC : String → State → State → Prop}
set_option maxHeartbeats 4000000 in
theorem vy_throwS {cc : ByteArray} {pc : Nat} (hexec : p.tables.exec = Jvm.exec) (hb : c.code = cc) (hl : l.stackTraces = false) {own cls text : String} {ik is ic ix mc ms sa : Nat} {bx : ByteArray} {A : Nat → Prop}
    (hown : s.vm.findClass own = some m.cls) (hcls : Bundle.fit cls = true) (b0 : decode bx 0 = .ok (.aload_n 0, 1)) (b1 : decode bx 1 = .ok (.aload_n 1, 1)) (b2 : decode bx 2 = .ok (.invokespecial ix, 3)) (b5 : decode bx 5 = .ok (.return_, 1))
    (hk : (Cond.classLink own ik cls).before args s = true) (hini : (Cond.initialized cls).before args s = true) (hstr : vk_R own is text sa s) (hat : ∀ w ∈ (yAtoms own ic cls ix bx).filter vx_no, w.before args s = true)
    (hgood : ∀ w ∈ Cond.classLink own ik cls :: Cond.initialized cls :: (yAtoms own ic cls ix bx).filter vx_no, vx_ot w = true)
    (hU : vx_Zq Bundle.tN "UNASSIGNED_STACK" Bundle.steD A s s.heap) (hN : vx_Zq Bundle.tN "SUPPRESSED_SENTINEL" Bundle.listD A s s.heap) (hS : va_S A s.heap H locs) (hsize : ls.size = c.maxLocals)
    (d0 : decode cc pc = .ok (.new ik, 3)) (d3 : decode cc (pc + 3) = .ok (.dup, 1)) (d4 : decode cc (pc + 4) = .ok (.ldc is, 2)) (d6 : decode cc (pc + 6) = .ok (.invokespecial ic, 3)) (d9 : decode cc (pc + 9) = .ok (.athrow, 1))
    (hout : ∀ x ∈ c.exceptionTable.toList, covers x (pc + 9) = false)
    (hRframes : 2 + 3 < R.frames) (hRlocals : (rest.map fun v => v.category).sum + (13 * (2 + 1) + 43) ≤ R.locals) (hRcells : cells + 1 ≤ R.cells) (hRslots : slots + 6 ≤ R.slots) (hlocks : meth.locks = false)
    (hx : ∀ t : State, s.vm.Alike t.vm → H.size ≤ t.heap.size → t.heap.size ≤ H.size + 1 → hsum H ≤ hsum t.heap → hsum t.heap ≤ hsum H + 6 → (∀ q : Nat, q < H.size → t.heap[q]? = H[q]?) → XC cls s t)
    (hf : ∀ z ∈ locs, free z.base) (hc : cells + 1 ≤ mc) (hs : slots + 6 ≤ ms) :
    W p l e R s m args below meth c H locs cells slots (vx_MQ below Qc XC args s mc ms free) (F0 m pc ls rest) := by
  intro T hT X
  have htr : e.platform.stackTraces = false := (show e.platform.stackTraces = l.stackTraces by rw [X.admits.platform]).trans hl
  have Y := vx_rebase X (R' := { frames := R.frames, locals := R.locals, cells := 1, slots := 6 }) (Nat.le_refl _) (Nat.le_refl _) hRcells hRslots
  obtain ⟨s', hA⟩ : ∃ z, z = (T.setVm s.vm).setFrames (.invoking m args :: below) := ⟨_, rfl⟩
  rw [← hA] at Y
  have hvm : s'.vm = s.vm := by rw [hA]; rfl
  have hhp : s'.heap = H := by rw [hA]; exact hT
  have hW0 : s.WarmedH s'.vm := by rw [hvm]; exact State.WarmedH.refl s
  have hat' : ∀ w ∈ (yAtoms own ic cls ix bx).filter vx_no, w.before args s' = true := fun w hw => vx_ot_at hW0 hvm.symm (hgood w (List.mem_cons_of_mem _ (List.mem_cons_of_mem _ hw))) (hat w hw)
  have hk' : (Cond.classLink own ik cls).before args s' = true := vx_ot_at hW0 hvm.symm (hgood _ List.mem_cons_self) hk
  have hini' : (Cond.initialized cls).before args s' = true := vx_ot_at hW0 hvm.symm (hgood _ (List.mem_cons_of_mem _ List.mem_cons_self)) hini
  have hU' : vx_Zq Bundle.tN "UNASSIGNED_STACK" Bundle.steD A s' s'.heap := by rw [hhp]; exact vx_Zq.moved hW0.alike (hU.kept hS.2.1)
  have hN' : vx_Zq Bundle.tN "SUPPRESSED_SENTINEL" Bundle.listD A s' s'.heap := by rw [hhp]; exact vx_Zq.moved hW0.alike (hN.kept hS.2.1)
  have h : ∀ w ∈ yAtoms own ic cls ix bx, w.before args s' = true := vx_own hat' (vx_isRefq hU'.1) (vx_isRefq hN'.1) hU'.2.word hN'.2.word
  have hown' : s'.vm.findClass own = some m.cls := by rw [hvm]; exact hown
  have hins : (Cond.instantiable cls 6).before args s' = true := h _ (by simp [yAtoms])
  obtain ⟨vm₁, cX, kX, hfX, hkX, -, -, X₁, st1⟩ := Y.newCold hexec (own := own) (C := cls) (index := ik) (n := 6) hown' hk' hins hini'
    (g := F0 m pc ls rest) rfl (by rw [hb]; exact d0) (Nat.le_refl _) (Nat.le_refl _)
  generalize hT1 : (T.setVm vm₁).pushCell { cls := cX, slots := kX.instanceTypes.map defaultValue, vm := .none } = T1 at X₁ st1
  have hcat : (Value.ref T.heap.size).category = 1 := rfl
  have hcellA : T1.heap[T.heap.size]? = some (freshCell cX kX) := by rw [← hT1]; exact State.heap_pushCell_size _ _
  have d3' : decode c.code (pc + 3) = .ok (.dup, 1) := by rw [hb]; exact d3
  have d4' : decode c.code (pc + 4) = .ok (.ldc is, 2) := by rw [hb]; exact d4
  have hstr' : vk_R own is text sa s' := vk_R.warm hW0 hstr
  obtain ⟨V, ce, L8, X8, hL8, hlt8, hcc8, hcv8, st8⟩ := vy_ctorMadeS X₁ hexec htr (own := own) (cls := cls) (ic := ic) (ix := ix) (bx := bx) hown' hcls b0 b1 b2 b5 h (fun x hx => nomatch hx) hfX hkX hcellA (by rw [hhp, hT]; exact Nat.le_refl _) (msg := .ref sa) rfl
    (g := { method := m, pc := pc + 6, locals := ls, stack := .ref sa :: .ref T.heap.size :: .ref T.heap.size :: rest, locked := none }) rfl hsize (rest := rest) rfl
    (by rw [hb]; exact d6) hRframes (by simp only [List.map_cons, List.sum_cons, hcat]; show 2 * 0 + _ + _ ≤ R.locals; omega)
  have X9 := Stand.forget X8 (fun y hy => by rw [hL8 y hy, hhp, hT]; exact Nat.le_refl _)
  obtain ⟨hst9, hrun, hend, hW, hsame⟩ := X9.athrowLeaves hexec (g := { method := m, pc := pc + 9, locals := ls, stack := .ref T.heap.size :: rest, locked := none }) rfl rfl rfl hout (a := T.heap.size) (rest := rest) rfl (by rw [hb]; exact d9) hlocks
  have hsteps := st8 _ hst9
  have hce : ((V.setCell T.heap.size ce).setFrames (.throwing T.heap.size :: below)).heap[T.heap.size]? = some ce := heapAt_setCell_self (s := V) ce hlt8
  generalize (V.setCell T.heap.size ce).setFrames (.throwing T.heap.size :: below) = U at hsteps hrun hend hW hsame hce
  obtain ⟨f1, f2⟩ := vx_frame hsame
  have f3 : U.heap.size ≤ s'.heap.size + 1 := hsame.2.2.1
  have f4 : ((U.heap.toList.drop s'.heap.size).map (fun c => c.slots.size)).sum ≤ 6 := hsame.2.2.2.2.1
  rw [hhp] at f1 f2 f3 f4
  have f5 := hsum_ext (fun q hq => f2 q hq (fun z hz => nomatch hz)) f1
  have hWs : s.WarmedH U.vm := State.WarmedH.trans hW0 hW
  have hcl : s.vm.findClass cls = some ce.cls := by
    rw [hcc8, ← hvm]
    exact hfX
  have hall : s.sameButNew ({ U with vm := s.vm } : State) locs mc ms := by
    subst hA
    obtain ⟨e1, e2⟩ := hsame
    rw [State.setFrames_setFrames] at e1
    have h2 : (T.setVm s.vm).sameButNew ({ U with vm := s.vm } : State) [] (0 + 1) (0 + 6) := ⟨e1, e2⟩
    have h3 := X.same.trans h2
    rw [List.append_nil] at h3
    exact h3.mono hc hs
  refine ⟨U, ?_, .threw T.heap.size, hrun, hend, Or.inr ⟨T.heap.size, rfl, cls, ce, locs, hx U hWs.alike f1 f3 (by omega) (by omega) (fun q hq => f2 q hq (fun z hz => nomatch hz)), hce, hcv8, hcl, hWs, hall, hf⟩⟩
  refine st1 _ ?_
  show Steps p.tables e below (T1.setTop { method := m, pc := pc + 3, locals := ls, stack := .ref T.heap.size :: rest, locked := none }) _
  jvm_step X₁.here [X₁.here.top, hexec, d3', Value.category]
  exact X₁.ldcString hexec (own := own) (text := text) (index := is) (a := sa) hown' hstr'.1 hstr'.2
    (g := { method := m, pc := pc + 4, locals := ls, stack := .ref T.heap.size :: .ref T.heap.size :: rest, locked := none }) rfl d4' _ hsteps
set_option maxHeartbeats 4000000 in
theorem vy_throwSW {cc : ByteArray} {pc : Nat} (hexec : p.tables.exec = Jvm.exec) (hb : c.code = cc) (hl : l.stackTraces = false) {own cls text : String} {ik is ic ix mc ms sa : Nat} {bx : ByteArray} {A : Nat → Prop}
    (hown : s.vm.findClass own = some m.cls) (hcls : Bundle.fit cls = true) (b0 : decode bx 0 = .ok (.aload_n 0, 1)) (b1 : decode bx 1 = .ok (.aload_n 1, 1)) (b2 : decode bx 2 = .ok (.invokespecial ix, 3)) (b5 : decode bx 5 = .ok (.return_, 1))
    (hk : (Cond.classLink own ik cls).before args s = true) (hini : (Cond.initialized cls).before args s = true) (hstr : vk_R own is text sa s) (hat : ∀ w ∈ (yAtoms own ic cls ix bx).filter vx_no, w.before args s = true)
    (hgood : ∀ w ∈ Cond.classLink own ik cls :: Cond.initialized cls :: (yAtoms own ic cls ix bx).filter vx_no, vx_ot w = true)
    (hU : vx_Zq Bundle.tN "UNASSIGNED_STACK" Bundle.steD A s s.heap) (hN : vx_Zq Bundle.tN "SUPPRESSED_SENTINEL" Bundle.listD A s s.heap) (hS : va_S A s.heap H locs) (hsize : ls.size = c.maxLocals)
    (d0 : decode cc pc = .ok (.new ik, 3)) (d3 : decode cc (pc + 3) = .ok (.dup, 1)) (d4 : decode cc (pc + 4) = .ok (.ldc_w is, 3)) (d7 : decode cc (pc + 7) = .ok (.invokespecial ic, 3)) (d10 : decode cc (pc + 10) = .ok (.athrow, 1))
    (hout : ∀ x ∈ c.exceptionTable.toList, covers x (pc + 10) = false)
    (hRframes : 2 + 3 < R.frames) (hRlocals : (rest.map fun v => v.category).sum + (13 * (2 + 1) + 43) ≤ R.locals) (hRcells : cells + 1 ≤ R.cells) (hRslots : slots + 6 ≤ R.slots) (hlocks : meth.locks = false)
    (hx : ∀ t : State, s.vm.Alike t.vm → H.size ≤ t.heap.size → t.heap.size ≤ H.size + 1 → hsum H ≤ hsum t.heap → hsum t.heap ≤ hsum H + 6 → (∀ q : Nat, q < H.size → t.heap[q]? = H[q]?) → XC cls s t)
    (hf : ∀ z ∈ locs, free z.base) (hc : cells + 1 ≤ mc) (hs : slots + 6 ≤ ms) :
    W p l e R s m args below meth c H locs cells slots (vx_MQ below Qc XC args s mc ms free) (F0 m pc ls rest) := by
  intro T hT X
  have htr : e.platform.stackTraces = false := (show e.platform.stackTraces = l.stackTraces by rw [X.admits.platform]).trans hl
  have Y := vx_rebase X (R' := { frames := R.frames, locals := R.locals, cells := 1, slots := 6 }) (Nat.le_refl _) (Nat.le_refl _) hRcells hRslots
  obtain ⟨s', hA⟩ : ∃ z, z = (T.setVm s.vm).setFrames (.invoking m args :: below) := ⟨_, rfl⟩
  rw [← hA] at Y
  have hvm : s'.vm = s.vm := by rw [hA]; rfl
  have hhp : s'.heap = H := by rw [hA]; exact hT
  have hW0 : s.WarmedH s'.vm := by rw [hvm]; exact State.WarmedH.refl s
  have hat' : ∀ w ∈ (yAtoms own ic cls ix bx).filter vx_no, w.before args s' = true := fun w hw => vx_ot_at hW0 hvm.symm (hgood w (List.mem_cons_of_mem _ (List.mem_cons_of_mem _ hw))) (hat w hw)
  have hk' : (Cond.classLink own ik cls).before args s' = true := vx_ot_at hW0 hvm.symm (hgood _ List.mem_cons_self) hk
  have hini' : (Cond.initialized cls).before args s' = true := vx_ot_at hW0 hvm.symm (hgood _ (List.mem_cons_of_mem _ List.mem_cons_self)) hini
  have hU' : vx_Zq Bundle.tN "UNASSIGNED_STACK" Bundle.steD A s' s'.heap := by rw [hhp]; exact vx_Zq.moved hW0.alike (hU.kept hS.2.1)
  have hN' : vx_Zq Bundle.tN "SUPPRESSED_SENTINEL" Bundle.listD A s' s'.heap := by rw [hhp]; exact vx_Zq.moved hW0.alike (hN.kept hS.2.1)
  have h : ∀ w ∈ yAtoms own ic cls ix bx, w.before args s' = true := vx_own hat' (vx_isRefq hU'.1) (vx_isRefq hN'.1) hU'.2.word hN'.2.word
  have hown' : s'.vm.findClass own = some m.cls := by rw [hvm]; exact hown
  have hins : (Cond.instantiable cls 6).before args s' = true := h _ (by simp [yAtoms])
  obtain ⟨vm₁, cX, kX, hfX, hkX, -, -, X₁, st1⟩ := Y.newCold hexec (own := own) (C := cls) (index := ik) (n := 6) hown' hk' hins hini'
    (g := F0 m pc ls rest) rfl (by rw [hb]; exact d0) (Nat.le_refl _) (Nat.le_refl _)
  generalize hT1 : (T.setVm vm₁).pushCell { cls := cX, slots := kX.instanceTypes.map defaultValue, vm := .none } = T1 at X₁ st1
  have hcat : (Value.ref T.heap.size).category = 1 := rfl
  have hcellA : T1.heap[T.heap.size]? = some (freshCell cX kX) := by rw [← hT1]; exact State.heap_pushCell_size _ _
  have d3' : decode c.code (pc + 3) = .ok (.dup, 1) := by rw [hb]; exact d3
  have d4' : decode c.code (pc + 4) = .ok (.ldc_w is, 3) := by rw [hb]; exact d4
  have hstr' : vk_R own is text sa s' := vk_R.warm hW0 hstr
  obtain ⟨V, ce, L8, X8, hL8, hlt8, hcc8, hcv8, st8⟩ := vy_ctorMadeS X₁ hexec htr (own := own) (cls := cls) (ic := ic) (ix := ix) (bx := bx) hown' hcls b0 b1 b2 b5 h (fun x hx => nomatch hx) hfX hkX hcellA (by rw [hhp, hT]; exact Nat.le_refl _) (msg := .ref sa) rfl
    (g := { method := m, pc := pc + 7, locals := ls, stack := .ref sa :: .ref T.heap.size :: .ref T.heap.size :: rest, locked := none }) rfl hsize (rest := rest) rfl
    (by rw [hb]; exact d7) hRframes (by simp only [List.map_cons, List.sum_cons, hcat]; show 2 * 0 + _ + _ ≤ R.locals; omega)
  have X9 := Stand.forget X8 (fun y hy => by rw [hL8 y hy, hhp, hT]; exact Nat.le_refl _)
  obtain ⟨hst9, hrun, hend, hW, hsame⟩ := X9.athrowLeaves hexec (g := { method := m, pc := pc + 10, locals := ls, stack := .ref T.heap.size :: rest, locked := none }) rfl rfl rfl hout (a := T.heap.size) (rest := rest) rfl (by rw [hb]; exact d10) hlocks
  have hsteps := st8 _ hst9
  have hce : ((V.setCell T.heap.size ce).setFrames (.throwing T.heap.size :: below)).heap[T.heap.size]? = some ce := heapAt_setCell_self (s := V) ce hlt8
  generalize (V.setCell T.heap.size ce).setFrames (.throwing T.heap.size :: below) = U at hsteps hrun hend hW hsame hce
  obtain ⟨f1, f2⟩ := vx_frame hsame
  have f3 : U.heap.size ≤ s'.heap.size + 1 := hsame.2.2.1
  have f4 : ((U.heap.toList.drop s'.heap.size).map (fun c => c.slots.size)).sum ≤ 6 := hsame.2.2.2.2.1
  rw [hhp] at f1 f2 f3 f4
  have f5 := hsum_ext (fun q hq => f2 q hq (fun z hz => nomatch hz)) f1
  have hWs : s.WarmedH U.vm := State.WarmedH.trans hW0 hW
  have hcl : s.vm.findClass cls = some ce.cls := by
    rw [hcc8, ← hvm]
    exact hfX
  have hall : s.sameButNew ({ U with vm := s.vm } : State) locs mc ms := by
    subst hA
    obtain ⟨e1, e2⟩ := hsame
    rw [State.setFrames_setFrames] at e1
    have h2 : (T.setVm s.vm).sameButNew ({ U with vm := s.vm } : State) [] (0 + 1) (0 + 6) := ⟨e1, e2⟩
    have h3 := X.same.trans h2
    rw [List.append_nil] at h3
    exact h3.mono hc hs
  refine ⟨U, ?_, .threw T.heap.size, hrun, hend, Or.inr ⟨T.heap.size, rfl, cls, ce, locs, hx U hWs.alike f1 f3 (by omega) (by omega) (fun q hq => f2 q hq (fun z hz => nomatch hz)), hce, hcv8, hcl, hWs, hall, hf⟩⟩
  refine st1 _ ?_
  show Steps p.tables e below (T1.setTop { method := m, pc := pc + 3, locals := ls, stack := .ref T.heap.size :: rest, locked := none }) _
  jvm_step X₁.here [X₁.here.top, hexec, d3', Value.category]
  exact X₁.ldcStringW hexec (own := own) (text := text) (index := is) (a := sa) hown' hstr'.1 hstr'.2
    (g := { method := m, pc := pc + 4, locals := ls, stack := .ref T.heap.size :: .ref T.heap.size :: rest, locked := none }) rfl d4' _ hsteps
end XTH
/-- the heap behind a throw: the state S, and one cell more -/
def Rx (G : CG) (S : HS) (H : Heap) : Prop := (∀ a, hT S a ≠ 0 → a < hX S ∧ va_at (gD G) cls (a, cE G S a) H) ∧ hX S ≤ H.size ∧ H.size ≤ hX S + 1 ∧ hS S ≤ hsum H ∧ hsum H ≤ hS S + 6 ∧ hX S + 1 ≤ gC G ∧ hS S + 6 ≤ gS G
def XcC (G : CG) (S0 : HS) (KX : String → HS → Prop) : String → State → State → Prop := fun E st t => (∃ S' : HS, KX E S' ∧ Rx G S' t.heap ∧ (∀ a, hT S' a ≠ 0 → Ad S0 a) ∧ hX S0 ≤ hX S' ∧ hS S0 ≤ hS S') ∧ va_F (Ad S0) st t
def txtL : List (Nat × String) := [(98, "no such place, or not so many bytes"), (135, "no such count"), (138, "no such step"), (160, "a step has no such number"), (166, "no such point"), (190, "no such place, or too few bytes"), (298, "no such place"), (226, "a polynomial has no such number"), (228, "no such order, term or number of a term"), (245, "an exponent below 0"), (266, "no such factor, or number of one"), (268, "no such factor"), (277, "no line")]
def xNames : List String := ["java/lang/RuntimeException", "java/lang/Exception"]
def xDe : List String := ["java/lang/RuntimeException", "java/lang/Exception", "java/lang/Throwable"]
def xIAE : String := "java/lang/IllegalArgumentException"
def xNSE : String := "java/util/NoSuchElementException"
def xCa : List String := [xIAE, xNSE]
/-- what a throw needs of the machine -/
def Xst (A : Nat → Prop) (U : State) : Prop := vx_Zq Bundle.tN "UNASSIGNED_STACK" Bundle.steD A U U.heap ∧ vx_Zq Bundle.tN "SUPPRESSED_SENTINEL" Bundle.listD A U U.heap ∧ (∀ q ∈ txtL, ∃ sa, vk_R RX11 q.1 q.2 sa U) ∧ (∀ E ∈ xCa, va_Nw (.castable E E) U) ∧ (∀ Y ∈ xDe, va_Nw (.declares (Bundle.initS Y)) U)
theorem Xst.go {s U : State} {H : Heap} {locs : List Loc} {A B : Nat → Prop} (h : Xst A s) (hS : va_S A s.heap H locs) (hsub : ∀ q, B q → A q) (hU : U.heap = H) (hW : s.WarmedH U.vm) : Xst B U := by
  obtain ⟨z1, z2, tx, c1, c2⟩ := h
  have hq : ∀ q : Nat, q < s.heap.size → ¬ A q → U.heap[q]? = s.heap[q]? := fun q h1 h2 => by rw [hU]; exact hS.2.1 q h1 h2
  exact ⟨((z1.kept hq).narrow hsub).moved hW.alike, ((z2.kept hq).narrow hsub).moved hW.alike, fun q hq => by obtain ⟨sa, h⟩ := tx q hq; exact ⟨sa, vk_R.warm hW h⟩, fun E hE => va_Nw.warmC hW (c1 E hE), fun Y hY => va_Nw.warmD hW (c2 Y hY)⟩
abbrev PcX (G : CG) (S : HS) (av : List Value) : Array Value → State → Prop := va_Pc av (fun U => (Rz G S U.heap ∧ va_K (gD G) cls (tysC G) U ∧ Sts G (Ad S) U ∧ Nst U) ∧ Xst (Ad S) U)
/-- THE CONTRACT of a method that may throw -/
def CX (k : Nat) (y : MethodName) (cc : ByteArray) (nL : Nat) (rt : Option FieldType) (av : List Value) (G : CG) (S : HS) (KX : String → HS → Prop) (K : Option Value → HS → Prop) : Prop :=
  ∀ (l : Launch), l.stackTraces = false → ∀ (n : Nat), k ≤ n → vx_Met l y (Cond.code y cc nL rt :: lw_good) (rmC G n S) (PcX G S av) (QcC G S K) (XcC G S KX) (gC G - hX S) (gS G - hS S) (Ad S)
/-- what holds through a walk of it, beside Cc -/
def Cxx (G : CG) (S0 : HS) (KX : String → HS → Prop) (K : Option Value → HS → Prop) (X : Fx) : Prop := match X with
  | (_, l, _, _, s, _, args, below, _, c, Q) => l.stackTraces = false ∧ Xst (Ad S0) s ∧ (∀ x ∈ c.exceptionTable.toList, False) ∧ Q = vx_MQ below (QcC G S0 K) (XcC G S0 KX) args s (gC G - hX S0) (gS G - hS S0) (Ad S0)
theorem CX.of {k : Nat} {y : MethodName} {cc : ByteArray} {nL : Nat} {rt : Option FieldType} {av : List Value} {G : CG} {S : HS} {KX : String → HS → Prop} {K : Option Value → HS → Prop} (hy : plainName y.cls = true) (hlen : (lg_sl av).length ≤ nL)
    (body : ∀ X : Fx, Cx X y.cls cc nL → Cc G S k rt K X → Cxx G S KX K X → MC G S X nL S 0 (lv_args 0 av) []) : CX k y cc nL rt av G S KX K := by
  intro l hlt n hn
  refine vx_ofW (cc := cc) (maxL := nL) (ret := rt) hy rfl ?_
  intro p e s m args below meth c s₁ B hml htab hv
  obtain ⟨rfl, ⟨hP, hK, hZ, hNs⟩, hX⟩ := hv
  have hts := atoms_spec (ws := Cond.code y cc nL rt :: lw_good) B.pre
  have hown : s.vm.findClass y.cls = some m.cls := findClass_of_methodNamed B.named
  have hl := lv_entry av (n := nL) hlen
  rw [lg_entry_eq]
  have h0 := body (p, l, e, _, s, m, av.toArray, below, meth, c, _) ⟨B.exec, B.bytes, hml, hown, fun w h => hts w (List.mem_cons_of_mem _ h)⟩ ⟨hK, ⟨n, hn, rfl⟩, B.returns, B.notSynchronized, fun _ _ _ _ _ w => vx_ret w, hP.2.1, hP.2.2.1, hZ, hNs⟩ ⟨hlt, hX, htab, rfl⟩ s.heap [] _ ⟨hP, fun a h => Or.inl h, va_S.rf, Nat.le_refl _, Nat.le_refl _⟩ hl
  rw [Nat.sub_self, Nat.sub_self] at h0
  exact h0
section XRR
variable {G : CG} {S0 S : HS} {X : Fx} {k : Nat} {rt : Option FieldType} {KX : String → HS → Prop} {K : Option Value → HS → Prop} {cc : ByteArray} {nL pc : Nat} {L : List (Nat × Value)} {st : List Value}
/-- the words of a throw of E in the class's own methods -/
def MtX (E : String) (ik ic ix : Nat) (bx : ByteArray) : Prop := Bundle.fit E = true ∧ Cond.classLink RX11 ik E ∈ lw_good ∧ Cond.initialized E ∈ lw_good ∧ (∀ w ∈ ((yAtoms RX11 ic E ix bx).filter vx_no).filter goodWord, w ∈ lw_good) ∧ (∀ w ∈ ((yAtoms RX11 ic E ix bx).filter vx_no).filter (fun w => !goodWord w), (∃ F ∈ xCa, w = .castable F F) ∨ ∃ Y ∈ xDe, w = .declares (Bundle.initS Y)) ∧ (∀ w ∈ Cond.classLink RX11 ik E :: Cond.initialized E :: (yAtoms RX11 ic E ix bx).filter vx_no, vx_ot w = true) ∧ (decode bx 0 = .ok (.aload_n 0, 1) ∧ decode bx 1 = .ok (.aload_n 1, 1) ∧ decode bx 2 = .ok (.invokespecial ix, 3) ∧ decode bx 5 = .ok (.return_, 1))
theorem x_hx {p : Program} {l : Launch} {e : Env} {Rm : Room} {s : State} {m : MethodId} {args : Array Value} {below : List Frame} {meth : Method} {c : Code} {Q : State → Prop} {H : Heap} {locs : List Loc} {E : String} (hI : InC G S0 (p, l, e, Rm, s, m, args, below, meth, c, Q) S H locs) (hw : KX E S) (hm : hX S + 1 ≤ gC G) (hm2 : hS S + 6 ≤ gS G) :
    ∀ t : State, s.vm.Alike t.vm → H.size ≤ t.heap.size → t.heap.size ≤ H.size + 1 → hsum H ≤ hsum t.heap → hsum t.heap ≤ hsum H + 6 → (∀ q : Nat, q < H.size → t.heap[q]? = H[q]?) → XcC G S0 KX E s t := by
  intro t _ h1 h2 h3 h4 h5
  have hz : H.size = hX S := hI.1.2.1
  have hs9 : hsum H = hS S := hI.1.2.2.1
  have hSS : va_S (Ad S0) s.heap H locs := hI.2.2.1
  refine ⟨⟨S, hw, ⟨fun a ha => ⟨(hI.1.1 a ha).1, (hI.1.1 a ha).2.kept (h5 a (by rw [hz]; exact (hI.1.1 a ha).1))⟩, by omega, by omega, by omega, by omega, hm, hm2⟩, hI.2.1, hI.2.2.2.1, hI.2.2.2.2⟩, Nat.le_trans hSS.1 h1, fun q q1 q2 => ?_⟩
  rw [h5 q (Nat.lt_of_lt_of_le q1 hSS.1)]
  exact hSS.2.1 q q1 q2
theorem x_throw (hc : Cx X RX11 cc nL) (hr : Cc G S0 (k + 6) rt K X) (hxx : Cxx G S0 KX K X) {E text : String} {ik is ic ix : Nat} {bx : ByteArray} (mx : MtX E ik ic ix bx) (ht : (is, text) ∈ txtL) (d0 : decode cc pc = .ok (.new ik, 3)) (d3 : decode cc (pc + 3) = .ok (.dup, 1)) (d4 : decode cc (pc + 4) = .ok (.ldc is, 2)) (d6 : decode cc (pc + 6) = .ok (.invokespecial ic, 3)) (d9 : decode cc (pc + 9) = .ok (.athrow, 1)) (hs : (st.map fun v => v.category).sum ≤ 8) (hw : KX E S) (hm : hX S + 1 ≤ gC G) (hm2 : hS S + 6 ≤ gS G) : MC G S0 X nL S pc L st := by
  obtain ⟨p, l, e, Rm, s, m, args, below, meth, c, Q⟩ := X
  obtain ⟨hx, hb, hml, hown, hts⟩ := hc
  obtain ⟨hK, ⟨N9, hN9, rfl⟩, hrt, hlocks, -⟩ := hr
  obtain ⟨hlt, ⟨z1, z2, tx, c1, c2⟩, htab, rfl⟩ := hxx
  obtain ⟨mx1, mx2, mx3, mx4, mx5, mx6, b0, b1, b2, b5⟩ := mx
  intro H locs ls hI hl
  obtain ⟨sa, hsa⟩ := tx _ ht
  have hl1 := hI.2.2.2.1
  have hl2 := hI.2.2.2.2
  have hat : ∀ w ∈ (yAtoms RX11 ic E ix bx).filter vx_no, w.before args s = true := by
    intro w hw9
    by_cases hg : goodWord w = true
    · exact hts w (mx4 w (List.mem_filter.mpr ⟨hw9, hg⟩))
    · rcases mx5 w (List.mem_filter.mpr ⟨hw9, by simpa using hg⟩) with ⟨F, hF, rfl⟩ | ⟨Y, hY, rfl⟩
      · exact va_Nw.use rfl (c1 F hF)
      · exact va_Nw.use rfl (c2 Y hY)
  exact vy_throwS hx hb hlt hown mx1 b0 b1 b2 b5 (hts _ mx2) (hts _ mx3) hsa hat mx6 z1 z2 hI.2.2.1 (hl.1.trans hml.symm) d0 d3 d4 d6 d9 (fun x hx => (htab x hx).elim) (by show 2 + 3 < N9; omega) (by show _ + (13 * (2 + 1) + 43) ≤ 64 * N9; omega) (by show _ + 1 ≤ gC G - hX S0; omega) (by show _ + 6 ≤ gS G - hS S0; omega) hlocks (x_hx hI hw hm hm2) hI.2.2.1.2.2 (by omega) (by omega)
theorem x_throwW (hc : Cx X RX11 cc nL) (hr : Cc G S0 (k + 6) rt K X) (hxx : Cxx G S0 KX K X) {E text : String} {ik is ic ix : Nat} {bx : ByteArray} (mx : MtX E ik ic ix bx) (ht : (is, text) ∈ txtL) (d0 : decode cc pc = .ok (.new ik, 3)) (d3 : decode cc (pc + 3) = .ok (.dup, 1)) (d4 : decode cc (pc + 4) = .ok (.ldc_w is, 3)) (d6 : decode cc (pc + 7) = .ok (.invokespecial ic, 3)) (d9 : decode cc (pc + 10) = .ok (.athrow, 1)) (hs : (st.map fun v => v.category).sum ≤ 8) (hw : KX E S) (hm : hX S + 1 ≤ gC G) (hm2 : hS S + 6 ≤ gS G) : MC G S0 X nL S pc L st := by
  obtain ⟨p, l, e, Rm, s, m, args, below, meth, c, Q⟩ := X
  obtain ⟨hx, hb, hml, hown, hts⟩ := hc
  obtain ⟨hK, ⟨N9, hN9, rfl⟩, hrt, hlocks, -⟩ := hr
  obtain ⟨hlt, ⟨z1, z2, tx, c1, c2⟩, htab, rfl⟩ := hxx
  obtain ⟨mx1, mx2, mx3, mx4, mx5, mx6, b0, b1, b2, b5⟩ := mx
  intro H locs ls hI hl
  obtain ⟨sa, hsa⟩ := tx _ ht
  have hl1 := hI.2.2.2.1
  have hl2 := hI.2.2.2.2
  have hat : ∀ w ∈ (yAtoms RX11 ic E ix bx).filter vx_no, w.before args s = true := by
    intro w hw9
    by_cases hg : goodWord w = true
    · exact hts w (mx4 w (List.mem_filter.mpr ⟨hw9, hg⟩))
    · rcases mx5 w (List.mem_filter.mpr ⟨hw9, by simpa using hg⟩) with ⟨F, hF, rfl⟩ | ⟨Y, hY, rfl⟩
      · exact va_Nw.use rfl (c1 F hF)
      · exact va_Nw.use rfl (c2 Y hY)
  exact vy_throwSW hx hb hlt hown mx1 b0 b1 b2 b5 (hts _ mx2) (hts _ mx3) hsa hat mx6 z1 z2 hI.2.2.1 (hl.1.trans hml.symm) d0 d3 d4 d6 d9 (fun x hx => (htab x hx).elim) (by show 2 + 3 < N9; omega) (by show _ + (13 * (2 + 1) + 43) ≤ 64 * N9; omega) (by show _ + 1 ≤ gC G - hX S0; omega) (by show _ + 6 ≤ gS G - hS S0; omega) hlocks (x_hx hI hw hm hm2) hI.2.2.1.2.2 (by omega) (by omega)
theorem x_blind {av : List Value} : FrameBlind (PcX G S av) := fun a U g mk q => ⟨q.1, ⟨q.2.1.1, va_K.moved (u := U) (U := U.calling g mk a) (Vm.Alike.refl U.vm) q.2.1.2.1, q.2.1.2.2.1, q.2.1.2.2.2⟩, q.2.2⟩
variable {own C : String} {ci N : Nat} {T : u_T} {ty : Nat → FieldType} {a idx : Nat} {y : MethodName} {cc' : ByteArray} {nL' n k' : Nat} {rt' : Option FieldType} {K' : Option Value → HS → Prop} {As rest : List Value}
theorem x_callV (hc : Cx X own cc nL) (hr : Cc G S0 k rt K X) (hxx : Cxx G S0 KX K X) (hi : cInf ci C T N ty) (hci : ci < 20) (ha : hT S a = ci + 1) (mt : MtV y cc' nL' rt' n) (hy : y.cls = C) (lk : Cond.methodLink own idx y ∈ lw_good) (hM : CX k' y cc' nL' rt' (.ref a :: As) G S KX K') (hk : k' < k) (d : decode cc pc = .ok (.invokevirtual idx, 3)) (hn : As.length = n) (hst : st = As.reverse ++ .ref a :: rest) (hw : (rest.map fun v => v.category).sum ≤ 8)
    (kk : ∀ (v : Option Value) (S' : HS), K' v S' → MC G S0 X nL S' (pc + 3) L (v.toList ++ rest)) : MC G S0 X nL S pc L st := by
  have hr0 := hr
  obtain ⟨p, l, e, Rm, s, m, args, below, meth, c, Q⟩ := X
  obtain ⟨hx, hb, hml, hown, hts⟩ := hc
  obtain ⟨hK, ⟨N9, hN9, rfl⟩, -, hlocks, -, h0, h1, -, hNs⟩ := hr
  obtain ⟨hlt, hXs, htab, rfl⟩ := hxx
  intro H locs ls hI hl
  obtain ⟨N', rfl⟩ : ∃ N', N9 = N' + 1 := ⟨N9 - 1, by omega⟩
  obtain ⟨m1, m2, m3, m4, m5, m6⟩ := mt
  have hG : GoodIn lw_good (Cond.code y cc' nL' rt' :: lw_good) := fun w h => (List.mem_cons.mp h).elim (fun e => e ▸ lw_gg _ m1) (lw_gg w)
  have cb : CallB (rmC G (N' + 1) S0) s args own idx y cc' nL' rt' (Cond.code y cc' nL' rt' :: lw_good) (rmC G N' S) (gC G - hX S) (gS G - hS S) n := callB_of n hts hG rfl rfl rfl (hts _ m2) (hts _ lk) m6 ⟨Nat.le_refl _, by show 8 + (nL' + 11) + 64 * N' ≤ 64 * (N' + 1); omega⟩
  have hl1 := hI.2.2.2.1
  have hl2 := hI.2.2.2.2
  have hg1 := hI.1.2.2.2.1
  have hg2 := hI.1.2.2.2.2
  have hf : hX S - hX S0 + (gC G - hX S) ≤ (rmC G (N' + 1) S0).cells ∧ hS S - hS S0 + (gS G - hS S) ≤ (rmC G (N' + 1) S0).slots := by
    show _ ≤ gC G - hX S0 ∧ _ ≤ gS G - hS S0
    omega
  have hsub : ∀ q, Ad S q → Ad S0 q := fun q hq => hq.elim (hI.2.1 q) (fun h => Or.inr (Nat.le_trans hI.2.2.2.1 h))
  have hSS : va_S (Ad S0) s.heap H locs := hI.2.2.1
  have hpre : ∀ U : State, U.heap = H → s.WarmedH U.vm → PcX G S (.ref a :: As) (Value.ref a :: As).toArray U := fun U hU hW => ⟨rfl, (c_pre hr0 hI (.ref a :: As) U hU hW).2, hXs.go hSS hsub hU hW⟩
  have hrecv : ∃ cellB : Cell, H[a]? = some cellB ∧ cellB.vm.isStatics = false ∧ s.vm.findClass y.cls = some cellB.cls := by
    rw [hy]
    exact va_recv hK (hI.1.one (by rw [ha]; omega)) hi.1 (q0 := 0) (by rw [cE_o ha hci]; rfl)
  have run := vx_runV (As := As) (rest := rest) (g := F0 m pc ls st) ⟨hx, hb, hml, hown, hts⟩ (hM l hlt N' (by omega)) (C := y.cls) (p := p) (e := e) (below := below) (meth := meth) (locs := locs) ⟨cb, hts _ m3, hts _ m4⟩ ⟨x_blind, hrecv, hpre⟩ rfl hn hl.1 hst (lv_room hw) d hf
  intro T9 hT9 X9
  rcases run T9 hT9 X9 with ⟨v, st₀, t, T', L9, g0, X', hL, e1, e2, ⟨⟨v', S', hv, hp, hR, hdom, hx1, hx2⟩, hz, hk9⟩, stp⟩ | ⟨q, st₀, t, T', L9, E, ce, g0, X', hL, e1, e2, ⟨⟨S', hKX, hR, hdom, hx1, hx2⟩, hz, hk9⟩, hce, hcv, hcl, stp⟩
  · cases hv
    rw [g0] at hz hk9
    have hR' : Rz G S' T'.heap := by rw [e1]; exact hR
    have hIn : InC G S0 (p, l, e, rmC G (N' + 1) S0, s, m, args, below, meth, c, vx_MQ below (QcC G S0 K) (XcC G S0 KX) args s (gC G - hX S0) (gS G - hS S0) (Ad S0)) S' T'.heap (locs ++ L9) := by
      refine ⟨hR', fun b hb => hsub b (hdom b hb), ⟨Nat.le_trans hSS.1 (by rw [e1]; exact hz), fun q q1 q2 => ?_, fun q hq => ?_⟩, Nat.le_trans hI.2.2.2.1 hx1, Nat.le_trans hI.2.2.2.2 hx2⟩
      · show T'.heap[q]? = s.heap[q]?
        rw [e1, hk9 q (Nat.lt_of_lt_of_le q1 hSS.1) (fun z => q2 (hsub q z))]
        exact hSS.2.1 q q1 q2
      · rcases List.mem_append.mp hq with h | h
        · exact hSS.2.2 q h
        · exact hsub _ (hL q h)
    have hw9 := kk v S' hp T'.heap (locs ++ L9) ls hIn hl
    obtain ⟨t2, a1, b1⟩ := W.tight (cells := hX S - hX S0 + (gC G - hX S)) (slots := hS S - hS S0 + (gS G - hS S)) (by rw [hR'.2.1, h0]; omega) (by rw [hR'.2.2.1, h1]; omega) hw9 T' rfl X'
    exact ⟨t2, stp t2 a1, b1⟩
  · rw [g0] at hz hk9
    obtain ⟨t2, a1, b1⟩ := vx_out (pc := pc) (ls := ls) (rest := rest) (Qc := QcC G S0 K) (XC := XcC G S0 KX) (mc := gC G - hX S0) (ms := gS G - hS S0) (free := Ad S0) (ce := ce) (E := E) (fun x hx => (htab x hx).elim) hlocks (show T'.heap[q]? = some ce by rw [e1]; exact hce) hcv hcl
      (fun t9 ht9 _ => ⟨⟨S', hKX, by rw [ht9, e1]; exact hR, fun b hb => hsub b (hdom b hb), Nat.le_trans hI.2.2.2.1 hx1, Nat.le_trans hI.2.2.2.2 hx2⟩, by rw [ht9, e1]; exact Nat.le_trans hSS.1 hz, fun q q1 q2 => by
        rw [ht9, e1, hk9 q (Nat.lt_of_lt_of_le q1 hSS.1) (fun z => q2 (hsub q z))]
        exact hSS.2.1 q q1 q2⟩)
      (fun z hz9 => by
        rcases List.mem_append.mp hz9 with h | h
        · exact hSS.2.2 z h
        · exact hsub _ (hL z h)) (by omega) (by omega) T' rfl X'
    exact ⟨t2, stp.trans a1, b1⟩
theorem x_callVq {K1 : Option Nat → HS → Prop} (hc : Cx X own cc nL) (hr : Cc G S0 k rt K X) (hxx : Cxx G S0 KX K X) (hi : cInf ci C T N ty) (hci : ci < 20) (ha : hT S a = ci + 1) (mt : MtV y cc' nL' rt' n) (hy : y.cls = C) (lk : Cond.methodLink own idx y ∈ lw_good) (hM : CX k' y cc' nL' rt' (.ref a :: As) G S KX (kR K1)) (hk : k' < k) (d : decode cc pc = .ok (.invokevirtual idx, 3)) (hn : As.length = n) (hst : st = As.reverse ++ .ref a :: rest) (hw : (rest.map fun v => v.category).sum ≤ 8)
    (kk : ∀ (x : Option Nat) (S' : HS), K1 x S' → MC G S0 X nL S' (pc + 3) L (va_rf x :: rest)) : MC G S0 X nL S pc L st := x_callV hc hr hxx hi hci ha mt hy lk hM hk d hn hst hw (fun v S' h => by obtain ⟨x, rfl, h⟩ := h; exact kk x S' h)
end XRR
