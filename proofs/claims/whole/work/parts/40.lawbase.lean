/-! The law's helpers: x.f(..) in a try, its answer kept in out[0], 0, 1 or 2 returned. -/
theorem m_i2l {X : Fx} {own : String} {cc : ByteArray} {nL cells slots pc : Nat} {I : Heap → List Loc → Prop} {L : List (Nat × Value)} {st : List Value} (hc : Cx X own cc nL) {x : Int32} (d : decode cc pc = .ok (.i2l, 1)) (k : MW X nL I cells slots (pc + 1) L (.long x.toInt64 :: st)) : MW X nL I cells slots pc L (.int x :: st) := by
  obtain ⟨p, l, e, R, s, m, args, below, meth, c, Q⟩ := X
  obtain ⟨hx, hb, hml, hown, hts⟩ := hc
  intro H locs ls hI hl
  exact lv_i2l hx hb d rfl (k H locs ls hI hl)
theorem m_lconst {X : Fx} {own : String} {cc : ByteArray} {nL cells slots pc : Nat} {I : Heap → List Loc → Prop} {L : List (Nat × Value)} {st : List Value} (hc : Cx X own cc nL) {n : Fin 2} (v : Int64) (d : decode cc pc = .ok (.lconst n, 1)) (hv : Int64.ofNat (n : Nat) = v) (k : MW X nL I cells slots (pc + 1) L (.long v :: st)) : MW X nL I cells slots pc L st := by
  obtain ⟨p, l, e, R, s, m, args, below, meth, c, Q⟩ := X
  obtain ⟨hx, hb, hml, hown, hts⟩ := hc
  intro H locs ls hI hl
  exact lv_lconst hx hb d hv (k H locs ls hI hl)
/-- the same heap, one cell larger at the most (an exception that nobody holds) -/
def Re (S S' : HS) : Prop := hI S' = hI S ∧ hP S' = hP S ∧ hT S' = hT S ∧ hN S' = hN S ∧ hX S ≤ hX S' ∧ hX S' ≤ hX S + 1 ∧ hS S ≤ hS S' ∧ hS S' ≤ hS S + 6
theorem Rx.re {G : CG} {S : HS} {H : Heap} (h : Rx G S H) : ∃ S' : HS, Re S S' ∧ Rz G S' H := by
  obtain ⟨h1, h2, h3, h4, h5, h6, h7⟩ := h
  refine ⟨(hI S, hP S, hT S, hN S, H.size, hsum H), ⟨rfl, rfl, rfl, rfl, h2, h3, h4, h5⟩, fun a ha => ⟨Nat.lt_of_lt_of_le (h1 a ha).1 h2, ?_⟩, rfl, rfl, Nat.le_trans h3 h6, Nat.le_trans h5 h7⟩
  rw [show cE G (hI S, hP S, hT S, hN S, H.size, hsum H) a = cE G S a from cE_off rfl rfl rfl rfl]
  exact (h1 a ha).2
/-- where a helper may write: the class's cells, the new ones, out -/
def Ao (S0 : HS) (o q : Nat) : Prop := Ad S0 q ∨ q = o
abbrev oCell (cJ : ClassId) (v : Int64) : Cell := vp_cell cJ (1, .inr (.inl (fun _ => v)))
def PcH (G : CG) (cJ : ClassId) (o : Nat) (S : HS) (v : Int64) (av : List Value) : Array Value → State → Prop := va_Pc av (fun U => Rz G S U.heap ∧ va_K (gD G) cls (tysC G ++ [(cJ, .long)]) U ∧ (Sts G (Ao S o) U ∧ Nst U ∧ Xst (Ao S o) U ∧ va_Nc xIAE xNSE U) ∧ U.heap[o]? = some (oCell cJ v) ∧ hT S o = 0 ∧ o < hX S)
def QcH (G : CG) (cJ : ClassId) (o : Nat) (S0 : HS) (K : Int32 → Int64 → HS → Prop) : Array Value → State → Outcome → State → Prop := fun _ st oc t => (∃ (r : Int32) (v : Int64) (S' : HS), oc = .returned (some (.int r)) ∧ K r v S' ∧ Rz G S' t.heap ∧ (∀ a, hT S' a ≠ 0 → Ad S0 a) ∧ hX S0 ≤ hX S' ∧ hS S0 ≤ hS S' ∧ t.heap[o]? = some (oCell cJ v) ∧ hT S' o = 0) ∧ va_F (Ao S0 o) st t
/-- THE CONTRACT of a helper -/
def HL (k : Nat) (y : MethodName) (cc : ByteArray) (nL : Nat) (hh : List (Nat × Nat × Nat × Nat)) (av : List Value) (G : CG) (cJ : ClassId) (o : Nat) (S : HS) (v : Int64) (K : Int32 → Int64 → HS → Prop) : Prop :=
  ∀ (l : Launch), l.stackTraces = false → ∀ (n : Nat), k ≤ n → Met l y (Cond.codeWith y cc nL (some .int) hh :: lw_good) (rmC G n S) (PcH G cJ o S v av) (QcH G cJ o S K) (gC G - hX S) (gS G - hS S) (Ao S o)
def Ch (G : CG) (cJ : ClassId) (o : Nat) (S0 : HS) (k : Nat) (hh : List (Nat × Nat × Nat × Nat)) (K : Int32 → Int64 → HS → Prop) (X : Fx) : Prop := match X with
  | (_, l, _, Rm, s, _, args, below, meth, c, Q) => l.stackTraces = false ∧ va_K (gD G) cls (tysC G ++ [(cJ, .long)]) s ∧ (∃ n, k ≤ n ∧ Rm = rmC G n S0) ∧ meth.sig.returnType = some .int ∧ meth.locks = false ∧ Q = MQ below (QcH G cJ o S0 K) args s (gC G - hX S0) (gS G - hS S0) (Ao S0 o) ∧ s.heap.size = hX S0 ∧ hsum s.heap = hS S0 ∧ (Sts G (Ao S0 o) s ∧ Nst s ∧ Xst (Ao S0 o) s ∧ va_Nc xIAE xNSE s) ∧ c.exceptionTable.toList = tableOf hh ∧ o < hX S0
def InH (G : CG) (cJ : ClassId) (o : Nat) (S0 : HS) (X : Fx) (S : HS) (v : Int64) : Heap → List Loc → Prop := fun H locs => Rz G S H ∧ (∀ a, hT S a ≠ 0 → Ad S0 a) ∧ va_S (Ao S0 o) (fS X).heap H locs ∧ hX S0 ≤ hX S ∧ hS S0 ≤ hS S ∧ H[o]? = some (oCell cJ v) ∧ hT S o = 0
abbrev MH (G : CG) (cJ : ClassId) (o : Nat) (S0 : HS) (X : Fx) (nL : Nat) (S : HS) (v : Int64) (pc : Nat) (L : List (Nat × Value)) (st : List Value) : Prop := MW X nL (InH G cJ o S0 X S v) (hX S - hX S0) (hS S - hS S0) pc L st
theorem tysC_sub {G : CG} {cJ : ClassId} {U : State} (h : va_K (gD G) cls (tysC G ++ [(cJ, .long)]) U) : va_K (gD G) cls (tysC G) U := h.sub [0, 1, 2] rfl
theorem Sts.goA {G : CG} {A B : Nat → Prop} {s U : State} {H : Heap} {locs : List Loc} (h : Sts G A s) (hS : va_S A s.heap H locs) (hsub : ∀ q, B q → A q) (hU : U.heap = H) (hvm : s.vm.Alike U.vm) : Sts G B U := by
  obtain ⟨z1, t1, z2, t2⟩ := h
  have hq : ∀ q : Nat, q < s.heap.size → ¬ A q → U.heap[q]? = s.heap[q]? := fun q h1 h2 => by rw [hU]; exact hS.2.1 q h1 h2
  exact ⟨(((z1.kept hq).narrow hsub).moved hvm), (((t1.kept hq).narrow hsub).moved hvm), (((z2.kept hq).narrow hsub).moved hvm), (((t2.kept hq).narrow hsub).moved hvm)⟩
section HRR
variable {G : CG} {cJ : ClassId} {o : Nat} {S0 S : HS} {v0 : Int64} {X : Fx} {k : Nat} {hh : List (Nat × Nat × Nat × Nat)} {K : Int32 → Int64 → HS → Prop} {cc : ByteArray} {nL pc : Nat} {L : List (Nat × Value)} {st : List Value}
theorem h_iret {own : String} (hc : Cx X own cc nL) (hr : Ch G cJ o S0 k hh K X) {v : Int32} (d : decode cc pc = .ok (.ireturn, 1)) (hK : K v v0 S) : MH G cJ o S0 X nL S v0 pc L [.int v] := by
  obtain ⟨p, l, e, Rm, s, m, args, below, meth, c, Q⟩ := X
  obtain ⟨hx, hb, hml, hown, hts⟩ := hc
  obtain ⟨-, -, -, hrt, hlocks, rfl, -⟩ := hr
  intro H locs ls hI hl
  refine W.widen (k := gC G - hX S0) (n := gS G - hS S0) (Nat.sub_le_sub_right hI.1.2.2.2.1 _) (Nat.sub_le_sub_right hI.1.2.2.2.2 _) ?_
  exact W.iret (v := v) hx hb hrt (fun t ht hW => ⟨⟨v, v0, S, rfl, hK, by rw [ht]; exact hI.1, hI.2.1, hI.2.2.2.1, hI.2.2.2.2.1, by rw [ht]; exact hI.2.2.2.2.2.1, hI.2.2.2.2.2.2⟩, hI.2.2.1.F ht⟩) hI.2.2.1.2.2 d hlocks
/-- out[0] = v -/
theorem h_last {own : String} (hc : Cx X own cc nL) (hr : Ch G cJ o S0 k hh K X) {v : Int64} (d : decode cc pc = .ok (.lastore, 1)) (kk : MH G cJ o S0 X nL S v (pc + 1) L st) : MH G cJ o S0 X nL S v0 pc L (.long v :: .int 0 :: .ref o :: st) := by
  obtain ⟨p, l, e, Rm, s, m, args, below, meth, c, Q⟩ := X
  obtain ⟨hx, hb, hml, hown, hts⟩ := hc
  obtain ⟨-, hK, -⟩ := hr
  intro H locs ls hI hl
  have hcell : H[o]? = some (oCell cJ v0) := hI.2.2.2.2.2.1
  refine W.last hx hb hcell ((hK.2 3 _ rfl).1 1 (fun q => .long v0)) (fun q => by cases q) (by show ¬ ((0 : Int32) < 0 ∨ (arrV _ _ _).slots.size ≤ _); rw [arrV_size]; show ¬ ((0 : Int32) < 0 ∨ 1 ≤ Int32.toNatClampNeg 0); decide) rfl rfl d fun H1 e1 z oq => ?_
  have ho : hT S o = 0 := hI.2.2.2.2.2.2
  have hnew : H1[o]? = some (oCell cJ v) := by
    rw [e1]
    show some ((arrV cJ 1 (fun _ => Value.long v0)).setSlot _ _) = some (arrV cJ 1 (fun _ => Value.long v))
    rw [arrV_store]
    congr 1
  have hR : Rz G S H1 := by
    refine ⟨fun b hb => ⟨(hI.1.1 b hb).1, (hI.1.1 b hb).2.kept (oq b (fun e => hb (by rw [e]; exact ho)))⟩, by rw [z]; exact hI.1.2.1, ?_, hI.1.2.2.2⟩
    rw [hsum_set z oq hcell e1 (by simp [Cell.setSlot])]
    exact hI.1.2.2.1
  exact kk H1 _ ls ⟨hR, hI.2.1, hI.2.2.1.put z oq (Or.inr rfl), hI.2.2.2.1, hI.2.2.2.2.1, hnew, ho⟩ hl
/-- the row of the table that takes E at pc, and where it goes on -/
def Han (X : Fx) (own : String) (hh : List (Nat × Nat × Nat × Nat)) (pc : Nat) (E : String) (hp : Nat) : Prop := match X with
  | (_, _, _, _, s, _, args, _, _, _, _) => ∃ (pre : List ExceptionTableEntry) (x : ExceptionTableEntry) (suf : List ExceptionTableEntry) (name : String), tableOf hh = pre ++ x :: suf ∧ (∀ z ∈ pre, covers z pc = false ∨ (z.catchType ≠ 0 ∧ ∃ nm : String, (Cond.classLink own z.catchType nm).before args s = true ∧ va_Nc E nm s)) ∧ covers x pc = true ∧ x.catchType ≠ 0 ∧ (Cond.classLink own x.catchType name).before args s = true ∧ (Cond.castable E name).before args s = true ∧ x.handlerPc = hp
variable {own : String} {y : MethodName} {cc' : ByteArray} {nL' n k' a idx : Nat} {rt' : Option FieldType} {KX : String → HS → Prop} {K' : Option Value → HS → Prop} {As rest : List Value}
theorem h_call (hc : Cx X own cc nL) (hr : Ch G cJ o S0 k hh K X) (ha : hT S a = 12) (mt : MtV y cc' nL' rt' n) (hy : y.cls = RX11) (lk : Cond.methodLink own idx y ∈ lw_good) (hM : CX k' y cc' nL' rt' (.ref a :: As) G S KX K') (hk : k' < k) (d : decode cc pc = .ok (.invokevirtual idx, 3)) (hn : As.length = n) (hst : st = As.reverse ++ .ref a :: rest) (hw : (rest.map fun v => v.category).sum ≤ 8)
    (kk : ∀ (v : Option Value) (S' : HS), K' v S' → MH G cJ o S0 X nL S' v0 (pc + 3) L (v.toList ++ rest))
    (kx : ∀ (E : String) (S' : HS), KX E S' → ∃ hp, Han X own hh pc E hp ∧ ∀ (S'' : HS) (q : Nat), Re S' S'' → MH G cJ o S0 X nL S'' v0 hp L [.ref q]) : MH G cJ o S0 X nL S v0 pc L st := by
  obtain ⟨p, l, e, Rm, s, m, args, below, meth, c, Q⟩ := X
  obtain ⟨hx, hb, hml, hown, hts⟩ := hc
  obtain ⟨hlt, hK9, ⟨N9, hN9, rfl⟩, -, hlocks, -, h0, h1, ⟨hZ, hNs, hXs, -⟩, htab, hoX⟩ := hr
  have hK := tysC_sub hK9
  intro H locs ls hI hl
  obtain ⟨N', rfl⟩ : ∃ N', N9 = N' + 1 := ⟨N9 - 1, by omega⟩
  obtain ⟨m1, m2, m3, m4, m5, m6⟩ := mt
  have hG : GoodIn lw_good (Cond.code y cc' nL' rt' :: lw_good) := fun w h => (List.mem_cons.mp h).elim (fun e => e ▸ lw_gg _ m1) (lw_gg w)
  have cb : CallB (rmC G (N' + 1) S0) s args own idx y cc' nL' rt' (Cond.code y cc' nL' rt' :: lw_good) (rmC G N' S) (gC G - hX S) (gS G - hS S) n := callB_of n hts hG rfl rfl rfl (hts _ m2) (hts _ lk) m6 ⟨Nat.le_refl _, by show 8 + (nL' + 11) + 64 * N' ≤ 64 * (N' + 1); omega⟩
  have hl1 := hI.2.2.2.1
  have hl2 := hI.2.2.2.2.1
  have hg1 := hI.1.2.2.2.1
  have hg2 := hI.1.2.2.2.2
  have hf : hX S - hX S0 + (gC G - hX S) ≤ (rmC G (N' + 1) S0).cells ∧ hS S - hS S0 + (gS G - hS S) ≤ (rmC G (N' + 1) S0).slots := by
    show _ ≤ gC G - hX S0 ∧ _ ≤ gS G - hS S0
    omega
  have hsub0 : ∀ q, Ad S q → Ad S0 q := fun q hq => hq.elim (hI.2.1 q) (fun h => Or.inr (Nat.le_trans hl1 h))
  have hsub : ∀ q, Ad S q → Ao S0 o q := fun q hq => Or.inl (hsub0 q hq)
  have hSS : va_S (Ao S0 o) s.heap H locs := hI.2.2.1
  have hzH : H.size = hX S := hI.1.2.1
  have hoS : o < H.size := by rw [hzH]; omega
  have hnA : ¬ Ad S o := fun h => h.elim (fun h => h hI.2.2.2.2.2.2) (fun h => by omega)
  have hpre : ∀ U : State, U.heap = H → s.WarmedH U.vm → PcX G S (.ref a :: As) (Value.ref a :: As).toArray U := fun U hU hW => ⟨rfl, ⟨by rw [hU]; exact hI.1, va_K.moved hW.alike hK, hZ.goA hSS hsub hU hW.alike, hNs.go hW⟩, hXs.go hSS hsub hU hW⟩
  have hrecv : ∃ cellB : Cell, H[a]? = some cellB ∧ cellB.vm.isStatics = false ∧ s.vm.findClass y.cls = some cellB.cls := by
    rw [hy]
    exact va_recv hK (hI.1.one (by rw [ha]; decide)) (ci := 11) rfl (q0 := 0) (by rw [cE_o (c := 11) ha (by decide)]; rfl)
  have run := vx_runV (As := As) (rest := rest) (g := F0 m pc ls st) ⟨hx, hb, hml, hown, hts⟩ (hM l hlt N' (by omega)) (C := y.cls) (p := p) (e := e) (below := below) (meth := meth) (locs := locs) ⟨cb, hts _ m3, hts _ m4⟩ ⟨x_blind, hrecv, hpre⟩ rfl hn hl.1 hst (lv_room hw) d hf
  intro T9 hT9 X9
  rcases run T9 hT9 X9 with ⟨v, st₀, t, T', L9, g0, X', hL, e1, e2, ⟨⟨v', S', hv, hp, hR, hdom, hx1, hx2⟩, hz, hk9⟩, stp⟩ | ⟨q, st₀, t, T', L9, E, ce, g0, X', hL, e1, e2, ⟨⟨S', hKX, hR, hdom, hx1, hx2⟩, hz, hk9⟩, hce, hcv, hcl, stp⟩
  · cases hv
    rw [g0] at hz hk9
    have hR' : Rz G S' T'.heap := by rw [e1]; exact hR
    have hTo : hT S' o = 0 := Classical.byContradiction fun h => hnA (hdom o h)
    have hIn : InH G cJ o S0 (p, l, e, rmC G (N' + 1) S0, s, m, args, below, meth, c, Q) S' v0 T'.heap (locs ++ L9) := by
      refine ⟨hR', fun b hb => hsub0 b (hdom b hb), ⟨Nat.le_trans hSS.1 (by rw [e1]; exact hz), fun q q1 q2 => ?_, fun q hq => ?_⟩, Nat.le_trans hl1 hx1, Nat.le_trans hl2 hx2, by rw [e1, hk9 o hoS hnA]; exact hI.2.2.2.2.2.1, hTo⟩
      · show T'.heap[q]? = s.heap[q]?
        rw [e1, hk9 q (Nat.lt_of_lt_of_le q1 hSS.1) (fun z => q2 (hsub q z))]
        exact hSS.2.1 q q1 q2
      · rcases List.mem_append.mp hq with h | h
        · exact hSS.2.2 q h
        · exact hsub _ (hL q h)
    have hw9 := kk v S' hp T'.heap (locs ++ L9) ls hIn hl
    obtain ⟨t2, a1, b1⟩ := W.tight (cells := hX S - hX S0 + (gC G - hX S)) (slots := hS S - hS S0 + (gS G - hS S)) (by rw [hR'.2.1, h0]; omega) (by rw [hR'.2.2.1, h1]; omega) hw9 T' rfl X'
    exact ⟨t2, stp t2 a1, b1⟩
  · rw [g0] at hz hk9
    obtain ⟨hpc, ⟨pre, x, suf, name, hsp, hpass, hcov, hct, hlink, hcast, rfl⟩, hgo⟩ := kx E S' hKX
    obtain ⟨S'', hre, hRz⟩ := hR.re
    have hR' : Rz G S'' T'.heap := by rw [e1]; exact hRz
    obtain ⟨r1, r2, r3, r4, r5, r6, r7, r8⟩ := hre
    have hTo : hT S'' o = 0 := by rw [r3]; exact Classical.byContradiction fun h => hnA (hdom o h)
    have hIn : InH G cJ o S0 (p, l, e, rmC G (N' + 1) S0, s, m, args, below, meth, c, Q) S'' v0 T'.heap (locs ++ L9) := by
      refine ⟨hR', fun b hb => hsub0 b (hdom b (by rw [← r3]; exact hb)), ⟨Nat.le_trans hSS.1 (by rw [e1]; exact hz), fun q q1 q2 => ?_, fun q hq => ?_⟩, by omega, by omega, by rw [e1, hk9 o hoS hnA]; exact hI.2.2.2.2.2.1, hTo⟩
      · show T'.heap[q]? = s.heap[q]?
        rw [e1, hk9 q (Nat.lt_of_lt_of_le q1 hSS.1) (fun z => q2 (hsub q z))]
        exact hSS.2.1 q q1 q2
      · rcases List.mem_append.mp hq with h | h
        · exact hSS.2.2 q h
        · exact hsub _ (hL q h)
    have hw9 := hgo S'' q ⟨r1, r2, r3, r4, r5, r6, r7, r8⟩ T'.heap (locs ++ L9) ls hIn hl
    have hw8 := W.tight (cells := hX S - hX S0 + (gC G - hX S)) (slots := hS S - hS S0 + (gS G - hS S)) (by rw [hR'.2.1, h0]; omega) (by rw [hR'.2.2.1, h1]; omega) hw9
    obtain ⟨t2, a1, b1⟩ := vx_catch (pc := pc) (ls := ls) (rest := rest) (ce := ce) (E := E) hown pre x suf (htab.trans hsp) hpass hcov hct hlink hcast (show T'.heap[q]? = some ce by rw [e1]; exact hce) hcv hcl hw8 T' rfl X'
    exact ⟨t2, stp.trans a1, b1⟩
theorem HL.of {y : MethodName} {av : List Value} (hy : plainName y.cls = true) (hlen : (lg_sl av).length ≤ nL)
    (body : ∀ X : Fx, Cx X y.cls cc nL → Ch G cJ o S k hh K X → MH G cJ o S X nL S v0 0 (lv_args 0 av) []) : HL k y cc nL hh av G cJ o S v0 K := by
  intro l hlt n hn
  refine va_MetW (cc := cc) (maxL := nL) (ret := some .int) (hh := hh) hy rfl ?_
  intro p e s m args below meth c s₁ B hml hv
  obtain ⟨rfl, hP, hK, hF, hout, hTo, hoX⟩ := hv
  have hts := atoms_spec (ws := Cond.codeWith y cc nL (some .int) hh :: lw_good) B.pre
  have hown : s.vm.findClass y.cls = some m.cls := findClass_of_methodNamed B.named
  have hl := lv_entry av (n := nL) hlen
  rw [lg_entry_eq]
  have h0 := body (p, l, e, _, s, m, av.toArray, below, meth, c, _) ⟨B.exec, B.bytes, hml, hown, fun w h => hts w (List.mem_cons_of_mem _ h)⟩ ⟨hlt, hK, ⟨n, hn, rfl⟩, B.returns, B.notSynchronized, rfl, hP.2.1, hP.2.2.1, hF, vx_table (x := y) B (hts _ List.mem_cons_self), hoX⟩ s.heap [] _ ⟨hP, fun a h => Or.inl h, va_S.rf, Nat.le_refl _, Nat.le_refl _, hout, hTo⟩ hl
  rw [Nat.sub_self, Nat.sub_self] at h0
  exact h0
end HRR
