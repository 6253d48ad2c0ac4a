/-! The law's own walk: the class's state S, the reference's R, what out holds, all that lies at or behind the heap's size at the law's entry. -/
def Aw (s : State) (q : Nat) : Prop := s.heap.size ≤ q
def Cw (G : CG) (GR : RG) (cJ : ClassId) (o : Nat) (X : Fx) : Prop := match X with
  | (_, l, _, Rm, s, _, _, _, _, _, _) => l.stackTraces = false ∧ Rm = room_1 ∧ va_K (gD G) cls (tysC G ++ [(cJ, .long)]) s ∧ gC G = s.heap.size + 601024 ∧ gS G = hsum s.heap + 7293034 ∧ (Sts G (Aw s) s ∧ Nst s ∧ Xst (Aw s) s ∧ va_Nc xIAE xNSE s) ∧ okG GR ∧ GR.1 = gD G ∧ GR.2.1 = gI G ∧ (∀ q, rA GR q → s.heap.size ≤ q ∧ q ≠ o) ∧ s.heap.size ≤ o
def InW (G : CG) (GR : RG) (cJ : ClassId) (o : Nat) (X : Fx) (S : HS) (R : RS) (v : Int64) : Heap → List Loc → Prop := fun H locs => Rz G S H ∧ (∀ a, hT S a ≠ 0 → (fS X).heap.size ≤ a) ∧ va_P GR.1 cls (wsR GR R) H ∧ (∀ q, rA GR q → hT S q = 0 ∧ q < hX S) ∧ H[o]? = some (oCell cJ v) ∧ hT S o = 0 ∧ o < hX S ∧ hsum (fS X).heap ≤ hS S ∧ va_S (Aw (fS X)) (fS X).heap H locs
abbrev ML (G : CG) (GR : RG) (cJ : ClassId) (o : Nat) (X : Fx) (nL : Nat) (S : HS) (R : RS) (v : Int64) (pc : Nat) (L : List (Nat × Value)) (st : List Value) : Prop := MW X nL (InW G GR cJ o X S R v) (hX S - (fS X).heap.size) (hS S - hsum (fS X).heap) pc L st
section LRR
variable {G : CG} {GR : RG} {cJ : ClassId} {o : Nat} {S : HS} {R : RS} {v0 : Int64} {X : Fx} {cc : ByteArray} {nL pc : Nat} {L : List (Nat × Value)} {st : List Value}
variable {own : String} {y : MethodName} {cc' : ByteArray} {nL' n k' a idx : Nat} {rt' : Option FieldType} {As rest : List Value}
theorem ra_mem {GR : RG} {R : RS} {k : Nat} {q : Nat × va_E} (h : (wsR GR R)[k]? = some q) : rA GR q.1 := by
  cases k with
  | zero => rw [wsR_0] at h; cases h; exact Or.inl rfl
  | succ k =>
    have h1 : (rArr.map (fun f => (GR.2.2.2 f, (Sum.inl (GR.2.1, rlen f, Sum.inl (R f)) : va_E))))[k]? = some q := h
    rw [List.getElem?_map] at h1
    cases hf : rArr[k]? with
    | none => rw [hf] at h1; cases h1
    | some f =>
      rw [hf] at h1
      cases h1
      exact Or.inr ⟨f, List.mem_of_getElem? hf, rfl⟩
/-- a call of the class's own method -/
theorem w_callC {K' : Option Value → HS → Prop} (hc : Cx X own cc nL) (hr : Cw G GR cJ o X) (ha : hT S a = 12) (mt : MtV y cc' nL' rt' n) (hy : y.cls = RX11) (lk : Cond.methodLink own idx y ∈ lw_good) (hM : CC k' y cc' nL' rt' (.ref a :: As) G S K') (hk : k' ≤ 100) (d : decode cc pc = .ok (.invokevirtual idx, 3)) (hn : As.length = n) (hst : st = As.reverse ++ .ref a :: rest) (hw : (rest.map fun v => v.category).sum ≤ 8)
    (kk : ∀ (v : Option Value) (S' : HS), K' v S' → ML G GR cJ o X nL S' R v0 (pc + 3) L (v.toList ++ rest)) : ML G GR cJ o X nL S R v0 pc L st := by
  obtain ⟨p, l, e, Rm, s, m, args, below, meth, c, Q⟩ := X
  obtain ⟨hx, hb, hml, hown, hts⟩ := hc
  obtain ⟨hlt, rfl, hK9, hgC, hgS, ⟨hZ, hNs, hXs, hNc⟩, hok, hD, hcI, hrA, hos⟩ := hr
  have hK := tysC_sub hK9
  intro H locs ls hI hl
  obtain ⟨hRz, hdm, hP, hrS, hout, hTo, hoX, hsm, hSS⟩ := hI
  have hsm : hsum s.heap ≤ hS S := hsm
  have hSS : va_S (Aw s) s.heap H locs := hSS
  have hdm : ∀ a, hT S a ≠ 0 → s.heap.size ≤ a := hdm
  obtain ⟨m1, m2, m3, m4, m5, m6⟩ := mt
  have hG : GoodIn lw_good (Cond.code y cc' nL' rt' :: lw_good) := fun w h => (List.mem_cons.mp h).elim (fun e => e ▸ lw_gg _ m1) (lw_gg w)
  have cb : CallB room_1 s args own idx y cc' nL' rt' (Cond.code y cc' nL' rt' :: lw_good) (rmC G 100 S) (gC G - hX S) (gS G - hS S) n := callB_of n hts hG rfl rfl rfl (hts _ m2) (hts _ lk) m6 ⟨Nat.le_of_ble_eq_true rfl, by show 8 + (nL' + 11) + 64 * 100 ≤ 84000; omega⟩
  have hz0 : H.size = hX S := hRz.2.1
  have hz1 : s.heap.size ≤ hX S := by rw [← hz0]; exact hSS.1
  have hg1 := hRz.2.2.2.1
  have hg2 := hRz.2.2.2.2
  have hs1 := hRz.2.2.1
  have hf : hX S - s.heap.size + (gC G - hX S) ≤ room_1.cells ∧ hS S - hsum s.heap + (gS G - hS S) ≤ room_1.slots := by
    show _ ≤ 601024 ∧ _ ≤ 7293034
    omega
  have hsub : ∀ q, Ad S q → Aw s q := fun q hq => hq.elim (hdm q) (fun h => Nat.le_trans hz1 h)
  have hpre : ∀ U : State, U.heap = H → s.WarmedH U.vm → PcC G S (.ref a :: As) (Value.ref a :: As).toArray U := fun U hU hW => ⟨rfl, by rw [hU]; exact hRz, va_K.moved hW.alike hK, hZ.goA hSS hsub hU hW.alike, hNs.go hW⟩
  have hrecv : ∃ cellB : Cell, H[a]? = some cellB ∧ cellB.vm.isStatics = false ∧ s.vm.findClass y.cls = some cellB.cls := by
    rw [hy]
    exact va_recv hK (hRz.one (by rw [ha]; decide)) (ci := 11) rfl (q0 := 0) (by rw [cE_o (c := 11) ha (by decide)]; rfl)
  have run := va_runV (As := As) (rest := rest) (g := F0 m pc ls st) ⟨hx, hb, hml, hown, hts⟩ (hM l 100 hk) (C := y.cls) (p := p) (e := e) (below := below) (meth := meth) (locs := locs) ⟨cb, hts _ m3, hts _ m4⟩ ⟨c_blind, hrecv, hpre⟩ rfl hn hl.1 hst (lv_room hw) d hf
  intro T9 hT9 X9
  obtain ⟨v, st₀, t, T', L9, g0, X', hL, e1, e2, ⟨⟨v', S', hv, hp, hR, hdom, hx1, hx2⟩, hz, hk9⟩, stp⟩ := run T9 hT9 X9
  cases hv
  rw [g0] at hz hk9
  have hR' : Rz G S' T'.heap := by rw [e1]; exact hR
  have hkeep : ∀ q : Nat, q < hX S → hT S q = 0 → T'.heap[q]? = H[q]? := fun q q1 q2 => by
    rw [e1]
    exact hk9 q (by rw [hz0]; exact q1) (fun h => h.elim (fun h => h q2) (fun h => by omega))
  have hzero : ∀ q : Nat, q < hX S → hT S q = 0 → hT S' q = 0 := fun q q1 q2 => Classical.byContradiction fun h => (hdom q h).elim (fun h => h q2) (fun h => by omega)
  have hIn : InW G GR cJ o (p, l, e, room_1, s, m, args, below, meth, c, Q) S' R v0 T'.heap (locs ++ L9) := by
    refine ⟨hR', fun b hb => hsub b (hdom b hb), fun k q hq => (hP k q hq).kept ?_, fun q hq => ⟨hzero q (hrS q hq).2 (hrS q hq).1, by have := (hrS q hq).2; omega⟩, by rw [hkeep o hoX hTo]; exact hout, hzero o hoX hTo, by omega, by show hsum s.heap ≤ hS S'; omega, Nat.le_trans hSS.1 (by rw [e1]; exact hz), fun q q1 q2 => ?_, fun q hq => ?_⟩
    · have := hrS q.1 (ra_mem hq)
      exact hkeep q.1 this.2 this.1
    · show T'.heap[q]? = s.heap[q]?
      rw [e1, hk9 q (Nat.lt_of_lt_of_le q1 hSS.1) (fun z => q2 (hsub q z))]
      exact hSS.2.1 q q1 q2
    · rcases List.mem_append.mp hq with h | h
      · exact hSS.2.2 q h
      · exact hsub _ (hL q h)
  have hw9 := kk v S' hp T'.heap (locs ++ L9) ls hIn hl
  obtain ⟨t2, a1, b1⟩ := W.tight (cells := hX S - s.heap.size + (gC G - hX S)) (slots := hS S - hsum s.heap + (gS G - hS S)) (by rw [hR'.2.1]; show _ ≤ s.heap.size + (hX S' - s.heap.size); omega) (by rw [hR'.2.2.1]; show _ ≤ hsum s.heap + (hS S' - hsum s.heap); omega) hw9 T' rfl X'
  exact ⟨t2, stp t2 a1, b1⟩
/-- a call of the reference's method -/
theorem w_callR {K' : Int32 → RS → Prop} (hc : Cx X own cc nL) (hr : Cw G GR cJ o X) (mt : MtV y cc' nL' rt' n) (hy : y.cls = RX12) (lk : Cond.methodLink own idx y ∈ lw_good) (hM : CF k' y cc' nL' rt' (.ref GR.2.2.1 :: As) GR R K') (hk : k' ≤ 100) (d : decode cc pc = .ok (.invokevirtual idx, 3)) (hn : As.length = n) (hst : st = As.reverse ++ .ref GR.2.2.1 :: rest) (hw : (rest.map fun v => v.category).sum ≤ 8)
    (kk : ∀ (r : Int32) (R' : RS), K' r R' → ML G GR cJ o X nL S R' v0 (pc + 3) L ((rvR rt' r).toList ++ rest)) : ML G GR cJ o X nL S R v0 pc L st := by
  obtain ⟨p, l, e, Rm, s, m, args, below, meth, c, Q⟩ := X
  obtain ⟨hx, hb, hml, hown, hts⟩ := hc
  obtain ⟨hlt, rfl, hK9, hgC, hgS, ⟨hZ, hNs, hXs, hNc⟩, hok, hD, hcI, hrA, hos⟩ := hr
  have hKR : va_K GR.1 cls [(GR.2.1, .int)] s := by
    rw [hD, hcI]
    exact hK9.sub [0] rfl
  intro H locs ls hI hl
  obtain ⟨hRz, hdm, hP, hrS, hout, hTo, hoX, hsm, hSS⟩ := hI
  have hsm : hsum s.heap ≤ hS S := hsm
  have hSS : va_S (Aw s) s.heap H locs := hSS
  obtain ⟨m1, m2, m3, m4, m5, m6⟩ := mt
  have hG : GoodIn lw_good (Cond.code y cc' nL' rt' :: lw_good) := fun w h => (List.mem_cons.mp h).elim (fun e => e ▸ lw_gg _ m1) (lw_gg w)
  have cb : CallB room_1 s args own idx y cc' nL' rt' (Cond.code y cc' nL' rt' :: lw_good) (rmR 100) 0 0 n := callB_of n hts hG rfl rfl rfl (hts _ m2) (hts _ lk) m6 ⟨Nat.le_of_ble_eq_true rfl, by show 8 + (nL' + 11) + 64 * 100 ≤ 84000; omega⟩
  have hz0 : H.size = hX S := hRz.2.1
  have hg1 := hRz.2.2.2.1
  have hg2 := hRz.2.2.2.2
  have hf : hX S - s.heap.size + 0 ≤ room_1.cells ∧ hS S - hsum s.heap + 0 ≤ room_1.slots := by
    show _ ≤ 601024 ∧ _ ≤ 7293034
    omega
  have hpre : ∀ U : State, U.heap = H → s.WarmedH U.vm → va_Pc (.ref GR.2.2.1 :: As) (fun U => va_P GR.1 cls (wsR GR R) U.heap ∧ va_K GR.1 cls [(GR.2.1, .int)] U) (Value.ref GR.2.2.1 :: As).toArray U := fun U hU hW => ⟨rfl, by rw [hU]; exact hP, va_K.moved hW.alike hKR⟩
  have hrecv : ∃ cellB : Cell, H[GR.2.2.1]? = some cellB ∧ cellB.vm.isStatics = false ∧ s.vm.findClass y.cls = some cellB.cls := by
    rw [hy]
    exact va_recv hKR hP (ci := 12) (q0 := 0) rfl (wsR_0 GR R)
  have run := va_runV (As := As) (rest := rest) (g := F0 m pc ls st) ⟨hx, hb, hml, hown, hts⟩ (hM l 100 hk) (C := y.cls) (p := p) (e := e) (below := below) (meth := meth) (locs := locs) ⟨cb, hts _ m3, hts _ m4⟩ ⟨r_blind, hrecv, hpre⟩ rfl hn hl.1 hst (lv_room hw) d hf
  intro T9 hT9 X9
  obtain ⟨v, st₀, t, T', L9, g0, X', hL, e1, e2, ⟨⟨r, R', hv, hp, hPR⟩, ⟨hz, hk9⟩, hy1, hy2⟩, stp⟩ := run T9 hT9 X9
  cases hv
  rw [g0] at hz hk9 hy1 hy2
  have hkeep : ∀ q : Nat, q < hX S → ¬ rA GR q → T'.heap[q]? = H[q]? := fun q q1 q2 => by
    rw [e1]
    exact hk9 q (by rw [hz0]; exact q1) q2
  have hIn : InW G GR cJ o (p, l, e, room_1, s, m, args, below, meth, c, Q) S R' v0 T'.heap (locs ++ L9) := by
    refine ⟨⟨fun b hb => ⟨(hRz.1 b hb).1, (hRz.1 b hb).2.kept (hkeep b (hRz.1 b hb).1 (fun h => hb (hrS b h).1))⟩, by rw [e1, hy1]; exact hz0, by rw [e1, hy2]; exact hRz.2.2.1, hRz.2.2.2⟩, hdm, by rw [e1]; exact hPR, hrS, by rw [hkeep o hoX (fun h => (hrA o h).2 rfl)]; exact hout, hTo, hoX, hsm, Nat.le_trans hSS.1 (by rw [e1]; exact hz), fun q q1 q2 => ?_, fun q hq => ?_⟩
    · show T'.heap[q]? = s.heap[q]?
      rw [e1, hk9 q (Nat.lt_of_lt_of_le q1 hSS.1) (fun z => q2 (hrA q z).1)]
      exact hSS.2.1 q q1 q2
    · rcases List.mem_append.mp hq with h | h
      · exact hSS.2.2 q h
      · exact (hrA _ (hL q h)).1
  obtain ⟨t2, a1, b1⟩ := kk r R' hp T'.heap (locs ++ L9) ls hIn hl T' rfl X'
  exact ⟨t2, stp t2 a1, b1⟩
/-- a call of a helper -/
theorem w_callH {hh : List (Nat × Nat × Nat × Nat)} {K' : Int32 → Int64 → HS → Prop} (hc : Cx X own cc nL) (hr : Cw G GR cJ o X) (mt : Cond.codeWith y cc' nL' (some .int) hh ∈ lw_good ∧ Cond.initialized y.cls ∈ lw_good ∧ Cond.static y ∈ lw_good ∧ nL' ≤ 45 ∧ (y.cls ≠ "java/lang/invoke/MethodHandle" ∧ y.cls ≠ "java/lang/invoke/VarHandle" ∧ (parseMethodDescriptor y.desc).map (fun d => d.parameters.length) = some n)) (lk : Cond.methodLink own idx y ∈ lw_good) (hM : HL k' y cc' nL' hh As G cJ o S v0 K') (hk : k' ≤ 100) (d : decode cc pc = .ok (.invokestatic idx, 3)) (hn : As.length = n) (hst : st = As.reverse ++ rest) (hw : (rest.map fun v => v.category).sum ≤ 8)
    (kk : ∀ (r : Int32) (v : Int64) (S' : HS), K' r v S' → ML G GR cJ o X nL S' R v (pc + 3) L (.int r :: rest)) : ML G GR cJ o X nL S R v0 pc L st := by
  obtain ⟨p, l, e, Rm, s, m, args, below, meth, c, Q⟩ := X
  obtain ⟨hx, hb, hml, hown, hts⟩ := hc
  obtain ⟨hlt, rfl, hK9, hgC, hgS, ⟨hZ, hNs, hXs, hNc⟩, hok, hD, hcI, hrA, hos⟩ := hr
  intro H locs ls hI hl
  obtain ⟨hRz, hdm, hP, hrS, hout, hTo, hoX, hsm, hSS⟩ := hI
  have hsm : hsum s.heap ≤ hS S := hsm
  have hSS : va_S (Aw s) s.heap H locs := hSS
  have hdm : ∀ a, hT S a ≠ 0 → s.heap.size ≤ a := hdm
  obtain ⟨m1, m2, m3, m5, m6⟩ := mt
  have hG : GoodIn lw_good (va_wsS own idx y (Cond.codeWith y cc' nL' (some .int) hh :: lw_good)) := by
    intro w h
    unfold va_wsS at h
    rcases List.mem_append.mp h with h | h
    · simp only [List.mem_cons, List.not_mem_nil, or_false] at h
      rcases h with rfl | rfl | rfl
      · exact lw_gg _ lk
      · exact lw_gg _ m3
      · exact lw_gg _ m2
    · rcases List.mem_cons.mp h with rfl | h
      · exact lw_gg _ m1
      · exact lw_gg _ h
  have cb := vx_cwSW (R := room_1) (rm := rmC G 100 S) (mc := gC G - hX S) (ms := gS G - hS S) n hts hG rfl rfl rfl m6 ⟨Nat.le_of_ble_eq_true rfl, by show 8 + (nL' + 11) + 64 * 100 ≤ 84000; omega⟩
  have hz0 : H.size = hX S := hRz.2.1
  have hz1 : s.heap.size ≤ hX S := by rw [← hz0]; exact hSS.1
  have hg1 := hRz.2.2.2.1
  have hg2 := hRz.2.2.2.2
  have hf : hX S - s.heap.size + (gC G - hX S) ≤ room_1.cells ∧ hS S - hsum s.heap + (gS G - hS S) ≤ room_1.slots := by
    show _ ≤ 601024 ∧ _ ≤ 7293034
    omega
  have hsub : ∀ q, Ao S o q → Aw s q := fun q hq => hq.elim (fun h => h.elim (hdm q) (fun h => Nat.le_trans hz1 h)) (fun h => by rw [h]; exact hos)
  have hpre : ∀ U : State, U.heap = H → s.WarmedH U.vm → PcH G cJ o S v0 As As.toArray U := fun U hU hW => ⟨rfl, by rw [hU]; exact hRz, va_K.moved hW.alike hK9, ⟨hZ.goA hSS hsub hU hW.alike, hNs.go hW, hXs.go hSS hsub hU hW, hNc.moved hW.alike⟩, by rw [hU]; exact hout, hTo, hoX⟩
  have hblind : FrameBlind (PcH G cJ o S v0 As) := fun a U g mk q => ⟨q.1, q.2.1, va_K.moved (u := U) (U := U.calling g mk a) (Vm.Alike.refl U.vm) q.2.2.1, q.2.2.2.1, q.2.2.2.2⟩
  have run := vx_runSW (As := As) (rest := rest) (g := F0 m pc ls st) ⟨hx, hb, hml, hown, hts⟩ (hM l hlt 100 hk) (p := p) (e := e) (below := below) (meth := meth) (locs := locs) cb ⟨hblind, hpre⟩ rfl hn hl.1 hst (lv_room hw) d hf
  intro T9 hT9 X9
  obtain ⟨v, st₀, t, T', L9, g0, X', hL, e1, e2, ⟨⟨r, v', S', hv, hp, hR, hdom, hx1, hx2, hout', hTo'⟩, hz, hk9⟩, stp⟩ := run T9 hT9 X9
  cases hv
  rw [g0] at hz hk9
  have hR' : Rz G S' T'.heap := by rw [e1]; exact hR
  have hkeep : ∀ q : Nat, q < hX S → hT S q = 0 → q ≠ o → T'.heap[q]? = H[q]? := fun q q1 q2 q3 => by
    rw [e1]
    exact hk9 q (by rw [hz0]; exact q1) (fun h => h.elim (fun h => h.elim (fun h => h q2) (fun h => by omega)) q3)
  have hzero : ∀ q : Nat, q < hX S → hT S q = 0 → hT S' q = 0 := fun q q1 q2 => Classical.byContradiction fun h => (hdom q h).elim (fun h => h q2) (fun h => by omega)
  have hIn : InW G GR cJ o (p, l, e, room_1, s, m, args, below, meth, c, Q) S' R v' T'.heap (locs ++ L9) := by
    refine ⟨hR', fun b hb => hsub b (Or.inl (hdom b hb)), fun k q hq => (hP k q hq).kept ?_, fun q hq => ⟨hzero q (hrS q hq).2 (hrS q hq).1, by have := (hrS q hq).2; omega⟩, by rw [e1]; exact hout', hTo', by omega, by show hsum s.heap ≤ hS S'; omega, Nat.le_trans hSS.1 (by rw [e1]; exact hz), fun q q1 q2 => ?_, fun q hq => ?_⟩
    · have := hrS q.1 (ra_mem hq)
      exact hkeep q.1 this.2 this.1 (hrA q.1 (ra_mem hq)).2
    · show T'.heap[q]? = s.heap[q]?
      rw [e1, hk9 q (Nat.lt_of_lt_of_le q1 hSS.1) (fun z => q2 (hsub q z))]
      exact hSS.2.1 q q1 q2
    · rcases List.mem_append.mp hq with h | h
      · exact hSS.2.2 q h
      · exact hsub _ (hL q h)
  have hw9 := kk r v' S' hp T'.heap (locs ++ L9) ls hIn hl
  obtain ⟨t2, a1, b1⟩ := W.tight (cells := hX S - s.heap.size + (gC G - hX S)) (slots := hS S - hsum s.heap + (gS G - hS S)) (by rw [hR'.2.1]; show _ ≤ s.heap.size + (hX S' - s.heap.size); omega) (by rw [hR'.2.2.1]; show _ ≤ hsum s.heap + (hS S' - hsum s.heap); omega) hw9 T' rfl X'
  exact ⟨t2, stp t2 a1, b1⟩
end LRR
