/-! The law's start: both objects and the row are made; then the reference's cells are cut off from the class's state. -/
def S00 (s : State) : HS := (fun _ _ => 0, fun _ _ => none, fun _ => 0, fun _ => 0, s.heap.size, hsum s.heap)
def Cs (G : CG) (S0 : HS) (cJ : ClassId) (X : Fx) : Prop := match X with
  | (_, l, _, Rm, s, _, _, _, _, _, _) => l.stackTraces = false ∧ Rm = room_1 ∧ va_K (gD G) cls (tysC G ++ [(cJ, .long)]) s ∧ gC G = s.heap.size + 601024 ∧ gS G = hsum s.heap + 7293034 ∧ (Sts G (Aw s) s ∧ Nst s ∧ Xst (Aw s) s ∧ va_Nc xIAE xNSE s) ∧ S0 = S00 s
def aR (S : HS) (m f : Nat) : Nat := (hP S m f).getD 0
def gR (G : CG) (S : HS) (m : Nat) : RG := (gD G, gI G, m, aR S m)
def rOf (S : HS) (m : Nat) : RS := fun f => if f = 0 then hI S m else hI S (aR S m f)
def spl (S : HS) (m : Nat) : HS := (hI S, hP S, fun q => if q = m ∨ q ∈ rArr.map (aR S m) then 0 else hT S q, hN S, hX S + 1, hS S + 1)
def Spl (S : HS) (m : Nat) : Prop := hT S m = 13 ∧ (∀ f ∈ rArr, hP S m f = some (aR S m f) ∧ hT S (aR S m f) = 21 ∧ hN S (aR S m f) = rlen f) ∧ (rArr.map (aR S m)).Nodup
section LST
variable {G : CG} {S0 S : HS} {cJ : ClassId} {X : Fx} {own : String} {cc : ByteArray} {nL pc : Nat} {L : List (Nat × Value)} {st : List Value} {ci N : Nat} {C : String} {T : u_T} {ty : Nat → FieldType} {a idx : Nat}
variable {y : MethodName} {cc' : ByteArray} {nL' n k' : Nat} {rt' : Option FieldType} {K' : Option Value → HS → Prop} {As rest : List Value}
theorem s_push {n t : Nat} {H : Heap} {locs : List Loc} (hI : InC G S0 X S H locs) (hm : hX S + 1 ≤ gC G) (hm2 : hS S + n ≤ gS G) {c : Cell} (hcs : c.slots.size = n) (hat : va_at (gD G) cls (hX S, cE G (nO S t n) (hX S)) (H.push c)) : InC G S0 X (nO S t n) (H.push c) locs := by
  refine hI.push (n := n) (c := c) (by simp) (fun q hq => by rw [Array.getElem?_push, if_neg (Nat.ne_of_lt hq)]) (by simp) hcs (fun b hb => if_neg hb) rfl rfl (fun b hb => nO_off G S t n hb) hat hm hm2
theorem s_new (hc : Cx X own cc nL) (hr : Cs G S0 cJ X) (hi : cInf ci C T N ty) (hci : ci < 20) (hdf : ∀ j, j < N → defaultValue (ty j) = vp_V (fl ci (fun _ => 0) (fun _ => none)) j) (d : decode cc pc = .ok (.new idx, 3)) (lk : Cond.classLink own idx C ∈ lw_good) (l2 : Cond.instantiable C N ∈ lw_good ∧ Cond.initialized C ∈ lw_good) (hm : hX S + 1 ≤ gC G) (hm2 : hS S + N ≤ gS G)
    (kk : MC G S0 X nL (nO S (ci + 1) N) (pc + 3) L (.ref (hX S) :: st)) : MC G S0 X nL S pc L st := by
  obtain ⟨p, l, e, Rm, s, m, args, below, meth, c, Q⟩ := X
  obtain ⟨hx, hb, hml, hown, hts⟩ := hc
  obtain ⟨-, rfl, hK, hgC, hgS, -, rfl⟩ := hr
  obtain ⟨hcl, hin, hty, hnm, hlen⟩ := hi
  intro H locs ls hI hl
  have hKn := hK.1 ci _ hcl
  have hl1 : s.heap.size ≤ hX S := hI.2.2.2.1
  have hl2 : hsum s.heap ≤ hS S := hI.2.2.2.2
  refine W.newc hx hb hown (hts _ lk) (hts _ l2.1) (hts _ l2.2) rfl d (by show hX S - s.heap.size + 1 ≤ 601024; omega) (by show hS S - hsum s.heap + N ≤ 7293034; omega) fun cC kC h1 h2 h3 h4 => ?_
  obtain ⟨e1, e2⟩ := c_cnt (t := ci + 1) (n := N) hI
  rw [e1, e2, hI.1.2.1]
  have hcc : cC = (gD G).1 ci := Option.some.inj (h1.symm.trans hKn.2.1)
  subst hcc
  refine kk _ _ ls (s_push hI hm hm2 (by simp [h4]) ?_) hl
  rw [cE_o (nO_T S (ci + 1) N) hci, nO_I, nO_P]
  have hcell : (H.push { cls := (gD G).1 ci, slots := kC.instanceTypes.map defaultValue, vm := .none })[hX S]? = some (blank ((gD G).1 ci) kC) := by rw [← hI.1.2.1]; simp [blank]
  exact ⟨_, hcl, (u_born ty hts hin hKn h2 hcell hty).to hdf⟩
theorem s_callI {K1 : Int32 → HS → Prop} (hc : Cx X own cc nL) (hr : Cs G S0 cJ X) (mt : MtI y cc' nL' n) (lk : Cond.methodLink own idx y ∈ lw_good) (hM : CC k' y cc' nL' none (.ref a :: As) G S (kV K1)) (hk : k' ≤ 100) (d : decode cc pc = .ok (.invokespecial idx, 3)) (hn : As.length = n) (hst : st = As.reverse ++ .ref a :: rest) (hw : (rest.map fun v => v.category).sum ≤ 8)
    (kk : ∀ (S' : HS), K1 0 S' → MC G S0 X nL S' (pc + 3) L rest) : MC G S0 X nL S pc L st := by
  obtain ⟨p, l, e, Rm, s, m, args, below, meth, c, Q⟩ := X
  obtain ⟨hx, hb, hml, hown, hts⟩ := hc
  obtain ⟨-, rfl, hK9, hgC, hgS, ⟨hZ, hNs, -, -⟩, rfl⟩ := hr
  have hK := tysC_sub hK9
  intro H locs ls hI hl
  obtain ⟨m1, m2, m3, m4, m5, m6⟩ := mt
  have hG : GoodIn lw_good (Cond.code y cc' nL' none :: lw_good) := fun w h => (List.mem_cons.mp h).elim (fun e => e ▸ lw_gg _ m1) (lw_gg w)
  have cb : CallB room_1 s args own idx y cc' nL' none (Cond.code y cc' nL' none :: lw_good) (rmC G 100 S) (gC G - hX S) (gS G - hS S) n := callB_of n hts hG rfl rfl rfl (hts _ m2) (hts _ lk) m6 ⟨Nat.le_of_ble_eq_true rfl, by show 8 + (nL' + 11) + 64 * 100 ≤ 84000; omega⟩
  have hl1 : s.heap.size ≤ hX S := hI.2.2.2.1
  have hl2 : hsum s.heap ≤ hS S := hI.2.2.2.2
  have hg1 := hI.1.2.2.2.1
  have hg2 := hI.1.2.2.2.2
  have hf : hX S - hX (S00 s) + (gC G - hX S) ≤ room_1.cells ∧ hS S - hS (S00 s) + (gS G - hS S) ≤ room_1.slots := by
    show hX S - s.heap.size + _ ≤ 601024 ∧ hS S - hsum s.heap + _ ≤ 7293034
    omega
  have hA : ∀ q, Ad (S00 s) q → Aw s q := fun q hq => hq.elim (fun h => absurd rfl h) (fun h => h)
  have hsub : ∀ q, Ad S q → Aw s q := fun q hq => hA q (hq.elim (hI.2.1 q) (fun h => Or.inr (Nat.le_trans hI.2.2.2.1 h)))
  have hSS : va_S (Aw s) s.heap H locs := ⟨hI.2.2.1.1, fun q q1 q2 => hI.2.2.1.2.1 q q1 (fun z => q2 (hA q z)), fun q hq => hA _ (hI.2.2.1.2.2 q hq)⟩
  have hpre : ∀ U : State, U.heap = H → s.WarmedH U.vm → PcC G S (.ref a :: As) (Value.ref a :: As).toArray U := fun U hU hW => ⟨rfl, by rw [hU]; exact hI.1, va_K.moved hW.alike hK, hZ.goA hSS hsub hU hW.alike, hNs.go hW⟩
  exact c_after (S := S) rfl rfl (va_runI (As := As) (rest := rest) ⟨hx, hb, hml, hown, hts⟩ (hM l 100 hk) ⟨cb, m4, hts _ m3⟩ ⟨c_blind, hpre⟩ rfl hn hl.1 hst (lv_room hw) d hf) hI (fun v S' hv H1 locs1 hI1 => by obtain ⟨rfl, hv⟩ := hv; exact kk S' hv H1 locs1 ls hI1 hl)
theorem rfs_fl {S : HS} {m : Nat} (h : ∀ f ∈ rArr, hP S m f = some (aR S m f)) : fl 12 (hI S m) (hP S m) = rfs (aR S m) (rOf S m) := by
  apply List.ext_getElem?
  intro f
  by_cases hf : f < 52
  · rw [rfs_at hf, fl_at (show f < (kd 12).length from hf)]
    have hd : ∀ f, f < 52 → ((kd 12)[f]? = some true ↔ rArr.contains f = true) := by decide +kernel
    by_cases hq : rArr.contains f = true
    · rw [if_pos ((hd f hf).mpr hq), if_pos hq, h f (List.contains_iff_mem.mp hq)]
      rfl
    · rw [if_neg (fun z => hq ((hd f hf).mp z)), if_neg hq]
      rfl
  · rw [List.getElem?_eq_none (by rw [fl_len]; exact Nat.not_lt.mp hf), List.getElem?_eq_none (by rw [rfs_len]; omega)]
theorem spl_ok (h : Spl S a) : okG (gR G S a) := by
  intro R
  obtain ⟨h1, h2, h3⟩ := h
  have hne : ∀ f ∈ rArr, ¬ a = aR S a f := fun f hf e => by
    have := (h2 f hf).2.1
    rw [← e, h1] at this
    exact absurd this (by decide)
  refine ⟨fun i j p q hi hj e => ?_, fun k q hq => ra_mem hq⟩
  have get : ∀ (i : Nat) (p : Nat × va_E), (wsR (gR G S a) R)[i + 1]? = some p → ∃ f, rArr[i]? = some f ∧ p.1 = aR S a f := by
    intro i p hp
    have h9 : (rArr.map (fun f => (aR S a f, (Sum.inl (gI G, rlen f, Sum.inl (R f)) : va_E))))[i]? = some p := hp
    rw [List.getElem?_map] at h9
    cases hf : rArr[i]? with
    | none => rw [hf] at h9; cases h9
    | some f => rw [hf] at h9; cases h9; exact ⟨f, rfl, rfl⟩
  cases i with
  | zero =>
    cases j with
    | zero => rfl
    | succ j =>
      rw [wsR_0] at hi
      cases hi
      obtain ⟨f, hf, e2⟩ := get j q hj
      exact absurd (e.trans e2) (hne f (List.mem_of_getElem? hf))
  | succ i =>
    cases j with
    | zero =>
      rw [wsR_0] at hj
      cases hj
      obtain ⟨f, hf, e2⟩ := get i p hi
      exact absurd (e.symm.trans e2) (hne f (List.mem_of_getElem? hf))
    | succ j =>
      obtain ⟨f, hf, e1⟩ := get i p hi
      obtain ⟨g, hg, e2⟩ := get j q hj
      have e3 : (rArr.map (aR S a))[i]? = (rArr.map (aR S a))[j]? := by
        rw [List.getElem?_map, List.getElem?_map, hf, hg]
        show some _ = some _
        rw [← e1, ← e2, e]
      have hi2 : i < (rArr.map (aR S a)).length := by
        rw [List.length_map]
        exact (List.getElem?_eq_some_iff.mp hf).1
      rw [(List.getElem?_inj hi2 h3).mp e3]
/-- out is made -/
theorem s_out (hc : Cx X own cc nL) (hr : Cs G S0 cJ X) (hsp : Spl S a) (d : decode cc pc = .ok (.newarray .long, 2)) (l2 : Cond.arrayClass .long ∈ lw_good) (hm : hX S + 1 ≤ gC G) (hm2 : hS S + 1 ≤ gS G)
    (kk : Cw G (gR G S a) cJ (hX S) X → ML G (gR G S a) cJ (hX S) X nL (spl S a) (rOf S a) 0 (pc + 2) L (.ref (hX S) :: st)) : MC G S0 X nL S pc L (.int 1 :: st) := by
  obtain ⟨p, l, e, Rm, s, m, args, below, meth, c, Q⟩ := X
  obtain ⟨hx, hb, hml, hown, hts⟩ := hc
  obtain ⟨hlt, rfl, hK, hgC, hgS, hfix, rfl⟩ := hr
  intro H locs ls hIc hl
  have hl1 : s.heap.size ≤ hX S := hIc.2.2.2.1
  have hl2 : hsum s.heap ≤ hS S := hIc.2.2.2.2
  obtain ⟨h1, h2, h3⟩ := id hsp
  have hA : ∀ q, Ad (S00 s) q → Aw s q := fun q hq => hq.elim (fun h => absurd rfl h) (fun h => h)
  have hlo : ∀ q, hT S q ≠ 0 → s.heap.size ≤ q := fun q hq => hA q (hIc.2.1 q hq)
  have hup : ∀ q, hT S q ≠ 0 → q < hX S := fun q hq => (hIc.1.1 q hq).1
  have hrA : ∀ q, rA (gR G S a) q → hT S q ≠ 0 := by
    intro q hq
    rcases hq with e9 | ⟨f, hf, e9⟩
    · rw [e9]
      show hT S a ≠ 0
      rw [h1]; decide
    · rw [e9]
      show hT S (aR S a f) ≠ 0
      rw [(h2 f hf).2.1]; decide
  have hCw : Cw G (gR G S a) cJ (hX S) (p, l, e, room_1, s, m, args, below, meth, c, Q) := ⟨hlt, rfl, hK, hgC, hgS, hfix, spl_ok hsp, rfl, rfl, fun q hq => ⟨hlo q (hrA q hq), Nat.ne_of_lt (hup q (hrA q hq))⟩, hl1⟩
  refine W.newa (atype := .long) hx hb (hts _ l2) rfl d rfl (by decide) (by decide +kernel) (by show hX S - s.heap.size + 1 ≤ 601024; omega) (by show hS S - hsum s.heap + 1 ≤ 7293034; omega) fun cA kA comp q1 q2 q3 => ?_
  have hcc : cA = cJ := Option.some.inj (q1.symm.trans (hK.2 3 _ rfl).2)
  subst hcc
  have hzH : H.size = hX S := hIc.1.2.1
  have hold : ∀ q : Nat, q < hX S → (H.push { cls := cA, slots := Array.replicate (Int32.toNatClampNeg 1) (defaultValue (newarray.typeOf .long)), vm := .none })[q]? = H[q]? := fun q hq => by rw [Array.getElem?_push, if_neg (by omega)]
  have hT0 : ∀ q, hT (spl S a) q ≠ 0 → hT S q ≠ 0 ∧ hT (spl S a) q = hT S q := by
    intro q hq
    by_cases e : q = a ∨ q ∈ rArr.map (aR S a)
    · exact absurd (if_pos e) hq
    · have e2 : hT (spl S a) q = hT S q := if_neg e
      exact ⟨e2 ▸ hq, e2⟩
  have hIn : InW G (gR G S a) cA (hX S) (p, l, e, room_1, s, m, args, below, meth, c, Q) (spl S a) (rOf S a) 0 (H.push { cls := cA, slots := Array.replicate (Int32.toNatClampNeg 1) (defaultValue (newarray.typeOf .long)), vm := .none }) locs := by
    refine ⟨⟨fun b hb => ?_, by rw [Array.size_push, hzH]; rfl, ?_, hm, hm2⟩, fun b hb => hlo b (hT0 b hb).1, ?_, fun q hq => ⟨?_, by have := hup q (hrA q hq); show q < hX S + 1; omega⟩, ?_, ?_, by show hX S < hX S + 1; omega, by show hsum s.heap ≤ hS S + 1; omega, ?_⟩
    · obtain ⟨n0, e0⟩ := hT0 b hb
      refine ⟨by have := hup b n0; show b < hX S + 1; omega, ?_⟩
      rw [show cE G (spl S a) b = cE G S b from cE_off e0 rfl rfl rfl]
      exact (hIc.1.1 b n0).2.kept (hold b (hup b n0))
    · rw [hsum_push (H := H) (by simp) (fun q hq => hold q (by omega)) (Array.getElem?_push_size), hIc.1.2.2.1]
      show hS S + (Array.replicate _ _).size = hS S + 1
      rw [Array.size_replicate]
      rfl
    · intro k q hq
      cases k with
      | zero =>
        rw [wsR_0] at hq
        cases hq
        have h9 := (hIc.1.1 a (by rw [h1]; decide)).2
        rw [cE_o (c := 12) h1 (by decide), rfs_fl (fun f hf => (h2 f hf).1)] at h9
        exact h9.kept (hold a (hup a (by rw [h1]; decide)))
      | succ k =>
        have h9 : (rArr.map (fun f => (aR S a f, (Sum.inl (gI G, rlen f, Sum.inl (rOf S a f)) : va_E))))[k]? = some q := hq
        rw [List.getElem?_map] at h9
        cases hf : rArr[k]? with
        | none => rw [hf] at h9; cases h9
        | some f =>
          rw [hf] at h9
          cases h9
          have hf1 := List.mem_of_getElem? hf
          have ht : hT S (aR S a f) = 21 := (h2 f hf1).2.1
          have h8 := (hIc.1.1 (aR S a f) (by rw [ht]; decide)).2
          rw [cE_i ht, (h2 f hf1).2.2, show hI S (aR S a f) = rOf S a f from (if_neg (fun z => rArr_0 (by rw [← z]; exact hf1))).symm] at h8
          exact h8.kept (hold _ (hup _ (by rw [ht]; decide)))
    · rcases hq with e9 | ⟨f, hf, e9⟩
      · rw [e9]; exact if_pos (Or.inl rfl)
      · rw [e9]; exact if_pos (Or.inr (List.mem_map.mpr ⟨f, hf, rfl⟩))
    · rw [← hzH]
      show (H.push _)[H.size]? = some (arrV cA 1 (fun _ => Value.long 0))
      rw [Array.getElem?_push_size]
      exact congrArg some (arrV_new cA 1 (Value.long 0))
    · exact Classical.byContradiction fun h => absurd (hup _ (hT0 _ h).1) (Nat.lt_irrefl _)
    · refine ⟨by rw [Array.size_push]; have := hIc.2.2.1.1; exact Nat.le_succ_of_le this, fun q w1 w2 => ?_, fun q hq => hA _ (hIc.2.2.1.2.2 q hq)⟩
      rw [hold q (Nat.lt_of_lt_of_le w1 hl1)]
      exact hIc.2.2.1.2.1 q w1 (fun z => w2 (hA q z))
  have hk := kk hCw _ locs ls hIn hl
  have e1 : hX S - hX (S00 s) + 1 = hX (spl S a) - s.heap.size := by show hX S - s.heap.size + 1 = hX S + 1 - s.heap.size; omega
  have e2 : hS S - hS (S00 s) + Int32.toNatClampNeg 1 = hS (spl S a) - hsum s.heap := by show hS S - hsum s.heap + 1 = hS S + 1 - hsum s.heap; omega
  rw [e1, e2, hzH]
  exact hk
end LST
