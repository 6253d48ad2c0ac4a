/-! The law's start, walked; whole out of a pure statement. -/
def S0n (h0 s0 : Nat) : HS := (fun _ _ => 0, fun _ _ => none, fun _ => 0, fun _ => 0, h0, s0)
/-- both objects made, then the invariant -/
def wq_st (M : Nat × Nat) (S : HS) (K : HS → RS → Prop) : Prop := hX S + 1 ≤ M.1 ∧ hS S + 12 ≤ M.2 ∧ wp_X11_init M (hX S) (nO S 12 12) (fun _ S1 => hX S1 + 1 ≤ M.1 ∧ hS S1 + 52 ≤ M.2 ∧ wp_X12_init M (hX S1) (nO S1 13 52) (fun _ S2 => Spl S2 (hX S1) ∧ hX S2 + 1 ≤ M.1 ∧ hS S2 + 1 ≤ M.2 ∧ K (spl S2 (hX S1)) (rOf S2 (hX S1))))
/-- THE PURE PART: an invariant that holds at the start and is kept by each call, class and reference answering alike -/
def Pure : Prop := ∀ h0 s0 : Nat, ∃ Inv : Nat → HS → RS → Prop, wq_st (h0 + 601024, s0 + 7293034) (S0n h0 s0) (Inv 0) ∧ ∀ (n : Nat) (S : HS) (R : RS) (y0 : Int32) (w : Int64) (y1 y2 y3 y4 y5 : Int32), n < 512 → Inv n S R → wqs (h0 + 601024, s0 + 7293034) h0 (y0 &&& 31) y1 y2 y3 y4 y5 S R w (Inv (n + 1))
theorem lm_L_62 : Cond.methodLink RL 62 yX11_init ∈ lw_good := lw_in 162 (by decide +kernel) (by decide +kernel)
theorem lm_L_65 : Cond.methodLink RL 65 yX12_init ∈ lw_good := lw_in 1536 (by decide +kernel) (by decide +kernel)
theorem lk_L_8 : Cond.classLink RL 8 RX11 ∈ lw_good := lw_in 160 (by decide +kernel) (by decide +kernel)
theorem lk_L_63 : Cond.classLink RL 63 RX12 ∈ lw_good := lw_in 1534 (by decide +kernel) (by decide +kernel)
theorem li_X11 : Cond.instantiable RX11 12 ∈ lw_good ∧ Cond.initialized RX11 ∈ lw_good := ⟨lw_in 161 (by decide +kernel) (by decide +kernel), lw_in 130 (by decide +kernel) (by decide +kernel)⟩
theorem li_X12 : Cond.instantiable RX12 52 ∈ lw_good ∧ Cond.initialized RX12 ∈ lw_good := ⟨lw_in 1535 (by decide +kernel) (by decide +kernel), lw_in 140 (by decide +kernel) (by decide +kernel)⟩
theorem la_long : Cond.arrayClass .long ∈ lw_good := lw_in 2133 (by decide +kernel) (by decide +kernel)
set_option maxHeartbeats 4000000 in
set_option maxRecDepth 100000 in
theorem law_open {G : CG} {S0 : HS} {cJ : ClassId} {b Ln : Nat} {xs : Nat → Int32} {X : Fx} {Inv : Nat → HS → RS → Prop} (hc : Cx X RL cL_law 7) (hr : Cs G S0 cJ X) (hs : Sx X b Ln xs) (hL : Ln ≤ 3072) (h0 : wq_st (gC G, gS G) S0 (Inv 0)) (step : ∀ (n : Nat) (S : HS) (R : RS) (v y0 : Int32) (w : Int64) (y1 y2 y3 y4 y5 : Int32), n < 512 → Inv n S R → wqs (gC G, gS G) (hX S0) (y0 &&& 31) y1 y2 y3 y4 y5 S R w (Inv (n + 1))) : MC G S0 X 7 S0 0 [(0, .ref b)] [] := by
  obtain ⟨r1, r2, hw⟩ := h0
  refine s_new (ci := 11) hc hr ciX11 (by decide) (by decide +kernel) dL_law_0 lk_L_8 li_X11 r1 r2 ?_
  refine m_dup hc dL_law_3 rfl ?_
  refine s_callI hc hr mt_X11_init lm_L_62 (ok_X11_init hw) (Nat.le_of_ble_eq_true rfl) dL_law_4 rfl (As := []) (rest := [.ref (hX S0)]) rfl (Nat.le_of_ble_eq_true rfl) (fun S1 hw => ?_)
  refine m_astore_n hc [(1, .ref (hX S0)), (0, .ref b)] dL_law_7 rfl (Nat.le_of_ble_eq_true rfl) rfl ?_
  obtain ⟨r3, r4, hw⟩ := hw
  refine s_new (ci := 12) hc hr ciX12 (by decide) (by decide +kernel) dL_law_8 lk_L_63 li_X12 r3 r4 ?_
  refine m_dup hc dL_law_11 rfl ?_
  refine s_callI hc hr mt_X12_init lm_L_65 (ok_X12_init hw) (Nat.le_of_ble_eq_true rfl) dL_law_12 rfl (As := []) (rest := [.ref (hX S1)]) rfl (Nat.le_of_ble_eq_true rfl) (fun S2 hw => ?_)
  refine m_astore_n hc [(2, .ref (hX S1)), (1, .ref (hX S0)), (0, .ref b)] dL_law_15 rfl (Nat.le_of_ble_eq_true rfl) rfl ?_
  obtain ⟨hsp, r5, r6, hi⟩ := hw
  refine m_iconst hc 1 dL_law_16 (by decide) ?_
  refine s_out hc hr hsp dL_law_17 la_long r5 r6 (fun hcw => ?_)
  refine m_astore_n hc [(3, .ref (hX S2)), (2, .ref (hX S1)), (1, .ref (hX S0)), (0, .ref b)] dL_law_19 rfl (Nat.le_of_ble_eq_true rfl) rfl ?_
  refine m_iconst hc 0 dL_law_20 (by decide) ?_
  refine m_istore hc [(4, .int 0), (3, .ref (hX S2)), (2, .ref (hX S1)), (1, .ref (hX S0)), (0, .ref b)] dL_law_21 (Nat.le_of_ble_eq_true rfl) rfl ?_
  exact law_loop hc hcw hs hL step 512 0 _ _ 0 rfl hi
theorem ws_str {own tx : String} {k : Nat} {cur : ClassId} {A : Array Value} {s : State} (hcur : s.vm.findClass own = some cur) (h : (Cond.stringRef own k tx).before A s = true) : ∃ sa, vk_R own k tx sa s := by
  obtain ⟨k', cf, i, a, -, -, -, -, -, hev⟩ := Cond.stringRef_spec hcur h
  exact ⟨a, vk_R.of h hev⟩
theorem ws_arr {t : FieldType} {A : Array Value} {s : State} (ht : ∀ C, t ≠ .object C) (h : (Cond.arrayClass t).before A s = true) : ∃ cA : ClassId, ArrOfT s cA t ∧ va_RA s cA t := by
  obtain ⟨cA, kA, comp, hfind, hk, hkind⟩ := Cond.arrayClass_spec h
  refine ⟨cA, fun N z => ⟨(fun k h => by cases h), kA, hk, comp, hkind⟩, ?_⟩
  cases t with
  | object C => exact absurd rfl (ht C)
  | _ => exact hfind
theorem ws_arrO {C : String} {A : Array Value} {s : State} (h : (Cond.arrayOver (.object C)).before A s = true) : ∃ cA : ClassId, ArrOfT s cA (.object C) ∧ va_RA s cA (.object C) := by
  obtain ⟨comp, cArr, kArr, hcomp, hidx, hk, hkind, hname⟩ := Cond.arrayOver_spec h
  exact ⟨cArr, fun N z => ⟨(fun k h => by cases h), kArr, hk, comp, hkind⟩, kArr, comp, hk, hkind, hcomp, hname⟩
theorem ws_cls {A : Array Value} {s : State} (hg : ∀ w ∈ lw_good, w.before A s = true) : ∀ c : Nat, ∃ z : ClassId × (Nat → Nat), ∀ q : vw_C, cls[c]? = some q → u_Kn s q.1 q.2.1 q.2.2 z.1 z.2 := by
  intro c
  match c with
  | 0 =>
    obtain ⟨cC, iS, h⟩ := u_known hg ciX0.2.1 (hg (Cond.instantiable RX0 4) (lw_in 409 (by decide +kernel) (by decide +kernel)))
    exact ⟨(cC, iS), fun q hq => by cases hq; exact h⟩
  | 1 =>
    obtain ⟨cC, iS, h⟩ := u_known hg ciX1.2.1 (hg (Cond.instantiable RX1 3) (lw_in 217 (by decide +kernel) (by decide +kernel)))
    exact ⟨(cC, iS), fun q hq => by cases hq; exact h⟩
  | 2 =>
    obtain ⟨cC, iS, h⟩ := u_known hg ciX2.2.1 (hg (Cond.instantiable RX2 14) (lw_in 285 (by decide +kernel) (by decide +kernel)))
    exact ⟨(cC, iS), fun q hq => by cases hq; exact h⟩
  | 3 =>
    obtain ⟨cC, iS, h⟩ := u_known hg ciX3.2.1 (hg (Cond.instantiable RX3 6) (lw_in 297 (by decide +kernel) (by decide +kernel)))
    exact ⟨(cC, iS), fun q hq => by cases hq; exact h⟩
  | 4 =>
    obtain ⟨cC, iS, h⟩ := u_known hg ciX4.2.1 (hg (Cond.instantiable RX4 1) (lw_in 383 (by decide +kernel) (by decide +kernel)))
    exact ⟨(cC, iS), fun q hq => by cases hq; exact h⟩
  | 5 =>
    obtain ⟨cC, iS, h⟩ := u_known hg ciX5.2.1 (hg (Cond.instantiable RX5 4) (lw_in 266 (by decide +kernel) (by decide +kernel)))
    exact ⟨(cC, iS), fun q hq => by cases hq; exact h⟩
  | 6 =>
    obtain ⟨cC, iS, h⟩ := u_known hg ciX6.2.1 (hg (Cond.instantiable RX6 4) (lw_in 169 (by decide +kernel) (by decide +kernel)))
    exact ⟨(cC, iS), fun q hq => by cases hq; exact h⟩
  | 7 =>
    obtain ⟨cC, iS, h⟩ := u_known hg ciX7.2.1 (hg (Cond.instantiable RX7 10) (lw_in 1108 (by decide +kernel) (by decide +kernel)))
    exact ⟨(cC, iS), fun q hq => by cases hq; exact h⟩
  | 8 =>
    obtain ⟨cC, iS, h⟩ := u_known hg ciX8.2.1 (hg (Cond.instantiable RX8 9) (lw_in 1156 (by decide +kernel) (by decide +kernel)))
    exact ⟨(cC, iS), fun q hq => by cases hq; exact h⟩
  | 9 =>
    obtain ⟨cC, iS, h⟩ := u_known hg ciX9.2.1 (hg (Cond.instantiable RX9 9) (lw_in 209 (by decide +kernel) (by decide +kernel)))
    exact ⟨(cC, iS), fun q hq => by cases hq; exact h⟩
  | 10 =>
    obtain ⟨cC, iS, h⟩ := u_known hg ciX10.2.1 (hg (Cond.instantiable RX10 2) (lw_in 393 (by decide +kernel) (by decide +kernel)))
    exact ⟨(cC, iS), fun q hq => by cases hq; exact h⟩
  | 11 =>
    obtain ⟨cC, iS, h⟩ := u_known hg ciX11.2.1 (hg (Cond.instantiable RX11 12) (lw_in 161 (by decide +kernel) (by decide +kernel)))
    exact ⟨(cC, iS), fun q hq => by cases hq; exact h⟩
  | 12 =>
    obtain ⟨cC, iS, h⟩ := u_known hg ciX12.2.1 (hg (Cond.instantiable RX12 52) (lw_in 1535 (by decide +kernel) (by decide +kernel)))
    exact ⟨(cC, iS), fun q hq => by cases hq; exact h⟩
  | k + 13 => exact ⟨(0, fun _ => 0), fun q hq => by simp at hq⟩
theorem ws_Z {A : Array Value} {s : State} (hgv : (Jvm.Cond.and given_1 narrow_1).before A s = true) : ∀ j : Nat, j < 6 → (Term.elem (.static "StraightPolys$Ring" "SIZES" "[I") (.int (Int32.ofNat j))).eval A s none [] s = some (tblZ j) := by
  have hs := flat_of_before _ hgv
  intro j hj
  match j, hj with
  | 0, _ => exact va_eqt (z := 2) (hs (.eq (.elem (.static "StraightPolys$Ring" "SIZES" "[I") (.int 0)) (.int 2)) (by decide +kernel))
  | 1, _ => exact va_eqt (z := 3) (hs (.eq (.elem (.static "StraightPolys$Ring" "SIZES" "[I") (.int 1)) (.int 3)) (by decide +kernel))
  | 2, _ => exact va_eqt (z := 5) (hs (.eq (.elem (.static "StraightPolys$Ring" "SIZES" "[I") (.int 2)) (.int 5)) (by decide +kernel))
  | 3, _ => exact va_eqt (z := 7) (hs (.eq (.elem (.static "StraightPolys$Ring" "SIZES" "[I") (.int 3)) (.int 7)) (by decide +kernel))
  | 4, _ => exact va_eqt (z := 11) (hs (.eq (.elem (.static "StraightPolys$Ring" "SIZES" "[I") (.int 4)) (.int 11)) (by decide +kernel))
  | 5, _ => exact va_eqt (z := 13) (hs (.eq (.elem (.static "StraightPolys$Ring" "SIZES" "[I") (.int 5)) (.int 13)) (by decide +kernel))
theorem ws_U {A : Array Value} {s : State} (hgv : (Jvm.Cond.and given_1 narrow_1).before A s = true) : ∀ j : Nat, j < 18 → (Term.elem (.static "StraightPolys$Ring" "TURNS" "[I") (.int (Int32.ofNat j))).eval A s none [] s = some (tblU j) := by
  have hs := flat_of_before _ hgv
  intro j hj
  match j, hj with
  | 0, _ => exact va_eqt (z := 0) (hs (.eq (.elem (.static "StraightPolys$Ring" "TURNS" "[I") (.int 0)) (.int 0)) (by decide +kernel))
  | 1, _ => exact va_eqt (z := 1) (hs (.eq (.elem (.static "StraightPolys$Ring" "TURNS" "[I") (.int 1)) (.int 1)) (by decide +kernel))
  | 2, _ => exact va_eqt (z := 2) (hs (.eq (.elem (.static "StraightPolys$Ring" "TURNS" "[I") (.int 2)) (.int 2)) (by decide +kernel))
  | 3, _ => exact va_eqt (z := 0) (hs (.eq (.elem (.static "StraightPolys$Ring" "TURNS" "[I") (.int 3)) (.int 0)) (by decide +kernel))
  | 4, _ => exact va_eqt (z := 2) (hs (.eq (.elem (.static "StraightPolys$Ring" "TURNS" "[I") (.int 4)) (.int 2)) (by decide +kernel))
  | 5, _ => exact va_eqt (z := 1) (hs (.eq (.elem (.static "StraightPolys$Ring" "TURNS" "[I") (.int 5)) (.int 1)) (by decide +kernel))
  | 6, _ => exact va_eqt (z := 1) (hs (.eq (.elem (.static "StraightPolys$Ring" "TURNS" "[I") (.int 6)) (.int 1)) (by decide +kernel))
  | 7, _ => exact va_eqt (z := 0) (hs (.eq (.elem (.static "StraightPolys$Ring" "TURNS" "[I") (.int 7)) (.int 0)) (by decide +kernel))
  | 8, _ => exact va_eqt (z := 2) (hs (.eq (.elem (.static "StraightPolys$Ring" "TURNS" "[I") (.int 8)) (.int 2)) (by decide +kernel))
  | 9, _ => exact va_eqt (z := 1) (hs (.eq (.elem (.static "StraightPolys$Ring" "TURNS" "[I") (.int 9)) (.int 1)) (by decide +kernel))
  | 10, _ => exact va_eqt (z := 2) (hs (.eq (.elem (.static "StraightPolys$Ring" "TURNS" "[I") (.int 10)) (.int 2)) (by decide +kernel))
  | 11, _ => exact va_eqt (z := 0) (hs (.eq (.elem (.static "StraightPolys$Ring" "TURNS" "[I") (.int 11)) (.int 0)) (by decide +kernel))
  | 12, _ => exact va_eqt (z := 2) (hs (.eq (.elem (.static "StraightPolys$Ring" "TURNS" "[I") (.int 12)) (.int 2)) (by decide +kernel))
  | 13, _ => exact va_eqt (z := 0) (hs (.eq (.elem (.static "StraightPolys$Ring" "TURNS" "[I") (.int 13)) (.int 0)) (by decide +kernel))
  | 14, _ => exact va_eqt (z := 1) (hs (.eq (.elem (.static "StraightPolys$Ring" "TURNS" "[I") (.int 14)) (.int 1)) (by decide +kernel))
  | 15, _ => exact va_eqt (z := 2) (hs (.eq (.elem (.static "StraightPolys$Ring" "TURNS" "[I") (.int 15)) (.int 2)) (by decide +kernel))
  | 16, _ => exact va_eqt (z := 1) (hs (.eq (.elem (.static "StraightPolys$Ring" "TURNS" "[I") (.int 16)) (.int 1)) (by decide +kernel))
  | 17, _ => exact va_eqt (z := 0) (hs (.eq (.elem (.static "StraightPolys$Ring" "TURNS" "[I") (.int 17)) (.int 0)) (by decide +kernel))
  | j + 18, h => exact absurd h (by omega)
theorem ws_nest {A : Array Value} {s : State} (hts : ∀ w ∈ lw_tbl, w.before A s = true) : ∀ q ∈ nestL, va_Nw (.methodLinkNest q.1 q.2.1 q.2.2.1 q.2.2.2) s := by
  unfold nestL
  exact List.forall_mem_cons.mpr ⟨va_Nw.of rfl (hts _ (List.mem_of_getElem? (i := 210) (by decide +kernel))), List.forall_mem_cons.mpr ⟨va_Nw.of rfl (hts _ (List.mem_of_getElem? (i := 218) (by decide +kernel))), List.forall_mem_cons.mpr ⟨va_Nw.of rfl (hts _ (List.mem_of_getElem? (i := 267) (by decide +kernel))), List.forall_mem_cons.mpr ⟨va_Nw.of rfl (hts _ (List.mem_of_getElem? (i := 286) (by decide +kernel))), List.forall_mem_cons.mpr ⟨va_Nw.of rfl (hts _ (List.mem_of_getElem? (i := 293) (by decide +kernel))), List.forall_mem_cons.mpr ⟨va_Nw.of rfl (hts _ (List.mem_of_getElem? (i := 295) (by decide +kernel))), List.forall_mem_cons.mpr ⟨va_Nw.of rfl (hts _ (List.mem_of_getElem? (i := 384) (by decide +kernel))), List.forall_mem_cons.mpr ⟨va_Nw.of rfl (hts _ (List.mem_of_getElem? (i := 394) (by decide +kernel))), List.forall_mem_cons.mpr ⟨va_Nw.of rfl (hts _ (List.mem_of_getElem? (i := 410) (by decide +kernel))), List.forall_mem_cons.mpr ⟨va_Nw.of rfl (hts _ (List.mem_of_getElem? (i := 1109) (by decide +kernel))), fun _ h => absurd h List.not_mem_nil⟩⟩⟩⟩⟩⟩⟩⟩⟩⟩
theorem ws_txt {A : Array Value} {s : State} {cur : ClassId} (hcur : s.vm.findClass RX11 = some cur) (hts : ∀ w ∈ lw_tbl, w.before A s = true) : ∀ q ∈ txtL, ∃ sa, vk_R RX11 q.1 q.2 sa s := by
  unfold txtL
  exact List.forall_mem_cons.mpr ⟨ws_str hcur (hts _ (List.mem_of_getElem? (i := 1105) (by decide +kernel))), List.forall_mem_cons.mpr ⟨ws_str hcur (hts _ (List.mem_of_getElem? (i := 1283) (by decide +kernel))), List.forall_mem_cons.mpr ⟨ws_str hcur (hts _ (List.mem_of_getElem? (i := 1297) (by decide +kernel))), List.forall_mem_cons.mpr ⟨ws_str hcur (hts _ (List.mem_of_getElem? (i := 1320) (by decide +kernel))), List.forall_mem_cons.mpr ⟨ws_str hcur (hts _ (List.mem_of_getElem? (i := 1336) (by decide +kernel))), List.forall_mem_cons.mpr ⟨ws_str hcur (hts _ (List.mem_of_getElem? (i := 1371) (by decide +kernel))), List.forall_mem_cons.mpr ⟨ws_str hcur (hts _ (List.mem_of_getElem? (i := 1388) (by decide +kernel))), List.forall_mem_cons.mpr ⟨ws_str hcur (hts _ (List.mem_of_getElem? (i := 1403) (by decide +kernel))), List.forall_mem_cons.mpr ⟨ws_str hcur (hts _ (List.mem_of_getElem? (i := 1411) (by decide +kernel))), List.forall_mem_cons.mpr ⟨ws_str hcur (hts _ (List.mem_of_getElem? (i := 1438) (by decide +kernel))), List.forall_mem_cons.mpr ⟨ws_str hcur (hts _ (List.mem_of_getElem? (i := 1489) (by decide +kernel))), List.forall_mem_cons.mpr ⟨ws_str hcur (hts _ (List.mem_of_getElem? (i := 1490) (by decide +kernel))), List.forall_mem_cons.mpr ⟨ws_str hcur (hts _ (List.mem_of_getElem? (i := 1502) (by decide +kernel))), fun _ h => absurd h List.not_mem_nil⟩⟩⟩⟩⟩⟩⟩⟩⟩⟩⟩⟩⟩
theorem ws_ca {A : Array Value} {s : State} (hts : ∀ w ∈ lw_tbl, w.before A s = true) : ∀ E ∈ xCa, va_Nw (.castable E E) s := by
  unfold xCa
  exact List.forall_mem_cons.mpr ⟨va_Nw.of rfl (hts _ (List.mem_of_getElem? (i := 571) (by decide +kernel))), List.forall_mem_cons.mpr ⟨va_Nw.of rfl (hts _ (List.mem_of_getElem? (i := 1276) (by decide +kernel))), fun _ h => absurd h List.not_mem_nil⟩⟩
theorem ws_de {A : Array Value} {s : State} (hts : ∀ w ∈ lw_tbl, w.before A s = true) : ∀ Y ∈ xDe, va_Nw (.declares (Bundle.initS Y)) s := by
  unfold xDe
  exact List.forall_mem_cons.mpr ⟨va_Nw.of rfl (hts _ (List.mem_of_getElem? (i := 573) (by decide +kernel))), List.forall_mem_cons.mpr ⟨va_Nw.of rfl (hts _ (List.mem_of_getElem? (i := 575) (by decide +kernel))), List.forall_mem_cons.mpr ⟨va_Nw.of rfl (hts _ (List.mem_of_getElem? (i := 577) (by decide +kernel))), fun _ h => absurd h List.not_mem_nil⟩⟩⟩
set_option maxHeartbeats 4000000 in
set_option maxRecDepth 100000 in
/-- from the law's entry, given the pure part -/
theorem whole_open (PU : Pure) {p : Program} {e : Env} {s : State} {m : MethodId} {below : List Frame} {meth : Method} {c : Code} (l : Launch) (hflags : l.flags = flags0) {b L : Nat} {xs : Nat → Int32} (hL : L ≤ 3072) (C0 : lw_At p s m meth c b L xs) : W p l e room_1 s m #[Value.ref b] below meth c s.heap [] 0 0 (lw_Z below #[Value.ref b] s) (entryFrame m ([Value.ref b] : List Value).toArray 7) := by
  obtain ⟨hx, hb, hr, hml, hown, hts, hX9, hbl, hlocks, hgv⟩ := id C0
  have hg : ∀ w ∈ lw_good, w.before #[Value.ref b] s = true := fun w hw => hts w (List.mem_filter.mp hw).1
  have hA : ∀ a : Nat, a < s.heap.size → ¬ Aw s a := fun a h => Nat.not_le.mpr h
  have hs := flat_of_before _ hgv
  obtain ⟨D, hD⟩ := Classical.axiomOfChoice (ws_cls hg)
  obtain ⟨cI, hI1, hI2⟩ := ws_arr (t := .int) (fun C h => by cases h) (hts (Cond.arrayClass .int) (List.mem_of_getElem? (i := 206) (by decide +kernel)))
  obtain ⟨cB, hB1, hB2⟩ := ws_arr (t := .byte) (fun C h => by cases h) (hts (Cond.arrayClass .byte) (List.mem_of_getElem? (i := 407) (by decide +kernel)))
  obtain ⟨cJ, hJ1, hJ2⟩ := ws_arr (t := .long) (fun C h => by cases h) (hts (Cond.arrayClass .long) (List.mem_of_getElem? (i := 2133) (by decide +kernel)))
  have hao : (Cond.arrayOver (.object "StraightPolys$Poly")).before #[Value.ref b] s = true := hts _ (List.mem_of_getElem? (i := 207) (by decide +kernel))
  obtain ⟨cP, hP1, hP2⟩ := ws_arrO hao
  obtain ⟨tZ, eZ, hZ⟩ := va_Tof (tm := .static "StraightPolys$Ring" "SIZES" "[I") (ty := .int) (N := 6) (f := tblZ) (A := Aw s) (by decide) (hs _ (by decide +kernel)) (va_eqt (hs (.eq (.length (.static "StraightPolys$Ring" "SIZES" "[I")) (.int 6)) (by decide +kernel))) (ws_Z hgv) hA
  obtain ⟨tU, eU, hU⟩ := va_Tof (tm := .static "StraightPolys$Ring" "TURNS" "[I") (ty := .int) (N := 18) (f := tblU) (A := Aw s) (by decide) (hs _ (by decide +kernel)) (va_eqt (hs (.eq (.length (.static "StraightPolys$Ring" "TURNS" "[I")) (.int 18)) (by decide +kernel))) (ws_U hgv) hA
  have hini : (Cond.initialized "StraightPolys$Ring").before #[Value.ref b] s = true := hts _ (List.mem_of_getElem? (i := 132) (by decide +kernel))
  have zZ := va_Zof (hts (.laysStatic "StraightPolys$Ring" "SIZES" "[I") (List.mem_of_getElem? (i := 474) (by decide +kernel))) hini eZ hA
  have zU := va_Zof (hts (.laysStatic "StraightPolys$Ring" "TURNS" "[I") (List.mem_of_getElem? (i := 1058) (by decide +kernel))) hini eU hA
  have hin2 : (Cond.initialized Bundle.tN).before #[Value.ref b] s = true := hts _ (List.mem_of_getElem? (i := 141) (by decide +kernel))
  have x1 := vx_Zqof (hts (.laysStatic Bundle.tN "UNASSIGNED_STACK" Bundle.steD) (List.mem_of_getElem? (i := 596) (by decide +kernel))) hin2 (hs (.isRef (.static Bundle.tN "UNASSIGNED_STACK" Bundle.steD)) (by decide +kernel)) hA
  have x2 := vx_Zqof (hts (.laysStatic Bundle.tN "SUPPRESSED_SENTINEL" Bundle.listD) (List.mem_of_getElem? (i := 598) (by decide +kernel))) hin2 (hs (.isRef (.static Bundle.tN "SUPPRESSED_SENTINEL" Bundle.listD)) (by decide +kernel)) hA
  have hnc : va_Nc xIAE xNSE s := va_Nc.of (hs (.not (.castable xIAE xNSE)) (by decide +kernel))
  have hcur := (hD 11 _ rfl).2.1
  obtain ⟨Inv, h0, step⟩ := PU s.heap.size (hsum s.heap)
  have hK : va_K (fun c => (D c).1, fun c => (D c).2) cls ([(cI, .int), (cB, .byte), (cP, .object "StraightPolys$Poly")] ++ [(cJ, .long)]) s := by
    refine ⟨fun c q hq => hD c q hq, fun k q hq => ?_⟩
    match k, hq with
    | 0, hq => cases hq; exact ⟨hI1, hI2⟩
    | 1, hq => cases hq; exact ⟨hB1, hB2⟩
    | 2, hq => cases hq; exact ⟨hP1, hP2⟩
    | 3, hq => cases hq; exact ⟨hJ1, hJ2⟩
    | k + 4, hq => simp at hq
  have hlt : l.stackTraces = false := by unfold Launch.stackTraces; rw [hflags]; decide +kernel
  have key := law_open (G := ((fun c => (D c).1, fun c => (D c).2), cI, cB, cP, s.heap.size + 601024, hsum s.heap + 7293034, tZ, tU)) (S0 := S00 s) (cJ := cJ) (b := b) (Ln := L) (xs := xs) (X := (p, l, e, room_1, s, m, #[Value.ref b], below, meth, c, lw_Z below #[Value.ref b] s)) (Inv := Inv) ⟨hx, hb, hml, hown, hg⟩ ⟨hlt, rfl, hK, rfl, rfl, ⟨⟨zZ, hZ, zU, hU⟩, ⟨ws_nest hts, va_AO.of hao⟩, ⟨x1, x2, ws_txt hcur hts, ws_ca hts, ws_de hts⟩, hnc⟩, rfl⟩ ⟨hX9, hbl, rfl, rfl, hr, hlocks⟩ hL h0 (fun n S R v y0 w y1 y2 y3 y4 y5 hn hi => step n S R y0 w y1 y2 y3 y4 y5 hn hi)
  have hl := lv_entry ([.ref b]) (n := 7) (Nat.le_of_ble_eq_true rfl)
  rw [lg_entry_eq]
  have hI : InC ((fun c => (D c).1, fun c => (D c).2), cI, cB, cP, s.heap.size + 601024, hsum s.heap + 7293034, tZ, tU) (S00 s) (p, l, e, room_1, s, m, #[Value.ref b], below, meth, c, lw_Z below #[Value.ref b] s) (S00 s) s.heap [] := ⟨⟨fun a h => absurd rfl h, rfl, rfl, Nat.le_add_right _ _, Nat.le_add_right _ _⟩, fun a h => absurd rfl h, va_S.rf, Nat.le_refl _, Nat.le_refl _⟩
  have k2 := key s.heap [] _ hI hl
  rw [show hX (S00 s) - hX (S00 s) = 0 from Nat.sub_self _, show hS (S00 s) - hS (S00 s) = 0 from Nat.sub_self _] at k2
  exact k2
