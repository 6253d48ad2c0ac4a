/-! Rules of the class's walk: what makes cells, calls, references that may be null. -/
section CRQ
variable {X : Fx} {own : String} {cc : ByteArray} {nL cells slots pc : Nat} {I : Heap → List Loc → Prop} {L : List (Nat × Value)} {st : List Value}
theorem q_aload_n (hc : Cx X own cc nL) {j : Fin 4} (q : Nat) {i : Nat} {r : Option Nat} (d : decode cc pc = .ok (.aload_n j, 1)) (hi : (j : Nat) = i) (hq : L[q]? = some (i, va_rf r)) (k : MW X nL I cells slots (pc + 1) L (va_rf r :: st)) : MW X nL I cells slots pc L st := by
  obtain ⟨p, l, e, R, s, m, args, below, meth, c, Q⟩ := X
  obtain ⟨hx, hb, hml, hown, hts⟩ := hc
  intro H locs ls hI hl
  cases r with
  | none => exact lv_aload_nN hx hb d hi (lv_at hl q hq) (k H locs ls hI hl)
  | some b => exact lv_aload_n hx hb d hi (lv_at hl q hq) (k H locs ls hI hl)
theorem q_aload (hc : Cx X own cc nL) (q : Nat) {i : Nat} {r : Option Nat} (d : decode cc pc = .ok (.aload i, 2)) (hq : L[q]? = some (i, va_rf r)) (k : MW X nL I cells slots (pc + 2) L (va_rf r :: st)) : MW X nL I cells slots pc L st := by
  obtain ⟨p, l, e, R, s, m, args, below, meth, c, Q⟩ := X
  obtain ⟨hx, hb, hml, hown, hts⟩ := hc
  intro H locs ls hI hl
  cases r with
  | none => exact lv_aloadN hx hb d (lv_at hl q hq) (k H locs ls hI hl)
  | some b => exact lv_aload hx hb d (lv_at hl q hq) (k H locs ls hI hl)
theorem q_astore_n (hc : Cx X own cc nL) {j : Fin 4} {i : Nat} {r : Option Nat} (L' : List (Nat × Value)) (d : decode cc pc = .ok (.astore_n j, 1)) (hi : (j : Nat) = i) (hn : i < nL) (he : (i, va_rf r) :: L.filter (fun q => !(q.1 == i) && !(q.1 + 1 == i && q.2.category == 2)) = L') (k : MW X nL I cells slots (pc + 1) L' st) : MW X nL I cells slots pc L (va_rf r :: st) := by
  obtain ⟨p, l, e, R, s, m, args, below, meth, c, Q⟩ := X
  obtain ⟨hx, hb, hml, hown, hts⟩ := hc
  intro H locs ls hI hl
  cases r with
  | none => exact lv_astore_nN hx hb d hi hl hn he (fun ls hl => k H locs ls hI hl)
  | some b => exact lv_astore_n hx hb d hi hl hn he (fun ls hl => k H locs ls hI hl)
theorem q_astore (hc : Cx X own cc nL) {i : Nat} {r : Option Nat} (L' : List (Nat × Value)) (d : decode cc pc = .ok (.astore i, 2)) (hn : i < nL) (he : (i, va_rf r) :: L.filter (fun q => !(q.1 == i) && !(q.1 + 1 == i && q.2.category == 2)) = L') (k : MW X nL I cells slots (pc + 2) L' st) : MW X nL I cells slots pc L (va_rf r :: st) := by
  obtain ⟨p, l, e, R, s, m, args, below, meth, c, Q⟩ := X
  obtain ⟨hx, hb, hml, hown, hts⟩ := hc
  intro H locs ls hI hl
  cases r with
  | none => exact lv_astoreN hx hb d hl hn he (fun ls hl => k H locs ls hI hl)
  | some b => exact lv_astore hx hb d hl hn he (fun ls hl => k H locs ls hI hl)
theorem q_ifnull (hc : Cx X own cc nL) {r : Option Nat} {off : Int} (tgt : Nat) (d : decode cc pc = .ok (.ifnull off, 3)) (ht : (pc : Int) + off = (tgt : Int)) (kt : r = none → MW X nL I cells slots tgt L st) (kf : ∀ b, r = some b → MW X nL I cells slots (pc + 3) L st) : MW X nL I cells slots pc L (va_rf r :: st) := by
  obtain ⟨p, l, e, R, s, m, args, below, meth, c, Q⟩ := X
  obtain ⟨hx, hb, hml, hown, hts⟩ := hc
  intro H locs ls hI hl
  cases r with
  | none => exact lv_ifnullN hx hb d ht (kt rfl H locs ls hI hl)
  | some b => exact lv_ifnull hx hb d (kf b rfl H locs ls hI hl)
theorem q_ifnonnull (hc : Cx X own cc nL) {r : Option Nat} {off : Int} (tgt : Nat) (d : decode cc pc = .ok (.ifnonnull off, 3)) (ht : (pc : Int) + off = (tgt : Int)) (kt : ∀ b, r = some b → MW X nL I cells slots tgt L st) (kf : r = none → MW X nL I cells slots (pc + 3) L st) : MW X nL I cells slots pc L (va_rf r :: st) := by
  obtain ⟨p, l, e, R, s, m, args, below, meth, c, Q⟩ := X
  obtain ⟨hx, hb, hml, hown, hts⟩ := hc
  intro H locs ls hI hl
  cases r with
  | none => exact lv_ifnonnullN hx hb d (kf rfl H locs ls hI hl)
  | some b => exact lv_ifnonnull hx hb d ht (kt b rfl H locs ls hI hl)
theorem q_acmp_ne (hc : Cx X own cc nL) {rx ry : Option Nat} {off : Int} (tgt : Nat) (d : decode cc pc = .ok (.if_acmp .ne off, 3)) (ht : (pc : Int) + off = (tgt : Int)) (kt : ¬ rx = ry → MW X nL I cells slots tgt L st) (kf : rx = ry → MW X nL I cells slots (pc + 3) L st) : MW X nL I cells slots pc L (va_rf ry :: va_rf rx :: st) := by
  obtain ⟨p, l, e, R, s, m, args, below, meth, c, Q⟩ := X
  obtain ⟨hx, hb, hml, hown, hts⟩ := hc
  intro H locs ls hI hl
  exact lv_acmp_ne hx hb d ht (fun h => kt h H locs ls hI hl) (fun h => kf h H locs ls hI hl)
/-- a reference that isn't null -/
theorem q_some {r : Option Nat} {b : Nat} (h : r = some b) (k : MW X nL I cells slots pc L (.ref b :: st)) : MW X nL I cells slots pc L (va_rf r :: st) := by
  rw [h]; exact k
theorem q_objinit (hc : Cx X own cc nL) {idx a : Nat} (d : decode cc pc = .ok (.invokespecial idx, 3)) (lk : Cond.methodLink own idx objectInit ∈ lw_good) (l2 : Cond.instanceMethod objectInit ∈ lw_good ∧ Cond.code objectInit ⟨#[0xb1]⟩ 1 none ∈ lw_good) (hR : 1 ≤ (fRoom X).frames ∧ 30 ≤ (fRoom X).locals ∧ cells ≤ (fRoom X).cells ∧ slots ≤ (fRoom X).slots) (hs : (st.map fun v => v.category).sum ≤ 17) (k : MW X nL I cells slots (pc + 3) L st) : MW X nL I cells slots pc L (.ref a :: st) := by
  obtain ⟨p, l, e, R, s, m, args, below, meth, c, Q⟩ := X
  obtain ⟨hx, hb, hml, hown, hts⟩ := hc
  intro H locs ls hI hl
  refine W.objInit hx hb hown (hts _ lk) (hts _ l2.1) (hts _ l2.2) rfl (by rw [hml]; exact hl.1) rfl d hR.1 (by have : 30 ≤ R.locals := hR.2.1; show 2 * 0 + _ + 12 ≤ R.locals; omega) ?_
  exact k H locs ls hI hl
end CRQ
section CRN
variable {G : CG} {S0 S : HS} {X : Fx} {k : Nat} {rt : Option FieldType} {K : Option Value → HS → Prop} {own : String} {cc : ByteArray} {nL pc : Nat} {L : List (Nat × Value)} {st : List Value} {ci N : Nat} {C : String} {T : u_T} {ty : Nat → FieldType} {a idx : Nat}
theorem nO_off (G : CG) (S : HS) (t n : Nat) {b : Nat} (h : ¬ b = hX S) : cE G (nO S t n) b = cE G S b := cE_off (if_neg h) (if_neg h) (if_neg h) (if_neg h)
theorem nO_T (S : HS) (t n : Nat) : hT (nO S t n) (hX S) = t := if_pos rfl
theorem nO_N (S : HS) (t n : Nat) : hN (nO S t n) (hX S) = n := if_pos rfl
theorem nO_I (S : HS) (t n : Nat) : hI (nO S t n) (hX S) = fun _ => 0 := if_pos rfl
theorem nO_P (S : HS) (t n : Nat) : hP (nO S t n) (hX S) = fun _ => none := if_pos rfl
theorem c_push (hr : Cc G S0 k rt K X) {n t : Nat} {H : Heap} {locs : List Loc} (hI : InC G S0 X S H locs) (hm : hX S + 1 ≤ gC G) (hm2 : hS S + n ≤ gS G) {c : Cell} (hcs : c.slots.size = n) (hat : va_at (gD G) cls (hX S, cE G (nO S t n) (hX S)) (H.push c)) : InC G S0 X (nO S t n) (H.push c) locs := by
  refine hI.push (n := n) (c := c) (by simp) (fun q hq => by rw [Array.getElem?_push, if_neg (Nat.ne_of_lt hq)]) (by simp) hcs (fun b hb => if_neg hb) rfl rfl (fun b hb => nO_off G S t n hb) hat hm hm2
theorem c_cnt {G : CG} {S0 S : HS} {X : Fx} {H : Heap} {locs : List Loc} {t n : Nat} (hI : InC G S0 X S H locs) : hX S - hX S0 + 1 = hX (nO S t n) - hX S0 ∧ hS S - hS S0 + n = hS (nO S t n) - hS S0 := by
  have h1 := hI.2.2.2.1
  have h2 := hI.2.2.2.2
  show hX S - hX S0 + 1 = hX S + 1 - hX S0 ∧ hS S - hS S0 + n = hS S + n - hS S0
  omega
theorem c_new (hc : Cx X own cc nL) (hr : Cc G S0 k rt K X) (hi : cInf ci C T N ty) (hci : ci < 20) (hdf : ∀ j, j < N → defaultValue (ty j) = vp_V (fl ci (fun _ => 0) (fun _ => none)) j) (d : decode cc pc = .ok (.new idx, 3)) (lk : Cond.classLink own idx C ∈ lw_good) (l2 : Cond.instantiable C N ∈ lw_good ∧ Cond.initialized C ∈ lw_good) (hm : hX S + 1 ≤ gC G) (hm2 : hS S + N ≤ gS G)
    (kk : MC G S0 X nL (nO S (ci + 1) N) (pc + 3) L (.ref (hX S) :: st)) : MC G S0 X nL S pc L st := by
  have hr0 := hr
  obtain ⟨p, l, e, Rm, s, m, args, below, meth, c, Q⟩ := X
  obtain ⟨hx, hb, hml, hown, hts⟩ := hc
  obtain ⟨hK, ⟨n, hn, rfl⟩, -⟩ := hr
  obtain ⟨hcl, hin, hty, hnm, hlen⟩ := hi
  intro H locs ls hI hl
  have hKn := hK.1 ci _ hcl
  have hl1 := hI.2.2.2.1
  have hl2 := hI.2.2.2.2
  refine W.newc hx hb hown (hts _ lk) (hts _ l2.1) (hts _ l2.2) rfl d (by show _ + 1 ≤ gC G - hX S0; omega) (by show _ + N ≤ gS G - hS S0; omega) fun cC kC h1 h2 h3 h4 => ?_
  obtain ⟨e1, e2⟩ := c_cnt (t := ci + 1) (n := N) hI
  rw [e1, e2, hI.1.2.1]
  have hcc : cC = (gD G).1 ci := Option.some.inj (h1.symm.trans hKn.2.1)
  subst hcc
  refine kk _ _ ls (c_push hr0 hI hm hm2 (by simp [h4]) ?_) hl
  rw [cE_o (nO_T S (ci + 1) N) hci, nO_I, nO_P]
  have hcell : (H.push { cls := (gD G).1 ci, slots := kC.instanceTypes.map defaultValue, vm := .none })[hX S]? = some (blank ((gD G).1 ci) kC) := by rw [← hI.1.2.1]; simp [blank]
  exact ⟨_, hcl, (u_born ty hts hin hKn h2 hcell hty).to hdf⟩
theorem c_newi (hc : Cx X own cc nL) (hr : Cc G S0 k rt K X) {n : Int32} (d : decode cc pc = .ok (.newarray .int, 2)) (l2 : Cond.arrayClass .int ∈ lw_good) (hn0 : ¬ n < 0) (hn1 : Int32.toNatClampNeg n ≤ 100000000) (hm : hX S + 1 ≤ gC G) (hm2 : hS S + Int32.toNatClampNeg n ≤ gS G)
    (kk : MC G S0 X nL (nO S 21 (Int32.toNatClampNeg n)) (pc + 2) L (.ref (hX S) :: st)) : MC G S0 X nL S pc L (.int n :: st) := by
  have hr0 := hr
  obtain ⟨p, l, e, Rm, s, m, args, below, meth, c, Q⟩ := X
  obtain ⟨hx, hb, hml, hown, hts⟩ := hc
  obtain ⟨hK, ⟨nn, hn, rfl⟩, -⟩ := hr
  intro H locs ls hI hl
  have hl1 := hI.2.2.2.1
  have hl2 := hI.2.2.2.2
  refine W.newa (atype := .int) hx hb (hts _ l2) rfl d rfl hn0 (by show _ * 4 ≤ _; omega) (by show _ + 1 ≤ gC G - hX S0; omega) (by show _ + _ ≤ gS G - hS S0; omega) fun cA kA comp h1 h2 h3 => ?_
  obtain ⟨e1, e2⟩ := c_cnt (t := 21) (n := Int32.toNatClampNeg n) hI
  rw [e1, e2, hI.1.2.1]
  have hcc : cA = gI G := Option.some.inj (h1.symm.trans (hK.2 0 _ rfl).2)
  subst hcc
  refine kk _ _ ls (c_push hr0 hI hm hm2 (by simp) ?_) hl
  rw [cE_i (nO_T S 21 _), nO_I, nO_N]
  show (H.push _)[hX S]? = some (vp_cell (gI G) _)
  rw [vp_cell_i, ← arrV_new, ← hI.1.2.1]
  simp
  exact Or.inr rfl
theorem c_newb (hc : Cx X own cc nL) (hr : Cc G S0 k rt K X) {n : Int32} (d : decode cc pc = .ok (.newarray .byte, 2)) (l2 : Cond.arrayClass .byte ∈ lw_good) (hn0 : ¬ n < 0) (hn1 : Int32.toNatClampNeg n ≤ 100000000) (hm : hX S + 1 ≤ gC G) (hm2 : hS S + Int32.toNatClampNeg n ≤ gS G)
    (kk : MC G S0 X nL (nO S 22 (Int32.toNatClampNeg n)) (pc + 2) L (.ref (hX S) :: st)) : MC G S0 X nL S pc L (.int n :: st) := by
  have hr0 := hr
  obtain ⟨p, l, e, Rm, s, m, args, below, meth, c, Q⟩ := X
  obtain ⟨hx, hb, hml, hown, hts⟩ := hc
  obtain ⟨hK, ⟨nn, hn, rfl⟩, -⟩ := hr
  intro H locs ls hI hl
  have hl1 := hI.2.2.2.1
  have hl2 := hI.2.2.2.2
  refine W.newa (atype := .byte) hx hb (hts _ l2) rfl d rfl hn0 (by show _ * 1 ≤ _; omega) (by show _ + 1 ≤ gC G - hX S0; omega) (by show _ + _ ≤ gS G - hS S0; omega) fun cA kA comp h1 h2 h3 => ?_
  obtain ⟨e1, e2⟩ := c_cnt (t := 22) (n := Int32.toNatClampNeg n) hI
  rw [e1, e2, hI.1.2.1]
  have hcc : cA = gB G := Option.some.inj (h1.symm.trans (hK.2 1 _ rfl).2)
  subst hcc
  refine kk _ _ ls (c_push hr0 hI hm hm2 (by simp) ?_) hl
  rw [cE_b (nO_T S 22 _), nO_I, nO_N]
  show (H.push _)[hX S]? = some (vp_cell (gB G) _)
  rw [vp_cell_i, ← arrV_new, ← hI.1.2.1]
  simp
  exact Or.inr rfl
theorem c_newp (hc : Cx X own cc nL) (hr : Cc G S0 k rt K X) {n : Int32} (d : decode cc pc = .ok (.anewarray idx, 3)) (lk : Cond.classLink own idx "StraightPolys$Poly" ∈ lw_good) (hn0 : ¬ n < 0) (hn1 : Int32.toNatClampNeg n ≤ 100000000) (hm : hX S + 1 ≤ gC G) (hm2 : hS S + Int32.toNatClampNeg n ≤ gS G)
    (kk : MC G S0 X nL (nO S 23 (Int32.toNatClampNeg n)) (pc + 3) L (.ref (hX S) :: st)) : MC G S0 X nL S pc L (.int n :: st) := by
  have hr0 := hr
  obtain ⟨p, l, e, Rm, s, m, args, below, meth, c, Q⟩ := X
  obtain ⟨hx, hb, hml, hown, hts⟩ := hc
  obtain ⟨hK, ⟨nn, hn, rfl⟩, -, -, -, -, -, -, hNs⟩ := hr
  intro H locs ls hI hl
  have hl1 := hI.2.2.2.1
  have hl2 := hI.2.2.2.2
  refine W.anew hx hb hown (hts _ lk) (va_AO.use hNs.2) rfl d rfl hn0 (by omega) (by show _ + 1 ≤ gC G - hX S0; omega) (by show _ + _ ≤ gS G - hS S0; omega) fun cA kA comp h1 h2 h3 h4 => ?_
  obtain ⟨e1, e2⟩ := c_cnt (t := 23) (n := Int32.toNatClampNeg n) hI
  rw [e1, e2, hI.1.2.1]
  obtain ⟨_, _, -, -, -, hfc⟩ := (hK.2 2 _ rfl).2
  have hcc : cA = gP G := Option.some.inj (h1.symm.trans hfc)
  subst hcc
  refine kk _ _ ls (c_push hr0 hI hm hm2 (by simp) ?_) hl
  rw [cE_p (nO_T S 23 _), nO_P, nO_N]
  show (H.push _)[hX S]? = some (vp_cell (gP G) _)
  rw [vp_cell_q, ← hI.1.2.1]
  show _ = some (arrV (gP G) _ (fun _ => Value.null))
  rw [← arrV_new]
  simp
theorem n_new (hc : Cx X own cc nL) (hr : Cc G S0 k rt K X) (hi : cInf ci C T N ty) (hci : ci < 20) (hdf : ∀ j, j < N → defaultValue (ty j) = vp_V (fl ci (fun _ => 0) (fun _ => none)) j) (d : decode cc pc = .ok (.new idx, 3)) (lk : Cond.classLink own idx C ∈ lw_good) (l2 : Cond.instantiable C N ∈ lw_good ∧ Cond.initialized C ∈ lw_good) (hm : hX S + 1 ≤ gC G) (hm2 : hS S + N ≤ gS G)
    (kk : ∀ (b : Nat) (S' : HS), b = hX S → S' = nO S (ci + 1) N → MC G S0 X nL S' (pc + 3) L (.ref b :: st)) : MC G S0 X nL S pc L st := c_new hc hr hi hci hdf d lk l2 hm hm2 (kk _ _ rfl rfl)
theorem n_newi (hc : Cx X own cc nL) (hr : Cc G S0 k rt K X) {n : Int32} (d : decode cc pc = .ok (.newarray .int, 2)) (l2 : Cond.arrayClass .int ∈ lw_good) (hn0 : ¬ n < 0) (hn1 : Int32.toNatClampNeg n ≤ 100000000) (hm : hX S + 1 ≤ gC G) (hm2 : hS S + Int32.toNatClampNeg n ≤ gS G)
    (kk : ∀ (b : Nat) (S' : HS), b = hX S → S' = nO S 21 (Int32.toNatClampNeg n) → MC G S0 X nL S' (pc + 2) L (.ref b :: st)) : MC G S0 X nL S pc L (.int n :: st) := c_newi hc hr d l2 hn0 hn1 hm hm2 (kk _ _ rfl rfl)
theorem n_newb (hc : Cx X own cc nL) (hr : Cc G S0 k rt K X) {n : Int32} (d : decode cc pc = .ok (.newarray .byte, 2)) (l2 : Cond.arrayClass .byte ∈ lw_good) (hn0 : ¬ n < 0) (hn1 : Int32.toNatClampNeg n ≤ 100000000) (hm : hX S + 1 ≤ gC G) (hm2 : hS S + Int32.toNatClampNeg n ≤ gS G)
    (kk : ∀ (b : Nat) (S' : HS), b = hX S → S' = nO S 22 (Int32.toNatClampNeg n) → MC G S0 X nL S' (pc + 2) L (.ref b :: st)) : MC G S0 X nL S pc L (.int n :: st) := c_newb hc hr d l2 hn0 hn1 hm hm2 (kk _ _ rfl rfl)
theorem n_newp (hc : Cx X own cc nL) (hr : Cc G S0 k rt K X) {n : Int32} (d : decode cc pc = .ok (.anewarray idx, 3)) (lk : Cond.classLink own idx "StraightPolys$Poly" ∈ lw_good) (hn0 : ¬ n < 0) (hn1 : Int32.toNatClampNeg n ≤ 100000000) (hm : hX S + 1 ≤ gC G) (hm2 : hS S + Int32.toNatClampNeg n ≤ gS G)
    (kk : ∀ (b : Nat) (S' : HS), b = hX S → S' = nO S 23 (Int32.toNatClampNeg n) → MC G S0 X nL S' (pc + 3) L (.ref b :: st)) : MC G S0 X nL S pc L (.int n :: st) := c_newp hc hr d lk hn0 hn1 hm hm2 (kk _ _ rfl rfl)
theorem Sts.go {s U : State} {H : Heap} {locs : List Loc} (h : Sts G (Ad S0) s) (hS : va_S (Ad S0) s.heap H locs) (hsub : ∀ q, Ad S q → Ad S0 q) (hU : U.heap = H) (hvm : s.vm.Alike U.vm) : Sts G (Ad S) U := by
  obtain ⟨z1, t1, z2, t2⟩ := h
  have hq : ∀ q : Nat, q < s.heap.size → ¬ Ad S0 q → U.heap[q]? = s.heap[q]? := fun q h1 h2 => by rw [hU]; exact hS.2.1 q h1 h2
  exact ⟨(((z1.kept hq).narrow hsub).moved hvm), (((t1.kept hq).narrow hsub).moved hvm), (((z2.kept hq).narrow hsub).moved hvm), (((t2.kept hq).narrow hsub).moved hvm)⟩
theorem Nst.go {s U : State} (h : Nst s) (hW : s.WarmedH U.vm) : Nst U := ⟨fun q hq => va_Nw.warmM hW (h.1 q hq), h.2.moved hW.alike⟩
theorem c_gets (hc : Cx X own cc nL) (hr : Cc G S0 k rt K X) (d : decode cc pc = .ok (.getstatic idx, 3)) (lk : Cond.fieldLink own idx "StraightPolys$Ring" "SIZES" "[I" ∈ lw_good) (kk : MC G S0 X nL S (pc + 3) L (.ref (gZ G) :: st)) : MC G S0 X nL S pc L st := by
  obtain ⟨p, l, e, Rm, s, m, args, below, meth, c, Q⟩ := X
  obtain ⟨hx, hb, hml, hown, hts⟩ := hc
  obtain ⟨-, -, -, -, -, -, -, hZ, -⟩ := hr
  intro H locs ls hI hl
  exact va_gets hx hb hZ.1 hI.2.2.1 hown (hts _ lk) (fun _ h => h) d (kk H locs ls hI hl)
theorem c_getu (hc : Cx X own cc nL) (hr : Cc G S0 k rt K X) (d : decode cc pc = .ok (.getstatic idx, 3)) (lk : Cond.fieldLink own idx "StraightPolys$Ring" "TURNS" "[I" ∈ lw_good) (kk : MC G S0 X nL S (pc + 3) L (.ref (gU G) :: st)) : MC G S0 X nL S pc L st := by
  obtain ⟨p, l, e, Rm, s, m, args, below, meth, c, Q⟩ := X
  obtain ⟨hx, hb, hml, hown, hts⟩ := hc
  obtain ⟨-, -, -, -, -, -, -, hZ, -⟩ := hr
  intro H locs ls hI hl
  exact va_gets hx hb hZ.2.2.1 hI.2.2.1 hown (hts _ lk) (fun _ h => h) d (kk H locs ls hI hl)
theorem c_zald (hc : Cx X own cc nL) (hr : Cc G S0 k rt K X) {j : Int32} (hin : vp_in j 6) (d : decode cc pc = .ok (.iaload, 1)) (kk : MC G S0 X nL S (pc + 1) L (.int (([2, 3, 5, 7, 11, 13] : List Int32).getD (Int32.toNatClampNeg j) 0) :: st)) : MC G S0 X nL S pc L (.int j :: .ref (gZ G) :: st) := by
  obtain ⟨p, l, e, Rm, s, m, args, below, meth, c, Q⟩ := X
  obtain ⟨hx, hb, hml, hown, hts⟩ := hc
  obtain ⟨-, -, -, -, -, -, -, hZ, -⟩ := hr
  intro H locs ls hI hl
  exact va_ti hx hb hZ.2.1 hI.2.2.1 hin rfl d (kk H locs ls hI hl)
theorem c_uald (hc : Cx X own cc nL) (hr : Cc G S0 k rt K X) {j : Int32} (hin : vp_in j 18) (d : decode cc pc = .ok (.iaload, 1)) (kk : MC G S0 X nL S (pc + 1) L (.int (([0, 1, 2, 0, 2, 1, 1, 0, 2, 1, 2, 0, 2, 0, 1, 2, 1, 0] : List Int32).getD (Int32.toNatClampNeg j) 0) :: st)) : MC G S0 X nL S pc L (.int j :: .ref (gU G) :: st) := by
  obtain ⟨p, l, e, Rm, s, m, args, below, meth, c, Q⟩ := X
  obtain ⟨hx, hb, hml, hown, hts⟩ := hc
  obtain ⟨-, -, -, -, -, -, -, hZ, -⟩ := hr
  intro H locs ls hI hl
  exact va_ti hx hb hZ.2.2.2 hI.2.2.1 hin rfl d (kk H locs ls hI hl)
theorem c_zlen (hc : Cx X own cc nL) (hr : Cc G S0 k rt K X) (d : decode cc pc = .ok (.arraylength, 1)) (kk : MC G S0 X nL S (pc + 1) L (.int 6 :: st)) : MC G S0 X nL S pc L (.ref (gZ G) :: st) := by
  obtain ⟨p, l, e, Rm, s, m, args, below, meth, c, Q⟩ := X
  obtain ⟨hx, hb, hml, hown, hts⟩ := hc
  obtain ⟨-, -, -, -, -, -, -, hZ, -⟩ := hr
  intro H locs ls hI hl
  exact va_tlen hx hb hZ.2.1 hI.2.2.1 rfl d (kk H locs ls hI hl)
variable {y : MethodName} {cc' : ByteArray} {nL' n k' : Nat} {rt' : Option FieldType} {K' : Option Value → HS → Prop} {As rest : List Value}
theorem c_after {p : Program} {l : Launch} {e : Env} {Rm : Room} {s : State} {m : MethodId} {args : Array Value} {below : List Frame} {meth : Method} {c : Code} {Q : State → Prop} {H : Heap} {locs : List Loc} {ls : Array Slot} {st0 : List Value} {a : Array Value} {cells slots mc ms : Nat}
    (h0 : s.heap.size = hX S0) (h1 : hsum s.heap = hS S0) (hr : va_Run p l e Rm s m args below meth c H locs cells slots mc ms (F0 m pc ls st0) rest (QcC G S K' a) (Ad S)) (hI : InC G S0 (p, l, e, Rm, s, m, args, below, meth, c, Q) S H locs)
    (kk : ∀ (v : Option Value) (S' : HS), K' v S' → ∀ (H1 : Heap) (locs1 : List Loc), InC G S0 (p, l, e, Rm, s, m, args, below, meth, c, Q) S' H1 locs1 → W p l e Rm s m args below meth c H1 locs1 (hX S' - hX S0) (hS S' - hS S0) Q (F0 m (pc + 3) ls (v.toList ++ rest))) : W p l e Rm s m args below meth c H locs cells slots Q (F0 m pc ls st0) := by
  have hsub : ∀ q, Ad S q → Ad S0 q := fun q hq => hq.elim (hI.2.1 q) (fun h => Or.inr (Nat.le_trans hI.2.2.2.1 h))
  have hSS : va_S (Ad S0) s.heap H locs := hI.2.2.1
  intro T hT X
  obtain ⟨v, st₀, t, T', L, g0, X', hL, e1, e2, ⟨⟨v', S', hv, hp, hR, hdom, hx1, hx2⟩, hz, hk⟩, stp⟩ := hr T hT X
  cases hv
  rw [g0] at hz hk
  have hR' : Rz G S' T'.heap := by rw [e1]; exact hR
  have hIn : InC G S0 (p, l, e, Rm, s, m, args, below, meth, c, Q) S' T'.heap (locs ++ L) := by
    refine ⟨hR', fun b hb => hsub b (hdom b hb), ⟨Nat.le_trans hSS.1 (by rw [e1]; exact hz), fun q q1 q2 => ?_, fun q hq => ?_⟩, Nat.le_trans hI.2.2.2.1 hx1, Nat.le_trans hI.2.2.2.2 hx2⟩
    · show T'.heap[q]? = s.heap[q]?
      rw [e1, hk q (Nat.lt_of_lt_of_le q1 hSS.1) (fun z => q2 (hsub q z))]
      exact hSS.2.1 q q1 q2
    · rcases List.mem_append.mp hq with h | h
      · exact hSS.2.2 q h
      · exact hsub _ (hL q h)
  have hw := kk v S' hp T'.heap (locs ++ L) hIn
  obtain ⟨t2, a1, b1⟩ := W.tight (cells := cells + mc) (slots := slots + ms) (by rw [hR'.2.1, h0]; omega) (by rw [hR'.2.2.1, h1]; omega) hw T' rfl X'
  exact ⟨t2, stp t2 a1, b1⟩
theorem c_blind {av : List Value} : FrameBlind (PcC G S av) := fun a U g mk q => ⟨q.1, q.2.1, va_K.moved (u := U) (U := U.calling g mk a) (Vm.Alike.refl U.vm) q.2.2.1, q.2.2.2.1, q.2.2.2.2⟩
theorem c_pre {p : Program} {l : Launch} {e : Env} {Rm : Room} {s : State} {m : MethodId} {args : Array Value} {below : List Frame} {meth : Method} {c : Code} {Q : State → Prop} {H : Heap} {locs : List Loc} (hr : Cc G S0 k rt K (p, l, e, Rm, s, m, args, below, meth, c, Q)) (hI : InC G S0 (p, l, e, Rm, s, m, args, below, meth, c, Q) S H locs) (av : List Value) : ∀ U : State, U.heap = H → s.WarmedH U.vm → PcC G S av av.toArray U := by
  obtain ⟨hK, -, -, -, -, -, -, hZ, hN⟩ := hr
  intro U hU hW
  exact ⟨rfl, by rw [hU]; exact hI.1, va_K.moved hW.alike hK, hZ.go hI.2.2.1 (fun q hq => hq.elim (hI.2.1 q) (fun h => Or.inr (Nat.le_trans hI.2.2.2.1 h))) hU hW.alike, hN.go hW⟩
end CRN
