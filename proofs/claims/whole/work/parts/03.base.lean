/-! MW: the machine at a pc with these locals and this stack comes to its end, from every heap that the assertion I holds of. Cx: the method's fixed facts. -/
def lw_good : List Cond := lw_tbl.filter goodWord
theorem lw_gg : GoodIn lw_good lw_good := fun w h => ⟨h, good_of_word (List.mem_filter.mp h).2⟩
theorem lw_in {w : Cond} (i : Nat) (h : lw_tbl[i]? = some w) (hg : goodWord w = true) : w ∈ lw_good := List.mem_filter.mpr ⟨List.mem_of_getElem? h, hg⟩
abbrev Fx : Type := Program × Launch × Env × Room × State × MethodId × Array Value × List Frame × Method × Code × (State → Prop)
def Cx (X : Fx) (own : String) (cc : ByteArray) (nL : Nat) : Prop := match X with
  | (p, _, _, _, s, m, args, _, _, c, _) => p.tables.exec = Jvm.exec ∧ c.code = cc ∧ c.maxLocals = nL ∧ s.vm.findClass own = some m.cls ∧ ∀ w ∈ lw_good, w.before args s = true
def MW (X : Fx) (nL : Nat) (I : Heap → List Loc → Prop) (cells slots pc : Nat) (L : List (Nat × Value)) (st : List Value) : Prop := match X with
  | (p, l, e, R, s, m, args, below, meth, c, Q) => ∀ (H : Heap) (locs : List Loc) (ls : Array Slot), I H locs → lv_has ls nL L → W p l e R s m args below meth c H locs cells slots Q (F0 m pc ls st)
def fRoom (X : Fx) : Room := X.2.2.2.1
def fS (X : Fx) : State := X.2.2.2.2.1
section MWR
variable {X : Fx} {own : String} {cc : ByteArray} {nL cells slots pc : Nat} {I : Heap → List Loc → Prop} {L : List (Nat × Value)} {st : List Value}
theorem m_sub (ks : List Nat) {L' : List (Nat × Value)} (hl : lv_pick L ks = L') (k : MW X nL I cells slots pc L' st) : MW X nL I cells slots pc L st := by
  obtain ⟨p, l, e, R, s, m, args, below, meth, c, Q⟩ := X
  intro H locs ls hI h
  exact k H locs ls hI (lv_sub h ks hl)
theorem m_pc {pc' : Nat} (h : pc' = pc) (k : MW X nL I cells slots pc' L st) : MW X nL I cells slots pc L st := h ▸ k
theorem m_iconst (hc : Cx X own cc nL) {n : Int} (v : Int32) (d : decode cc pc = .ok (.iconst n, 1)) (hv : Int32.ofInt n = v) (k : MW X nL I cells slots (pc + 1) L (.int v :: st)) : MW X nL I cells slots pc L (st) := by
  obtain ⟨p, l, e, R, s, m, args, below, meth, c, Q⟩ := X
  obtain ⟨hx, hb, hml, hown, hts⟩ := hc
  intro H locs ls hI hl
  exact lv_iconst hx hb d hv (k H locs ls hI hl)
theorem m_bipush (hc : Cx X own cc nL) {n : Int} (v : Int32) (d : decode cc pc = .ok (.bipush n, 2)) (hv : (Int8.ofInt n).toInt32 = v) (k : MW X nL I cells slots (pc + 2) L (.int v :: st)) : MW X nL I cells slots pc L (st) := by
  obtain ⟨p, l, e, R, s, m, args, below, meth, c, Q⟩ := X
  obtain ⟨hx, hb, hml, hown, hts⟩ := hc
  intro H locs ls hI hl
  exact lv_bipush hx hb d hv (k H locs ls hI hl)
theorem m_sipush (hc : Cx X own cc nL) {n : Int} (v : Int32) (d : decode cc pc = .ok (.sipush n, 3)) (hv : (Int16.ofInt n).toInt32 = v) (k : MW X nL I cells slots (pc + 3) L (.int v :: st)) : MW X nL I cells slots pc L (st) := by
  obtain ⟨p, l, e, R, s, m, args, below, meth, c, Q⟩ := X
  obtain ⟨hx, hb, hml, hown, hts⟩ := hc
  intro H locs ls hI hl
  exact lv_sipush hx hb d hv (k H locs ls hI hl)
theorem m_ldc (hc : Cx X own cc nL) {idx : Nat} {v : Int32} (d : decode cc pc = .ok (.ldc idx, 2)) (hw : Cond.constant own idx v ∈ lw_good) (k : MW X nL I cells slots (pc + 2) L (.int v :: st)) : MW X nL I cells slots pc L (st) := by
  obtain ⟨p, l, e, R, s, m, args, below, meth, c, Q⟩ := X
  obtain ⟨hx, hb, hml, hown, hts⟩ := hc
  intro H locs ls hI hl
  exact lv_ldc hx hb hown (hts _ hw) d (k H locs ls hI hl)
theorem m_ldc_w (hc : Cx X own cc nL) {idx : Nat} {v : Int32} (d : decode cc pc = .ok (.ldc_w idx, 3)) (hw : Cond.constant own idx v ∈ lw_good) (k : MW X nL I cells slots (pc + 3) L (.int v :: st)) : MW X nL I cells slots pc L (st) := by
  obtain ⟨p, l, e, R, s, m, args, below, meth, c, Q⟩ := X
  obtain ⟨hx, hb, hml, hown, hts⟩ := hc
  intro H locs ls hI hl
  exact lv_ldcw hx hb hown (hts _ hw) d (k H locs ls hI hl)
theorem m_iload_n (hc : Cx X own cc nL) {j : Fin 4} (q : Nat) {i : Nat} {x : Int32} (d : decode cc pc = .ok (.iload_n j, 1)) (hi : (j : Nat) = i) (hq : L[q]? = some (i, .int x)) (k : MW X nL I cells slots (pc + 1) L (.int x :: st)) : MW X nL I cells slots pc L (st) := by
  obtain ⟨p, l, e, R, s, m, args, below, meth, c, Q⟩ := X
  obtain ⟨hx, hb, hml, hown, hts⟩ := hc
  intro H locs ls hI hl
  exact lv_iload_n hx hb d hi (lv_at hl q hq) (k H locs ls hI hl)
theorem m_iload (hc : Cx X own cc nL) (q : Nat) {i : Nat} {x : Int32} (d : decode cc pc = .ok (.iload i, 2)) (hq : L[q]? = some (i, .int x)) (k : MW X nL I cells slots (pc + 2) L (.int x :: st)) : MW X nL I cells slots pc L (st) := by
  obtain ⟨p, l, e, R, s, m, args, below, meth, c, Q⟩ := X
  obtain ⟨hx, hb, hml, hown, hts⟩ := hc
  intro H locs ls hI hl
  exact lv_iload hx hb d (lv_at hl q hq) (k H locs ls hI hl)
theorem m_istore_n (hc : Cx X own cc nL) {j : Fin 4} {i : Nat} {x : Int32} (L' : List (Nat × Value)) (d : decode cc pc = .ok (.istore_n j, 1)) (hi : (j : Nat) = i) (hn : i < nL) (he : (i, Value.int x) :: L.filter (fun q => !(q.1 == i) && !(q.1 + 1 == i && q.2.category == 2)) = L') (k : MW X nL I cells slots (pc + 1) L' (st)) : MW X nL I cells slots pc L (.int x :: st) := by
  obtain ⟨p, l, e, R, s, m, args, below, meth, c, Q⟩ := X
  obtain ⟨hx, hb, hml, hown, hts⟩ := hc
  intro H locs ls hI hl
  exact lv_istore_n hx hb d hi hl hn he (fun ls hl => k H locs ls hI hl)
theorem m_istore (hc : Cx X own cc nL) {i : Nat} {x : Int32} (L' : List (Nat × Value)) (d : decode cc pc = .ok (.istore i, 2)) (hn : i < nL) (he : (i, Value.int x) :: L.filter (fun q => !(q.1 == i) && !(q.1 + 1 == i && q.2.category == 2)) = L') (k : MW X nL I cells slots (pc + 2) L' (st)) : MW X nL I cells slots pc L (.int x :: st) := by
  obtain ⟨p, l, e, R, s, m, args, below, meth, c, Q⟩ := X
  obtain ⟨hx, hb, hml, hown, hts⟩ := hc
  intro H locs ls hI hl
  exact lv_istore hx hb d hl hn he (fun ls hl => k H locs ls hI hl)
theorem m_aload_n (hc : Cx X own cc nL) {j : Fin 4} (q : Nat) {i : Nat} {x : Nat} (d : decode cc pc = .ok (.aload_n j, 1)) (hi : (j : Nat) = i) (hq : L[q]? = some (i, .ref x)) (k : MW X nL I cells slots (pc + 1) L (.ref x :: st)) : MW X nL I cells slots pc L (st) := by
  obtain ⟨p, l, e, R, s, m, args, below, meth, c, Q⟩ := X
  obtain ⟨hx, hb, hml, hown, hts⟩ := hc
  intro H locs ls hI hl
  exact lv_aload_n hx hb d hi (lv_at hl q hq) (k H locs ls hI hl)
theorem m_aload (hc : Cx X own cc nL) (q : Nat) {i : Nat} {x : Nat} (d : decode cc pc = .ok (.aload i, 2)) (hq : L[q]? = some (i, .ref x)) (k : MW X nL I cells slots (pc + 2) L (.ref x :: st)) : MW X nL I cells slots pc L (st) := by
  obtain ⟨p, l, e, R, s, m, args, below, meth, c, Q⟩ := X
  obtain ⟨hx, hb, hml, hown, hts⟩ := hc
  intro H locs ls hI hl
  exact lv_aload hx hb d (lv_at hl q hq) (k H locs ls hI hl)
theorem m_astore_n (hc : Cx X own cc nL) {j : Fin 4} {i : Nat} {x : Nat} (L' : List (Nat × Value)) (d : decode cc pc = .ok (.astore_n j, 1)) (hi : (j : Nat) = i) (hn : i < nL) (he : (i, Value.ref x) :: L.filter (fun q => !(q.1 == i) && !(q.1 + 1 == i && q.2.category == 2)) = L') (k : MW X nL I cells slots (pc + 1) L' (st)) : MW X nL I cells slots pc L (.ref x :: st) := by
  obtain ⟨p, l, e, R, s, m, args, below, meth, c, Q⟩ := X
  obtain ⟨hx, hb, hml, hown, hts⟩ := hc
  intro H locs ls hI hl
  exact lv_astore_n hx hb d hi hl hn he (fun ls hl => k H locs ls hI hl)
theorem m_astore (hc : Cx X own cc nL) {i : Nat} {x : Nat} (L' : List (Nat × Value)) (d : decode cc pc = .ok (.astore i, 2)) (hn : i < nL) (he : (i, Value.ref x) :: L.filter (fun q => !(q.1 == i) && !(q.1 + 1 == i && q.2.category == 2)) = L') (k : MW X nL I cells slots (pc + 2) L' (st)) : MW X nL I cells slots pc L (.ref x :: st) := by
  obtain ⟨p, l, e, R, s, m, args, below, meth, c, Q⟩ := X
  obtain ⟨hx, hb, hml, hown, hts⟩ := hc
  intro H locs ls hI hl
  exact lv_astore hx hb d hl hn he (fun ls hl => k H locs ls hI hl)
theorem m_iinc (hc : Cx X own cc nL) {i : Nat} {n : Int} (q : Nat) {x : Int32} (v : Int32) (L' : List (Nat × Value)) (d : decode cc pc = .ok (.iinc i n, 3)) (hq : L[q]? = some (i, .int x)) (hv : x + Int32.ofInt n = v) (hn : i < nL) (he : (i, Value.int v) :: L.filter (fun q => !(q.1 == i) && !(q.1 + 1 == i && q.2.category == 2)) = L') (k : MW X nL I cells slots (pc + 3) L' (st)) : MW X nL I cells slots pc L (st) := by
  obtain ⟨p, l, e, R, s, m, args, below, meth, c, Q⟩ := X
  obtain ⟨hx, hb, hml, hown, hts⟩ := hc
  intro H locs ls hI hl
  exact lv_iinc hx hb d hl hq hv hn he (fun ls hl => k H locs ls hI hl)
theorem m_iadd (hc : Cx X own cc nL) {x y : Int32} (d : decode cc pc = .ok (.iadd, 1)) (k : MW X nL I cells slots (pc + 1) L (.int (x + y) :: st)) : MW X nL I cells slots pc L (.int y :: .int x :: st) := by
  obtain ⟨p, l, e, R, s, m, args, below, meth, c, Q⟩ := X
  obtain ⟨hx, hb, hml, hown, hts⟩ := hc
  intro H locs ls hI hl
  exact lv_iadd hx hb d (k H locs ls hI hl)
theorem m_isub (hc : Cx X own cc nL) {x y : Int32} (d : decode cc pc = .ok (.isub, 1)) (k : MW X nL I cells slots (pc + 1) L (.int (x - y) :: st)) : MW X nL I cells slots pc L (.int y :: .int x :: st) := by
  obtain ⟨p, l, e, R, s, m, args, below, meth, c, Q⟩ := X
  obtain ⟨hx, hb, hml, hown, hts⟩ := hc
  intro H locs ls hI hl
  exact lv_isub hx hb d (k H locs ls hI hl)
theorem m_imul (hc : Cx X own cc nL) {x y : Int32} (d : decode cc pc = .ok (.imul, 1)) (k : MW X nL I cells slots (pc + 1) L (.int (x * y) :: st)) : MW X nL I cells slots pc L (.int y :: .int x :: st) := by
  obtain ⟨p, l, e, R, s, m, args, below, meth, c, Q⟩ := X
  obtain ⟨hx, hb, hml, hown, hts⟩ := hc
  intro H locs ls hI hl
  exact lv_imul hx hb d (k H locs ls hI hl)
theorem m_iand (hc : Cx X own cc nL) {x y : Int32} (d : decode cc pc = .ok (.iand, 1)) (k : MW X nL I cells slots (pc + 1) L (.int (x &&& y) :: st)) : MW X nL I cells slots pc L (.int y :: .int x :: st) := by
  obtain ⟨p, l, e, R, s, m, args, below, meth, c, Q⟩ := X
  obtain ⟨hx, hb, hml, hown, hts⟩ := hc
  intro H locs ls hI hl
  exact lv_iand hx hb d (k H locs ls hI hl)
theorem m_ior (hc : Cx X own cc nL) {x y : Int32} (d : decode cc pc = .ok (.ior, 1)) (k : MW X nL I cells slots (pc + 1) L (.int (x ||| y) :: st)) : MW X nL I cells slots pc L (.int y :: .int x :: st) := by
  obtain ⟨p, l, e, R, s, m, args, below, meth, c, Q⟩ := X
  obtain ⟨hx, hb, hml, hown, hts⟩ := hc
  intro H locs ls hI hl
  exact lv_ior hx hb d (k H locs ls hI hl)
theorem m_ishl (hc : Cx X own cc nL) {x y : Int32} (d : decode cc pc = .ok (.ishl, 1)) (k : MW X nL I cells slots (pc + 1) L (.int (x <<< (y &&& 31)) :: st)) : MW X nL I cells slots pc L (.int y :: .int x :: st) := by
  obtain ⟨p, l, e, R, s, m, args, below, meth, c, Q⟩ := X
  obtain ⟨hx, hb, hml, hown, hts⟩ := hc
  intro H locs ls hI hl
  exact lv_ishl hx hb d (k H locs ls hI hl)
theorem m_ishr (hc : Cx X own cc nL) {x y : Int32} (d : decode cc pc = .ok (.ishr, 1)) (k : MW X nL I cells slots (pc + 1) L (.int (x >>> (y &&& 31)) :: st)) : MW X nL I cells slots pc L (.int y :: .int x :: st) := by
  obtain ⟨p, l, e, R, s, m, args, below, meth, c, Q⟩ := X
  obtain ⟨hx, hb, hml, hown, hts⟩ := hc
  intro H locs ls hI hl
  exact lv_ishr hx hb d (k H locs ls hI hl)
theorem m_idiv (hc : Cx X own cc nL) {x y : Int32} (d : decode cc pc = .ok (.idiv, 1)) (hne : ¬ y = 0) (k : MW X nL I cells slots (pc + 1) L (.int (x / y) :: st)) : MW X nL I cells slots pc L (.int y :: .int x :: st) := by
  obtain ⟨p, l, e, R, s, m, args, below, meth, c, Q⟩ := X
  obtain ⟨hx, hb, hml, hown, hts⟩ := hc
  intro H locs ls hI hl
  exact lv_idiv hx hb d hne (k H locs ls hI hl)
def iRem (x y : Int32) : Int32 := x - x / y * y
theorem m_irem (hc : Cx X own cc nL) {x y : Int32} (d : decode cc pc = .ok (.irem, 1)) (hne : ¬ y = 0) (k : MW X nL I cells slots (pc + 1) L (.int (iRem x y) :: st)) : MW X nL I cells slots pc L (.int y :: .int x :: st) := by
  obtain ⟨p, l, e, R, s, m, args, below, meth, c, Q⟩ := X
  obtain ⟨hx, hb, hml, hown, hts⟩ := hc
  intro H locs ls hI hl
  exact lv_irem hx hb d hne (k H locs ls hI hl)
theorem m_ineg (hc : Cx X own cc nL) {x : Int32} (d : decode cc pc = .ok (.ineg, 1)) (k : MW X nL I cells slots (pc + 1) L (.int (-x) :: st)) : MW X nL I cells slots pc L (.int x :: st) := by
  obtain ⟨p, l, e, R, s, m, args, below, meth, c, Q⟩ := X
  obtain ⟨hx, hb, hml, hown, hts⟩ := hc
  intro H locs ls hI hl
  exact lv_ineg hx hb d (k H locs ls hI hl)
theorem m_i2b (hc : Cx X own cc nL) {x : Int32} (d : decode cc pc = .ok (.i2b, 1)) (k : MW X nL I cells slots (pc + 1) L (.int (x.toInt8.toInt32) :: st)) : MW X nL I cells slots pc L (.int x :: st) := by
  obtain ⟨p, l, e, R, s, m, args, below, meth, c, Q⟩ := X
  obtain ⟨hx, hb, hml, hown, hts⟩ := hc
  intro H locs ls hI hl
  exact lv_i2b hx hb d rfl (k H locs ls hI hl)
theorem m_dup (hc : Cx X own cc nL) {v : Value} (d : decode cc pc = .ok (.dup, 1)) (hv : v.category = 1) (k : MW X nL I cells slots (pc + 1) L (v :: v :: st)) : MW X nL I cells slots pc L (v :: st) := by
  obtain ⟨p, l, e, R, s, m, args, below, meth, c, Q⟩ := X
  obtain ⟨hx, hb, hml, hown, hts⟩ := hc
  intro H locs ls hI hl
  exact lv_dup hx hb d hv (k H locs ls hI hl)
theorem m_pop (hc : Cx X own cc nL) {v : Value} (d : decode cc pc = .ok (.pop, 1)) (hv : v.category = 1) (k : MW X nL I cells slots (pc + 1) L (st)) : MW X nL I cells slots pc L (v :: st) := by
  obtain ⟨p, l, e, R, s, m, args, below, meth, c, Q⟩ := X
  obtain ⟨hx, hb, hml, hown, hts⟩ := hc
  intro H locs ls hI hl
  exact lv_pop hx hb d hv (k H locs ls hI hl)
theorem m_dup2 (hc : Cx X own cc nL) {v w : Value} (d : decode cc pc = .ok (.dup2, 1)) (hv : v.category = 1) (hw : w.category = 1) (k : MW X nL I cells slots (pc + 1) L (v :: w :: v :: w :: st)) : MW X nL I cells slots pc L (v :: w :: st) := by
  obtain ⟨p, l, e, R, s, m, args, below, meth, c, Q⟩ := X
  obtain ⟨hx, hb, hml, hown, hts⟩ := hc
  intro H locs ls hI hl
  exact lv_dup2_11 hx hb d hv hw (k H locs ls hI hl)
theorem m_null (hc : Cx X own cc nL)  (d : decode cc pc = .ok (.aconst_null, 1)) (k : MW X nL I cells slots (pc + 1) L (.null :: st)) : MW X nL I cells slots pc L (st) := by
  obtain ⟨p, l, e, R, s, m, args, below, meth, c, Q⟩ := X
  obtain ⟨hx, hb, hml, hown, hts⟩ := hc
  intro H locs ls hI hl
  exact lv_null hx hb d (k H locs ls hI hl)
theorem m_if_eq (hc : Cx X own cc nL) {x : Int32} {off : Int} (tgt : Nat) (d : decode cc pc = .ok (.ifCond .eq off, 3)) (ht : (pc : Int) + off = (tgt : Int)) (kt : x = 0 → MW X nL I cells slots tgt L st) (kf : ¬ (x = 0) → MW X nL I cells slots (pc + 3) L st) : MW X nL I cells slots pc L (.int x :: st) := by
  obtain ⟨p, l, e, R, s, m, args, below, meth, c, Q⟩ := X
  obtain ⟨hx, hb, hml, hown, hts⟩ := hc
  intro H locs ls hI hl
  exact lv_if_eq hx hb d ht (fun h => kt h H locs ls hI hl) (fun h => kf h H locs ls hI hl)
theorem m_icmp_eq (hc : Cx X own cc nL) {x y : Int32} {off : Int} (tgt : Nat) (d : decode cc pc = .ok (.if_icmp .eq off, 3)) (ht : (pc : Int) + off = (tgt : Int)) (kt : x = y → MW X nL I cells slots tgt L st) (kf : ¬ (x = y) → MW X nL I cells slots (pc + 3) L st) : MW X nL I cells slots pc L (.int y :: .int x :: st) := by
  obtain ⟨p, l, e, R, s, m, args, below, meth, c, Q⟩ := X
  obtain ⟨hx, hb, hml, hown, hts⟩ := hc
  intro H locs ls hI hl
  exact lv_icmp_eq hx hb d ht (fun h => kt h H locs ls hI hl) (fun h => kf h H locs ls hI hl)
theorem m_if_ne (hc : Cx X own cc nL) {x : Int32} {off : Int} (tgt : Nat) (d : decode cc pc = .ok (.ifCond .ne off, 3)) (ht : (pc : Int) + off = (tgt : Int)) (kt : ¬ x = 0 → MW X nL I cells slots tgt L st) (kf : x = 0 → MW X nL I cells slots (pc + 3) L st) : MW X nL I cells slots pc L (.int x :: st) := by
  obtain ⟨p, l, e, R, s, m, args, below, meth, c, Q⟩ := X
  obtain ⟨hx, hb, hml, hown, hts⟩ := hc
  intro H locs ls hI hl
  exact lv_if_ne hx hb d ht (fun h => kt h H locs ls hI hl) (fun h => kf h H locs ls hI hl)
theorem m_icmp_ne (hc : Cx X own cc nL) {x y : Int32} {off : Int} (tgt : Nat) (d : decode cc pc = .ok (.if_icmp .ne off, 3)) (ht : (pc : Int) + off = (tgt : Int)) (kt : ¬ x = y → MW X nL I cells slots tgt L st) (kf : x = y → MW X nL I cells slots (pc + 3) L st) : MW X nL I cells slots pc L (.int y :: .int x :: st) := by
  obtain ⟨p, l, e, R, s, m, args, below, meth, c, Q⟩ := X
  obtain ⟨hx, hb, hml, hown, hts⟩ := hc
  intro H locs ls hI hl
  exact lv_icmp_ne hx hb d ht (fun h => kt h H locs ls hI hl) (fun h => kf h H locs ls hI hl)
theorem m_if_lt (hc : Cx X own cc nL) {x : Int32} {off : Int} (tgt : Nat) (d : decode cc pc = .ok (.ifCond .lt off, 3)) (ht : (pc : Int) + off = (tgt : Int)) (kt : x < 0 → MW X nL I cells slots tgt L st) (kf : ¬ (x < 0) → MW X nL I cells slots (pc + 3) L st) : MW X nL I cells slots pc L (.int x :: st) := by
  obtain ⟨p, l, e, R, s, m, args, below, meth, c, Q⟩ := X
  obtain ⟨hx, hb, hml, hown, hts⟩ := hc
  intro H locs ls hI hl
  exact lv_if_lt hx hb d ht (fun h => kt h H locs ls hI hl) (fun h => kf h H locs ls hI hl)
theorem m_icmp_lt (hc : Cx X own cc nL) {x y : Int32} {off : Int} (tgt : Nat) (d : decode cc pc = .ok (.if_icmp .lt off, 3)) (ht : (pc : Int) + off = (tgt : Int)) (kt : x < y → MW X nL I cells slots tgt L st) (kf : ¬ (x < y) → MW X nL I cells slots (pc + 3) L st) : MW X nL I cells slots pc L (.int y :: .int x :: st) := by
  obtain ⟨p, l, e, R, s, m, args, below, meth, c, Q⟩ := X
  obtain ⟨hx, hb, hml, hown, hts⟩ := hc
  intro H locs ls hI hl
  exact lv_icmp_lt hx hb d ht (fun h => kt h H locs ls hI hl) (fun h => kf h H locs ls hI hl)
theorem m_if_ge (hc : Cx X own cc nL) {x : Int32} {off : Int} (tgt : Nat) (d : decode cc pc = .ok (.ifCond .ge off, 3)) (ht : (pc : Int) + off = (tgt : Int)) (kt : 0 ≤ x → MW X nL I cells slots tgt L st) (kf : ¬ (0 ≤ x) → MW X nL I cells slots (pc + 3) L st) : MW X nL I cells slots pc L (.int x :: st) := by
  obtain ⟨p, l, e, R, s, m, args, below, meth, c, Q⟩ := X
  obtain ⟨hx, hb, hml, hown, hts⟩ := hc
  intro H locs ls hI hl
  exact lv_if_ge hx hb d ht (fun h => kt h H locs ls hI hl) (fun h => kf h H locs ls hI hl)
theorem m_icmp_ge (hc : Cx X own cc nL) {x y : Int32} {off : Int} (tgt : Nat) (d : decode cc pc = .ok (.if_icmp .ge off, 3)) (ht : (pc : Int) + off = (tgt : Int)) (kt : y ≤ x → MW X nL I cells slots tgt L st) (kf : ¬ (y ≤ x) → MW X nL I cells slots (pc + 3) L st) : MW X nL I cells slots pc L (.int y :: .int x :: st) := by
  obtain ⟨p, l, e, R, s, m, args, below, meth, c, Q⟩ := X
  obtain ⟨hx, hb, hml, hown, hts⟩ := hc
  intro H locs ls hI hl
  exact lv_icmp_ge hx hb d ht (fun h => kt h H locs ls hI hl) (fun h => kf h H locs ls hI hl)
theorem m_if_gt (hc : Cx X own cc nL) {x : Int32} {off : Int} (tgt : Nat) (d : decode cc pc = .ok (.ifCond .gt off, 3)) (ht : (pc : Int) + off = (tgt : Int)) (kt : 0 < x → MW X nL I cells slots tgt L st) (kf : ¬ (0 < x) → MW X nL I cells slots (pc + 3) L st) : MW X nL I cells slots pc L (.int x :: st) := by
  obtain ⟨p, l, e, R, s, m, args, below, meth, c, Q⟩ := X
  obtain ⟨hx, hb, hml, hown, hts⟩ := hc
  intro H locs ls hI hl
  exact lv_if_gt hx hb d ht (fun h => kt h H locs ls hI hl) (fun h => kf h H locs ls hI hl)
theorem m_icmp_gt (hc : Cx X own cc nL) {x y : Int32} {off : Int} (tgt : Nat) (d : decode cc pc = .ok (.if_icmp .gt off, 3)) (ht : (pc : Int) + off = (tgt : Int)) (kt : y < x → MW X nL I cells slots tgt L st) (kf : ¬ (y < x) → MW X nL I cells slots (pc + 3) L st) : MW X nL I cells slots pc L (.int y :: .int x :: st) := by
  obtain ⟨p, l, e, R, s, m, args, below, meth, c, Q⟩ := X
  obtain ⟨hx, hb, hml, hown, hts⟩ := hc
  intro H locs ls hI hl
  exact lv_icmp_gt hx hb d ht (fun h => kt h H locs ls hI hl) (fun h => kf h H locs ls hI hl)
theorem m_if_le (hc : Cx X own cc nL) {x : Int32} {off : Int} (tgt : Nat) (d : decode cc pc = .ok (.ifCond .le off, 3)) (ht : (pc : Int) + off = (tgt : Int)) (kt : x ≤ 0 → MW X nL I cells slots tgt L st) (kf : ¬ (x ≤ 0) → MW X nL I cells slots (pc + 3) L st) : MW X nL I cells slots pc L (.int x :: st) := by
  obtain ⟨p, l, e, R, s, m, args, below, meth, c, Q⟩ := X
  obtain ⟨hx, hb, hml, hown, hts⟩ := hc
  intro H locs ls hI hl
  exact lv_if_le hx hb d ht (fun h => kt h H locs ls hI hl) (fun h => kf h H locs ls hI hl)
theorem m_icmp_le (hc : Cx X own cc nL) {x y : Int32} {off : Int} (tgt : Nat) (d : decode cc pc = .ok (.if_icmp .le off, 3)) (ht : (pc : Int) + off = (tgt : Int)) (kt : x ≤ y → MW X nL I cells slots tgt L st) (kf : ¬ (x ≤ y) → MW X nL I cells slots (pc + 3) L st) : MW X nL I cells slots pc L (.int y :: .int x :: st) := by
  obtain ⟨p, l, e, R, s, m, args, below, meth, c, Q⟩ := X
  obtain ⟨hx, hb, hml, hown, hts⟩ := hc
  intro H locs ls hI hl
  exact lv_icmp_le hx hb d ht (fun h => kt h H locs ls hI hl) (fun h => kf h H locs ls hI hl)
theorem m_goto (hc : Cx X own cc nL) {off : Int} (tgt : Nat) (d : decode cc pc = .ok (.goto off, 3)) (ht : (pc : Int) + off = (tgt : Int)) (k : MW X nL I cells slots tgt L st) : MW X nL I cells slots pc L st := by
  obtain ⟨p, l, e, R, s, m, args, below, meth, c, Q⟩ := X
  obtain ⟨hx, hb, hml, hown, hts⟩ := hc
  intro H locs ls hI hl
  exact lv_goto hx hb d ht (k H locs ls hI hl)
theorem m_tin (hc : Cx X own cc nL) {dflt lo hi : Int} {offs : Array Int} {len : Nat} {x : Int32} {off : Int} (tgt : Nat) (d : decode cc pc = .ok (.tableswitch dflt lo hi offs, len)) (h1 : ¬ x.toInt < lo) (h2 : ¬ hi < x.toInt) (ho : offs[(x.toInt - lo).toNat]? = some off) (ht : (pc : Int) + off = (tgt : Int)) (k : MW X nL I cells slots tgt L st) : MW X nL I cells slots pc L (.int x :: st) := by
  obtain ⟨p, l, e, R, s, m, args, below, meth, c, Q⟩ := X
  obtain ⟨hx, hb, hml, hown, hts⟩ := hc
  intro H locs ls hI hl
  exact lv_tableIn hx hb d h1 h2 ho ht (k H locs ls hI hl)
theorem m_tout (hc : Cx X own cc nL) {dflt lo hi : Int} {offs : Array Int} {len : Nat} {x : Int32} (tgt : Nat) (d : decode cc pc = .ok (.tableswitch dflt lo hi offs, len)) (h : x.toInt < lo ∨ hi < x.toInt) (ht : (pc : Int) + dflt = (tgt : Int)) (k : MW X nL I cells slots tgt L st) : MW X nL I cells slots pc L (.int x :: st) := by
  obtain ⟨p, l, e, R, s, m, args, below, meth, c, Q⟩ := X
  obtain ⟨hx, hb, hml, hown, hts⟩ := hc
  intro H locs ls hI hl
  exact lv_tableOut hx hb d h ht (k H locs ls hI hl)
theorem m_look (hc : Cx X own cc nL) {dflt : Int} {ps : Array (Int × Int)} {len : Nat} {x : Int32} {off : Int} (tgt : Nat) (d : decode cc pc = .ok (.lookupswitch dflt ps, len)) (hp : (ps.toList.zip (ps.toList.drop 1)).all (fun (a, next) => a.1 < next.1) = true) (ho : Op.lookupswitch.offset ps.toList dflt x.toInt = off) (ht : (pc : Int) + off = (tgt : Int)) (k : MW X nL I cells slots tgt L st) : MW X nL I cells slots pc L (.int x :: st) := by
  obtain ⟨p, l, e, R, s, m, args, below, meth, c, Q⟩ := X
  obtain ⟨hx, hb, hml, hown, hts⟩ := hc
  intro H locs ls hI hl
  exact lv_lookup hx hb d hp ho ht (k H locs ls hI hl)
theorem m_mmax (hc : Cx X own cc nL) {idx : Nat} {x y : Int32} (d : decode cc pc = .ok (.invokestatic idx, 3)) (lk : Cond.methodLink own idx Lib.Math.max.name ∈ lw_good) (l2 : Cond.static Lib.Math.max.name ∈ lw_good ∧ Cond.initialized "java/lang/Math" ∈ lw_good ∧ Cond.code Lib.Math.max.name Lib.Math.max.code 2 (some .int) ∈ lw_good) (hR : 1 ≤ (fRoom X).frames ∧ 30 ≤ (fRoom X).locals ∧ cells ≤ (fRoom X).cells ∧ slots ≤ (fRoom X).slots) (hs : (st.map fun v => v.category).sum ≤ 17)
    (k : MW X nL I cells slots (pc + 3) L (.int (if x < y then y else x) :: st)) : MW X nL I cells slots pc L (.int y :: .int x :: st) := by
  obtain ⟨p, l, e, R, s, m, args, below, meth, c, Q⟩ := X
  obtain ⟨hx, hb, hml, hown, hts⟩ := hc
  intro H locs ls hI hl
  obtain ⟨h1, h2, h3, h4⟩ := hR
  exact va_mmax hx hb (hml.trans hl.1.symm) hown (hts _ lk) (hts _ l2.1) (hts _ l2.2.1) (hts _ l2.2.2) h1 (by have : 30 ≤ R.locals := h2; omega) h3 h4 d (k H locs ls hI hl)
theorem m_mmin (hc : Cx X own cc nL) {idx : Nat} {x y : Int32} (d : decode cc pc = .ok (.invokestatic idx, 3)) (lk : Cond.methodLink own idx Lib.Math.min.name ∈ lw_good) (l2 : Cond.static Lib.Math.min.name ∈ lw_good ∧ Cond.initialized "java/lang/Math" ∈ lw_good ∧ Cond.code Lib.Math.min.name Lib.Math.min.code 2 (some .int) ∈ lw_good) (hR : 1 ≤ (fRoom X).frames ∧ 30 ≤ (fRoom X).locals ∧ cells ≤ (fRoom X).cells ∧ slots ≤ (fRoom X).slots) (hs : (st.map fun v => v.category).sum ≤ 17)
    (k : MW X nL I cells slots (pc + 3) L (.int (if y < x then y else x) :: st)) : MW X nL I cells slots pc L (.int y :: .int x :: st) := by
  obtain ⟨p, l, e, R, s, m, args, below, meth, c, Q⟩ := X
  obtain ⟨hx, hb, hml, hown, hts⟩ := hc
  intro H locs ls hI hl
  obtain ⟨h1, h2, h3, h4⟩ := hR
  exact va_mmin hx hb (hml.trans hl.1.symm) hown (hts _ lk) (hts _ l2.1) (hts _ l2.2.1) (hts _ l2.2.2) h1 (by have : 30 ≤ R.locals := h2; omega) h3 h4 d (k H locs ls hI hl)
theorem m_topi {x : Int32} (k : ∀ v : Int32, v = x → MW X nL I cells slots pc L (.int v :: st)) : MW X nL I cells slots pc L (.int x :: st) := k x rfl
theorem sw_in (n : Nat) {x : Int32} (hn : n ≤ 1000) : (x.toInt < 0 ∨ (n : Int) < x.toInt) ∨ ∃ c : Nat, c ≤ n ∧ x = nI c := by
  by_cases h : x.toInt < 0 ∨ (n : Int) < x.toInt
  · exact Or.inl h
  · refine Or.inr ⟨x.toInt.toNat, by omega, ?_⟩
    apply Int32.toInt_inj.mp
    rw [nI_toInt (by omega)]
    omega
theorem lk_no {x : Int32} {r : List (Int × Int)} {a o dflt off : Int} (c : Int32) (h : ¬ x = c) (hc : c.toInt = a) (h2 : Op.lookupswitch.offset r dflt x.toInt = off) : Op.lookupswitch.offset ((a, o) :: r) dflt x.toInt = off := by
  rw [Op.lookupswitch.offset_cons, if_neg, h2]
  intro e
  exact h (Int32.toInt_inj.mp (by rw [hc]; first | exact e | exact e.symm))
end MWR
/-- the slots of a heap -/
def hsum (H : Heap) : Nat := (H.toList.map (fun c => c.slots.size)).sum
theorem hsum_set {H H' : Heap} {a : Nat} {c c' : Cell} (hz : H'.size = H.size) (ho : ∀ q : Nat, q ≠ a → H'[q]? = H[q]?) (h1 : H[a]? = some c) (h2 : H'[a]? = some c') (hs : c'.slots.size = c.slots.size) : hsum H' = hsum H := by
  unfold hsum
  congr 1
  apply List.ext_getElem?
  intro q
  rw [List.getElem?_map, List.getElem?_map, Array.getElem?_toList, Array.getElem?_toList]
  by_cases hq : q = a
  · subst hq
    rw [h1, h2]
    simp [hs]
  · rw [ho q hq]
theorem hsum_push {H H' : Heap} {c : Cell} (hz : H'.size = H.size + 1) (ho : ∀ q : Nat, q < H.size → H'[q]? = H[q]?) (h1 : H'[H.size]? = some c) : hsum H' = hsum H + c.slots.size := by
  have h : H'.toList.map (fun c => c.slots.size) = H.toList.map (fun c => c.slots.size) ++ [c.slots.size] := by
    apply List.ext_getElem?
    intro q
    by_cases hq : q < H.size
    · rw [List.getElem?_append_left (by simpa using hq), List.getElem?_map, List.getElem?_map, Array.getElem?_toList, Array.getElem?_toList, ho q hq]
    · rw [List.getElem?_append_right (by simpa using Nat.le_of_not_lt hq), List.getElem?_map, Array.getElem?_toList, List.length_map, Array.length_toList]
      by_cases e : q = H.size
      · subst e
        rw [h1]
        simp
      · have h2 : H'[q]? = none := by
          apply Array.getElem?_eq_none
          omega
        have h3 : q - H.size = (q - H.size - 1) + 1 := by omega
        rw [h2, h3]
        simp
  unfold hsum
  rw [h, List.sum_append]
  simp
theorem foldl_sum (l : List Cell) : ∀ n : Nat, l.foldl (fun n c => n + c.slots.size) n = n + (l.map (fun c => c.slots.size)).sum := by
  induction l with
  | nil => intro n; simp
  | cons c l ih => intro n; simp only [List.foldl_cons, List.map_cons, List.sum_cons]; rw [ih]; omega
theorem slots_hsum {U : State} (h : U.slotsTrue = true) : U.slotsUsed = hsum U.heap := by
  have h1 : U.slotsUsed = U.heap.foldl (fun n c => n + c.slots.size) 0 := by simpa [State.slotsTrue] using h
  rw [h1, ← Array.foldl_toList, foldl_sum]
  unfold hsum
  omega
/-- the cells and slots that a walk counts, as the heap has them -/
theorem W.tight {p : Program} {l : Launch} {e : Env} {R : Room} {s : State} {m : MethodId} {args : Array Value} {below : List Frame} {meth : Method} {c : Code} {H : Heap} {locs : List Loc} {cells slots cells' slots' : Nat} {Q : State → Prop} {g : JFrame} (h1 : H.size ≤ s.heap.size + cells') (h2 : hsum H ≤ hsum s.heap + slots') (k : W p l e R s m args below meth c H locs cells' slots' Q g) : W p l e R s m args below meth c H locs cells slots Q g := by
  intro T hT X
  have hb := X.book
  have hs : s.slotsTrue = true := by
    have h := X.room
    simp only [State.hasRoom, Bool.and_eq_true] at h
    exact h.2
  have e1 := slots_hsum hb
  have e2 := slots_hsum hs
  obtain ⟨q1, q2, q3, q4, q5, q6⟩ := X.same
  refine k T hT { X with same := ⟨q1, q2, ?_, q4, ?_, q6⟩ }
  · show T.heap.size ≤ _
    rw [hT]; exact h1
  · have q4' : T.slotsUsed = s.slotsUsed + _ := q4
    rw [e1, e2, hT] at q4'
    omega
