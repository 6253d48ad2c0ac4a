/-! Calls. -/
section CCL
variable {G : CG} {S0 S : HS} {X : Fx} {k : Nat} {rt : Option FieldType} {K : Option Value → HS → Prop} {own : String} {cc : ByteArray} {nL pc : Nat} {L : List (Nat × Value)} {st : List Value} {ci N : Nat} {C : String} {T : u_T} {ty : Nat → FieldType} {a idx : Nat}
variable {y : MethodName} {cc' : ByteArray} {nL' n k' : Nat} {rt' : Option FieldType} {K' : Option Value → HS → Prop} {As rest : List Value}
/-- the words of a constructor -/
def MtI (y : MethodName) (cc : ByteArray) (nL n : Nat) : Prop := Cond.code y cc nL none ∈ lw_good ∧ Cond.initialized y.cls ∈ lw_good ∧ Cond.instanceMethod y ∈ lw_good ∧ y.name = "<init>" ∧ nL ≤ 45 ∧ (y.cls ≠ "java/lang/invoke/MethodHandle" ∧ y.cls ≠ "java/lang/invoke/VarHandle" ∧ (parseMethodDescriptor y.desc).map (fun d => d.parameters.length) = some n)
theorem c_callV (hc : Cx X own cc nL) (hr : Cc G S0 k rt K X) (hi : cInf ci C T N ty) (hci : ci < 20) (ha : hT S a = ci + 1) (mt : MtV y cc' nL' rt' n) (hy : y.cls = C) (lk : Cond.methodLink own idx y ∈ lw_good) (hM : CC k' y cc' nL' rt' (.ref a :: As) G S K') (hk : k' < k) (d : decode cc pc = .ok (.invokevirtual idx, 3)) (hn : As.length = n) (hst : st = As.reverse ++ .ref a :: rest) (hw : (rest.map fun v => v.category).sum ≤ 8)
    (kk : ∀ (v : Option Value) (S' : HS), K' v S' → MC G S0 X nL S' (pc + 3) L (v.toList ++ rest)) : MC G S0 X nL S pc L st := by
  have hr0 := hr
  obtain ⟨p, l, e, Rm, s, m, args, below, meth, c, Q⟩ := X
  obtain ⟨hx, hb, hml, hown, hts⟩ := hc
  obtain ⟨hK, ⟨N9, hN9, rfl⟩, -, -, -, h0, h1, -, hNs⟩ := hr
  intro H locs ls hI hl
  obtain ⟨N', rfl⟩ : ∃ N', N9 = N' + 1 := ⟨N9 - 1, by omega⟩
  obtain ⟨m1, m2, m3, m4, m5, m6⟩ := mt
  have hG : GoodIn lw_good (Cond.code y cc' nL' rt' :: lw_good) := fun w h => (List.mem_cons.mp h).elim (fun e => e ▸ lw_gg _ m1) (lw_gg w)
  have cb : CallB (rmC G (N' + 1) S0) s args own idx y cc' nL' rt' (Cond.code y cc' nL' rt' :: lw_good) (rmC G N' S) (gC G - hX S) (gS G - hS S) n := callB_of n hts hG rfl rfl rfl (hts _ m2) (hts _ lk) m6 ⟨Nat.le_refl _, by show 8 + (nL' + 11) + 64 * N' ≤ 64 * (N' + 1); omega⟩
  have hl1 := hI.2.2.2.1
  have hl2 := hI.2.2.2.2
  have hg1 := hI.1.2.2.2.1
  have hg2 := hI.1.2.2.2.2
  have hf : hX S - hX S0 + (gC G - hX S) ≤ (rmC G (N' + 1) S0).cells ∧ hS S - hS S0 + (gS G - hS S) ≤ (rmC G (N' + 1) S0).slots := by
    show _ ≤ gC G - hX S0 ∧ _ ≤ gS G - hS S0
    omega
  refine c_after (S := S) h0 h1 (va_runV (As := As) (rest := rest) ⟨hx, hb, hml, hown, hts⟩ (hM l N' (by omega)) (C := y.cls) ⟨cb, hts _ m3, hts _ m4⟩ ⟨c_blind, ?_, c_pre hr0 hI _⟩ rfl hn hl.1 hst (lv_room hw) d hf) hI (fun v S' hk H1 locs1 hI1 => kk v S' hk H1 locs1 ls hI1 hl)
  rw [hy]
  exact va_recv hK (hI.1.one (by rw [ha]; omega)) hi.1 (q0 := 0) (by rw [cE_o ha hci]; rfl)
theorem c_callS (hc : Cx X own cc nL) (hr : Cc G S0 k rt K X) (mt : MtS y cc' nL' rt' n) (lk : Cond.methodLink own idx y ∈ lw_good) (hM : CC k' y cc' nL' rt' As G S K') (hk : k' < k) (d : decode cc pc = .ok (.invokestatic idx, 3)) (hn : As.length = n) (hst : st = As.reverse ++ rest) (hw : (rest.map fun v => v.category).sum ≤ 8)
    (kk : ∀ (v : Option Value) (S' : HS), K' v S' → MC G S0 X nL S' (pc + 3) L (v.toList ++ rest)) : MC G S0 X nL S pc L st := by
  have hr0 := hr
  obtain ⟨p, l, e, Rm, s, m, args, below, meth, c, Q⟩ := X
  obtain ⟨hx, hb, hml, hown, hts⟩ := hc
  obtain ⟨hK, ⟨N9, hN9, rfl⟩, -, -, -, h0, h1, -, hNs⟩ := hr
  intro H locs ls hI hl
  obtain ⟨N', rfl⟩ : ∃ N', N9 = N' + 1 := ⟨N9 - 1, by omega⟩
  obtain ⟨m1, m2, m3, m5, m6⟩ := mt
  have hG : GoodIn lw_good (Cond.code y cc' nL' rt' :: lw_good) := fun w h => (List.mem_cons.mp h).elim (fun e => e ▸ lw_gg _ m1) (lw_gg w)
  have cb : CallB (rmC G (N' + 1) S0) s args own idx y cc' nL' rt' (Cond.code y cc' nL' rt' :: lw_good) (rmC G N' S) (gC G - hX S) (gS G - hS S) n := callB_of n hts hG rfl rfl rfl (hts _ m2) (hts _ lk) m6 ⟨Nat.le_refl _, by show 8 + (nL' + 11) + 64 * N' ≤ 64 * (N' + 1); omega⟩
  have hl1 := hI.2.2.2.1
  have hl2 := hI.2.2.2.2
  have hg1 := hI.1.2.2.2.1
  have hg2 := hI.1.2.2.2.2
  have hf : hX S - hX S0 + (gC G - hX S) ≤ (rmC G (N' + 1) S0).cells ∧ hS S - hS S0 + (gS G - hS S) ≤ (rmC G (N' + 1) S0).slots := by
    show _ ≤ gC G - hX S0 ∧ _ ≤ gS G - hS S0
    omega
  exact c_after (S := S) h0 h1 (va_runS (As := As) (rest := rest) ⟨hx, hb, hml, hown, hts⟩ (hM l N' (by omega)) ⟨cb, hts _ m3⟩ ⟨c_blind, c_pre hr0 hI _⟩ rfl hn hl.1 hst (lv_room hw) d hf) hI (fun v S' hk H1 locs1 hI1 => kk v S' hk H1 locs1 ls hI1 hl)
theorem c_callI (hc : Cx X own cc nL) (hr : Cc G S0 k rt K X) (mt : MtI y cc' nL' n) (lk : Cond.methodLink own idx y ∈ lw_good) (hM : CC k' y cc' nL' none (.ref a :: As) G S K') (hk : k' < k) (d : decode cc pc = .ok (.invokespecial idx, 3)) (hn : As.length = n) (hst : st = As.reverse ++ .ref a :: rest) (hw : (rest.map fun v => v.category).sum ≤ 8)
    (kk : ∀ (v : Option Value) (S' : HS), K' v S' → MC G S0 X nL S' (pc + 3) L (v.toList ++ rest)) : MC G S0 X nL S pc L st := by
  have hr0 := hr
  obtain ⟨p, l, e, Rm, s, m, args, below, meth, c, Q⟩ := X
  obtain ⟨hx, hb, hml, hown, hts⟩ := hc
  obtain ⟨hK, ⟨N9, hN9, rfl⟩, -, -, -, h0, h1, -, hNs⟩ := hr
  intro H locs ls hI hl
  obtain ⟨N', rfl⟩ : ∃ N', N9 = N' + 1 := ⟨N9 - 1, by omega⟩
  obtain ⟨m1, m2, m3, m4, m5, m6⟩ := mt
  have hG : GoodIn lw_good (Cond.code y cc' nL' none :: lw_good) := fun w h => (List.mem_cons.mp h).elim (fun e => e ▸ lw_gg _ m1) (lw_gg w)
  have cb : CallB (rmC G (N' + 1) S0) s args own idx y cc' nL' none (Cond.code y cc' nL' none :: lw_good) (rmC G N' S) (gC G - hX S) (gS G - hS S) n := callB_of n hts hG rfl rfl rfl (hts _ m2) (hts _ lk) m6 ⟨Nat.le_refl _, by show 8 + (nL' + 11) + 64 * N' ≤ 64 * (N' + 1); omega⟩
  have hl1 := hI.2.2.2.1
  have hl2 := hI.2.2.2.2
  have hg1 := hI.1.2.2.2.1
  have hg2 := hI.1.2.2.2.2
  have hf : hX S - hX S0 + (gC G - hX S) ≤ (rmC G (N' + 1) S0).cells ∧ hS S - hS S0 + (gS G - hS S) ≤ (rmC G (N' + 1) S0).slots := by
    show _ ≤ gC G - hX S0 ∧ _ ≤ gS G - hS S0
    omega
  exact c_after (S := S) h0 h1 (va_runI (As := As) (rest := rest) ⟨hx, hb, hml, hown, hts⟩ (hM l N' (by omega)) ⟨cb, m4, hts _ m3⟩ ⟨c_blind, c_pre hr0 hI _⟩ rfl hn hl.1 hst (lv_room hw) d hf) hI (fun v S' hk H1 locs1 hI1 => kk v S' hk H1 locs1 ls hI1 hl)
theorem c_callN (hc : Cx X own cc nL) (hr : Cc G S0 k rt K X) (mt : MtI y cc' nL' n) {host : String} (lk : (own, idx, y, host) ∈ nestL) (hM : CC k' y cc' nL' none (.ref a :: As) G S K') (hk : k' < k) (d : decode cc pc = .ok (.invokespecial idx, 3)) (hn : As.length = n) (hst : st = As.reverse ++ .ref a :: rest) (hw : (rest.map fun v => v.category).sum ≤ 8)
    (kk : ∀ (v : Option Value) (S' : HS), K' v S' → MC G S0 X nL S' (pc + 3) L (v.toList ++ rest)) : MC G S0 X nL S pc L st := by
  have hr0 := hr
  obtain ⟨p, l, e, Rm, s, m, args, below, meth, c, Q⟩ := X
  obtain ⟨hx, hb, hml, hown, hts⟩ := hc
  obtain ⟨hK, ⟨N9, hN9, rfl⟩, -, -, -, h0, h1, -, hNs⟩ := hr
  intro H locs ls hI hl
  obtain ⟨N', rfl⟩ : ∃ N', N9 = N' + 1 := ⟨N9 - 1, by omega⟩
  obtain ⟨m1, m2, m3, m4, m5, m6⟩ := mt
  have hG : GoodIn lw_good (Cond.code y cc' nL' none :: lw_good) := fun w h => (List.mem_cons.mp h).elim (fun e => e ▸ lw_gg _ m1) (lw_gg w)
  have cb : va_CN (rmC G (N' + 1) S0) s args own idx y host cc' nL' none (Cond.code y cc' nL' none :: lw_good) (rmC G N' S) (gC G - hX S) (gS G - hS S) n := va_cnB n hts hG rfl rfl rfl (hNs.1 _ lk) (hts _ m2) m6 ⟨Nat.le_refl _, by show 8 + (nL' + 11) + 64 * N' ≤ 64 * (N' + 1); omega⟩
  have hl1 := hI.2.2.2.1
  have hl2 := hI.2.2.2.2
  have hg1 := hI.1.2.2.2.1
  have hg2 := hI.1.2.2.2.2
  have hf : hX S - hX S0 + (gC G - hX S) ≤ (rmC G (N' + 1) S0).cells ∧ hS S - hS S0 + (gS G - hS S) ≤ (rmC G (N' + 1) S0).slots := by
    show _ ≤ gC G - hX S0 ∧ _ ≤ gS G - hS S0
    omega
  exact c_after (S := S) h0 h1 (va_runIN (As := As) (rest := rest) ⟨hx, hb, hml, hown, hts⟩ (hM l N' (by omega)) ⟨cb, m4, hts _ m3⟩ ⟨c_blind, c_pre hr0 hI _⟩ rfl hn hl.1 hst (lv_room hw) d hf) hI (fun v S' hk H1 locs1 hI1 => kk v S' hk H1 locs1 ls hI1 hl)
theorem c_callVi {K1 : Int32 → HS → Prop} (hc : Cx X own cc nL) (hr : Cc G S0 k rt K X) (hi : cInf ci C T N ty) (hci : ci < 20) (ha : hT S a = ci + 1) (mt : MtV y cc' nL' rt' n) (hy : y.cls = C) (lk : Cond.methodLink own idx y ∈ lw_good) (hM : CC k' y cc' nL' rt' (.ref a :: As) G S (kI K1)) (hk : k' < k) (d : decode cc pc = .ok (.invokevirtual idx, 3)) (hn : As.length = n) (hst : st = As.reverse ++ .ref a :: rest) (hw : (rest.map fun v => v.category).sum ≤ 8)
    (kk : ∀ (x : Int32) (S' : HS), K1 x S' → MC G S0 X nL S' (pc + 3) L (.int x :: rest)) : MC G S0 X nL S pc L st := c_callV hc hr hi hci ha mt hy lk hM hk d hn hst hw (fun v S' h => by obtain ⟨x, rfl, h⟩ := h; exact kk x S' h)
theorem c_callVv {K1 : Int32 → HS → Prop} (hc : Cx X own cc nL) (hr : Cc G S0 k rt K X) (hi : cInf ci C T N ty) (hci : ci < 20) (ha : hT S a = ci + 1) (mt : MtV y cc' nL' rt' n) (hy : y.cls = C) (lk : Cond.methodLink own idx y ∈ lw_good) (hM : CC k' y cc' nL' rt' (.ref a :: As) G S (kV K1)) (hk : k' < k) (d : decode cc pc = .ok (.invokevirtual idx, 3)) (hn : As.length = n) (hst : st = As.reverse ++ .ref a :: rest) (hw : (rest.map fun v => v.category).sum ≤ 8)
    (kk : ∀ (S' : HS), K1 0 S' → MC G S0 X nL S' (pc + 3) L rest) : MC G S0 X nL S pc L st := c_callV hc hr hi hci ha mt hy lk hM hk d hn hst hw (fun v S' h => by obtain ⟨rfl, h⟩ := h; exact kk S' h)
theorem c_callVq {K1 : Option Nat → HS → Prop} (hc : Cx X own cc nL) (hr : Cc G S0 k rt K X) (hi : cInf ci C T N ty) (hci : ci < 20) (ha : hT S a = ci + 1) (mt : MtV y cc' nL' rt' n) (hy : y.cls = C) (lk : Cond.methodLink own idx y ∈ lw_good) (hM : CC k' y cc' nL' rt' (.ref a :: As) G S (kR K1)) (hk : k' < k) (d : decode cc pc = .ok (.invokevirtual idx, 3)) (hn : As.length = n) (hst : st = As.reverse ++ .ref a :: rest) (hw : (rest.map fun v => v.category).sum ≤ 8)
    (kk : ∀ (x : Option Nat) (S' : HS), K1 x S' → MC G S0 X nL S' (pc + 3) L (va_rf x :: rest)) : MC G S0 X nL S pc L st := c_callV hc hr hi hci ha mt hy lk hM hk d hn hst hw (fun v S' h => by obtain ⟨x, rfl, h⟩ := h; exact kk x S' h)
theorem c_callSi {K1 : Int32 → HS → Prop} (hc : Cx X own cc nL) (hr : Cc G S0 k rt K X) (mt : MtS y cc' nL' rt' n) (lk : Cond.methodLink own idx y ∈ lw_good) (hM : CC k' y cc' nL' rt' As G S (kI K1)) (hk : k' < k) (d : decode cc pc = .ok (.invokestatic idx, 3)) (hn : As.length = n) (hst : st = As.reverse ++ rest) (hw : (rest.map fun v => v.category).sum ≤ 8)
    (kk : ∀ (x : Int32) (S' : HS), K1 x S' → MC G S0 X nL S' (pc + 3) L (.int x :: rest)) : MC G S0 X nL S pc L st := c_callS hc hr mt lk hM hk d hn hst hw (fun v S' h => by obtain ⟨x, rfl, h⟩ := h; exact kk x S' h)
theorem c_callSv {K1 : Int32 → HS → Prop} (hc : Cx X own cc nL) (hr : Cc G S0 k rt K X) (mt : MtS y cc' nL' rt' n) (lk : Cond.methodLink own idx y ∈ lw_good) (hM : CC k' y cc' nL' rt' As G S (kV K1)) (hk : k' < k) (d : decode cc pc = .ok (.invokestatic idx, 3)) (hn : As.length = n) (hst : st = As.reverse ++ rest) (hw : (rest.map fun v => v.category).sum ≤ 8)
    (kk : ∀ (S' : HS), K1 0 S' → MC G S0 X nL S' (pc + 3) L rest) : MC G S0 X nL S pc L st := c_callS hc hr mt lk hM hk d hn hst hw (fun v S' h => by obtain ⟨rfl, h⟩ := h; exact kk S' h)
theorem c_callSq {K1 : Option Nat → HS → Prop} (hc : Cx X own cc nL) (hr : Cc G S0 k rt K X) (mt : MtS y cc' nL' rt' n) (lk : Cond.methodLink own idx y ∈ lw_good) (hM : CC k' y cc' nL' rt' As G S (kR K1)) (hk : k' < k) (d : decode cc pc = .ok (.invokestatic idx, 3)) (hn : As.length = n) (hst : st = As.reverse ++ rest) (hw : (rest.map fun v => v.category).sum ≤ 8)
    (kk : ∀ (x : Option Nat) (S' : HS), K1 x S' → MC G S0 X nL S' (pc + 3) L (va_rf x :: rest)) : MC G S0 X nL S pc L st := c_callS hc hr mt lk hM hk d hn hst hw (fun v S' h => by obtain ⟨x, rfl, h⟩ := h; exact kk x S' h)
theorem c_callIv {K1 : Int32 → HS → Prop} (hc : Cx X own cc nL) (hr : Cc G S0 k rt K X) (mt : MtI y cc' nL' n) (lk : Cond.methodLink own idx y ∈ lw_good) (hM : CC k' y cc' nL' none (.ref a :: As) G S (kV K1)) (hk : k' < k) (d : decode cc pc = .ok (.invokespecial idx, 3)) (hn : As.length = n) (hst : st = As.reverse ++ .ref a :: rest) (hw : (rest.map fun v => v.category).sum ≤ 8)
    (kk : ∀ (S' : HS), K1 0 S' → MC G S0 X nL S' (pc + 3) L rest) : MC G S0 X nL S pc L st := c_callI hc hr mt lk hM hk d hn hst hw (fun v S' h => by obtain ⟨rfl, h⟩ := h; exact kk S' h)
theorem c_callNv {K1 : Int32 → HS → Prop} (hc : Cx X own cc nL) (hr : Cc G S0 k rt K X) (mt : MtI y cc' nL' n) {host : String} (lk : (own, idx, y, host) ∈ nestL) (hM : CC k' y cc' nL' none (.ref a :: As) G S (kV K1)) (hk : k' < k) (d : decode cc pc = .ok (.invokespecial idx, 3)) (hn : As.length = n) (hst : st = As.reverse ++ .ref a :: rest) (hw : (rest.map fun v => v.category).sum ≤ 8)
    (kk : ∀ (S' : HS), K1 0 S' → MC G S0 X nL S' (pc + 3) L rest) : MC G S0 X nL S pc L st := c_callN hc hr mt lk hM hk d hn hst hw (fun v S' h => by obtain ⟨rfl, h⟩ := h; exact kk S' h)
/-- System.arraycopy of ints -/
theorem c_copy (hc : Cx X own cc nL) (hr : Cc G S0 (k + 1) rt K X) {a0 a : Nat} (d : decode cc pc = .ok (.invokestatic idx, 3)) (lk : Cond.methodLink own idx arraycopyName ∈ lw_good) (l2 : Cond.native arraycopyName ∈ lw_good ∧ Cond.static arraycopyName ∈ lw_good ∧ Cond.initialized "java/lang/System" ∈ lw_good) (h0 : hT S a0 = 21) (ha : hT S a = 21) {sp dp n : Int32} (q1 : ¬ sp < 0) (q2 : ¬ dp < 0) (q3 : ¬ n < 0) (q4 : Int32.toNatClampNeg sp + Int32.toNatClampNeg n ≤ hN S a0) (q5 : Int32.toNatClampNeg dp + Int32.toNatClampNeg n ≤ hN S a) (hs : (st.map fun v => v.category).sum ≤ 8)
    (kk : MC G S0 X nL (sR S a (va_cpy (hI S a0) (hI S a) (Int32.toNatClampNeg sp) (Int32.toNatClampNeg dp) (Int32.toNatClampNeg n))) (pc + 3) L st) : MC G S0 X nL S pc L (.int n :: .int dp :: .ref a :: .int sp :: .ref a0 :: st) := by
  obtain ⟨p, l, e, Rm, s, m, args, below, meth, c, Q⟩ := X
  obtain ⟨hx, hb, hml, hown, hts⟩ := hc
  obtain ⟨hK, ⟨N9, hN9, rfl⟩, -⟩ := hr
  intro H locs ls hI hl
  have nn : ∀ z : Int32, ¬ z < 0 → z.toInt = (z.toNatClampNeg : Int) := by
    intro z hz
    have hz0 : (0 : Int) ≤ z.toInt := by
      have := Int32.not_lt.mp hz
      simpa using Int32.le_iff_toInt_le.mp this
    show z.toInt = ((z.toInt.toNat : Nat) : Int)
    omega
  have hnw : nativeFrameWords "java/lang/System" "arraycopy" 5 + 11 ≤ 56 := by decide +kernel
  have hne : hT S a ≠ 0 := by rw [ha]; decide
  have hne0 : hT S a0 ≠ 0 := by rw [h0]; decide
  have hat := (hI.1.1 a hne).2
  rw [cE_i ha] at hat
  have hat0 := (hI.1.1 a0 hne0).2
  rw [cE_i h0] at hat0
  generalize hf : _root_.Jvm.Pilot.@@N@@.hI S a0 = f at *
  generalize hg : _root_.Jvm.Pilot.@@N@@.hI S a = g at *
  have hc0 : H[a0]? = some (vp_cell (gI G) (hN S a0, .inl f)) := hat0
  have hc1 : H[a]? = some (vp_cell (gI G) (hN S a, .inl g)) := hat
  intro T hT' X
  obtain ⟨-, k0, hk0, cm0, hkk0⟩ := (hK.2 0 _ rfl).1 (hN S a0) (fun j => .int (f j))
  obtain ⟨-, k1, hk1, cm1, hkk1⟩ := (hK.2 0 _ rfl).1 (hN S a) (fun j => .int (g j))
  obtain ⟨vm', X', step⟩ := X.arraycopy hx hown (hts _ lk) (hts _ l2.1) (hts _ l2.2.1) (hts _ l2.2.2) (src := a0) (dst := a) (cs := vp_cell (gI G) (hN S a0, .inl f)) (cd := vp_cell (gI G) (hN S a, .inl g)) (srcPos := sp) (destPos := dp) (n := n) (by rw [hT']; exact hc0) (by rw [hT']; exact hc1)
    (fun _ h => by cases h) (fun _ h => by cases h) (fun h => by cases h) (fun h => by cases h) hk0 hk1 hkk0 hkk1 (by simp [refKind]) q1 q2 q3
    (by rw [nn sp q1, nn n q3]; show ¬ _ > ((arrV (gI G) (hN S a0) (fun j => .int (f j))).slots.size : Int); rw [arrV_size]; omega)
    (by rw [nn dp q2, nn n q3]; show ¬ _ > ((arrV (gI G) (hN S a) (fun j => .int (g j))).slots.size : Int); rw [arrV_size]; omega)
    (fun vm₁ _ i hi => by
      have e : (vp_cell (gI G) (hN S a0, .inl f)).slots.getD (sp.toNatClampNeg + i) .null = .int (f (sp.toNatClampNeg + i)) := by
        show (arrV (gI G) (hN S a0) (fun j => .int (f j))).slots.getD _ _ = _
        rw [Array.getD_eq_getD_getElem?, arrV_read _ _ (by omega)]
        rfl
      refine ⟨?_, ?_⟩
      · rw [e]
        rfl
      · rw [e]
        exact trivial)
    (g := F0 m pc ls (.int n :: .int dp :: .ref a :: .int sp :: .ref a0 :: st)) rfl (by rw [hml]; exact hl.1) (rest := st) rfl (by rw [hb]; exact d) (by show 1 ≤ N9; omega) (by show 2 * 0 + _ + _ ≤ 64 * N9; omega)
  have e1 : copied (vp_cell (gI G) (hN S a0, .inl f)) (vp_cell (gI G) (hN S a, .inl g)) sp dp n = vp_cell (gI G) (hN S a, .inl (va_cpy f g sp.toNatClampNeg dp.toNatClampNeg n.toNatClampNeg)) := va_copied (fun z => .int z) (gI G) (gI G) f g q4
  rw [e1] at X' step
  have hla : a < H.size := (Array.getElem?_eq_some_iff.mp hc1).1
  have hheap : ((T.setVm vm').setCell a (vp_cell (gI G) (hN S a, .inl (va_cpy f g sp.toNatClampNeg dp.toNatClampNeg n.toNatClampNeg)))).heap = H.setIfInBounds a (vp_cell (gI G) (hN S a, .inl (va_cpy f g sp.toNatClampNeg dp.toNatClampNeg n.toNatClampNeg))) := by rw [← hT']; rfl
  have oq : ∀ q : Nat, q ≠ a → (H.setIfInBounds a (vp_cell (gI G) (hN S a, .inl (va_cpy f g sp.toNatClampNeg dp.toNatClampNeg n.toNatClampNeg))))[q]? = H[q]? := fun q hq => by simp [Array.getElem?_setIfInBounds, Ne.symm hq]
  have hnew : (H.setIfInBounds a (vp_cell (gI G) (hN S a, .inl (va_cpy f g sp.toNatClampNeg dp.toNatClampNeg n.toNatClampNeg))))[a]? = some (vp_cell (gI G) (hN S a, .inl (va_cpy f g sp.toNatClampNeg dp.toNatClampNeg n.toNatClampNeg))) := by simp [Array.getElem?_setIfInBounds, hla]
  have hsz : (vp_cell (gI G) (hN S a, .inl (va_cpy f g sp.toNatClampNeg dp.toNatClampNeg n.toNatClampNeg))).slots.size = (vp_cell (gI G) (hN S a, .inl g)).slots.size := by rw [vp_cell_i, vp_cell_i, arrV_size, arrV_size]
  have hR : Rz G (sR S a (va_cpy f g sp.toNatClampNeg dp.toNatClampNeg n.toNatClampNeg)) (H.setIfInBounds a (vp_cell (gI G) (hN S a, .inl (va_cpy f g sp.toNatClampNeg dp.toNatClampNeg n.toNatClampNeg)))) := by
    refine hI.1.put (by simp) oq hc1 hnew hsz rfl rfl rfl (fun b hb => cE_off rfl rfl (if_neg hb) rfl) ?_
    rw [cE_i (S := sR S a _) ha]
    show (H.setIfInBounds a _)[a]? = some (vp_cell (gI G) (hN S a, .inl (va_up (_root_.Jvm.Pilot.@@N@@.hI S) a _ a)))
    rw [hnew]
    simp [va_up]
  obtain ⟨t, a1, b1⟩ := kk _ _ ls ⟨hR, hI.2.1, ⟨by simp; exact hI.2.2.1.1, fun q g1 g2 => by
      rw [oq q (fun e => g2 (by rw [e]; exact hI.2.1 a hne))]
      exact hI.2.2.1.2.1 q g1 g2, fun q hq => by
      rcases List.mem_append.mp hq with h | h
      · exact hI.2.2.1.2.2 q h
      · obtain ⟨z, -, hz⟩ := List.mem_map.mp h
        rw [← hz]
        exact hI.2.1 a hne⟩, hI.2.2.2.1, hI.2.2.2.2⟩ hl _ hheap X'
  exact ⟨t, step t a1, b1⟩
end CCL
