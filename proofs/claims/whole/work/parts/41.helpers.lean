theorem h_calli {G : CG} {cJ : ClassId} {o : Nat} {S0 S : HS} {v0 : Int64} {X : Fx} {k : Nat} {hh : List (Nat × Nat × Nat × Nat)} {K : Int32 → Int64 → HS → Prop} {cc : ByteArray} {nL pc : Nat} {L : List (Nat × Value)} {st : List Value} {own : String} {y : MethodName} {cc' : ByteArray} {nL' n k' a idx : Nat} {rt' : Option FieldType} {KX : String → HS → Prop} {K1 : Int32 → HS → Prop} {As rest : List Value} (hc : Cx X own cc nL) (hr : Ch G cJ o S0 k hh K X) (ha : hT S a = 12) (mt : MtV y cc' nL' rt' n) (hy : y.cls = RX11) (lk : Cond.methodLink own idx y ∈ lw_good) (hM : CX k' y cc' nL' rt' (.ref a :: As) G S KX (kI K1)) (hk : k' < k) (d : decode cc pc = .ok (.invokevirtual idx, 3)) (hn : As.length = n) (hst : st = As.reverse ++ .ref a :: rest) (hw : (rest.map fun v => v.category).sum ≤ 8)
    (kk : ∀ (x : Int32) (S' : HS), K1 x S' → MH G cJ o S0 X nL S' v0 (pc + 3) L (.int x :: rest))
    (kx : ∀ (E : String) (S' : HS), KX E S' → ∃ hp, Han X own hh pc E hp ∧ ∀ (S'' : HS) (q : Nat), Re S' S'' → MH G cJ o S0 X nL S'' v0 hp L [.ref q]) : MH G cJ o S0 X nL S v0 pc L st :=
  h_call hc hr ha mt hy lk hM hk d hn hst hw (fun v S' h => by obtain ⟨x, rfl, h⟩ := h; exact kk x S' h) kx
theorem han_1 {G : CG} {cJ : ClassId} {o : Nat} {S0 : HS} {X : Fx} {k : Nat} {K : Int32 → Int64 → HS → Prop} {cc : ByteArray} {nL pc a b h ct : Nat} {suf : List (Nat × Nat × Nat × Nat)} {own E : String} (hc : Cx X own cc nL) (hr : Ch G cJ o S0 k ((a, b, h, ct) :: suf) K X) (lk : Cond.classLink own ct E ∈ lw_good) (hE : E ∈ xCa) (x : ExceptionTableEntry) (sx : List ExceptionTableEntry) (ht : tableOf ((a, b, h, ct) :: suf) = x :: sx) (h1 : covers x pc = true) (h2 : x.catchType = ct ∧ ct ≠ 0) (h3 : x.handlerPc = h) : Han X own ((a, b, h, ct) :: suf) pc E h := by
  obtain ⟨p, l, e, Rm, s, m, args, below, meth, c, Q⟩ := X
  obtain ⟨hx, hb, hml, hown, hts⟩ := hc
  obtain ⟨-, -, -, -, -, -, -, -, ⟨-, -, hXs, -⟩, -⟩ := hr
  exact ⟨[], x, sx, E, ht, fun z hz => (nomatch hz), h1, by rw [h2.1]; exact h2.2, by rw [h2.1]; exact hts _ lk, va_Nw.use rfl (hXs.2.2.2.1 E hE), h3⟩
theorem han_2 {G : CG} {cJ : ClassId} {o : Nat} {S0 : HS} {X : Fx} {k : Nat} {K : Int32 → Int64 → HS → Prop} {cc : ByteArray} {nL pc : Nat} {hh : List (Nat × Nat × Nat × Nat)} {own : String} {h ct ct1 : Nat} (hc : Cx X own cc nL) (hr : Ch G cJ o S0 k hh K X) (lk : Cond.classLink own ct xIAE ∈ lw_good) (lk1 : Cond.classLink own ct1 xNSE ∈ lw_good) (x1 x : ExceptionTableEntry) (ht : tableOf hh = [x1, x]) (h1 : covers x pc = true) (h2 : x.catchType = ct ∧ ct ≠ 0) (h4 : x1.catchType = ct1 ∧ ct1 ≠ 0) (h3 : x.handlerPc = h) : Han X own hh pc xIAE h := by
  obtain ⟨p, l, e, Rm, s, m, args, below, meth, c, Q⟩ := X
  obtain ⟨hx, hb, hml, hown, hts⟩ := hc
  obtain ⟨-, -, -, -, -, -, -, -, ⟨-, -, hXs, hNc⟩, -⟩ := hr
  refine ⟨[x1], x, [], xIAE, ht, fun z hz => Or.inr ?_, h1, by rw [h2.1]; exact h2.2, by rw [h2.1]; exact hts _ lk, va_Nw.use rfl (hXs.2.2.2.1 xIAE (by decide +kernel)), h3⟩
  rcases List.mem_singleton.mp hz with rfl
  exact ⟨by rw [h4.1]; exact h4.2, xNSE, by rw [h4.1]; exact hts _ lk1, hNc⟩
theorem lcl_L_13 : Cond.classLink RL 13 xIAE ∈ lw_good := lw_in 1099 (by decide +kernel) (by decide +kernel)
theorem lcl_L_19 : Cond.classLink RL 19 xNSE ∈ lw_good := lw_in 1269 (by decide +kernel) (by decide +kernel)
theorem lm_L_7 : Cond.methodLink RL 7 yX11_tell ∈ lw_good := lw_in 1100 (by decide +kernel) (by decide +kernel)
def hw_tell (M : Nat × Nat) (x : Nat) (x1 x2 : Int32) (S : HS) (v : Int64) (K : Int32 → Int64 → HS → Prop) : Prop := hT S x = 12 ∧ wp_X11_tell M x x1 x2 S (fun E S' => E = xIAE ∧ ∀ S'', Re S' S'' → K 1 v S'') (fun r S' => K 0 (Int32.toInt64 r) S')
set_option maxHeartbeats 4000000 in
set_option maxRecDepth 100000 in
theorem hl_tell {G : CG} {cJ : ClassId} {o x : Nat} {x1 x2 : Int32} {S : HS} {v : Int64} {K : Int32 → Int64 → HS → Prop} (hw : hw_tell (gC G, gS G) x x1 x2 S v K) : HL 7 yL_tell cL_tell 5 [(0, 10, 13, 13)] [.ref x, .int x1, .int x2, .ref o] G cJ o S v K := by
  refine HL.of (by decide +kernel) (Nat.le_of_ble_eq_true rfl) (fun X hc hr => ?_)
  show MH G cJ o S X 5 S v 0 [(0, .ref x), (1, .int x1), (2, .int x2), (3, .ref o)] []
  obtain ⟨ht, hw⟩ := hw
  refine m_aload_n hc 3 dL_tell_0 rfl rfl ?_
  refine m_iconst hc 0 dL_tell_1 (by decide) ?_
  refine m_aload_n hc 0 dL_tell_2 rfl rfl ?_
  refine m_iload_n hc 1 dL_tell_3 rfl rfl ?_
  refine m_iload_n hc 2 dL_tell_4 rfl rfl ?_
  refine h_calli hc hr ht mt_X11_tell rfl lm_L_7 (ok_X11_tell hw) (Nat.le_of_ble_eq_true rfl) dL_tell_5 rfl (rest := [.int 0, .ref o]) rfl (Nat.le_of_ble_eq_true rfl) (fun r S' hw => ?_) (fun E S' hw => ?_)
  · skip
    refine m_i2l hc dL_tell_8 ?_
    refine h_last hc hr dL_tell_9 ?_
    refine m_goto hc 17 dL_tell_10 rfl ?_
    refine m_iconst hc 0 dL_tell_17 (by decide) ?_
    exact h_iret hc hr dL_tell_18 hw
  · obtain ⟨rfl, hw⟩ := hw
    refine ⟨13, han_1 hc hr lcl_L_13 (by decide +kernel) _ _ rfl rfl ⟨rfl, by decide⟩ rfl, fun S'' q hre => ?_⟩
    refine m_astore hc [(4, .ref q), (0, .ref x), (1, .int x1), (2, .int x2), (3, .ref o)] dL_tell_13 (Nat.le_of_ble_eq_true rfl) rfl ?_
    refine m_iconst hc 1 dL_tell_15 (by decide) ?_
    exact h_iret hc hr dL_tell_16 (hw S'' hre)
theorem lm_L_15 : Cond.methodLink RL 15 yX11_count ∈ lw_good := lw_in 1270 (by decide +kernel) (by decide +kernel)
def hw_count (M : Nat × Nat) (x : Nat) (x1 : Int32) (S : HS) (v : Int64) (K : Int32 → Int64 → HS → Prop) : Prop := hT S x = 12 ∧ wp_X11_count M x x1 S (fun E S' => E = xNSE ∧ ∀ S'', Re S' S'' → K 1 v S'') (fun r S' => K 0 (Int32.toInt64 r) S')
set_option maxHeartbeats 4000000 in
set_option maxRecDepth 100000 in
theorem hl_count {G : CG} {cJ : ClassId} {o x : Nat} {x1 : Int32} {S : HS} {v : Int64} {K : Int32 → Int64 → HS → Prop} (hw : hw_count (gC G, gS G) x x1 S v K) : HL 7 yL_count cL_count 4 [(0, 9, 12, 19)] [.ref x, .int x1, .ref o] G cJ o S v K := by
  refine HL.of (by decide +kernel) (Nat.le_of_ble_eq_true rfl) (fun X hc hr => ?_)
  show MH G cJ o S X 4 S v 0 [(0, .ref x), (1, .int x1), (2, .ref o)] []
  obtain ⟨ht, hw⟩ := hw
  refine m_aload_n hc 2 dL_count_0 rfl rfl ?_
  refine m_iconst hc 0 dL_count_1 (by decide) ?_
  refine m_aload_n hc 0 dL_count_2 rfl rfl ?_
  refine m_iload_n hc 1 dL_count_3 rfl rfl ?_
  refine h_calli hc hr ht mt_X11_count rfl lm_L_15 (ok_X11_count hw) (Nat.le_of_ble_eq_true rfl) dL_count_4 rfl (rest := [.int 0, .ref o]) rfl (Nat.le_of_ble_eq_true rfl) (fun r S' hw => ?_) (fun E S' hw => ?_)
  · skip
    refine m_i2l hc dL_count_7 ?_
    refine h_last hc hr dL_count_8 ?_
    refine m_goto hc 15 dL_count_9 rfl ?_
    refine m_iconst hc 0 dL_count_15 (by decide) ?_
    exact h_iret hc hr dL_count_16 hw
  · obtain ⟨rfl, hw⟩ := hw
    refine ⟨12, han_1 hc hr lcl_L_19 (by decide +kernel) _ _ rfl rfl ⟨rfl, by decide⟩ rfl, fun S'' q hre => ?_⟩
    refine m_astore_n hc [(3, .ref q), (0, .ref x), (1, .int x1), (2, .ref o)] dL_count_12 rfl (Nat.le_of_ble_eq_true rfl) rfl ?_
    refine m_iconst hc 1 dL_count_13 (by decide) ?_
    exact h_iret hc hr dL_count_14 (hw S'' hre)
theorem lm_L_21 : Cond.methodLink RL 21 yX11_step ∈ lw_good := lw_in 1293 (by decide +kernel) (by decide +kernel)
def hw_step (M : Nat × Nat) (x : Nat) (x1 x2 : Int32) (S : HS) (v : Int64) (K : Int32 → Int64 → HS → Prop) : Prop := hT S x = 12 ∧ wp_X11_step M x x1 x2 S (fun E S' => E = xNSE ∧ ∀ S'', Re S' S'' → K 1 v S'') (fun r S' => K 0 (Int32.toInt64 r) S')
set_option maxHeartbeats 4000000 in
set_option maxRecDepth 100000 in
theorem hl_step {G : CG} {cJ : ClassId} {o x : Nat} {x1 x2 : Int32} {S : HS} {v : Int64} {K : Int32 → Int64 → HS → Prop} (hw : hw_step (gC G, gS G) x x1 x2 S v K) : HL 7 yL_step cL_step 5 [(0, 10, 13, 19)] [.ref x, .int x1, .int x2, .ref o] G cJ o S v K := by
  refine HL.of (by decide +kernel) (Nat.le_of_ble_eq_true rfl) (fun X hc hr => ?_)
  show MH G cJ o S X 5 S v 0 [(0, .ref x), (1, .int x1), (2, .int x2), (3, .ref o)] []
  obtain ⟨ht, hw⟩ := hw
  refine m_aload_n hc 3 dL_step_0 rfl rfl ?_
  refine m_iconst hc 0 dL_step_1 (by decide) ?_
  refine m_aload_n hc 0 dL_step_2 rfl rfl ?_
  refine m_iload_n hc 1 dL_step_3 rfl rfl ?_
  refine m_iload_n hc 2 dL_step_4 rfl rfl ?_
  refine h_calli hc hr ht mt_X11_step rfl lm_L_21 (ok_X11_step hw) (Nat.le_of_ble_eq_true rfl) dL_step_5 rfl (rest := [.int 0, .ref o]) rfl (Nat.le_of_ble_eq_true rfl) (fun r S' hw => ?_) (fun E S' hw => ?_)
  · skip
    refine m_i2l hc dL_step_8 ?_
    refine h_last hc hr dL_step_9 ?_
    refine m_goto hc 17 dL_step_10 rfl ?_
    refine m_iconst hc 0 dL_step_17 (by decide) ?_
    exact h_iret hc hr dL_step_18 hw
  · obtain ⟨rfl, hw⟩ := hw
    refine ⟨13, han_1 hc hr lcl_L_19 (by decide +kernel) _ _ rfl rfl ⟨rfl, by decide⟩ rfl, fun S'' q hre => ?_⟩
    refine m_astore hc [(4, .ref q), (0, .ref x), (1, .int x1), (2, .int x2), (3, .ref o)] dL_step_13 (Nat.le_of_ble_eq_true rfl) rfl ?_
    refine m_iconst hc 1 dL_step_15 (by decide) ?_
    exact h_iret hc hr dL_step_16 (hw S'' hre)
theorem lm_L_24 : Cond.methodLink RL 24 yX11_at ∈ lw_good := lw_in 1324 (by decide +kernel) (by decide +kernel)
def hw_at (M : Nat × Nat) (x : Nat) (x1 x2 x3 x4 x5 : Int32) (S : HS) (v : Int64) (K : Int32 → Int64 → HS → Prop) : Prop := hT S x = 12 ∧ wp_X11_at M x x1 x2 x3 x4 x5 S (fun E S' => (E = xNSE ∧ ∀ S'', Re S' S'' → K 1 v S'') ∨ (E = xIAE ∧ ∀ S'', Re S' S'' → K 2 v S'')) (fun r S' => K 0 (Int32.toInt64 r) S')
set_option maxHeartbeats 4000000 in
set_option maxRecDepth 100000 in
theorem hl_at {G : CG} {cJ : ClassId} {o x : Nat} {x1 x2 x3 x4 x5 : Int32} {S : HS} {v : Int64} {K : Int32 → Int64 → HS → Prop} (hw : hw_at (gC G, gS G) x x1 x2 x3 x4 x5 S v K) : HL 7 yL_at cL_at 8 [(0, 16, 19, 19), (0, 16, 23, 13)] [.ref x, .int x1, .int x2, .int x3, .int x4, .int x5, .ref o] G cJ o S v K := by
  refine HL.of (by decide +kernel) (Nat.le_of_ble_eq_true rfl) (fun X hc hr => ?_)
  show MH G cJ o S X 8 S v 0 [(0, .ref x), (1, .int x1), (2, .int x2), (3, .int x3), (4, .int x4), (5, .int x5), (6, .ref o)] []
  obtain ⟨ht, hw⟩ := hw
  refine m_aload hc 6 dL_at_0 rfl ?_
  refine m_iconst hc 0 dL_at_2 (by decide) ?_
  refine m_aload_n hc 0 dL_at_3 rfl rfl ?_
  refine m_iload_n hc 1 dL_at_4 rfl rfl ?_
  refine m_iload_n hc 2 dL_at_5 rfl rfl ?_
  refine m_iload_n hc 3 dL_at_6 rfl rfl ?_
  refine m_iload hc 4 dL_at_7 rfl ?_
  refine m_iload hc 5 dL_at_9 rfl ?_
  refine h_calli hc hr ht mt_X11_at rfl lm_L_24 (ok_X11_at hw) (Nat.le_of_ble_eq_true rfl) dL_at_11 rfl (rest := [.int 0, .ref o]) rfl (Nat.le_of_ble_eq_true rfl) (fun r S' hw => ?_) (fun E S' hw => ?_)
  · skip
    refine m_i2l hc dL_at_14 ?_
    refine h_last hc hr dL_at_15 ?_
    refine m_goto hc 27 dL_at_16 rfl ?_
    refine m_iconst hc 0 dL_at_27 (by decide) ?_
    exact h_iret hc hr dL_at_28 hw
  · rcases hw with ⟨rfl, hw⟩ | ⟨rfl, hw⟩
    · skip
      refine ⟨19, han_1 hc hr lcl_L_19 (by decide +kernel) _ _ rfl rfl ⟨rfl, by decide⟩ rfl, fun S'' q hre => ?_⟩
      refine m_astore hc [(7, .ref q), (0, .ref x), (1, .int x1), (2, .int x2), (3, .int x3), (4, .int x4), (5, .int x5), (6, .ref o)] dL_at_19 (Nat.le_of_ble_eq_true rfl) rfl ?_
      refine m_iconst hc 1 dL_at_21 (by decide) ?_
      exact h_iret hc hr dL_at_22 (hw S'' hre)
    · skip
      refine ⟨23, han_2 hc hr lcl_L_13 lcl_L_19 _ _ rfl rfl ⟨rfl, by decide⟩ ⟨rfl, by decide⟩ rfl, fun S'' q hre => ?_⟩
      refine m_astore hc [(7, .ref q), (0, .ref x), (1, .int x1), (2, .int x2), (3, .int x3), (4, .int x4), (5, .int x5), (6, .ref o)] dL_at_23 (Nat.le_of_ble_eq_true rfl) rfl ?_
      refine m_iconst hc 2 dL_at_25 (by decide) ?_
      exact h_iret hc hr dL_at_26 (hw S'' hre)
theorem lm_L_28 : Cond.methodLink RL 28 yX11_fit ∈ lw_good := lw_in 1367 (by decide +kernel) (by decide +kernel)
def hw_fit (M : Nat × Nat) (x : Nat) (x1 : Int32) (S : HS) (v : Int64) (K : Int32 → Int64 → HS → Prop) : Prop := hT S x = 12 ∧ wp_X11_fit M x x1 S (fun E S' => E = xIAE ∧ ∀ S'', Re S' S'' → K 1 v S'') (fun r S' => K 0 (Int32.toInt64 r) S')
set_option maxHeartbeats 4000000 in
set_option maxRecDepth 100000 in
theorem hl_fit {G : CG} {cJ : ClassId} {o x : Nat} {x1 : Int32} {S : HS} {v : Int64} {K : Int32 → Int64 → HS → Prop} (hw : hw_fit (gC G, gS G) x x1 S v K) : HL 7 yL_fit cL_fit 4 [(0, 9, 12, 13)] [.ref x, .int x1, .ref o] G cJ o S v K := by
  refine HL.of (by decide +kernel) (Nat.le_of_ble_eq_true rfl) (fun X hc hr => ?_)
  show MH G cJ o S X 4 S v 0 [(0, .ref x), (1, .int x1), (2, .ref o)] []
  obtain ⟨ht, hw⟩ := hw
  refine m_aload_n hc 2 dL_fit_0 rfl rfl ?_
  refine m_iconst hc 0 dL_fit_1 (by decide) ?_
  refine m_aload_n hc 0 dL_fit_2 rfl rfl ?_
  refine m_iload_n hc 1 dL_fit_3 rfl rfl ?_
  refine h_calli hc hr ht mt_X11_fit rfl lm_L_28 (ok_X11_fit hw) (Nat.le_of_ble_eq_true rfl) dL_fit_4 rfl (rest := [.int 0, .ref o]) rfl (Nat.le_of_ble_eq_true rfl) (fun r S' hw => ?_) (fun E S' hw => ?_)
  · skip
    refine m_i2l hc dL_fit_7 ?_
    refine h_last hc hr dL_fit_8 ?_
    refine m_goto hc 15 dL_fit_9 rfl ?_
    refine m_iconst hc 0 dL_fit_15 (by decide) ?_
    exact h_iret hc hr dL_fit_16 hw
  · obtain ⟨rfl, hw⟩ := hw
    refine ⟨12, han_1 hc hr lcl_L_13 (by decide +kernel) _ _ rfl rfl ⟨rfl, by decide⟩ rfl, fun S'' q hre => ?_⟩
    refine m_astore_n hc [(3, .ref q), (0, .ref x), (1, .int x1), (2, .ref o)] dL_fit_12 rfl (Nat.le_of_ble_eq_true rfl) rfl ?_
    refine m_iconst hc 1 dL_fit_13 (by decide) ?_
    exact h_iret hc hr dL_fit_14 (hw S'' hre)
theorem lm_L_31 : Cond.methodLink RL 31 yX11_of ∈ lw_good := lw_in 1380 (by decide +kernel) (by decide +kernel)
def hw_of (M : Nat × Nat) (x : Nat) (x1 x2 : Int32) (S : HS) (v : Int64) (K : Int32 → Int64 → HS → Prop) : Prop := hT S x = 12 ∧ wp_X11_of M x x1 x2 S (fun E S' => E = xNSE ∧ ∀ S'', Re S' S'' → K 1 v S'') (fun r S' => K 0 (Int32.toInt64 r) S')
set_option maxHeartbeats 4000000 in
set_option maxRecDepth 100000 in
theorem hl_of {G : CG} {cJ : ClassId} {o x : Nat} {x1 x2 : Int32} {S : HS} {v : Int64} {K : Int32 → Int64 → HS → Prop} (hw : hw_of (gC G, gS G) x x1 x2 S v K) : HL 8 yL_of cL_of 5 [(0, 10, 13, 19)] [.ref x, .int x1, .int x2, .ref o] G cJ o S v K := by
  refine HL.of (by decide +kernel) (Nat.le_of_ble_eq_true rfl) (fun X hc hr => ?_)
  show MH G cJ o S X 5 S v 0 [(0, .ref x), (1, .int x1), (2, .int x2), (3, .ref o)] []
  obtain ⟨ht, hw⟩ := hw
  refine m_aload_n hc 3 dL_of_0 rfl rfl ?_
  refine m_iconst hc 0 dL_of_1 (by decide) ?_
  refine m_aload_n hc 0 dL_of_2 rfl rfl ?_
  refine m_iload_n hc 1 dL_of_3 rfl rfl ?_
  refine m_iload_n hc 2 dL_of_4 rfl rfl ?_
  refine h_calli hc hr ht mt_X11_of rfl lm_L_31 (ok_X11_of hw) (Nat.le_of_ble_eq_true rfl) dL_of_5 rfl (rest := [.int 0, .ref o]) rfl (Nat.le_of_ble_eq_true rfl) (fun r S' hw => ?_) (fun E S' hw => ?_)
  · skip
    refine m_i2l hc dL_of_8 ?_
    refine h_last hc hr dL_of_9 ?_
    refine m_goto hc 17 dL_of_10 rfl ?_
    refine m_iconst hc 0 dL_of_17 (by decide) ?_
    exact h_iret hc hr dL_of_18 hw
  · obtain ⟨rfl, hw⟩ := hw
    refine ⟨13, han_1 hc hr lcl_L_19 (by decide +kernel) _ _ rfl rfl ⟨rfl, by decide⟩ rfl, fun S'' q hre => ?_⟩
    refine m_astore hc [(4, .ref q), (0, .ref x), (1, .int x1), (2, .int x2), (3, .ref o)] dL_of_13 (Nat.le_of_ble_eq_true rfl) rfl ?_
    refine m_iconst hc 1 dL_of_15 (by decide) ?_
    exact h_iret hc hr dL_of_16 (hw S'' hre)
theorem lm_L_34 : Cond.methodLink RL 34 yX11_term ∈ lw_good := lw_in 1407 (by decide +kernel) (by decide +kernel)
def hw_term (M : Nat × Nat) (x : Nat) (x1 x2 x3 x4 : Int32) (S : HS) (v : Int64) (K : Int32 → Int64 → HS → Prop) : Prop := hT S x = 12 ∧ wp_X11_term M x x1 x2 x3 x4 S (fun E S' => E = xNSE ∧ ∀ S'', Re S' S'' → K 1 v S'') (fun r S' => K 0 (Int32.toInt64 r) S')
set_option maxHeartbeats 4000000 in
set_option maxRecDepth 100000 in
theorem hl_term {G : CG} {cJ : ClassId} {o x : Nat} {x1 x2 x3 x4 : Int32} {S : HS} {v : Int64} {K : Int32 → Int64 → HS → Prop} (hw : hw_term (gC G, gS G) x x1 x2 x3 x4 S v K) : HL 8 yL_term cL_term 7 [(0, 14, 17, 19)] [.ref x, .int x1, .int x2, .int x3, .int x4, .ref o] G cJ o S v K := by
  refine HL.of (by decide +kernel) (Nat.le_of_ble_eq_true rfl) (fun X hc hr => ?_)
  show MH G cJ o S X 7 S v 0 [(0, .ref x), (1, .int x1), (2, .int x2), (3, .int x3), (4, .int x4), (5, .ref o)] []
  obtain ⟨ht, hw⟩ := hw
  refine m_aload hc 5 dL_term_0 rfl ?_
  refine m_iconst hc 0 dL_term_2 (by decide) ?_
  refine m_aload_n hc 0 dL_term_3 rfl rfl ?_
  refine m_iload_n hc 1 dL_term_4 rfl rfl ?_
  refine m_iload_n hc 2 dL_term_5 rfl rfl ?_
  refine m_iload_n hc 3 dL_term_6 rfl rfl ?_
  refine m_iload hc 4 dL_term_7 rfl ?_
  refine h_calli hc hr ht mt_X11_term rfl lm_L_34 (ok_X11_term hw) (Nat.le_of_ble_eq_true rfl) dL_term_9 rfl (rest := [.int 0, .ref o]) rfl (Nat.le_of_ble_eq_true rfl) (fun r S' hw => ?_) (fun E S' hw => ?_)
  · skip
    refine m_i2l hc dL_term_12 ?_
    refine h_last hc hr dL_term_13 ?_
    refine m_goto hc 21 dL_term_14 rfl ?_
    refine m_iconst hc 0 dL_term_21 (by decide) ?_
    exact h_iret hc hr dL_term_22 hw
  · obtain ⟨rfl, hw⟩ := hw
    refine ⟨17, han_1 hc hr lcl_L_19 (by decide +kernel) _ _ rfl rfl ⟨rfl, by decide⟩ rfl, fun S'' q hre => ?_⟩
    refine m_astore hc [(6, .ref q), (0, .ref x), (1, .int x1), (2, .int x2), (3, .int x3), (4, .int x4), (5, .ref o)] dL_term_17 (Nat.le_of_ble_eq_true rfl) rfl ?_
    refine m_iconst hc 1 dL_term_19 (by decide) ?_
    exact h_iret hc hr dL_term_20 (hw S'' hre)
theorem lm_L_38 : Cond.methodLink RL 38 yX11_number ∈ lw_good := lw_in 1434 (by decide +kernel) (by decide +kernel)
def hw_number (M : Nat × Nat) (x : Nat) (x1 x2 x3 x4 : Int32) (S : HS) (v : Int64) (K : Int32 → Int64 → HS → Prop) : Prop := hT S x = 12 ∧ wp_X11_number M x x1 x2 x3 x4 S (fun E S' => (E = xNSE ∧ ∀ S'', Re S' S'' → K 1 v S'') ∨ (E = xIAE ∧ ∀ S'', Re S' S'' → K 2 v S'')) (fun r S' => K 0 (Int32.toInt64 r) S')
set_option maxHeartbeats 4000000 in
set_option maxRecDepth 100000 in
theorem hl_number {G : CG} {cJ : ClassId} {o x : Nat} {x1 x2 x3 x4 : Int32} {S : HS} {v : Int64} {K : Int32 → Int64 → HS → Prop} (hw : hw_number (gC G, gS G) x x1 x2 x3 x4 S v K) : HL 8 yL_number cL_number 7 [(0, 14, 17, 19), (0, 14, 21, 13)] [.ref x, .int x1, .int x2, .int x3, .int x4, .ref o] G cJ o S v K := by
  refine HL.of (by decide +kernel) (Nat.le_of_ble_eq_true rfl) (fun X hc hr => ?_)
  show MH G cJ o S X 7 S v 0 [(0, .ref x), (1, .int x1), (2, .int x2), (3, .int x3), (4, .int x4), (5, .ref o)] []
  obtain ⟨ht, hw⟩ := hw
  refine m_aload hc 5 dL_number_0 rfl ?_
  refine m_iconst hc 0 dL_number_2 (by decide) ?_
  refine m_aload_n hc 0 dL_number_3 rfl rfl ?_
  refine m_iload_n hc 1 dL_number_4 rfl rfl ?_
  refine m_iload_n hc 2 dL_number_5 rfl rfl ?_
  refine m_iload_n hc 3 dL_number_6 rfl rfl ?_
  refine m_iload hc 4 dL_number_7 rfl ?_
  refine h_calli hc hr ht mt_X11_number rfl lm_L_38 (ok_X11_number hw) (Nat.le_of_ble_eq_true rfl) dL_number_9 rfl (rest := [.int 0, .ref o]) rfl (Nat.le_of_ble_eq_true rfl) (fun r S' hw => ?_) (fun E S' hw => ?_)
  · skip
    refine m_i2l hc dL_number_12 ?_
    refine h_last hc hr dL_number_13 ?_
    refine m_goto hc 25 dL_number_14 rfl ?_
    refine m_iconst hc 0 dL_number_25 (by decide) ?_
    exact h_iret hc hr dL_number_26 hw
  · rcases hw with ⟨rfl, hw⟩ | ⟨rfl, hw⟩
    · skip
      refine ⟨17, han_1 hc hr lcl_L_19 (by decide +kernel) _ _ rfl rfl ⟨rfl, by decide⟩ rfl, fun S'' q hre => ?_⟩
      refine m_astore hc [(6, .ref q), (0, .ref x), (1, .int x1), (2, .int x2), (3, .int x3), (4, .int x4), (5, .ref o)] dL_number_17 (Nat.le_of_ble_eq_true rfl) rfl ?_
      refine m_iconst hc 1 dL_number_19 (by decide) ?_
      exact h_iret hc hr dL_number_20 (hw S'' hre)
    · skip
      refine ⟨21, han_2 hc hr lcl_L_13 lcl_L_19 _ _ rfl rfl ⟨rfl, by decide⟩ ⟨rfl, by decide⟩ rfl, fun S'' q hre => ?_⟩
      refine m_astore hc [(6, .ref q), (0, .ref x), (1, .int x1), (2, .int x2), (3, .int x3), (4, .int x4), (5, .ref o)] dL_number_21 (Nat.le_of_ble_eq_true rfl) rfl ?_
      refine m_iconst hc 2 dL_number_23 (by decide) ?_
      exact h_iret hc hr dL_number_24 (hw S'' hre)
theorem lm_L_41 : Cond.methodLink RL 41 yX11_value ∈ lw_good := lw_in 1447 (by decide +kernel) (by decide +kernel)
def hw_value (M : Nat × Nat) (x : Nat) (x1 x2 x3 x4 : Int32) (S : HS) (v : Int64) (K : Int32 → Int64 → HS → Prop) : Prop := hT S x = 12 ∧ wp_X11_value M x x1 x2 x3 x4 S (fun E S' => (E = xNSE ∧ ∀ S'', Re S' S'' → K 1 v S'') ∨ (E = xIAE ∧ ∀ S'', Re S' S'' → K 2 v S'')) (fun r S' => K 0 (Int32.toInt64 r) S')
set_option maxHeartbeats 4000000 in
set_option maxRecDepth 100000 in
theorem hl_value {G : CG} {cJ : ClassId} {o x : Nat} {x1 x2 x3 x4 : Int32} {S : HS} {v : Int64} {K : Int32 → Int64 → HS → Prop} (hw : hw_value (gC G, gS G) x x1 x2 x3 x4 S v K) : HL 8 yL_value cL_value 7 [(0, 14, 17, 19), (0, 14, 21, 13)] [.ref x, .int x1, .int x2, .int x3, .int x4, .ref o] G cJ o S v K := by
  refine HL.of (by decide +kernel) (Nat.le_of_ble_eq_true rfl) (fun X hc hr => ?_)
  show MH G cJ o S X 7 S v 0 [(0, .ref x), (1, .int x1), (2, .int x2), (3, .int x3), (4, .int x4), (5, .ref o)] []
  obtain ⟨ht, hw⟩ := hw
  refine m_aload hc 5 dL_value_0 rfl ?_
  refine m_iconst hc 0 dL_value_2 (by decide) ?_
  refine m_aload_n hc 0 dL_value_3 rfl rfl ?_
  refine m_iload_n hc 1 dL_value_4 rfl rfl ?_
  refine m_iload_n hc 2 dL_value_5 rfl rfl ?_
  refine m_iload_n hc 3 dL_value_6 rfl rfl ?_
  refine m_iload hc 4 dL_value_7 rfl ?_
  refine h_calli hc hr ht mt_X11_value rfl lm_L_41 (ok_X11_value hw) (Nat.le_of_ble_eq_true rfl) dL_value_9 rfl (rest := [.int 0, .ref o]) rfl (Nat.le_of_ble_eq_true rfl) (fun r S' hw => ?_) (fun E S' hw => ?_)
  · skip
    refine m_i2l hc dL_value_12 ?_
    refine h_last hc hr dL_value_13 ?_
    refine m_goto hc 25 dL_value_14 rfl ?_
    refine m_iconst hc 0 dL_value_25 (by decide) ?_
    exact h_iret hc hr dL_value_26 hw
  · rcases hw with ⟨rfl, hw⟩ | ⟨rfl, hw⟩
    · skip
      refine ⟨17, han_1 hc hr lcl_L_19 (by decide +kernel) _ _ rfl rfl ⟨rfl, by decide⟩ rfl, fun S'' q hre => ?_⟩
      refine m_astore hc [(6, .ref q), (0, .ref x), (1, .int x1), (2, .int x2), (3, .int x3), (4, .int x4), (5, .ref o)] dL_value_17 (Nat.le_of_ble_eq_true rfl) rfl ?_
      refine m_iconst hc 1 dL_value_19 (by decide) ?_
      exact h_iret hc hr dL_value_20 (hw S'' hre)
    · skip
      refine ⟨21, han_2 hc hr lcl_L_13 lcl_L_19 _ _ rfl rfl ⟨rfl, by decide⟩ ⟨rfl, by decide⟩ rfl, fun S'' q hre => ?_⟩
      refine m_astore hc [(6, .ref q), (0, .ref x), (1, .int x1), (2, .int x2), (3, .int x3), (4, .int x4), (5, .ref o)] dL_value_21 (Nat.le_of_ble_eq_true rfl) rfl ?_
      refine m_iconst hc 2 dL_value_23 (by decide) ?_
      exact h_iret hc hr dL_value_24 (hw S'' hre)
theorem lm_L_44 : Cond.methodLink RL 44 yX11_same ∈ lw_good := lw_in 1462 (by decide +kernel) (by decide +kernel)
def hw_same (M : Nat × Nat) (x : Nat) (x1 x2 x3 : Int32) (S : HS) (v : Int64) (K : Int32 → Int64 → HS → Prop) : Prop := hT S x = 12 ∧ wp_X11_same M x x1 x2 x3 S (fun E S' => E = xNSE ∧ ∀ S'', Re S' S'' → K 1 v S'') (fun r S' => (r = 0 → K 0 0 S') ∧ (¬ r = 0 → K 0 1 S'))
set_option maxHeartbeats 4000000 in
set_option maxRecDepth 100000 in
theorem hl_same {G : CG} {cJ : ClassId} {o x : Nat} {x1 x2 x3 : Int32} {S : HS} {v : Int64} {K : Int32 → Int64 → HS → Prop} (hw : hw_same (gC G, gS G) x x1 x2 x3 S v K) : HL 8 yL_same cL_same 6 [(0, 19, 22, 19)] [.ref x, .int x1, .int x2, .int x3, .ref o] G cJ o S v K := by
  refine HL.of (by decide +kernel) (Nat.le_of_ble_eq_true rfl) (fun X hc hr => ?_)
  show MH G cJ o S X 6 S v 0 [(0, .ref x), (1, .int x1), (2, .int x2), (3, .int x3), (4, .ref o)] []
  obtain ⟨ht, hw⟩ := hw
  refine m_aload hc 4 dL_same_0 rfl ?_
  refine m_iconst hc 0 dL_same_2 (by decide) ?_
  refine m_aload_n hc 0 dL_same_3 rfl rfl ?_
  refine m_iload_n hc 1 dL_same_4 rfl rfl ?_
  refine m_iload_n hc 2 dL_same_5 rfl rfl ?_
  refine m_iload_n hc 3 dL_same_6 rfl rfl ?_
  refine h_calli hc hr ht mt_X11_same rfl lm_L_44 (ok_X11_same hw) (Nat.le_of_ble_eq_true rfl) dL_same_7 rfl (rest := [.int 0, .ref o]) rfl (Nat.le_of_ble_eq_true rfl) (fun r S' hw => ?_) (fun E S' hw => ?_)
  · skip
    refine m_if_eq hc 17 dL_same_10 rfl (fun cq => ?_) (fun cq => ?_)
    · have hw := hw.1 cq
      refine m_lconst hc 0 dL_same_17 (by decide) ?_
      refine h_last hc hr dL_same_18 ?_
      refine m_goto hc 26 dL_same_19 rfl ?_
      refine m_iconst hc 0 dL_same_26 (by decide) ?_
      exact h_iret hc hr dL_same_27 hw
    · have hw := hw.2 cq
      refine m_lconst hc 1 dL_same_13 (by decide) ?_
      refine m_goto hc 18 dL_same_14 rfl ?_
      refine h_last hc hr dL_same_18 ?_
      refine m_goto hc 26 dL_same_19 rfl ?_
      refine m_iconst hc 0 dL_same_26 (by decide) ?_
      exact h_iret hc hr dL_same_27 hw
  · obtain ⟨rfl, hw⟩ := hw
    refine ⟨22, han_1 hc hr lcl_L_19 (by decide +kernel) _ _ rfl rfl ⟨rfl, by decide⟩ rfl, fun S'' q hre => ?_⟩
    refine m_astore hc [(5, .ref q), (0, .ref x), (1, .int x1), (2, .int x2), (3, .int x3), (4, .ref o)] dL_same_22 (Nat.le_of_ble_eq_true rfl) rfl ?_
    refine m_iconst hc 1 dL_same_24 (by decide) ?_
    exact h_iret hc hr dL_same_25 (hw S'' hre)
theorem lm_L_48 : Cond.methodLink RL 48 yX11_witness ∈ lw_good := lw_in 1478 (by decide +kernel) (by decide +kernel)
def hw_witness (M : Nat × Nat) (x : Nat) (x1 x2 : Int32) (S : HS) (v : Int64) (K : Int32 → Int64 → HS → Prop) : Prop := hT S x = 12 ∧ wp_X11_witness M x x1 x2 S (fun E S' => E = xNSE ∧ ∀ S'', Re S' S'' → K 1 v S'') (fun r S' => K 0 (Int32.toInt64 r) S')
set_option maxHeartbeats 4000000 in
set_option maxRecDepth 100000 in
theorem hl_witness {G : CG} {cJ : ClassId} {o x : Nat} {x1 x2 : Int32} {S : HS} {v : Int64} {K : Int32 → Int64 → HS → Prop} (hw : hw_witness (gC G, gS G) x x1 x2 S v K) : HL 8 yL_witness cL_witness 5 [(0, 10, 13, 19)] [.ref x, .int x1, .int x2, .ref o] G cJ o S v K := by
  refine HL.of (by decide +kernel) (Nat.le_of_ble_eq_true rfl) (fun X hc hr => ?_)
  show MH G cJ o S X 5 S v 0 [(0, .ref x), (1, .int x1), (2, .int x2), (3, .ref o)] []
  obtain ⟨ht, hw⟩ := hw
  refine m_aload_n hc 3 dL_witness_0 rfl rfl ?_
  refine m_iconst hc 0 dL_witness_1 (by decide) ?_
  refine m_aload_n hc 0 dL_witness_2 rfl rfl ?_
  refine m_iload_n hc 1 dL_witness_3 rfl rfl ?_
  refine m_iload_n hc 2 dL_witness_4 rfl rfl ?_
  refine h_calli hc hr ht mt_X11_witness rfl lm_L_48 (ok_X11_witness hw) (Nat.le_of_ble_eq_true rfl) dL_witness_5 rfl (rest := [.int 0, .ref o]) rfl (Nat.le_of_ble_eq_true rfl) (fun r S' hw => ?_) (fun E S' hw => ?_)
  · skip
    refine m_i2l hc dL_witness_8 ?_
    refine h_last hc hr dL_witness_9 ?_
    refine m_goto hc 17 dL_witness_10 rfl ?_
    refine m_iconst hc 0 dL_witness_17 (by decide) ?_
    exact h_iret hc hr dL_witness_18 hw
  · obtain ⟨rfl, hw⟩ := hw
    refine ⟨13, han_1 hc hr lcl_L_19 (by decide +kernel) _ _ rfl rfl ⟨rfl, by decide⟩ rfl, fun S'' q hre => ?_⟩
    refine m_astore hc [(4, .ref q), (0, .ref x), (1, .int x1), (2, .int x2), (3, .ref o)] dL_witness_13 (Nat.le_of_ble_eq_true rfl) rfl ?_
    refine m_iconst hc 1 dL_witness_15 (by decide) ?_
    exact h_iret hc hr dL_witness_16 (hw S'' hre)
theorem lm_L_51 : Cond.methodLink RL 51 yX11_factor ∈ lw_good := lw_in 1485 (by decide +kernel) (by decide +kernel)
def hw_factor (M : Nat × Nat) (x : Nat) (x1 x2 x3 : Int32) (S : HS) (v : Int64) (K : Int32 → Int64 → HS → Prop) : Prop := hT S x = 12 ∧ wp_X11_factor M x x1 x2 x3 S (fun E S' => E = xNSE ∧ ∀ S'', Re S' S'' → K 1 v S'') (fun r S' => K 0 (Int32.toInt64 r) S')
set_option maxHeartbeats 4000000 in
set_option maxRecDepth 100000 in
theorem hl_factor {G : CG} {cJ : ClassId} {o x : Nat} {x1 x2 x3 : Int32} {S : HS} {v : Int64} {K : Int32 → Int64 → HS → Prop} (hw : hw_factor (gC G, gS G) x x1 x2 x3 S v K) : HL 8 yL_factor cL_factor 6 [(0, 12, 15, 19)] [.ref x, .int x1, .int x2, .int x3, .ref o] G cJ o S v K := by
  refine HL.of (by decide +kernel) (Nat.le_of_ble_eq_true rfl) (fun X hc hr => ?_)
  show MH G cJ o S X 6 S v 0 [(0, .ref x), (1, .int x1), (2, .int x2), (3, .int x3), (4, .ref o)] []
  obtain ⟨ht, hw⟩ := hw
  refine m_aload hc 4 dL_factor_0 rfl ?_
  refine m_iconst hc 0 dL_factor_2 (by decide) ?_
  refine m_aload_n hc 0 dL_factor_3 rfl rfl ?_
  refine m_iload_n hc 1 dL_factor_4 rfl rfl ?_
  refine m_iload_n hc 2 dL_factor_5 rfl rfl ?_
  refine m_iload_n hc 3 dL_factor_6 rfl rfl ?_
  refine h_calli hc hr ht mt_X11_factor rfl lm_L_51 (ok_X11_factor hw) (Nat.le_of_ble_eq_true rfl) dL_factor_7 rfl (rest := [.int 0, .ref o]) rfl (Nat.le_of_ble_eq_true rfl) (fun r S' hw => ?_) (fun E S' hw => ?_)
  · skip
    refine m_i2l hc dL_factor_10 ?_
    refine h_last hc hr dL_factor_11 ?_
    refine m_goto hc 19 dL_factor_12 rfl ?_
    refine m_iconst hc 0 dL_factor_19 (by decide) ?_
    exact h_iret hc hr dL_factor_20 hw
  · obtain ⟨rfl, hw⟩ := hw
    refine ⟨15, han_1 hc hr lcl_L_19 (by decide +kernel) _ _ rfl rfl ⟨rfl, by decide⟩ rfl, fun S'' q hre => ?_⟩
    refine m_astore hc [(5, .ref q), (0, .ref x), (1, .int x1), (2, .int x2), (3, .int x3), (4, .ref o)] dL_factor_15 (Nat.le_of_ble_eq_true rfl) rfl ?_
    refine m_iconst hc 1 dL_factor_17 (by decide) ?_
    exact h_iret hc hr dL_factor_18 (hw S'' hre)
theorem lm_L_55 : Cond.methodLink RL 55 yX11_often ∈ lw_good := lw_in 1494 (by decide +kernel) (by decide +kernel)
def hw_often (M : Nat × Nat) (x : Nat) (x1 x2 x3 x4 x5 : Int32) (S : HS) (v : Int64) (K : Int32 → Int64 → HS → Prop) : Prop := hT S x = 12 ∧ wp_X11_often M x x1 x2 x3 x4 x5 S (fun E S' => (E = xNSE ∧ ∀ S'', Re S' S'' → K 1 v S'') ∨ (E = xIAE ∧ ∀ S'', Re S' S'' → K 2 v S'')) (fun r S' => K 0 (Int32.toInt64 r) S')
set_option maxHeartbeats 4000000 in
set_option maxRecDepth 100000 in
theorem hl_often {G : CG} {cJ : ClassId} {o x : Nat} {x1 x2 x3 x4 x5 : Int32} {S : HS} {v : Int64} {K : Int32 → Int64 → HS → Prop} (hw : hw_often (gC G, gS G) x x1 x2 x3 x4 x5 S v K) : HL 8 yL_often cL_often 8 [(0, 16, 19, 19), (0, 16, 23, 13)] [.ref x, .int x1, .int x2, .int x3, .int x4, .int x5, .ref o] G cJ o S v K := by
  refine HL.of (by decide +kernel) (Nat.le_of_ble_eq_true rfl) (fun X hc hr => ?_)
  show MH G cJ o S X 8 S v 0 [(0, .ref x), (1, .int x1), (2, .int x2), (3, .int x3), (4, .int x4), (5, .int x5), (6, .ref o)] []
  obtain ⟨ht, hw⟩ := hw
  refine m_aload hc 6 dL_often_0 rfl ?_
  refine m_iconst hc 0 dL_often_2 (by decide) ?_
  refine m_aload_n hc 0 dL_often_3 rfl rfl ?_
  refine m_iload_n hc 1 dL_often_4 rfl rfl ?_
  refine m_iload_n hc 2 dL_often_5 rfl rfl ?_
  refine m_iload_n hc 3 dL_often_6 rfl rfl ?_
  refine m_iload hc 4 dL_often_7 rfl ?_
  refine m_iload hc 5 dL_often_9 rfl ?_
  refine h_calli hc hr ht mt_X11_often rfl lm_L_55 (ok_X11_often hw) (Nat.le_of_ble_eq_true rfl) dL_often_11 rfl (rest := [.int 0, .ref o]) rfl (Nat.le_of_ble_eq_true rfl) (fun r S' hw => ?_) (fun E S' hw => ?_)
  · skip
    refine m_i2l hc dL_often_14 ?_
    refine h_last hc hr dL_often_15 ?_
    refine m_goto hc 27 dL_often_16 rfl ?_
    refine m_iconst hc 0 dL_often_27 (by decide) ?_
    exact h_iret hc hr dL_often_28 hw
  · rcases hw with ⟨rfl, hw⟩ | ⟨rfl, hw⟩
    · skip
      refine ⟨19, han_1 hc hr lcl_L_19 (by decide +kernel) _ _ rfl rfl ⟨rfl, by decide⟩ rfl, fun S'' q hre => ?_⟩
      refine m_astore hc [(7, .ref q), (0, .ref x), (1, .int x1), (2, .int x2), (3, .int x3), (4, .int x4), (5, .int x5), (6, .ref o)] dL_often_19 (Nat.le_of_ble_eq_true rfl) rfl ?_
      refine m_iconst hc 1 dL_often_21 (by decide) ?_
      exact h_iret hc hr dL_often_22 (hw S'' hre)
    · skip
      refine ⟨23, han_2 hc hr lcl_L_13 lcl_L_19 _ _ rfl rfl ⟨rfl, by decide⟩ ⟨rfl, by decide⟩ rfl, fun S'' q hre => ?_⟩
      refine m_astore hc [(7, .ref q), (0, .ref x), (1, .int x1), (2, .int x2), (3, .int x3), (4, .int x4), (5, .int x5), (6, .ref o)] dL_often_23 (Nat.le_of_ble_eq_true rfl) rfl ?_
      refine m_iconst hc 2 dL_often_25 (by decide) ?_
      exact h_iret hc hr dL_often_26 (hw S'' hre)
theorem lm_L_59 : Cond.methodLink RL 59 yX11_say ∈ lw_good := lw_in 1512 (by decide +kernel) (by decide +kernel)
def hw_say (M : Nat × Nat) (x : Nat) (x1 : Int32) (S : HS) (v : Int64) (K : Int32 → Int64 → HS → Prop) : Prop := hT S x = 12 ∧ wp_X11_say M x x1 S (fun E S' => E = xNSE ∧ ∀ S'', Re S' S'' → K 1 v S'') (fun r S' => K 0 (Int32.toInt64 r) S')
set_option maxHeartbeats 4000000 in
set_option maxRecDepth 100000 in
theorem hl_say {G : CG} {cJ : ClassId} {o x : Nat} {x1 : Int32} {S : HS} {v : Int64} {K : Int32 → Int64 → HS → Prop} (hw : hw_say (gC G, gS G) x x1 S v K) : HL 8 yL_say cL_say 4 [(0, 9, 12, 19)] [.ref x, .int x1, .ref o] G cJ o S v K := by
  refine HL.of (by decide +kernel) (Nat.le_of_ble_eq_true rfl) (fun X hc hr => ?_)
  show MH G cJ o S X 4 S v 0 [(0, .ref x), (1, .int x1), (2, .ref o)] []
  obtain ⟨ht, hw⟩ := hw
  refine m_aload_n hc 2 dL_say_0 rfl rfl ?_
  refine m_iconst hc 0 dL_say_1 (by decide) ?_
  refine m_aload_n hc 0 dL_say_2 rfl rfl ?_
  refine m_iload_n hc 1 dL_say_3 rfl rfl ?_
  refine h_calli hc hr ht mt_X11_say rfl lm_L_59 (ok_X11_say hw) (Nat.le_of_ble_eq_true rfl) dL_say_4 rfl (rest := [.int 0, .ref o]) rfl (Nat.le_of_ble_eq_true rfl) (fun r S' hw => ?_) (fun E S' hw => ?_)
  · skip
    refine m_i2l hc dL_say_7 ?_
    refine h_last hc hr dL_say_8 ?_
    refine m_goto hc 15 dL_say_9 rfl ?_
    refine m_iconst hc 0 dL_say_15 (by decide) ?_
    exact h_iret hc hr dL_say_16 hw
  · obtain ⟨rfl, hw⟩ := hw
    refine ⟨12, han_1 hc hr lcl_L_19 (by decide +kernel) _ _ rfl rfl ⟨rfl, by decide⟩ rfl, fun S'' q hre => ?_⟩
    refine m_astore_n hc [(3, .ref q), (0, .ref x), (1, .int x1), (2, .ref o)] dL_say_12 rfl (Nat.le_of_ble_eq_true rfl) rfl ?_
    refine m_iconst hc 1 dL_say_13 (by decide) ?_
    exact h_iret hc hr dL_say_14 (hw S'' hre)
