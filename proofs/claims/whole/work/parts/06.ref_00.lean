def w_isIn_15 (K : Int32 → RS → Prop) (s0 : Int32) (R : RS) : Prop := (s0 = 0 ∨ s0 = 1) ∧ K s0 R
set_option maxHeartbeats 4000000 in
set_option maxRecDepth 100000 in
theorem b_isIn_15 {G : RG} {X : Fx} {K : Int32 → RS → Prop} (hok : okG G) (hc : Cx X RX12 cX12_isIn 3) (hr : Cr G 0 (some .boolean) K X) : ∀ (s0 : Int32) (R : RS), w_isIn_15 K s0 R → MR G X 3 R 15 [] [.int s0] := by
  intro s0 R hw
  unfold w_isIn_15 at hw
  exact r_zret hc hr dX12_isIn_15 hw.1 hw.2
def w_isIn_14 (K : Int32 → RS → Prop) (R : RS) : Prop := w_isIn_15 K 0 R
set_option maxHeartbeats 4000000 in
set_option maxRecDepth 100000 in
theorem b_isIn_14 {G : RG} {X : Fx} {K : Int32 → RS → Prop} (hok : okG G) (hc : Cx X RX12 cX12_isIn 3) (hr : Cr G 0 (some .boolean) K X) : ∀ (R : RS), w_isIn_14 K R → MR G X 3 R 14 [] [] := by
  intro R hw
  unfold w_isIn_14 at hw
  refine m_iconst hc 0 dX12_isIn_14 (by decide) ?_
  exact b_isIn_15 hok hc hr 0 R hw
def wp_isIn (x0 x1 x2 : Int32) (R : RS) (K : Int32 → RS → Prop) : Prop := (x0 < x1 → w_isIn_14 K R) ∧ (¬ (x0 < x1) → (x2 < x0 → w_isIn_14 K R) ∧ (¬ (x2 < x0) → w_isIn_15 K 1 R))
set_option maxHeartbeats 4000000 in
set_option maxRecDepth 100000 in
theorem ok_isIn {G : RG} (hok : okG G) {x0 : Int32} {x1 : Int32} {x2 : Int32} {R : RS} {K : Int32 → RS → Prop} (hw : wp_isIn x0 x1 x2 R K) : CF 0 yX12_isIn cX12_isIn 3 (some .boolean) [.int x0, .int x1, .int x2] G R K := by
  refine CF.of (by decide +kernel) hok (Nat.le_of_ble_eq_true rfl) (fun X hc hr => ?_)
  show MR G X 3 R 0 [(0, .int x0), (1, .int x1), (2, .int x2)] []
  unfold wp_isIn at hw
  refine m_iload_n hc 0 dX12_isIn_0 rfl rfl ?_
  refine m_iload_n hc 1 dX12_isIn_1 rfl rfl ?_
  refine m_icmp_lt hc 14 dX12_isIn_2 rfl (fun cq => ?_) (fun cq => ?_)
  · have hw := hw.1 cq
    refine m_sub [] rfl ?_
    exact b_isIn_14 hok hc hr R hw
  · have hw := hw.2 cq
    refine m_iload_n hc 0 dX12_isIn_5 rfl rfl ?_
    refine m_iload_n hc 2 dX12_isIn_6 rfl rfl ?_
    refine m_icmp_gt hc 14 dX12_isIn_7 rfl (fun cq => ?_) (fun cq => ?_)
    · have hw := hw.1 cq
      refine m_sub [] rfl ?_
      exact b_isIn_14 hok hc hr R hw
    · have hw := hw.2 cq
      refine m_iconst hc 1 dX12_isIn_10 (by decide) ?_
      refine m_goto hc 15 dX12_isIn_11 rfl ?_
      refine m_sub [] rfl ?_
      exact b_isIn_15 hok hc hr 1 R hw
def w_mod_21 (K : Int32 → RS → Prop) (s0 : Int32) (R : RS) : Prop := K s0 R
set_option maxHeartbeats 4000000 in
set_option maxRecDepth 100000 in
theorem b_mod_21 {G : RG} {X : Fx} {K : Int32 → RS → Prop} (hok : okG G) (hc : Cx X RX12 cX12_mod 3) (hr : Cr G 0 (some .int) K X) : ∀ (s0 : Int32) (R : RS), w_mod_21 K s0 R → MR G X 3 R 21 [] [.int s0] := by
  intro s0 R hw
  unfold w_mod_21 at hw
  exact r_iret hc hr dX12_mod_21 hw
def wp_mod (x1 : Int32) (R : RS) (K : Int32 → RS → Prop) : Prop := ¬ (R 0 1) = 0 ∧ ((0 ≤ (iRem x1 (R 0 1)) → w_mod_21 K (iRem x1 (R 0 1)) R) ∧ (¬ (0 ≤ (iRem x1 (R 0 1))) → w_mod_21 K ((iRem x1 (R 0 1)) + (R 0 1)) R))
set_option maxHeartbeats 4000000 in
set_option maxRecDepth 100000 in
theorem ok_mod {G : RG} (hok : okG G) {x1 : Int32} {R : RS} {K : Int32 → RS → Prop} (hw : wp_mod x1 R K) : CF 0 yX12_mod cX12_mod 3 (some .int) [.ref G.2.2.1, .int x1] G R K := by
  refine CF.of (by decide +kernel) hok (Nat.le_of_ble_eq_true rfl) (fun X hc hr => ?_)
  show MR G X 3 R 0 [(0, .ref G.2.2.1), (1, .int x1)] []
  unfold wp_mod at hw
  refine m_iload_n hc 1 dX12_mod_0 rfl rfl ?_
  refine m_aload_n hc 0 dX12_mod_1 rfl rfl ?_
  refine r_geti hc hr 1 dX12_mod_2 lf_X12_9 (Nat.le_of_ble_eq_true rfl) rfl ?_
  obtain ⟨hq, hw⟩ := hw
  refine m_irem hc dX12_mod_5 hq ?_
  refine m_istore_n hc [(2, .int (iRem x1 (R 0 1))), (0, .ref G.2.2.1), (1, .int x1)] dX12_mod_6 rfl (Nat.le_of_ble_eq_true rfl) rfl ?_
  refine m_iload_n hc 0 dX12_mod_7 rfl rfl ?_
  refine m_if_ge hc 20 dX12_mod_8 rfl (fun cq => ?_) (fun cq => ?_)
  · have hw := hw.1 cq
    refine m_iload_n hc 0 dX12_mod_20 rfl rfl ?_
    refine m_sub [] rfl ?_
    exact b_mod_21 hok hc hr (iRem x1 (R 0 1)) R hw
  · have hw := hw.2 cq
    refine m_iload_n hc 0 dX12_mod_11 rfl rfl ?_
    refine m_aload_n hc 1 dX12_mod_12 rfl rfl ?_
    refine r_geti hc hr 1 dX12_mod_13 lf_X12_9 (Nat.le_of_ble_eq_true rfl) rfl ?_
    refine m_iadd hc dX12_mod_16 ?_
    refine m_goto hc 21 dX12_mod_17 rfl ?_
    refine m_sub [] rfl ?_
    exact b_mod_21 hok hc hr ((iRem x1 (R 0 1)) + (R 0 1)) R hw
def w_ex_31 (K : Int32 → RS → Prop) (s0 : Int32) (R : RS) : Prop := K s0 R
set_option maxHeartbeats 4000000 in
set_option maxRecDepth 100000 in
theorem b_ex_31 {G : RG} {X : Fx} {K : Int32 → RS → Prop} (hok : okG G) (hc : Cx X RX12 cX12_ex 2) (hr : Cr G 0 (some .int) K X) : ∀ (s0 : Int32) (R : RS), w_ex_31 K s0 R → MR G X 2 R 31 [] [.int s0] := by
  intro s0 R hw
  unfold w_ex_31 at hw
  exact r_iret hc hr dX12_ex_31 hw
def wp_ex (x0 x1 : Int32) (R : RS) (K : Int32 → RS → Prop) : Prop := (¬ x1 = 0 → (¬ x1 = 1 → w_ex_31 K (iRem x0 41) R) ∧ (x1 = 1 → w_ex_31 K (iRem (x0 / 41) 41) R)) ∧ (x1 = 0 → w_ex_31 K (x0 / 1681) R)
set_option maxHeartbeats 4000000 in
set_option maxRecDepth 100000 in
theorem ok_ex {G : RG} (hok : okG G) {x0 : Int32} {x1 : Int32} {R : RS} {K : Int32 → RS → Prop} (hw : wp_ex x0 x1 R K) : CF 0 yX12_ex cX12_ex 2 (some .int) [.int x0, .int x1] G R K := by
  refine CF.of (by decide +kernel) hok (Nat.le_of_ble_eq_true rfl) (fun X hc hr => ?_)
  show MR G X 2 R 0 [(0, .int x0), (1, .int x1)] []
  unfold wp_ex at hw
  refine m_iload_n hc 1 dX12_ex_0 rfl rfl ?_
  refine m_if_ne hc 12 dX12_ex_1 rfl (fun cq => ?_) (fun cq => ?_)
  · have hw := hw.1 cq
    refine m_iload_n hc 1 dX12_ex_12 rfl rfl ?_
    refine m_iconst hc 1 dX12_ex_13 (by decide) ?_
    refine m_icmp_ne hc 27 dX12_ex_14 rfl (fun cq => ?_) (fun cq => ?_)
    · have hw := hw.1 cq
      refine m_iload_n hc 0 dX12_ex_27 rfl rfl ?_
      refine m_bipush hc 41 dX12_ex_28 (by decide) ?_
      refine m_irem hc dX12_ex_30 (by decide) ?_
      refine m_sub [] rfl ?_
      exact b_ex_31 hok hc hr (iRem x0 41) R hw
    · have hw := hw.2 cq
      refine m_iload_n hc 0 dX12_ex_17 rfl rfl ?_
      refine m_bipush hc 41 dX12_ex_18 (by decide) ?_
      refine m_idiv hc dX12_ex_20 (by decide) ?_
      refine m_bipush hc 41 dX12_ex_21 (by decide) ?_
      refine m_irem hc dX12_ex_23 (by decide) ?_
      refine m_goto hc 31 dX12_ex_24 rfl ?_
      refine m_sub [] rfl ?_
      exact b_ex_31 hok hc hr (iRem (x0 / 41) 41) R hw
  · have hw := hw.2 cq
    refine m_iload_n hc 0 dX12_ex_4 rfl rfl ?_
    refine m_sipush hc 1681 dX12_ex_5 (by decide) ?_
    refine m_idiv hc dX12_ex_8 (by decide) ?_
    refine m_goto hc 31 dX12_ex_9 rfl ?_
    refine m_sub [] rfl ?_
    exact b_ex_31 hok hc hr (x0 / 1681) R hw
def wp_degreeOfKey (x0 : Int32) (R : RS) (K : Int32 → RS → Prop) : Prop := wp_ex x0 0 R (fun r1 R1 => wp_ex x0 1 R1 (fun r2 R2 => wp_ex x0 2 R2 (fun r3 R3 => K ((r1 + r2) + r3) R3)))
set_option maxHeartbeats 4000000 in
set_option maxRecDepth 100000 in
theorem ok_degreeOfKey {G : RG} (hok : okG G) {x0 : Int32} {R : RS} {K : Int32 → RS → Prop} (hw : wp_degreeOfKey x0 R K) : CF 1 yX12_degreeOfKey cX12_degreeOfKey 1 (some .int) [.int x0] G R K := by
  refine CF.of (by decide +kernel) hok (Nat.le_of_ble_eq_true rfl) (fun X hc hr => ?_)
  show MR G X 1 R 0 [(0, .int x0)] []
  unfold wp_degreeOfKey at hw
  refine m_iload_n hc 0 dX12_degreeOfKey_0 rfl rfl ?_
  refine m_iconst hc 0 dX12_degreeOfKey_1 (by decide) ?_
  refine r_callSi hc hr mt_ex lm_X12_119 (ok_ex hok hw) (Nat.le_of_ble_eq_true rfl) dX12_degreeOfKey_2 rfl (rest := []) rfl (Nat.le_of_ble_eq_true rfl) (fun r1 R1 hw => ?_)
  refine m_iload_n hc 0 dX12_degreeOfKey_5 rfl rfl ?_
  refine m_iconst hc 1 dX12_degreeOfKey_6 (by decide) ?_
  refine r_callSi hc hr mt_ex lm_X12_119 (ok_ex hok hw) (Nat.le_of_ble_eq_true rfl) dX12_degreeOfKey_7 rfl (rest := [.int r1]) rfl (Nat.le_of_ble_eq_true rfl) (fun r2 R2 hw => ?_)
  refine m_iadd hc dX12_degreeOfKey_10 ?_
  refine m_iload_n hc 0 dX12_degreeOfKey_11 rfl rfl ?_
  refine m_iconst hc 2 dX12_degreeOfKey_12 (by decide) ?_
  refine r_callSi hc hr mt_ex lm_X12_119 (ok_ex hok hw) (Nat.le_of_ble_eq_true rfl) dX12_degreeOfKey_13 rfl (rest := [.int (r1 + r2)]) rfl (Nat.le_of_ble_eq_true rfl) (fun r3 R3 hw => ?_)
  refine m_iadd hc dX12_degreeOfKey_16 ?_
  exact r_iret hc hr dX12_degreeOfKey_17 hw
def wp_keyAt (x1 x2 : Int32) (R : RS) (K : Int32 → RS → Prop) : Prop := vp_in ((300 * x1) + x2) 16800 ∧ K (R 3 ((300 * x1) + x2).toNatClampNeg) R
set_option maxHeartbeats 4000000 in
set_option maxRecDepth 100000 in
theorem ok_keyAt {G : RG} (hok : okG G) {x1 : Int32} {x2 : Int32} {R : RS} {K : Int32 → RS → Prop} (hw : wp_keyAt x1 x2 R K) : CF 0 yX12_keyAt cX12_keyAt 3 (some .int) [.ref G.2.2.1, .int x1, .int x2] G R K := by
  refine CF.of (by decide +kernel) hok (Nat.le_of_ble_eq_true rfl) (fun X hc hr => ?_)
  show MR G X 3 R 0 [(0, .ref G.2.2.1), (1, .int x1), (2, .int x2)] []
  unfold wp_keyAt at hw
  refine m_aload_n hc 0 dX12_keyAt_0 rfl rfl ?_
  refine r_geta hc hr 3 dX12_keyAt_1 lf_X12_17 (Nat.le_of_ble_eq_true rfl) rfl ?_
  refine m_sipush hc 300 dX12_keyAt_4 (by decide) ?_
  refine m_iload_n hc 1 dX12_keyAt_7 rfl rfl ?_
  refine m_imul hc dX12_keyAt_8 ?_
  refine m_iload_n hc 2 dX12_keyAt_9 rfl rfl ?_
  refine m_iadd hc dX12_keyAt_10 ?_
  obtain ⟨hi, hw⟩ := hw
  refine r_iald hc hr (i := 1) (f := 3) rfl hi dX12_keyAt_11 ?_
  exact r_iret hc hr dX12_keyAt_12 hw
def wb_degreeOf_4 (K4 : Int32 → Int32 → Int32 → RS → Prop) (K : Int32 → RS → Prop) (x1 x2 x3 : Int32) (R : RS) : Prop := vp_in x1 56 ∧ ((R 2 (x1).toNatClampNeg) ≤ x3 → K x2 R) ∧ (¬ ((R 2 (x1).toNatClampNeg) ≤ x3) → wp_keyAt x1 x3 R (fun r1 R1 => wp_degreeOfKey r1 R1 (fun r2 R2 => ∀ v3 : Int32, v3 = if x2 < r2 then r2 else x2 → K4 x1 v3 (x3 + 1) R2)))
def wl_degreeOf_4 (K : Int32 → RS → Prop) : Nat → Int32 → Int32 → Int32 → RS → Prop
  | 0 => fun _ _ _ _ => False
  | nn + 1 => wb_degreeOf_4 (wl_degreeOf_4 K nn) K
set_option maxHeartbeats 4000000 in
set_option maxRecDepth 100000 in
theorem l_degreeOf_4 {G : RG} {X : Fx} {K : Int32 → RS → Prop} (hok : okG G) (hc : Cx X RX12 cX12_degreeOf 4) (hr : Cr G 2 (some .int) K X) : ∀ (nn : Nat) (x1 x2 x3 : Int32) (R : RS), wl_degreeOf_4 K nn x1 x2 x3 R → MR G X 4 R 4 [(0, .ref G.2.2.1), (1, .int x1), (2, .int x2), (3, .int x3)] [] := by
  intro nn
  induction nn with
  | zero => intro x1 x2 x3 R hw; exact False.elim hw
  | succ nn ih =>
    intro x1 x2 x3 R hw
    have hw : wb_degreeOf_4 (wl_degreeOf_4 K nn) K x1 x2 x3 R := hw
    have h4 := ih
    generalize wl_degreeOf_4 K nn = K4 at hw h4
    unfold wb_degreeOf_4 at hw
    refine m_iload_n hc 3 dX12_degreeOf_4 rfl rfl ?_
    refine m_aload_n hc 0 dX12_degreeOf_5 rfl rfl ?_
    refine r_geta hc hr 2 dX12_degreeOf_6 lf_X12_13 (Nat.le_of_ble_eq_true rfl) rfl ?_
    refine m_iload_n hc 1 dX12_degreeOf_9 rfl rfl ?_
    obtain ⟨hi, hw⟩ := hw
    refine r_iald hc hr (i := 0) (f := 2) rfl hi dX12_degreeOf_10 ?_
    refine m_icmp_ge hc 34 dX12_degreeOf_11 rfl (fun cq => ?_) (fun cq => ?_)
    · have hw := hw.1 cq
      refine m_iload_n hc 2 dX12_degreeOf_34 rfl rfl ?_
      exact r_iret hc hr dX12_degreeOf_35 hw
    · have hw := hw.2 cq
      refine m_iload_n hc 2 dX12_degreeOf_14 rfl rfl ?_
      refine m_aload_n hc 0 dX12_degreeOf_15 rfl rfl ?_
      refine m_iload_n hc 1 dX12_degreeOf_16 rfl rfl ?_
      refine m_iload_n hc 3 dX12_degreeOf_17 rfl rfl ?_
      refine r_callVi hc hr mt_keyAt rfl lm_X12_123 (ok_keyAt hok hw) (Nat.le_of_ble_eq_true rfl) dX12_degreeOf_18 rfl (rest := [.int x2]) rfl (Nat.le_of_ble_eq_true rfl) (fun r1 R1 hw => ?_)
      refine r_callSi hc hr mt_degreeOfKey lm_X12_129 (ok_degreeOfKey hok hw) (Nat.le_of_ble_eq_true rfl) dX12_degreeOf_21 rfl (rest := [.int x2]) rfl (Nat.le_of_ble_eq_true rfl) (fun r2 R2 hw => ?_)
      refine m_mmax hc dX12_degreeOf_24 lm_X12_133 lM_max (r_room hr) (Nat.le_of_ble_eq_true rfl) ?_
      refine m_topi (fun v3 e_v3 => ?_)
      have hw := hw v3 e_v3
      refine m_istore_n hc [(2, .int v3), (0, .ref G.2.2.1), (1, .int x1), (3, .int x3)] dX12_degreeOf_27 rfl (Nat.le_of_ble_eq_true rfl) rfl ?_
      refine m_iinc hc 3 (x3 + 1) [(3, .int (x3 + 1)), (2, .int v3), (0, .ref G.2.2.1), (1, .int x1)] dX12_degreeOf_28 rfl rfl (Nat.le_of_ble_eq_true rfl) rfl ?_
      refine m_goto hc 4 dX12_degreeOf_31 rfl ?_
      refine m_sub [2, 3, 1, 0] rfl ?_
      exact h4 x1 v3 (x3 + 1) R2 hw
def wp_degreeOf (x1 : Int32) (R : RS) (K : Int32 → RS → Prop) : Prop := ∃ nn : Nat, wl_degreeOf_4 K nn x1 (-1) 0 R
set_option maxHeartbeats 4000000 in
set_option maxRecDepth 100000 in
theorem ok_degreeOf {G : RG} (hok : okG G) {x1 : Int32} {R : RS} {K : Int32 → RS → Prop} (hw : wp_degreeOf x1 R K) : CF 2 yX12_degreeOf cX12_degreeOf 4 (some .int) [.ref G.2.2.1, .int x1] G R K := by
  refine CF.of (by decide +kernel) hok (Nat.le_of_ble_eq_true rfl) (fun X hc hr => ?_)
  show MR G X 4 R 0 [(0, .ref G.2.2.1), (1, .int x1)] []
  unfold wp_degreeOf at hw
  refine m_iconst hc (-1) dX12_degreeOf_0 (by decide) ?_
  refine m_istore_n hc [(2, .int (-1)), (0, .ref G.2.2.1), (1, .int x1)] dX12_degreeOf_1 rfl (Nat.le_of_ble_eq_true rfl) rfl ?_
  refine m_iconst hc 0 dX12_degreeOf_2 (by decide) ?_
  refine m_istore_n hc [(3, .int 0), (2, .int (-1)), (0, .ref G.2.2.1), (1, .int x1)] dX12_degreeOf_3 rfl (Nat.le_of_ble_eq_true rfl) rfl ?_
  refine m_sub [2, 3, 1, 0] rfl ?_
  obtain ⟨nn, hw⟩ := hw
  exact l_degreeOf_4 hok hc hr nn x1 (-1) 0 R hw
def wp_gathers (x1 x2 x3 x4 : Int32) (R : RS) (K : Int32 → RS → Prop) : Prop := ∀ v1 : Int32, v1 = (((x1 * 81) + x2) * 81) + x3 → vp_in v1 531441 ∧ wp_mod ((R 5 (v1).toNatClampNeg) + x4) R (fun r2 R2 => vp_in v1 531441 ∧ vp_in ((up R2 5 (v1).toNatClampNeg r2) 0 7) 90600 ∧ K 0 (up (up (up R2 5 (v1).toNatClampNeg r2) 6 ((up R2 5 (v1).toNatClampNeg r2) 0 7).toNatClampNeg v1) 0 7 (((up (up R2 5 (v1).toNatClampNeg r2) 6 ((up R2 5 (v1).toNatClampNeg r2) 0 7).toNatClampNeg v1) 0 7) + 1)))
set_option maxHeartbeats 4000000 in
set_option maxRecDepth 100000 in
theorem ok_gathers {G : RG} (hok : okG G) {x1 : Int32} {x2 : Int32} {x3 : Int32} {x4 : Int32} {R : RS} {K : Int32 → RS → Prop} (hw : wp_gathers x1 x2 x3 x4 R K) : CF 1 yX12_gathers cX12_gathers 6 none [.ref G.2.2.1, .int x1, .int x2, .int x3, .int x4] G R K := by
  refine CF.of (by decide +kernel) hok (Nat.le_of_ble_eq_true rfl) (fun X hc hr => ?_)
  show MR G X 6 R 0 [(0, .ref G.2.2.1), (1, .int x1), (2, .int x2), (3, .int x3), (4, .int x4)] []
  unfold wp_gathers at hw
  refine m_iload_n hc 1 dX12_gathers_0 rfl rfl ?_
  refine m_bipush hc 81 dX12_gathers_1 (by decide) ?_
  refine m_imul hc dX12_gathers_3 ?_
  refine m_iload_n hc 2 dX12_gathers_4 rfl rfl ?_
  refine m_iadd hc dX12_gathers_5 ?_
  refine m_bipush hc 81 dX12_gathers_6 (by decide) ?_
  refine m_imul hc dX12_gathers_8 ?_
  refine m_iload_n hc 3 dX12_gathers_9 rfl rfl ?_
  refine m_iadd hc dX12_gathers_10 ?_
  refine m_topi (fun v1 e_v1 => ?_)
  have hw := hw v1 e_v1
  refine m_istore hc [(5, .int v1), (0, .ref G.2.2.1), (1, .int x1), (2, .int x2), (3, .int x3), (4, .int x4)] dX12_gathers_11 (Nat.le_of_ble_eq_true rfl) rfl ?_
  refine m_aload_n hc 1 dX12_gathers_13 rfl rfl ?_
  refine r_geta hc hr 5 dX12_gathers_14 lf_X12_24 (Nat.le_of_ble_eq_true rfl) rfl ?_
  refine m_iload hc 0 dX12_gathers_17 rfl ?_
  refine m_aload_n hc 1 dX12_gathers_19 rfl rfl ?_
  refine m_aload_n hc 1 dX12_gathers_20 rfl rfl ?_
  refine r_geta hc hr 5 dX12_gathers_21 lf_X12_24 (Nat.le_of_ble_eq_true rfl) rfl ?_
  refine m_iload hc 0 dX12_gathers_24 rfl ?_
  obtain ⟨hi, hw⟩ := hw
  refine r_iald hc hr (i := 3) (f := 5) rfl hi dX12_gathers_26 ?_
  refine m_iload hc 5 dX12_gathers_27 rfl ?_
  refine m_iadd hc dX12_gathers_29 ?_
  refine r_callVi hc hr mt_mod rfl lm_X12_138 (ok_mod hok hw) (Nat.le_of_ble_eq_true rfl) dX12_gathers_30 rfl (rest := [.int v1, .ref (G.2.2.2 5)]) rfl (Nat.le_of_ble_eq_true rfl) (fun r2 R2 hw => ?_)
  obtain ⟨hi, hw⟩ := hw
  refine r_iast hc hr (i := 3) (f := 5) rfl hi dX12_gathers_33 ?_
  refine m_aload_n hc 1 dX12_gathers_34 rfl rfl ?_
  refine r_geta hc hr 6 dX12_gathers_35 lf_X12_28 (Nat.le_of_ble_eq_true rfl) rfl ?_
  refine m_aload_n hc 1 dX12_gathers_38 rfl rfl ?_
  refine r_geti hc hr 7 dX12_gathers_39 lf_X12_141 (Nat.le_of_ble_eq_true rfl) rfl ?_
  refine m_iload hc 0 dX12_gathers_42 rfl ?_
  obtain ⟨hi, hw⟩ := hw
  refine r_iast hc hr (i := 4) (f := 6) rfl hi dX12_gathers_44 ?_
  refine m_aload_n hc 1 dX12_gathers_45 rfl rfl ?_
  refine m_dup hc dX12_gathers_46 rfl ?_
  refine r_geti hc hr 7 dX12_gathers_47 lf_X12_141 (Nat.le_of_ble_eq_true rfl) rfl ?_
  refine m_iconst hc 1 dX12_gathers_50 (by decide) ?_
  refine m_iadd hc dX12_gathers_51 ?_
  refine r_put hc hr 7 dX12_gathers_52 lf_X12_141 (Nat.le_of_ble_eq_true rfl) rfl rfl (by decide +kernel) ?_
  exact r_vret hc hr dX12_gathers_55 hw
