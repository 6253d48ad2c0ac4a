def wp_thrown (R : RS) (K : Int32 → RS → Prop) : Prop := K (R 0 0) R
set_option maxHeartbeats 4000000 in
set_option maxRecDepth 100000 in
theorem ok_thrown {G : RG} (hok : okG G) {R : RS} {K : Int32 → RS → Prop} (hw : wp_thrown R K) : CF 0 yX12_thrown cX12_thrown 1 (some .int) [.ref G.2.2.1] G R K := by
  refine CF.of (by decide +kernel) hok (Nat.le_of_ble_eq_true rfl) (fun X hc hr => ?_)
  show MR G X 1 R 0 [(0, .ref G.2.2.1)] []
  unfold wp_thrown at hw
  refine m_aload_n hc 0 dX12_thrown_0 rfl rfl ?_
  refine r_geti hc hr 0 dX12_thrown_1 lf_X12_116 (Nat.le_of_ble_eq_true rfl) rfl ?_
  exact r_iret hc hr dX12_thrown_4 hw
def wp_fail (x1 : Int32) (R : RS) (K : Int32 → RS → Prop) : Prop := K 0 (up R 0 0 x1)
set_option maxHeartbeats 4000000 in
set_option maxRecDepth 100000 in
theorem ok_fail {G : RG} (hok : okG G) {x1 : Int32} {R : RS} {K : Int32 → RS → Prop} (hw : wp_fail x1 R K) : CF 0 yX12_fail cX12_fail 2 (some .int) [.ref G.2.2.1, .int x1] G R K := by
  refine CF.of (by decide +kernel) hok (Nat.le_of_ble_eq_true rfl) (fun X hc hr => ?_)
  show MR G X 2 R 0 [(0, .ref G.2.2.1), (1, .int x1)] []
  unfold wp_fail at hw
  refine m_aload_n hc 0 dX12_fail_0 rfl rfl ?_
  refine m_iload_n hc 1 dX12_fail_1 rfl rfl ?_
  refine r_put hc hr 0 dX12_fail_2 lf_X12_116 (Nat.le_of_ble_eq_true rfl) rfl rfl (by decide +kernel) ?_
  refine m_iconst hc 0 dX12_fail_5 (by decide) ?_
  exact r_iret hc hr dX12_fail_6 hw
def wp_isIn (x0 x1 x2 : Int32) (R : RS) (K : Int32 → RS → Prop) : Prop := (x0 < x1 → K 0 R) ∧ (¬ (x0 < x1) → (x2 < x0 → K 0 R) ∧ (¬ (x2 < x0) → K 1 R))
set_option maxHeartbeats 4000000 in
set_option maxRecDepth 100000 in
theorem ok_isIn {G : RG} (hok : okG G) {x0 : Int32} {x1 : Int32} {x2 : Int32} {R : RS} {K : Int32 → RS → Prop} (hw : wp_isIn x0 x1 x2 R K) : CF 0 yX12_isIn cX12_isIn 3 (some .boolean) [.int x0, .int x1, .int x2] G R K := by
  refine CF.of (by decide +kernel) hok (Nat.le_of_ble_eq_true rfl) (fun X hc hr => ?_)
  show MR G X 3 R 0 [(0, .int x0), (1, .int x1), (2, .int x2)] []
  unfold wp_isIn at hw
  refine m_iload_n hc 0 dX12_isIn_0 rfl rfl ?_
  refine m_iload_n hc 1 dX12_isIn_1 rfl rfl ?_
  refine m_icmp_lt hc 14 dX12_isIn_2 rfl (fun cq => ?_) (fun cq => ?_)
  · have hw := hw.1 cq
    refine m_iconst hc 0 dX12_isIn_14 (by decide) ?_
    exact r_zret hc hr dX12_isIn_15 (by decide) hw
  · have hw := hw.2 cq
    refine m_iload_n hc 0 dX12_isIn_5 rfl rfl ?_
    refine m_iload_n hc 2 dX12_isIn_6 rfl rfl ?_
    refine m_icmp_gt hc 14 dX12_isIn_7 rfl (fun cq => ?_) (fun cq => ?_)
    · have hw := hw.1 cq
      refine m_iconst hc 0 dX12_isIn_14 (by decide) ?_
      exact r_zret hc hr dX12_isIn_15 (by decide) hw
    · have hw := hw.2 cq
      refine m_iconst hc 1 dX12_isIn_10 (by decide) ?_
      refine m_goto hc 15 dX12_isIn_11 rfl ?_
      exact r_zret hc hr dX12_isIn_15 (by decide) hw
def wp_mod (x1 : Int32) (R : RS) (K : Int32 → RS → Prop) : Prop := ¬ (R 0 1) = 0 ∧ ((0 ≤ (iRem x1 (R 0 1)) → K (iRem x1 (R 0 1)) R) ∧ (¬ (0 ≤ (iRem x1 (R 0 1))) → K ((iRem x1 (R 0 1)) + (R 0 1)) R))
set_option maxHeartbeats 4000000 in
set_option maxRecDepth 100000 in
theorem ok_mod {G : RG} (hok : okG G) {x1 : Int32} {R : RS} {K : Int32 → RS → Prop} (hw : wp_mod x1 R K) : CF 0 yX12_mod cX12_mod 3 (some .int) [.ref G.2.2.1, .int x1] G R K := by
  refine CF.of (by decide +kernel) hok (Nat.le_of_ble_eq_true rfl) (fun X hc hr => ?_)
  show MR G X 3 R 0 [(0, .ref G.2.2.1), (1, .int x1)] []
  unfold wp_mod at hw
  refine m_iload_n hc 1 dX12_mod_0 rfl rfl ?_
  refine m_aload_n hc 0 dX12_mod_1 rfl rfl ?_
  refine r_geti hc hr 1 dX12_mod_2 lf_X12_9 (Nat.le_of_ble_eq_true rfl) rfl ?_
  obtain ⟨hq, hw⟩ := hw
  refine m_irem hc dX12_mod_5 hq ?_
  refine m_istore_n hc [(2, .int (iRem x1 (R 0 1))), (0, .ref G.2.2.1), (1, .int x1)] dX12_mod_6 rfl (Nat.le_of_ble_eq_true rfl) rfl ?_
  refine m_iload_n hc 0 dX12_mod_7 rfl rfl ?_
  refine m_if_ge hc 20 dX12_mod_8 rfl (fun cq => ?_) (fun cq => ?_)
  · have hw := hw.1 cq
    refine m_iload_n hc 0 dX12_mod_20 rfl rfl ?_
    exact r_iret hc hr dX12_mod_21 hw
  · have hw := hw.2 cq
    refine m_iload_n hc 0 dX12_mod_11 rfl rfl ?_
    refine m_aload_n hc 1 dX12_mod_12 rfl rfl ?_
    refine r_geti hc hr 1 dX12_mod_13 lf_X12_9 (Nat.le_of_ble_eq_true rfl) rfl ?_
    refine m_iadd hc dX12_mod_16 ?_
    refine m_goto hc 21 dX12_mod_17 rfl ?_
    exact r_iret hc hr dX12_mod_21 hw
def wb_inverse_2 (K2 : Int32 → Int32 → RS → Prop) (K : Int32 → RS → Prop) (x1 x2 : Int32) (R : RS) : Prop := ¬ (R 0 1) = 0 ∧ (((iRem (x2 * x1) (R 0 1)) = 1 → K x2 R) ∧ (¬ ((iRem (x2 * x1) (R 0 1)) = 1) → K2 x1 (x2 + 1) R))
def wl_inverse_2 (K : Int32 → RS → Prop) : Nat → Int32 → Int32 → RS → Prop
  | 0 => fun _ _ _ => False
  | nn + 1 => wb_inverse_2 (wl_inverse_2 K nn) K
set_option maxHeartbeats 4000000 in
set_option maxRecDepth 100000 in
theorem l_inverse_2 {G : RG} {X : Fx} {K : Int32 → RS → Prop} (hok : okG G) (hc : Cx X RX12 cX12_inverse 3) (hr : Cr G 0 (some .int) K X) : ∀ (nn : Nat) (x1 x2 : Int32) (R : RS), wl_inverse_2 K nn x1 x2 R → MR G X 3 R 2 [(0, .ref G.2.2.1), (1, .int x1), (2, .int x2)] [] := by
  intro nn
  induction nn with
  | zero => intro x1 x2 R hw; exact False.elim hw
  | succ nn ih =>
    intro x1 x2 R hw
    have hw : wb_inverse_2 (wl_inverse_2 K nn) K x1 x2 R := hw
    have h2 := ih
    generalize wl_inverse_2 K nn = K2 at hw h2
    unfold wb_inverse_2 at hw
    refine m_iload_n hc 2 dX12_inverse_2 rfl rfl ?_
    refine m_iload_n hc 1 dX12_inverse_3 rfl rfl ?_
    refine m_imul hc dX12_inverse_4 ?_
    refine m_aload_n hc 0 dX12_inverse_5 rfl rfl ?_
    refine r_geti hc hr 1 dX12_inverse_6 lf_X12_9 (Nat.le_of_ble_eq_true rfl) rfl ?_
    obtain ⟨hq, hw⟩ := hw
    refine m_irem hc dX12_inverse_9 hq ?_
    refine m_iconst hc 1 dX12_inverse_10 (by decide) ?_
    refine m_icmp_eq hc 20 dX12_inverse_11 rfl (fun cq => ?_) (fun cq => ?_)
    · have hw := hw.1 cq
      refine m_iload_n hc 2 dX12_inverse_20 rfl rfl ?_
      exact r_iret hc hr dX12_inverse_21 hw
    · have hw := hw.2 cq
      refine m_iinc hc 2 (x2 + 1) [(2, .int (x2 + 1)), (0, .ref G.2.2.1), (1, .int x1)] dX12_inverse_14 rfl rfl (Nat.le_of_ble_eq_true rfl) rfl ?_
      refine m_goto hc 2 dX12_inverse_17 rfl ?_
      refine m_sub [1, 2, 0] rfl ?_
      exact h2 x1 (x2 + 1) R hw
def wp_inverse (x1 : Int32) (R : RS) (K : Int32 → RS → Prop) : Prop := ∃ nn : Nat, wl_inverse_2 K nn x1 1 R
set_option maxHeartbeats 4000000 in
set_option maxRecDepth 100000 in
theorem ok_inverse {G : RG} (hok : okG G) {x1 : Int32} {R : RS} {K : Int32 → RS → Prop} (hw : wp_inverse x1 R K) : CF 0 yX12_inverse cX12_inverse 3 (some .int) [.ref G.2.2.1, .int x1] G R K := by
  refine CF.of (by decide +kernel) hok (Nat.le_of_ble_eq_true rfl) (fun X hc hr => ?_)
  show MR G X 3 R 0 [(0, .ref G.2.2.1), (1, .int x1)] []
  unfold wp_inverse at hw
  refine m_iconst hc 1 dX12_inverse_0 (by decide) ?_
  refine m_istore_n hc [(2, .int 1), (0, .ref G.2.2.1), (1, .int x1)] dX12_inverse_1 rfl (Nat.le_of_ble_eq_true rfl) rfl ?_
  refine m_sub [1, 2, 0] rfl ?_
  obtain ⟨nn, hw⟩ := hw
  exact l_inverse_2 hok hc hr nn x1 1 R hw
def wp_keyOf (x0 x1 x2 : Int32) (R : RS) (K : Int32 → RS → Prop) : Prop := K ((((x0 * 41) + x1) * 41) + x2) R
set_option maxHeartbeats 4000000 in
set_option maxRecDepth 100000 in
theorem ok_keyOf {G : RG} (hok : okG G) {x0 : Int32} {x1 : Int32} {x2 : Int32} {R : RS} {K : Int32 → RS → Prop} (hw : wp_keyOf x0 x1 x2 R K) : CF 0 yX12_keyOf cX12_keyOf 3 (some .int) [.int x0, .int x1, .int x2] G R K := by
  refine CF.of (by decide +kernel) hok (Nat.le_of_ble_eq_true rfl) (fun X hc hr => ?_)
  show MR G X 3 R 0 [(0, .int x0), (1, .int x1), (2, .int x2)] []
  unfold wp_keyOf at hw
  refine m_iload_n hc 0 dX12_keyOf_0 rfl rfl ?_
  refine m_bipush hc 41 dX12_keyOf_1 (by decide) ?_
  refine m_imul hc dX12_keyOf_3 ?_
  refine m_iload_n hc 1 dX12_keyOf_4 rfl rfl ?_
  refine m_iadd hc dX12_keyOf_5 ?_
  refine m_bipush hc 41 dX12_keyOf_6 (by decide) ?_
  refine m_imul hc dX12_keyOf_8 ?_
  refine m_iload_n hc 2 dX12_keyOf_9 rfl rfl ?_
  refine m_iadd hc dX12_keyOf_10 ?_
  exact r_iret hc hr dX12_keyOf_11 hw
def wp_ex (x0 x1 : Int32) (R : RS) (K : Int32 → RS → Prop) : Prop := (¬ x1 = 0 → (¬ x1 = 1 → K (iRem x0 41) R) ∧ (x1 = 1 → K (iRem (x0 / 41) 41) R)) ∧ (x1 = 0 → K (x0 / 1681) R)
set_option maxHeartbeats 4000000 in
set_option maxRecDepth 100000 in
theorem ok_ex {G : RG} (hok : okG G) {x0 : Int32} {x1 : Int32} {R : RS} {K : Int32 → RS → Prop} (hw : wp_ex x0 x1 R K) : CF 0 yX12_ex cX12_ex 2 (some .int) [.int x0, .int x1] G R K := by
  refine CF.of (by decide +kernel) hok (Nat.le_of_ble_eq_true rfl) (fun X hc hr => ?_)
  show MR G X 2 R 0 [(0, .int x0), (1, .int x1)] []
  unfold wp_ex at hw
  refine m_iload_n hc 1 dX12_ex_0 rfl rfl ?_
  refine m_if_ne hc 12 dX12_ex_1 rfl (fun cq => ?_) (fun cq => ?_)
  · have hw := hw.1 cq
    refine m_iload_n hc 1 dX12_ex_12 rfl rfl ?_
    refine m_iconst hc 1 dX12_ex_13 (by decide) ?_
    refine m_icmp_ne hc 27 dX12_ex_14 rfl (fun cq => ?_) (fun cq => ?_)
    · have hw := hw.1 cq
      refine m_iload_n hc 0 dX12_ex_27 rfl rfl ?_
      refine m_bipush hc 41 dX12_ex_28 (by decide) ?_
      refine m_irem hc dX12_ex_30 (by decide) ?_
      exact r_iret hc hr dX12_ex_31 hw
    · have hw := hw.2 cq
      refine m_iload_n hc 0 dX12_ex_17 rfl rfl ?_
      refine m_bipush hc 41 dX12_ex_18 (by decide) ?_
      refine m_idiv hc dX12_ex_20 (by decide) ?_
      refine m_bipush hc 41 dX12_ex_21 (by decide) ?_
      refine m_irem hc dX12_ex_23 (by decide) ?_
      refine m_goto hc 31 dX12_ex_24 rfl ?_
      exact r_iret hc hr dX12_ex_31 hw
  · have hw := hw.2 cq
    refine m_iload_n hc 0 dX12_ex_4 rfl rfl ?_
    refine m_sipush hc 1681 dX12_ex_5 (by decide) ?_
    refine m_idiv hc dX12_ex_8 (by decide) ?_
    refine m_goto hc 31 dX12_ex_9 rfl ?_
    exact r_iret hc hr dX12_ex_31 hw
def wp_degreeOfKey (x0 : Int32) (R : RS) (K : Int32 → RS → Prop) : Prop := wp_ex x0 0 R (fun r1 R1 => wp_ex x0 1 R1 (fun r2 R2 => wp_ex x0 2 R2 (fun r3 R3 => K ((r1 + r2) + r3) R3)))
set_option maxHeartbeats 4000000 in
set_option maxRecDepth 100000 in
theorem ok_degreeOfKey {G : RG} (hok : okG G) {x0 : Int32} {R : RS} {K : Int32 → RS → Prop} (hw : wp_degreeOfKey x0 R K) : CF 1 yX12_degreeOfKey cX12_degreeOfKey 1 (some .int) [.int x0] G R K := by
  refine CF.of (by decide +kernel) hok (Nat.le_of_ble_eq_true rfl) (fun X hc hr => ?_)
  show MR G X 1 R 0 [(0, .int x0)] []
  unfold wp_degreeOfKey at hw
  refine m_iload_n hc 0 dX12_degreeOfKey_0 rfl rfl ?_
  refine m_iconst hc 0 dX12_degreeOfKey_1 (by decide) ?_
  refine r_callSi hc hr mt_ex lm_X12_119 (ok_ex hok hw) (Nat.le_of_ble_eq_true rfl) dX12_degreeOfKey_2 rfl (rest := []) rfl (Nat.le_of_ble_eq_true rfl) (fun r1 R1 hw => ?_)
  refine m_iload_n hc 0 dX12_degreeOfKey_5 rfl rfl ?_
  refine m_iconst hc 1 dX12_degreeOfKey_6 (by decide) ?_
  refine r_callSi hc hr mt_ex lm_X12_119 (ok_ex hok hw) (Nat.le_of_ble_eq_true rfl) dX12_degreeOfKey_7 rfl (rest := [.int r1]) rfl (Nat.le_of_ble_eq_true rfl) (fun r2 R2 hw => ?_)
  refine m_iadd hc dX12_degreeOfKey_10 ?_
  refine m_iload_n hc 0 dX12_degreeOfKey_11 rfl rfl ?_
  refine m_iconst hc 2 dX12_degreeOfKey_12 (by decide) ?_
  refine r_callSi hc hr mt_ex lm_X12_119 (ok_ex hok hw) (Nat.le_of_ble_eq_true rfl) dX12_degreeOfKey_13 rfl (rest := [.int (r1 + r2)]) rfl (Nat.le_of_ble_eq_true rfl) (fun r3 R3 hw => ?_)
  refine m_iadd hc dX12_degreeOfKey_16 ?_
  exact r_iret hc hr dX12_degreeOfKey_17 hw
def wp_keyAt (x1 x2 : Int32) (R : RS) (K : Int32 → RS → Prop) : Prop := vp_in ((300 * x1) + x2) 16800 ∧ K (R 3 (Int32.toNatClampNeg ((300 * x1) + x2))) R
set_option maxHeartbeats 4000000 in
set_option maxRecDepth 100000 in
theorem ok_keyAt {G : RG} (hok : okG G) {x1 : Int32} {x2 : Int32} {R : RS} {K : Int32 → RS → Prop} (hw : wp_keyAt x1 x2 R K) : CF 0 yX12_keyAt cX12_keyAt 3 (some .int) [.ref G.2.2.1, .int x1, .int x2] G R K := by
  refine CF.of (by decide +kernel) hok (Nat.le_of_ble_eq_true rfl) (fun X hc hr => ?_)
  show MR G X 3 R 0 [(0, .ref G.2.2.1), (1, .int x1), (2, .int x2)] []
  unfold wp_keyAt at hw
  refine m_aload_n hc 0 dX12_keyAt_0 rfl rfl ?_
  refine r_geta hc hr 3 dX12_keyAt_1 lf_X12_17 (Nat.le_of_ble_eq_true rfl) rfl ?_
  refine m_sipush hc 300 dX12_keyAt_4 (by decide) ?_
  refine m_iload_n hc 1 dX12_keyAt_7 rfl rfl ?_
  refine m_imul hc dX12_keyAt_8 ?_
  refine m_iload_n hc 2 dX12_keyAt_9 rfl rfl ?_
  refine m_iadd hc dX12_keyAt_10 ?_
  obtain ⟨hi, hw⟩ := hw
  refine r_iald hc hr (i := 1) (f := 3) rfl hi dX12_keyAt_11 ?_
  exact r_iret hc hr dX12_keyAt_12 hw
def wp_numAt (x1 x2 : Int32) (R : RS) (K : Int32 → RS → Prop) : Prop := vp_in ((300 * x1) + x2) 16800 ∧ K (R 4 (Int32.toNatClampNeg ((300 * x1) + x2))) R
set_option maxHeartbeats 4000000 in
set_option maxRecDepth 100000 in
theorem ok_numAt {G : RG} (hok : okG G) {x1 : Int32} {x2 : Int32} {R : RS} {K : Int32 → RS → Prop} (hw : wp_numAt x1 x2 R K) : CF 0 yX12_numAt cX12_numAt 3 (some .int) [.ref G.2.2.1, .int x1, .int x2] G R K := by
  refine CF.of (by decide +kernel) hok (Nat.le_of_ble_eq_true rfl) (fun X hc hr => ?_)
  show MR G X 3 R 0 [(0, .ref G.2.2.1), (1, .int x1), (2, .int x2)] []
  unfold wp_numAt at hw
  refine m_aload_n hc 0 dX12_numAt_0 rfl rfl ?_
  refine r_geta hc hr 4 dX12_numAt_1 lf_X12_20 (Nat.le_of_ble_eq_true rfl) rfl ?_
  refine m_sipush hc 300 dX12_numAt_4 (by decide) ?_
  refine m_iload_n hc 1 dX12_numAt_7 rfl rfl ?_
  refine m_imul hc dX12_numAt_8 ?_
  refine m_iload_n hc 2 dX12_numAt_9 rfl rfl ?_
  refine m_iadd hc dX12_numAt_10 ?_
  obtain ⟨hi, hw⟩ := hw
  refine r_iald hc hr (i := 2) (f := 4) rfl hi dX12_numAt_11 ?_
  exact r_iret hc hr dX12_numAt_12 hw
def wb_copy_14 (K14 : Int32 → Int32 → Int32 → RS → Prop) (K : Int32 → RS → Prop) (x1 x2 x3 : Int32) (R : RS) : Prop := vp_in x2 56 ∧ ((R 2 (Int32.toNatClampNeg x2)) ≤ x3 → K 0 R) ∧ (¬ ((R 2 (Int32.toNatClampNeg x2)) ≤ x3) → wp_keyAt x2 x3 R (fun r1 R1 => vp_in ((300 * x1) + x3) 16800 ∧ wp_numAt x2 x3 (up R1 3 (Int32.toNatClampNeg ((300 * x1) + x3)) r1) (fun r2 R2 => vp_in ((300 * x1) + x3) 16800 ∧ K14 x1 x2 (x3 + 1) (up R2 4 (Int32.toNatClampNeg ((300 * x1) + x3)) r2))))
def wl_copy_14 (K : Int32 → RS → Prop) : Nat → Int32 → Int32 → Int32 → RS → Prop
  | 0 => fun _ _ _ _ => False
  | nn + 1 => wb_copy_14 (wl_copy_14 K nn) K
set_option maxHeartbeats 4000000 in
set_option maxRecDepth 100000 in
theorem l_copy_14 {G : RG} {X : Fx} {K : Int32 → RS → Prop} (hok : okG G) (hc : Cx X RX12 cX12_copy 4) (hr : Cr G 1 none K X) : ∀ (nn : Nat) (x1 x2 x3 : Int32) (R : RS), wl_copy_14 K nn x1 x2 x3 R → MR G X 4 R 14 [(0, .ref G.2.2.1), (1, .int x1), (2, .int x2), (3, .int x3)] [] := by
  intro nn
  induction nn with
  | zero => intro x1 x2 x3 R hw; exact False.elim hw
  | succ nn ih =>
    intro x1 x2 x3 R hw
    have hw : wb_copy_14 (wl_copy_14 K nn) K x1 x2 x3 R := hw
    have h14 := ih
    generalize wl_copy_14 K nn = K14 at hw h14
    unfold wb_copy_14 at hw
    refine m_iload_n hc 3 dX12_copy_14 rfl rfl ?_
    refine m_aload_n hc 0 dX12_copy_15 rfl rfl ?_
    refine r_geta hc hr 2 dX12_copy_16 lf_X12_13 (Nat.le_of_ble_eq_true rfl) rfl ?_
    refine m_iload_n hc 2 dX12_copy_19 rfl rfl ?_
    obtain ⟨hi, hw⟩ := hw
    refine r_iald hc hr (i := 0) (f := 2) rfl hi dX12_copy_20 ?_
    refine m_icmp_ge hc 66 dX12_copy_21 rfl (fun cq => ?_) (fun cq => ?_)
    · have hw := hw.1 cq
      exact r_vret hc hr dX12_copy_66 hw
    · have hw := hw.2 cq
      refine m_aload_n hc 0 dX12_copy_24 rfl rfl ?_
      refine r_geta hc hr 3 dX12_copy_25 lf_X12_17 (Nat.le_of_ble_eq_true rfl) rfl ?_
      refine m_sipush hc 300 dX12_copy_28 (by decide) ?_
      refine m_iload_n hc 1 dX12_copy_31 rfl rfl ?_
      refine m_imul hc dX12_copy_32 ?_
      refine m_iload_n hc 3 dX12_copy_33 rfl rfl ?_
      refine m_iadd hc dX12_copy_34 ?_
      refine m_aload_n hc 0 dX12_copy_35 rfl rfl ?_
      refine m_iload_n hc 2 dX12_copy_36 rfl rfl ?_
      refine m_iload_n hc 3 dX12_copy_37 rfl rfl ?_
      refine r_callVi hc hr mt_keyAt rfl lm_X12_123 (ok_keyAt hok hw) (Nat.le_of_ble_eq_true rfl) dX12_copy_38 rfl (rest := [.int ((300 * x1) + x3), .ref (G.2.2.2 3)]) rfl (Nat.le_of_ble_eq_true rfl) (fun r1 R1 hw => ?_)
      obtain ⟨hi, hw⟩ := hw
      refine r_iast hc hr (i := 1) (f := 3) rfl hi dX12_copy_41 ?_
      refine m_aload_n hc 0 dX12_copy_42 rfl rfl ?_
      refine r_geta hc hr 4 dX12_copy_43 lf_X12_20 (Nat.le_of_ble_eq_true rfl) rfl ?_
      refine m_sipush hc 300 dX12_copy_46 (by decide) ?_
      refine m_iload_n hc 1 dX12_copy_49 rfl rfl ?_
      refine m_imul hc dX12_copy_50 ?_
      refine m_iload_n hc 3 dX12_copy_51 rfl rfl ?_
      refine m_iadd hc dX12_copy_52 ?_
      refine m_aload_n hc 0 dX12_copy_53 rfl rfl ?_
      refine m_iload_n hc 2 dX12_copy_54 rfl rfl ?_
      refine m_iload_n hc 3 dX12_copy_55 rfl rfl ?_
      refine r_callVi hc hr mt_numAt rfl lm_X12_126 (ok_numAt hok hw) (Nat.le_of_ble_eq_true rfl) dX12_copy_56 rfl (rest := [.int ((300 * x1) + x3), .ref (G.2.2.2 4)]) rfl (Nat.le_of_ble_eq_true rfl) (fun r2 R2 hw => ?_)
      obtain ⟨hi, hw⟩ := hw
      refine r_iast hc hr (i := 2) (f := 4) rfl hi dX12_copy_59 ?_
      refine m_iinc hc 3 (x3 + 1) [(3, .int (x3 + 1)), (0, .ref G.2.2.1), (1, .int x1), (2, .int x2)] dX12_copy_60 rfl rfl (Nat.le_of_ble_eq_true rfl) rfl ?_
      refine m_goto hc 14 dX12_copy_63 rfl ?_
      refine m_sub [1, 2, 3, 0] rfl ?_
      exact h14 x1 x2 (x3 + 1) (up R2 4 (Int32.toNatClampNeg ((300 * x1) + x3)) r2) hw
def wp_copy (x1 x2 : Int32) (R : RS) (K : Int32 → RS → Prop) : Prop := vp_in x2 56 ∧ vp_in x1 56 ∧ ∃ nn : Nat, wl_copy_14 K nn x1 x2 0 (up R 2 (Int32.toNatClampNeg x1) (R 2 (Int32.toNatClampNeg x2)))
set_option maxHeartbeats 4000000 in
set_option maxRecDepth 100000 in
theorem ok_copy {G : RG} (hok : okG G) {x1 : Int32} {x2 : Int32} {R : RS} {K : Int32 → RS → Prop} (hw : wp_copy x1 x2 R K) : CF 1 yX12_copy cX12_copy 4 none [.ref G.2.2.1, .int x1, .int x2] G R K := by
  refine CF.of (by decide +kernel) hok (Nat.le_of_ble_eq_true rfl) (fun X hc hr => ?_)
  show MR G X 4 R 0 [(0, .ref G.2.2.1), (1, .int x1), (2, .int x2)] []
  unfold wp_copy at hw
  refine m_aload_n hc 0 dX12_copy_0 rfl rfl ?_
  refine r_geta hc hr 2 dX12_copy_1 lf_X12_13 (Nat.le_of_ble_eq_true rfl) rfl ?_
  refine m_iload_n hc 1 dX12_copy_4 rfl rfl ?_
  refine m_aload_n hc 0 dX12_copy_5 rfl rfl ?_
  refine r_geta hc hr 2 dX12_copy_6 lf_X12_13 (Nat.le_of_ble_eq_true rfl) rfl ?_
  refine m_iload_n hc 2 dX12_copy_9 rfl rfl ?_
  obtain ⟨hi, hw⟩ := hw
  refine r_iald hc hr (i := 0) (f := 2) rfl hi dX12_copy_10 ?_
  obtain ⟨hi, hw⟩ := hw
  refine r_iast hc hr (i := 0) (f := 2) rfl hi dX12_copy_11 ?_
  refine m_iconst hc 0 dX12_copy_12 (by decide) ?_
  refine m_istore_n hc [(3, .int 0), (0, .ref G.2.2.1), (1, .int x1), (2, .int x2)] dX12_copy_13 rfl (Nat.le_of_ble_eq_true rfl) rfl ?_
  refine m_sub [1, 2, 3, 0] rfl ?_
  obtain ⟨nn, hw⟩ := hw
  exact l_copy_14 hok hc hr nn x1 x2 0 (up R 2 (Int32.toNatClampNeg x1) (R 2 (Int32.toNatClampNeg x2))) hw
def wb_degreeOf_4 (K4 : Int32 → Int32 → Int32 → RS → Prop) (K : Int32 → RS → Prop) (x1 x2 x3 : Int32) (R : RS) : Prop := vp_in x1 56 ∧ ((R 2 (Int32.toNatClampNeg x1)) ≤ x3 → K x2 R) ∧ (¬ ((R 2 (Int32.toNatClampNeg x1)) ≤ x3) → wp_keyAt x1 x3 R (fun r1 R1 => wp_degreeOfKey r1 R1 (fun r2 R2 => ∀ v3 : Int32, v3 = (if x2 < r2 then r2 else x2) → K4 x1 v3 (x3 + 1) R2)))
def wl_degreeOf_4 (K : Int32 → RS → Prop) : Nat → Int32 → Int32 → Int32 → RS → Prop
  | 0 => fun _ _ _ _ => False
  | nn + 1 => wb_degreeOf_4 (wl_degreeOf_4 K nn) K
set_option maxHeartbeats 4000000 in
set_option maxRecDepth 100000 in
theorem l_degreeOf_4 {G : RG} {X : Fx} {K : Int32 → RS → Prop} (hok : okG G) (hc : Cx X RX12 cX12_degreeOf 4) (hr : Cr G 2 (some .int) K X) : ∀ (nn : Nat) (x1 x2 x3 : Int32) (R : RS), wl_degreeOf_4 K nn x1 x2 x3 R → MR G X 4 R 4 [(0, .ref G.2.2.1), (1, .int x1), (2, .int x2), (3, .int x3)] [] := by
  intro nn
  induction nn with
  | zero => intro x1 x2 x3 R hw; exact False.elim hw
  | succ nn ih =>
    intro x1 x2 x3 R hw
    have hw : wb_degreeOf_4 (wl_degreeOf_4 K nn) K x1 x2 x3 R := hw
    have h4 := ih
    generalize wl_degreeOf_4 K nn = K4 at hw h4
    unfold wb_degreeOf_4 at hw
    refine m_iload_n hc 3 dX12_degreeOf_4 rfl rfl ?_
    refine m_aload_n hc 0 dX12_degreeOf_5 rfl rfl ?_
    refine r_geta hc hr 2 dX12_degreeOf_6 lf_X12_13 (Nat.le_of_ble_eq_true rfl) rfl ?_
    refine m_iload_n hc 1 dX12_degreeOf_9 rfl rfl ?_
    obtain ⟨hi, hw⟩ := hw
    refine r_iald hc hr (i := 0) (f := 2) rfl hi dX12_degreeOf_10 ?_
    refine m_icmp_ge hc 34 dX12_degreeOf_11 rfl (fun cq => ?_) (fun cq => ?_)
    · have hw := hw.1 cq
      refine m_iload_n hc 2 dX12_degreeOf_34 rfl rfl ?_
      exact r_iret hc hr dX12_degreeOf_35 hw
    · have hw := hw.2 cq
      refine m_iload_n hc 2 dX12_degreeOf_14 rfl rfl ?_
      refine m_aload_n hc 0 dX12_degreeOf_15 rfl rfl ?_
      refine m_iload_n hc 1 dX12_degreeOf_16 rfl rfl ?_
      refine m_iload_n hc 3 dX12_degreeOf_17 rfl rfl ?_
      refine r_callVi hc hr mt_keyAt rfl lm_X12_123 (ok_keyAt hok hw) (Nat.le_of_ble_eq_true rfl) dX12_degreeOf_18 rfl (rest := [.int x2]) rfl (Nat.le_of_ble_eq_true rfl) (fun r1 R1 hw => ?_)
      refine r_callSi hc hr mt_degreeOfKey lm_X12_129 (ok_degreeOfKey hok hw) (Nat.le_of_ble_eq_true rfl) dX12_degreeOf_21 rfl (rest := [.int x2]) rfl (Nat.le_of_ble_eq_true rfl) (fun r2 R2 hw => ?_)
      refine m_mmax hc dX12_degreeOf_24 lm_X12_133 lM_max (r_room hr) (Nat.le_of_ble_eq_true rfl) ?_
      refine m_topi (fun v3 e_v3 => ?_)
      have hw := hw v3 e_v3
      refine m_istore_n hc [(2, .int v3), (0, .ref G.2.2.1), (1, .int x1), (3, .int x3)] dX12_degreeOf_27 rfl (Nat.le_of_ble_eq_true rfl) rfl ?_
      refine m_iinc hc 3 (x3 + 1) [(3, .int (x3 + 1)), (2, .int v3), (0, .ref G.2.2.1), (1, .int x1)] dX12_degreeOf_28 rfl rfl (Nat.le_of_ble_eq_true rfl) rfl ?_
      refine m_goto hc 4 dX12_degreeOf_31 rfl ?_
      refine m_sub [2, 3, 1, 0] rfl ?_
      exact h4 x1 v3 (x3 + 1) R2 hw
def wp_degreeOf (x1 : Int32) (R : RS) (K : Int32 → RS → Prop) : Prop := ∃ nn : Nat, wl_degreeOf_4 K nn x1 (-1) 0 R
set_option maxHeartbeats 4000000 in
set_option maxRecDepth 100000 in
theorem ok_degreeOf {G : RG} (hok : okG G) {x1 : Int32} {R : RS} {K : Int32 → RS → Prop} (hw : wp_degreeOf x1 R K) : CF 2 yX12_degreeOf cX12_degreeOf 4 (some .int) [.ref G.2.2.1, .int x1] G R K := by
  refine CF.of (by decide +kernel) hok (Nat.le_of_ble_eq_true rfl) (fun X hc hr => ?_)
  show MR G X 4 R 0 [(0, .ref G.2.2.1), (1, .int x1)] []
  unfold wp_degreeOf at hw
  refine m_iconst hc (-1) dX12_degreeOf_0 (by decide) ?_
  refine m_istore_n hc [(2, .int (-1)), (0, .ref G.2.2.1), (1, .int x1)] dX12_degreeOf_1 rfl (Nat.le_of_ble_eq_true rfl) rfl ?_
  refine m_iconst hc 0 dX12_degreeOf_2 (by decide) ?_
  refine m_istore_n hc [(3, .int 0), (2, .int (-1)), (0, .ref G.2.2.1), (1, .int x1)] dX12_degreeOf_3 rfl (Nat.le_of_ble_eq_true rfl) rfl ?_
  refine m_sub [2, 3, 1, 0] rfl ?_
  obtain ⟨nn, hw⟩ := hw
  exact l_degreeOf_4 hok hc hr nn x1 (-1) 0 R hw
def wb_degreeIn_5 (K5 : Int32 → Int32 → Int32 → Int32 → RS → Prop) (K : Int32 → RS → Prop) (x1 x2 x3 x4 : Int32) (R : RS) : Prop := vp_in x1 56 ∧ ((R 2 (Int32.toNatClampNeg x1)) ≤ x4 → K x3 R) ∧ (¬ ((R 2 (Int32.toNatClampNeg x1)) ≤ x4) → wp_keyAt x1 x4 R (fun r1 R1 => wp_ex r1 x2 R1 (fun r2 R2 => ∀ v3 : Int32, v3 = (if x3 < r2 then r2 else x3) → K5 x1 x2 v3 (x4 + 1) R2)))
def wl_degreeIn_5 (K : Int32 → RS → Prop) : Nat → Int32 → Int32 → Int32 → Int32 → RS → Prop
  | 0 => fun _ _ _ _ _ => False
  | nn + 1 => wb_degreeIn_5 (wl_degreeIn_5 K nn) K
set_option maxHeartbeats 4000000 in
set_option maxRecDepth 100000 in
theorem l_degreeIn_5 {G : RG} {X : Fx} {K : Int32 → RS → Prop} (hok : okG G) (hc : Cx X RX12 cX12_degreeIn 5) (hr : Cr G 1 (some .int) K X) : ∀ (nn : Nat) (x1 x2 x3 x4 : Int32) (R : RS), wl_degreeIn_5 K nn x1 x2 x3 x4 R → MR G X 5 R 5 [(0, .ref G.2.2.1), (1, .int x1), (2, .int x2), (3, .int x3), (4, .int x4)] [] := by
  intro nn
  induction nn with
  | zero => intro x1 x2 x3 x4 R hw; exact False.elim hw
  | succ nn ih =>
    intro x1 x2 x3 x4 R hw
    have hw : wb_degreeIn_5 (wl_degreeIn_5 K nn) K x1 x2 x3 x4 R := hw
    have h5 := ih
    generalize wl_degreeIn_5 K nn = K5 at hw h5
    unfold wb_degreeIn_5 at hw
    refine m_iload hc 4 dX12_degreeIn_5 rfl ?_
    refine m_aload_n hc 0 dX12_degreeIn_7 rfl rfl ?_
    refine r_geta hc hr 2 dX12_degreeIn_8 lf_X12_13 (Nat.le_of_ble_eq_true rfl) rfl ?_
    refine m_iload_n hc 1 dX12_degreeIn_11 rfl rfl ?_
    obtain ⟨hi, hw⟩ := hw
    refine r_iald hc hr (i := 0) (f := 2) rfl hi dX12_degreeIn_12 ?_
    refine m_icmp_ge hc 38 dX12_degreeIn_13 rfl (fun cq => ?_) (fun cq => ?_)
    · have hw := hw.1 cq
      refine m_iload_n hc 3 dX12_degreeIn_38 rfl rfl ?_
      exact r_iret hc hr dX12_degreeIn_39 hw
    · have hw := hw.2 cq
      refine m_iload_n hc 3 dX12_degreeIn_16 rfl rfl ?_
      refine m_aload_n hc 0 dX12_degreeIn_17 rfl rfl ?_
      refine m_iload_n hc 1 dX12_degreeIn_18 rfl rfl ?_
      refine m_iload hc 4 dX12_degreeIn_19 rfl ?_
      refine r_callVi hc hr mt_keyAt rfl lm_X12_123 (ok_keyAt hok hw) (Nat.le_of_ble_eq_true rfl) dX12_degreeIn_21 rfl (rest := [.int x3]) rfl (Nat.le_of_ble_eq_true rfl) (fun r1 R1 hw => ?_)
      refine m_iload_n hc 2 dX12_degreeIn_24 rfl rfl ?_
      refine r_callSi hc hr mt_ex lm_X12_119 (ok_ex hok hw) (Nat.le_of_ble_eq_true rfl) dX12_degreeIn_25 rfl (rest := [.int x3]) rfl (Nat.le_of_ble_eq_true rfl) (fun r2 R2 hw => ?_)
      refine m_mmax hc dX12_degreeIn_28 lm_X12_133 lM_max (r_room hr) (Nat.le_of_ble_eq_true rfl) ?_
      refine m_topi (fun v3 e_v3 => ?_)
      have hw := hw v3 e_v3
      refine m_istore_n hc [(3, .int v3), (0, .ref G.2.2.1), (1, .int x1), (2, .int x2), (4, .int x4)] dX12_degreeIn_31 rfl (Nat.le_of_ble_eq_true rfl) rfl ?_
      refine m_iinc hc 4 (x4 + 1) [(4, .int (x4 + 1)), (3, .int v3), (0, .ref G.2.2.1), (1, .int x1), (2, .int x2)] dX12_degreeIn_32 rfl rfl (Nat.le_of_ble_eq_true rfl) rfl ?_
      refine m_goto hc 5 dX12_degreeIn_35 rfl ?_
      refine m_sub [2, 3, 4, 1, 0] rfl ?_
      exact h5 x1 x2 v3 (x4 + 1) R2 hw
def wp_degreeIn (x1 x2 : Int32) (R : RS) (K : Int32 → RS → Prop) : Prop := ∃ nn : Nat, wl_degreeIn_5 K nn x1 x2 (-1) 0 R
set_option maxHeartbeats 4000000 in
set_option maxRecDepth 100000 in
theorem ok_degreeIn {G : RG} (hok : okG G) {x1 : Int32} {x2 : Int32} {R : RS} {K : Int32 → RS → Prop} (hw : wp_degreeIn x1 x2 R K) : CF 1 yX12_degreeIn cX12_degreeIn 5 (some .int) [.ref G.2.2.1, .int x1, .int x2] G R K := by
  refine CF.of (by decide +kernel) hok (Nat.le_of_ble_eq_true rfl) (fun X hc hr => ?_)
  show MR G X 5 R 0 [(0, .ref G.2.2.1), (1, .int x1), (2, .int x2)] []
  unfold wp_degreeIn at hw
  refine m_iconst hc (-1) dX12_degreeIn_0 (by decide) ?_
  refine m_istore_n hc [(3, .int (-1)), (0, .ref G.2.2.1), (1, .int x1), (2, .int x2)] dX12_degreeIn_1 rfl (Nat.le_of_ble_eq_true rfl) rfl ?_
  refine m_iconst hc 0 dX12_degreeIn_2 (by decide) ?_
  refine m_istore hc [(4, .int 0), (3, .int (-1)), (0, .ref G.2.2.1), (1, .int x1), (2, .int x2)] dX12_degreeIn_3 (Nat.le_of_ble_eq_true rfl) rfl ?_
  refine m_sub [2, 3, 4, 1, 0] rfl ?_
  obtain ⟨nn, hw⟩ := hw
  exact l_degreeIn_5 hok hc hr nn x1 x2 (-1) 0 R hw
def wb_areSame_24 (K24 : Int32 → Int32 → Int32 → Int32 → RS → Prop) (K : Int32 → RS → Prop) (x1 x2 x3 x4 : Int32) (R : RS) : Prop := (x3 = 0 → (x3 = 0 ∨ x3 = 1) ∧ K x3 R) ∧ (¬ (x3 = 0) → vp_in x1 56 ∧ ((R 2 (Int32.toNatClampNeg x1)) ≤ x4 → (x3 = 0 ∨ x3 = 1) ∧ K x3 R) ∧ (¬ ((R 2 (Int32.toNatClampNeg x1)) ≤ x4) → wp_keyAt x1 x4 R (fun r1 R1 => wp_keyAt x2 x4 R1 (fun r2 R2 => (¬ r1 = r2 → K24 x1 x2 0 (x4 + 1) R2) ∧ (r1 = r2 → wp_numAt x1 x4 R2 (fun r3 R3 => wp_numAt x2 x4 R3 (fun r4 R4 => (¬ r3 = r4 → K24 x1 x2 0 (x4 + 1) R4) ∧ (r3 = r4 → K24 x1 x2 1 (x4 + 1) R4))))))))
def wl_areSame_24 (K : Int32 → RS → Prop) : Nat → Int32 → Int32 → Int32 → Int32 → RS → Prop
  | 0 => fun _ _ _ _ _ => False
  | nn + 1 => wb_areSame_24 (wl_areSame_24 K nn) K
set_option maxHeartbeats 4000000 in
set_option maxRecDepth 100000 in
theorem l_areSame_24 {G : RG} {X : Fx} {K : Int32 → RS → Prop} (hok : okG G) (hc : Cx X RX12 cX12_areSame 5) (hr : Cr G 1 (some .boolean) K X) : ∀ (nn : Nat) (x1 x2 x3 x4 : Int32) (R : RS), wl_areSame_24 K nn x1 x2 x3 x4 R → MR G X 5 R 24 [(0, .ref G.2.2.1), (1, .int x1), (2, .int x2), (3, .int x3), (4, .int x4)] [] := by
  intro nn
  induction nn with
  | zero => intro x1 x2 x3 x4 R hw; exact False.elim hw
  | succ nn ih =>
    intro x1 x2 x3 x4 R hw
    have hw : wb_areSame_24 (wl_areSame_24 K nn) K x1 x2 x3 x4 R := hw
    have h24 := ih
    generalize wl_areSame_24 K nn = K24 at hw h24
    unfold wb_areSame_24 at hw
    refine m_iload_n hc 3 dX12_areSame_24 rfl rfl ?_
    refine m_if_eq hc 85 dX12_areSame_25 rfl (fun cq => ?_) (fun cq => ?_)
    · have hw := hw.1 cq
      refine m_iload_n hc 3 dX12_areSame_85 rfl rfl ?_
      exact r_zret hc hr dX12_areSame_86 hw.1 hw.2
    · have hw := hw.2 cq
      refine m_iload hc 4 dX12_areSame_28 rfl ?_
      refine m_aload_n hc 0 dX12_areSame_30 rfl rfl ?_
      refine r_geta hc hr 2 dX12_areSame_31 lf_X12_13 (Nat.le_of_ble_eq_true rfl) rfl ?_
      refine m_iload_n hc 1 dX12_areSame_34 rfl rfl ?_
      obtain ⟨hi, hw⟩ := hw
      refine r_iald hc hr (i := 0) (f := 2) rfl hi dX12_areSame_35 ?_
      refine m_icmp_ge hc 85 dX12_areSame_36 rfl (fun cq => ?_) (fun cq => ?_)
      · have hw := hw.1 cq
        refine m_iload_n hc 3 dX12_areSame_85 rfl rfl ?_
        exact r_zret hc hr dX12_areSame_86 hw.1 hw.2
      · have hw := hw.2 cq
        refine m_aload_n hc 0 dX12_areSame_39 rfl rfl ?_
        refine m_iload_n hc 1 dX12_areSame_40 rfl rfl ?_
        refine m_iload hc 4 dX12_areSame_41 rfl ?_
        refine r_callVi hc hr mt_keyAt rfl lm_X12_123 (ok_keyAt hok hw) (Nat.le_of_ble_eq_true rfl) dX12_areSame_43 rfl (rest := []) rfl (Nat.le_of_ble_eq_true rfl) (fun r1 R1 hw => ?_)
        refine m_aload_n hc 0 dX12_areSame_46 rfl rfl ?_
        refine m_iload_n hc 2 dX12_areSame_47 rfl rfl ?_
        refine m_iload hc 4 dX12_areSame_48 rfl ?_
        refine r_callVi hc hr mt_keyAt rfl lm_X12_123 (ok_keyAt hok hw) (Nat.le_of_ble_eq_true rfl) dX12_areSame_50 rfl (rest := [.int r1]) rfl (Nat.le_of_ble_eq_true rfl) (fun r2 R2 hw => ?_)
        refine m_icmp_ne hc 77 dX12_areSame_53 rfl (fun cq => ?_) (fun cq => ?_)
        · have hw := hw.1 cq
          refine m_iconst hc 0 dX12_areSame_77 (by decide) ?_
          refine m_istore_n hc [(3, .int 0), (0, .ref G.2.2.1), (1, .int x1), (2, .int x2), (4, .int x4)] dX12_areSame_78 rfl (Nat.le_of_ble_eq_true rfl) rfl ?_
          refine m_iinc hc 4 (x4 + 1) [(4, .int (x4 + 1)), (3, .int 0), (0, .ref G.2.2.1), (1, .int x1), (2, .int x2)] dX12_areSame_79 rfl rfl (Nat.le_of_ble_eq_true rfl) rfl ?_
          refine m_goto hc 24 dX12_areSame_82 rfl ?_
          refine m_sub [2, 3, 4, 1, 0] rfl ?_
          exact h24 x1 x2 0 (x4 + 1) R2 hw
        · have hw := hw.2 cq
          refine m_aload_n hc 0 dX12_areSame_56 rfl rfl ?_
          refine m_iload_n hc 1 dX12_areSame_57 rfl rfl ?_
          refine m_iload hc 4 dX12_areSame_58 rfl ?_
          refine r_callVi hc hr mt_numAt rfl lm_X12_126 (ok_numAt hok hw) (Nat.le_of_ble_eq_true rfl) dX12_areSame_60 rfl (rest := []) rfl (Nat.le_of_ble_eq_true rfl) (fun r3 R3 hw => ?_)
          refine m_aload_n hc 0 dX12_areSame_63 rfl rfl ?_
          refine m_iload_n hc 2 dX12_areSame_64 rfl rfl ?_
          refine m_iload hc 4 dX12_areSame_65 rfl ?_
          refine r_callVi hc hr mt_numAt rfl lm_X12_126 (ok_numAt hok hw) (Nat.le_of_ble_eq_true rfl) dX12_areSame_67 rfl (rest := [.int r3]) rfl (Nat.le_of_ble_eq_true rfl) (fun r4 R4 hw => ?_)
          refine m_icmp_ne hc 77 dX12_areSame_70 rfl (fun cq => ?_) (fun cq => ?_)
          · have hw := hw.1 cq
            refine m_iconst hc 0 dX12_areSame_77 (by decide) ?_
            refine m_istore_n hc [(3, .int 0), (0, .ref G.2.2.1), (1, .int x1), (2, .int x2), (4, .int x4)] dX12_areSame_78 rfl (Nat.le_of_ble_eq_true rfl) rfl ?_
            refine m_iinc hc 4 (x4 + 1) [(4, .int (x4 + 1)), (3, .int 0), (0, .ref G.2.2.1), (1, .int x1), (2, .int x2)] dX12_areSame_79 rfl rfl (Nat.le_of_ble_eq_true rfl) rfl ?_
            refine m_goto hc 24 dX12_areSame_82 rfl ?_
            refine m_sub [2, 3, 4, 1, 0] rfl ?_
            exact h24 x1 x2 0 (x4 + 1) R4 hw
          · have hw := hw.2 cq
            refine m_iconst hc 1 dX12_areSame_73 (by decide) ?_
            refine m_goto hc 78 dX12_areSame_74 rfl ?_
            refine m_istore_n hc [(3, .int 1), (0, .ref G.2.2.1), (1, .int x1), (2, .int x2), (4, .int x4)] dX12_areSame_78 rfl (Nat.le_of_ble_eq_true rfl) rfl ?_
            refine m_iinc hc 4 (x4 + 1) [(4, .int (x4 + 1)), (3, .int 1), (0, .ref G.2.2.1), (1, .int x1), (2, .int x2)] dX12_areSame_79 rfl rfl (Nat.le_of_ble_eq_true rfl) rfl ?_
            refine m_goto hc 24 dX12_areSame_82 rfl ?_
            refine m_sub [2, 3, 4, 1, 0] rfl ?_
            exact h24 x1 x2 1 (x4 + 1) R4 hw
def wp_areSame (x1 x2 : Int32) (R : RS) (K : Int32 → RS → Prop) : Prop := vp_in x1 56 ∧ vp_in x2 56 ∧ (¬ (R 2 (Int32.toNatClampNeg x1)) = (R 2 (Int32.toNatClampNeg x2)) → ∃ nn : Nat, wl_areSame_24 K nn x1 x2 0 0 R) ∧ ((R 2 (Int32.toNatClampNeg x1)) = (R 2 (Int32.toNatClampNeg x2)) → ∃ nn : Nat, wl_areSame_24 K nn x1 x2 1 0 R)
set_option maxHeartbeats 4000000 in
set_option maxRecDepth 100000 in
theorem ok_areSame {G : RG} (hok : okG G) {x1 : Int32} {x2 : Int32} {R : RS} {K : Int32 → RS → Prop} (hw : wp_areSame x1 x2 R K) : CF 1 yX12_areSame cX12_areSame 5 (some .boolean) [.ref G.2.2.1, .int x1, .int x2] G R K := by
  refine CF.of (by decide +kernel) hok (Nat.le_of_ble_eq_true rfl) (fun X hc hr => ?_)
  show MR G X 5 R 0 [(0, .ref G.2.2.1), (1, .int x1), (2, .int x2)] []
  unfold wp_areSame at hw
  refine m_aload_n hc 0 dX12_areSame_0 rfl rfl ?_
  refine r_geta hc hr 2 dX12_areSame_1 lf_X12_13 (Nat.le_of_ble_eq_true rfl) rfl ?_
  refine m_iload_n hc 1 dX12_areSame_4 rfl rfl ?_
  obtain ⟨hi, hw⟩ := hw
  refine r_iald hc hr (i := 0) (f := 2) rfl hi dX12_areSame_5 ?_
  refine m_aload_n hc 0 dX12_areSame_6 rfl rfl ?_
  refine r_geta hc hr 2 dX12_areSame_7 lf_X12_13 (Nat.le_of_ble_eq_true rfl) rfl ?_
  refine m_iload_n hc 2 dX12_areSame_10 rfl rfl ?_
  obtain ⟨hi, hw⟩ := hw
  refine r_iald hc hr (i := 0) (f := 2) rfl hi dX12_areSame_11 ?_
  refine m_icmp_ne hc 19 dX12_areSame_12 rfl (fun cq => ?_) (fun cq => ?_)
  · have hw := hw.1 cq
    refine m_iconst hc 0 dX12_areSame_19 (by decide) ?_
    refine m_istore_n hc [(3, .int 0), (0, .ref G.2.2.1), (1, .int x1), (2, .int x2)] dX12_areSame_20 rfl (Nat.le_of_ble_eq_true rfl) rfl ?_
    refine m_iconst hc 0 dX12_areSame_21 (by decide) ?_
    refine m_istore hc [(4, .int 0), (3, .int 0), (0, .ref G.2.2.1), (1, .int x1), (2, .int x2)] dX12_areSame_22 (Nat.le_of_ble_eq_true rfl) rfl ?_
    refine m_sub [2, 3, 4, 1, 0] rfl ?_
    obtain ⟨nn, hw⟩ := hw
    exact l_areSame_24 hok hc hr nn x1 x2 0 0 R hw
  · have hw := hw.2 cq
    refine m_iconst hc 1 dX12_areSame_15 (by decide) ?_
    refine m_goto hc 20 dX12_areSame_16 rfl ?_
    refine m_istore_n hc [(3, .int 1), (0, .ref G.2.2.1), (1, .int x1), (2, .int x2)] dX12_areSame_20 rfl (Nat.le_of_ble_eq_true rfl) rfl ?_
    refine m_iconst hc 0 dX12_areSame_21 (by decide) ?_
    refine m_istore hc [(4, .int 0), (3, .int 1), (0, .ref G.2.2.1), (1, .int x1), (2, .int x2)] dX12_areSame_22 (Nat.le_of_ble_eq_true rfl) rfl ?_
    refine m_sub [2, 3, 4, 1, 0] rfl ?_
    obtain ⟨nn, hw⟩ := hw
    exact l_areSame_24 hok hc hr nn x1 x2 1 0 R hw
def wp_gathers (x1 x2 x3 x4 : Int32) (R : RS) (K : Int32 → RS → Prop) : Prop := ∀ v1 : Int32, v1 = ((((x1 * 81) + x2) * 81) + x3) → vp_in v1 531441 ∧ wp_mod ((R 5 (Int32.toNatClampNeg v1)) + x4) R (fun r2 R2 => vp_in v1 531441 ∧ vp_in ((up R2 5 (Int32.toNatClampNeg v1) r2) 0 7) 90600 ∧ K 0 (up (up (up R2 5 (Int32.toNatClampNeg v1) r2) 6 (Int32.toNatClampNeg ((up R2 5 (Int32.toNatClampNeg v1) r2) 0 7)) v1) 0 7 (((up (up R2 5 (Int32.toNatClampNeg v1) r2) 6 (Int32.toNatClampNeg ((up R2 5 (Int32.toNatClampNeg v1) r2) 0 7)) v1) 0 7) + 1)))
set_option maxHeartbeats 4000000 in
set_option maxRecDepth 100000 in
theorem ok_gathers {G : RG} (hok : okG G) {x1 : Int32} {x2 : Int32} {x3 : Int32} {x4 : Int32} {R : RS} {K : Int32 → RS → Prop} (hw : wp_gathers x1 x2 x3 x4 R K) : CF 1 yX12_gathers cX12_gathers 6 none [.ref G.2.2.1, .int x1, .int x2, .int x3, .int x4] G R K := by
  refine CF.of (by decide +kernel) hok (Nat.le_of_ble_eq_true rfl) (fun X hc hr => ?_)
  show MR G X 6 R 0 [(0, .ref G.2.2.1), (1, .int x1), (2, .int x2), (3, .int x3), (4, .int x4)] []
  unfold wp_gathers at hw
  refine m_iload_n hc 1 dX12_gathers_0 rfl rfl ?_
  refine m_bipush hc 81 dX12_gathers_1 (by decide) ?_
  refine m_imul hc dX12_gathers_3 ?_
  refine m_iload_n hc 2 dX12_gathers_4 rfl rfl ?_
  refine m_iadd hc dX12_gathers_5 ?_
  refine m_bipush hc 81 dX12_gathers_6 (by decide) ?_
  refine m_imul hc dX12_gathers_8 ?_
  refine m_iload_n hc 3 dX12_gathers_9 rfl rfl ?_
  refine m_iadd hc dX12_gathers_10 ?_
  refine m_topi (fun v1 e_v1 => ?_)
  have hw := hw v1 e_v1
  refine m_istore hc [(5, .int v1), (0, .ref G.2.2.1), (1, .int x1), (2, .int x2), (3, .int x3), (4, .int x4)] dX12_gathers_11 (Nat.le_of_ble_eq_true rfl) rfl ?_
  refine m_aload_n hc 1 dX12_gathers_13 rfl rfl ?_
  refine r_geta hc hr 5 dX12_gathers_14 lf_X12_24 (Nat.le_of_ble_eq_true rfl) rfl ?_
  refine m_iload hc 0 dX12_gathers_17 rfl ?_
  refine m_aload_n hc 1 dX12_gathers_19 rfl rfl ?_
  refine m_aload_n hc 1 dX12_gathers_20 rfl rfl ?_
  refine r_geta hc hr 5 dX12_gathers_21 lf_X12_24 (Nat.le_of_ble_eq_true rfl) rfl ?_
  refine m_iload hc 0 dX12_gathers_24 rfl ?_
  obtain ⟨hi, hw⟩ := hw
  refine r_iald hc hr (i := 3) (f := 5) rfl hi dX12_gathers_26 ?_
  refine m_iload hc 5 dX12_gathers_27 rfl ?_
  refine m_iadd hc dX12_gathers_29 ?_
  refine r_callVi hc hr mt_mod rfl lm_X12_138 (ok_mod hok hw) (Nat.le_of_ble_eq_true rfl) dX12_gathers_30 rfl (rest := [.int v1, .ref (G.2.2.2 5)]) rfl (Nat.le_of_ble_eq_true rfl) (fun r2 R2 hw => ?_)
  obtain ⟨hi, hw⟩ := hw
  refine r_iast hc hr (i := 3) (f := 5) rfl hi dX12_gathers_33 ?_
  refine m_aload_n hc 1 dX12_gathers_34 rfl rfl ?_
  refine r_geta hc hr 6 dX12_gathers_35 lf_X12_28 (Nat.le_of_ble_eq_true rfl) rfl ?_
  refine m_aload_n hc 1 dX12_gathers_38 rfl rfl ?_
  refine r_geti hc hr 7 dX12_gathers_39 lf_X12_141 (Nat.le_of_ble_eq_true rfl) rfl ?_
  refine m_iload hc 0 dX12_gathers_42 rfl ?_
  obtain ⟨hi, hw⟩ := hw
  refine r_iast hc hr (i := 4) (f := 6) rfl hi dX12_gathers_44 ?_
  refine m_aload_n hc 1 dX12_gathers_45 rfl rfl ?_
  refine m_dup hc dX12_gathers_46 rfl ?_
  refine r_geti hc hr 7 dX12_gathers_47 lf_X12_141 (Nat.le_of_ble_eq_true rfl) rfl ?_
  refine m_iconst hc 1 dX12_gathers_50 (by decide) ?_
  refine m_iadd hc dX12_gathers_51 ?_
  refine r_put hc hr 7 dX12_gathers_52 lf_X12_141 (Nat.le_of_ble_eq_true rfl) rfl rfl (by decide +kernel) ?_
  exact r_vret hc hr dX12_gathers_55 hw
def w_sort_98 (K2 : Int32 → Int32 → RS → Prop) (K : Int32 → RS → Prop) (x1 x2 x3 x4 x5 : Int32) (R : RS) : Prop := vp_in ((300 * x1) + x5) 16800 ∧ vp_in ((300 * x1) + x5) 16800 ∧ K2 x1 (x2 + 1) (up (up R 3 (Int32.toNatClampNeg ((300 * x1) + x5)) x3) 4 (Int32.toNatClampNeg ((300 * x1) + x5)) x4)
set_option maxHeartbeats 4000000 in
set_option maxRecDepth 100000 in
theorem b_sort_98 {G : RG} {X : Fx} {K : Int32 → RS → Prop} (hok : okG G) (hc : Cx X RX12 cX12_sort 6) (hr : Cr G 1 none K X) (K2 : Int32 → Int32 → RS → Prop) (h2 : ∀ (x1 x2 : Int32) (R : RS), K2 x1 x2 R → MR G X 6 R 2 [(0, .ref G.2.2.1), (1, .int x1), (2, .int x2)] []) : ∀ (x1 x2 x3 x4 x5 : Int32) (R : RS), w_sort_98 K2 K x1 x2 x3 x4 x5 R → MR G X 6 R 98 [(0, .ref G.2.2.1), (1, .int x1), (2, .int x2), (3, .int x3), (4, .int x4), (5, .int x5)] [] := by
  intro x1 x2 x3 x4 x5 R hw
  unfold w_sort_98 at hw
  refine m_aload_n hc 0 dX12_sort_98 rfl rfl ?_
  refine r_geta hc hr 3 dX12_sort_99 lf_X12_17 (Nat.le_of_ble_eq_true rfl) rfl ?_
  refine m_sipush hc 300 dX12_sort_102 (by decide) ?_
  refine m_iload_n hc 1 dX12_sort_105 rfl rfl ?_
  refine m_imul hc dX12_sort_106 ?_
  refine m_iload hc 5 dX12_sort_107 rfl ?_
  refine m_iadd hc dX12_sort_109 ?_
  refine m_iload_n hc 3 dX12_sort_110 rfl rfl ?_
  obtain ⟨hi, hw⟩ := hw
  refine r_iast hc hr (i := 1) (f := 3) rfl hi dX12_sort_111 ?_
  refine m_aload_n hc 0 dX12_sort_112 rfl rfl ?_
  refine r_geta hc hr 4 dX12_sort_113 lf_X12_20 (Nat.le_of_ble_eq_true rfl) rfl ?_
  refine m_sipush hc 300 dX12_sort_116 (by decide) ?_
  refine m_iload_n hc 1 dX12_sort_119 rfl rfl ?_
  refine m_imul hc dX12_sort_120 ?_
  refine m_iload hc 5 dX12_sort_121 rfl ?_
  refine m_iadd hc dX12_sort_123 ?_
  refine m_iload hc 4 dX12_sort_124 rfl ?_
  obtain ⟨hi, hw⟩ := hw
  refine r_iast hc hr (i := 2) (f := 4) rfl hi dX12_sort_126 ?_
  refine m_iinc hc 2 (x2 + 1) [(2, .int (x2 + 1)), (0, .ref G.2.2.1), (1, .int x1), (3, .int x3), (4, .int x4), (5, .int x5)] dX12_sort_127 rfl rfl (Nat.le_of_ble_eq_true rfl) rfl ?_
  refine m_goto hc 2 dX12_sort_130 rfl ?_
  refine m_sub [1, 2, 0] rfl ?_
  exact h2 x1 (x2 + 1) (up (up R 3 (Int32.toNatClampNeg ((300 * x1) + x5)) x3) 4 (Int32.toNatClampNeg ((300 * x1) + x5)) x4) hw
def wb_sort_30 (K2 : Int32 → Int32 → RS → Prop) (K30 : Int32 → Int32 → Int32 → Int32 → Int32 → RS → Prop) (K : Int32 → RS → Prop) (x1 x2 x3 x4 x5 : Int32) (R : RS) : Prop := (x5 ≤ 0 → w_sort_98 K2 K x1 x2 x3 x4 x5 R) ∧ (¬ (x5 ≤ 0) → wp_keyAt x1 (x5 - 1) R (fun r1 R1 => (r1 ≤ x3 → w_sort_98 K2 K x1 x2 x3 x4 x5 R1) ∧ (¬ (r1 ≤ x3) → wp_keyAt x1 (x5 - 1) R1 (fun r2 R2 => vp_in ((300 * x1) + x5) 16800 ∧ wp_numAt x1 (x5 - 1) (up R2 3 (Int32.toNatClampNeg ((300 * x1) + x5)) r2) (fun r3 R3 => vp_in ((300 * x1) + x5) 16800 ∧ K30 x1 x2 x3 x4 (x5 + (-1)) (up R3 4 (Int32.toNatClampNeg ((300 * x1) + x5)) r3))))))
def wl_sort_30 (K2 : Int32 → Int32 → RS → Prop) (K : Int32 → RS → Prop) : Nat → Int32 → Int32 → Int32 → Int32 → Int32 → RS → Prop
  | 0 => fun _ _ _ _ _ _ => False
  | nn + 1 => wb_sort_30 K2 (wl_sort_30 K2 K nn) K
set_option maxHeartbeats 4000000 in
set_option maxRecDepth 100000 in
theorem l_sort_30 {G : RG} {X : Fx} {K : Int32 → RS → Prop} (hok : okG G) (hc : Cx X RX12 cX12_sort 6) (hr : Cr G 1 none K X) (K2 : Int32 → Int32 → RS → Prop) (h2 : ∀ (x1 x2 : Int32) (R : RS), K2 x1 x2 R → MR G X 6 R 2 [(0, .ref G.2.2.1), (1, .int x1), (2, .int x2)] []) : ∀ (nn : Nat) (x1 x2 x3 x4 x5 : Int32) (R : RS), wl_sort_30 K2 K nn x1 x2 x3 x4 x5 R → MR G X 6 R 30 [(0, .ref G.2.2.1), (1, .int x1), (2, .int x2), (3, .int x3), (4, .int x4), (5, .int x5)] [] := by
  intro nn
  induction nn with
  | zero => intro x1 x2 x3 x4 x5 R hw; exact False.elim hw
  | succ nn ih =>
    intro x1 x2 x3 x4 x5 R hw
    have hw : wb_sort_30 K2 (wl_sort_30 K2 K nn) K x1 x2 x3 x4 x5 R := hw
    have h30 := ih
    generalize wl_sort_30 K2 K nn = K30 at hw h30
    unfold wb_sort_30 at hw
    refine m_iload hc 5 dX12_sort_30 rfl ?_
    refine m_if_le hc 98 dX12_sort_32 rfl (fun cq => ?_) (fun cq => ?_)
    · have hw := hw.1 cq
      exact b_sort_98 hok hc hr K2 h2 x1 x2 x3 x4 x5 R hw
    · have hw := hw.2 cq
      refine m_aload_n hc 0 dX12_sort_35 rfl rfl ?_
      refine m_iload_n hc 1 dX12_sort_36 rfl rfl ?_
      refine m_iload hc 5 dX12_sort_37 rfl ?_
      refine m_iconst hc 1 dX12_sort_39 (by decide) ?_
      refine m_isub hc dX12_sort_40 ?_
      refine r_callVi hc hr mt_keyAt rfl lm_X12_123 (ok_keyAt hok hw) (Nat.le_of_ble_eq_true rfl) dX12_sort_41 rfl (rest := []) rfl (Nat.le_of_ble_eq_true rfl) (fun r1 R1 hw => ?_)
      refine m_iload_n hc 3 dX12_sort_44 rfl rfl ?_
      refine m_icmp_le hc 98 dX12_sort_45 rfl (fun cq => ?_) (fun cq => ?_)
      · have hw := hw.1 cq
        exact b_sort_98 hok hc hr K2 h2 x1 x2 x3 x4 x5 R1 hw
      · have hw := hw.2 cq
        refine m_aload_n hc 0 dX12_sort_48 rfl rfl ?_
        refine r_geta hc hr 3 dX12_sort_49 lf_X12_17 (Nat.le_of_ble_eq_true rfl) rfl ?_
        refine m_sipush hc 300 dX12_sort_52 (by decide) ?_
        refine m_iload_n hc 1 dX12_sort_55 rfl rfl ?_
        refine m_imul hc dX12_sort_56 ?_
        refine m_iload hc 5 dX12_sort_57 rfl ?_
        refine m_iadd hc dX12_sort_59 ?_
        refine m_aload_n hc 0 dX12_sort_60 rfl rfl ?_
        refine m_iload_n hc 1 dX12_sort_61 rfl rfl ?_
        refine m_iload hc 5 dX12_sort_62 rfl ?_
        refine m_iconst hc 1 dX12_sort_64 (by decide) ?_
        refine m_isub hc dX12_sort_65 ?_
        refine r_callVi hc hr mt_keyAt rfl lm_X12_123 (ok_keyAt hok hw) (Nat.le_of_ble_eq_true rfl) dX12_sort_66 rfl (rest := [.int ((300 * x1) + x5), .ref (G.2.2.2 3)]) rfl (Nat.le_of_ble_eq_true rfl) (fun r2 R2 hw => ?_)
        obtain ⟨hi, hw⟩ := hw
        refine r_iast hc hr (i := 1) (f := 3) rfl hi dX12_sort_69 ?_
        refine m_aload_n hc 0 dX12_sort_70 rfl rfl ?_
        refine r_geta hc hr 4 dX12_sort_71 lf_X12_20 (Nat.le_of_ble_eq_true rfl) rfl ?_
        refine m_sipush hc 300 dX12_sort_74 (by decide) ?_
        refine m_iload_n hc 1 dX12_sort_77 rfl rfl ?_
        refine m_imul hc dX12_sort_78 ?_
        refine m_iload hc 5 dX12_sort_79 rfl ?_
        refine m_iadd hc dX12_sort_81 ?_
        refine m_aload_n hc 0 dX12_sort_82 rfl rfl ?_
        refine m_iload_n hc 1 dX12_sort_83 rfl rfl ?_
        refine m_iload hc 5 dX12_sort_84 rfl ?_
        refine m_iconst hc 1 dX12_sort_86 (by decide) ?_
        refine m_isub hc dX12_sort_87 ?_
        refine r_callVi hc hr mt_numAt rfl lm_X12_126 (ok_numAt hok hw) (Nat.le_of_ble_eq_true rfl) dX12_sort_88 rfl (rest := [.int ((300 * x1) + x5), .ref (G.2.2.2 4)]) rfl (Nat.le_of_ble_eq_true rfl) (fun r3 R3 hw => ?_)
        obtain ⟨hi, hw⟩ := hw
        refine r_iast hc hr (i := 2) (f := 4) rfl hi dX12_sort_91 ?_
        refine m_iinc hc 5 (x5 + (-1)) [(5, .int (x5 + (-1))), (0, .ref G.2.2.1), (1, .int x1), (2, .int x2), (3, .int x3), (4, .int x4)] dX12_sort_92 rfl rfl (Nat.le_of_ble_eq_true rfl) rfl ?_
        refine m_goto hc 30 dX12_sort_95 rfl ?_
        refine m_sub [1, 2, 3, 4, 5, 0] rfl ?_
        exact h30 x1 x2 x3 x4 (x5 + (-1)) (up R3 4 (Int32.toNatClampNeg ((300 * x1) + x5)) r3) hw
def wb_sort_2 (K2 : Int32 → Int32 → RS → Prop) (K : Int32 → RS → Prop) (x1 x2 : Int32) (R : RS) : Prop := vp_in x1 56 ∧ ((R 2 (Int32.toNatClampNeg x1)) ≤ x2 → K 0 R) ∧ (¬ ((R 2 (Int32.toNatClampNeg x1)) ≤ x2) → wp_keyAt x1 x2 R (fun r1 R1 => wp_numAt x1 x2 R1 (fun r2 R2 => ∃ nn : Nat, wl_sort_30 K2 K nn x1 x2 r1 r2 x2 R2)))
def wl_sort_2 (K : Int32 → RS → Prop) : Nat → Int32 → Int32 → RS → Prop
  | 0 => fun _ _ _ => False
  | nn + 1 => wb_sort_2 (wl_sort_2 K nn) K
set_option maxHeartbeats 4000000 in
set_option maxRecDepth 100000 in
theorem l_sort_2 {G : RG} {X : Fx} {K : Int32 → RS → Prop} (hok : okG G) (hc : Cx X RX12 cX12_sort 6) (hr : Cr G 1 none K X) : ∀ (nn : Nat) (x1 x2 : Int32) (R : RS), wl_sort_2 K nn x1 x2 R → MR G X 6 R 2 [(0, .ref G.2.2.1), (1, .int x1), (2, .int x2)] [] := by
  intro nn
  induction nn with
  | zero => intro x1 x2 R hw; exact False.elim hw
  | succ nn ih =>
    intro x1 x2 R hw
    have hw : wb_sort_2 (wl_sort_2 K nn) K x1 x2 R := hw
    have h2 := ih
    generalize wl_sort_2 K nn = K2 at hw h2
    unfold wb_sort_2 at hw
    refine m_iload_n hc 2 dX12_sort_2 rfl rfl ?_
    refine m_aload_n hc 0 dX12_sort_3 rfl rfl ?_
    refine r_geta hc hr 2 dX12_sort_4 lf_X12_13 (Nat.le_of_ble_eq_true rfl) rfl ?_
    refine m_iload_n hc 1 dX12_sort_7 rfl rfl ?_
    obtain ⟨hi, hw⟩ := hw
    refine r_iald hc hr (i := 0) (f := 2) rfl hi dX12_sort_8 ?_
    refine m_icmp_ge hc 133 dX12_sort_9 rfl (fun cq => ?_) (fun cq => ?_)
    · have hw := hw.1 cq
      exact r_vret hc hr dX12_sort_133 hw
    · have hw := hw.2 cq
      refine m_aload_n hc 0 dX12_sort_12 rfl rfl ?_
      refine m_iload_n hc 1 dX12_sort_13 rfl rfl ?_
      refine m_iload_n hc 2 dX12_sort_14 rfl rfl ?_
      refine r_callVi hc hr mt_keyAt rfl lm_X12_123 (ok_keyAt hok hw) (Nat.le_of_ble_eq_true rfl) dX12_sort_15 rfl (rest := []) rfl (Nat.le_of_ble_eq_true rfl) (fun r1 R1 hw => ?_)
      refine m_istore_n hc [(3, .int r1), (0, .ref G.2.2.1), (1, .int x1), (2, .int x2)] dX12_sort_18 rfl (Nat.le_of_ble_eq_true rfl) rfl ?_
      refine m_aload_n hc 1 dX12_sort_19 rfl rfl ?_
      refine m_iload_n hc 2 dX12_sort_20 rfl rfl ?_
      refine m_iload_n hc 3 dX12_sort_21 rfl rfl ?_
      refine r_callVi hc hr mt_numAt rfl lm_X12_126 (ok_numAt hok hw) (Nat.le_of_ble_eq_true rfl) dX12_sort_22 rfl (rest := []) rfl (Nat.le_of_ble_eq_true rfl) (fun r2 R2 hw => ?_)
      refine m_istore hc [(4, .int r2), (3, .int r1), (0, .ref G.2.2.1), (1, .int x1), (2, .int x2)] dX12_sort_25 (Nat.le_of_ble_eq_true rfl) rfl ?_
      refine m_iload_n hc 4 dX12_sort_27 rfl rfl ?_
      refine m_istore hc [(5, .int x2), (4, .int r2), (3, .int r1), (0, .ref G.2.2.1), (1, .int x1), (2, .int x2)] dX12_sort_28 (Nat.le_of_ble_eq_true rfl) rfl ?_
      refine m_sub [3, 4, 5, 2, 1, 0] rfl ?_
      obtain ⟨nn, hw⟩ := hw
      exact l_sort_30 hok hc hr K2 h2 nn x1 x2 r1 r2 x2 R2 hw
def wp_sort (x1 : Int32) (R : RS) (K : Int32 → RS → Prop) : Prop := ∃ nn : Nat, wl_sort_2 K nn x1 1 R
set_option maxHeartbeats 4000000 in
set_option maxRecDepth 100000 in
theorem ok_sort {G : RG} (hok : okG G) {x1 : Int32} {R : RS} {K : Int32 → RS → Prop} (hw : wp_sort x1 R K) : CF 1 yX12_sort cX12_sort 6 none [.ref G.2.2.1, .int x1] G R K := by
  refine CF.of (by decide +kernel) hok (Nat.le_of_ble_eq_true rfl) (fun X hc hr => ?_)
  show MR G X 6 R 0 [(0, .ref G.2.2.1), (1, .int x1)] []
  unfold wp_sort at hw
  refine m_iconst hc 1 dX12_sort_0 (by decide) ?_
  refine m_istore_n hc [(2, .int 1), (0, .ref G.2.2.1), (1, .int x1)] dX12_sort_1 rfl (Nat.le_of_ble_eq_true rfl) rfl ?_
  refine m_sub [1, 2, 0] rfl ?_
  obtain ⟨nn, hw⟩ := hw
  exact l_sort_2 hok hc hr nn x1 1 R hw
def w_gathered_183 (K : Int32 → RS → Prop) (x1 x3 s0 s1 : Int32) (R : RS) : Prop := vp_in s1 56 ∧ wp_sort x1 (up R 2 (Int32.toNatClampNeg s1) s0) (fun r1 R1 => (x3 = 0 ∨ x3 = 1) ∧ K x3 R1)
set_option maxHeartbeats 4000000 in
set_option maxRecDepth 100000 in
theorem b_gathered_183 {G : RG} {X : Fx} {K : Int32 → RS → Prop} (hok : okG G) (hc : Cx X RX12 cX12_gathered 10) (hr : Cr G 2 (some .boolean) K X) : ∀ (x1 x3 s0 s1 : Int32) (R : RS), w_gathered_183 K x1 x3 s0 s1 R → MR G X 10 R 183 [(0, .ref G.2.2.1), (1, .int x1), (3, .int x3)] [.int s0, .int s1, .ref (G.2.2.2 2)] := by
  intro x1 x3 s0 s1 R hw
  unfold w_gathered_183 at hw
  obtain ⟨hi, hw⟩ := hw
  refine r_iast hc hr (i := 0) (f := 2) rfl hi dX12_gathered_183 ?_
  refine m_aload_n hc 0 dX12_gathered_184 rfl rfl ?_
  refine m_iload_n hc 1 dX12_gathered_185 rfl rfl ?_
  refine r_callVv hc hr mt_sort rfl lm_X12_148 (ok_sort hok hw) (Nat.le_of_ble_eq_true rfl) dX12_gathered_186 rfl (rest := []) rfl (Nat.le_of_ble_eq_true rfl) (fun r1 R1 hw => ?_)
  refine m_iload_n hc 2 dX12_gathered_189 rfl rfl ?_
  exact r_zret hc hr dX12_gathered_190 hw.1 hw.2
def w_gathered_112 (K7 : Int32 → Int32 → Int32 → Int32 → RS → Prop) (K : Int32 → RS → Prop) (x1 x2 x4 x6 x7 x8 x9 s0 : Int32) (R : RS) : Prop := (¬ s0 = 0 → wp_keyOf x7 x8 x9 R (fun r1 R1 => vp_in ((300 * x1) + x2) 16800 ∧ vp_in ((300 * x1) + x2) 16800 ∧ K7 x1 (x2 + 1) s0 (x4 + 1) (up (up R1 3 (Int32.toNatClampNeg ((300 * x1) + x2)) r1) 4 (Int32.toNatClampNeg ((300 * x1) + x2)) x6))) ∧ (s0 = 0 → K7 x1 x2 s0 (x4 + 1) R)
set_option maxHeartbeats 4000000 in
set_option maxRecDepth 100000 in
theorem b_gathered_112 {G : RG} {X : Fx} {K : Int32 → RS → Prop} (hok : okG G) (hc : Cx X RX12 cX12_gathered 10) (hr : Cr G 2 (some .boolean) K X) (K7 : Int32 → Int32 → Int32 → Int32 → RS → Prop) (h7 : ∀ (x1 x2 x3 x4 : Int32) (R : RS), K7 x1 x2 x3 x4 R → MR G X 10 R 7 [(0, .ref G.2.2.1), (1, .int x1), (2, .int x2), (3, .int x3), (4, .int x4)] []) : ∀ (x1 x2 x4 x6 x7 x8 x9 s0 : Int32) (R : RS), w_gathered_112 K7 K x1 x2 x4 x6 x7 x8 x9 s0 R → MR G X 10 R 112 [(0, .ref G.2.2.1), (1, .int x1), (2, .int x2), (4, .int x4), (6, .int x6), (7, .int x7), (8, .int x8), (9, .int x9)] [.int s0] := by
  intro x1 x2 x4 x6 x7 x8 x9 s0 R hw
  unfold w_gathered_112 at hw
  refine m_istore_n hc [(3, .int s0), (0, .ref G.2.2.1), (1, .int x1), (2, .int x2), (4, .int x4), (6, .int x6), (7, .int x7), (8, .int x8), (9, .int x9)] dX12_gathered_112 rfl (Nat.le_of_ble_eq_true rfl) rfl ?_
  refine m_iload_n hc 0 dX12_gathered_113 rfl rfl ?_
  refine m_if_ne hc 120 dX12_gathered_114 rfl (fun cq => ?_) (fun cq => ?_)
  · have hw := hw.1 cq
    refine m_aload_n hc 1 dX12_gathered_120 rfl rfl ?_
    refine r_geta hc hr 3 dX12_gathered_121 lf_X12_17 (Nat.le_of_ble_eq_true rfl) rfl ?_
    refine m_sipush hc 300 dX12_gathered_124 (by decide) ?_
    refine m_iload_n hc 2 dX12_gathered_127 rfl rfl ?_
    refine m_imul hc dX12_gathered_128 ?_
    refine m_iload_n hc 3 dX12_gathered_129 rfl rfl ?_
    refine m_iadd hc dX12_gathered_130 ?_
    refine m_iload hc 6 dX12_gathered_131 rfl ?_
    refine m_iload hc 7 dX12_gathered_133 rfl ?_
    refine m_iload hc 8 dX12_gathered_135 rfl ?_
    refine r_callSi hc hr mt_keyOf lm_X12_144 (ok_keyOf hok hw) (Nat.le_of_ble_eq_true rfl) dX12_gathered_137 rfl (rest := [.int ((300 * x1) + x2), .ref (G.2.2.2 3)]) rfl (Nat.le_of_ble_eq_true rfl) (fun r1 R1 hw => ?_)
    obtain ⟨hi, hw⟩ := hw
    refine r_iast hc hr (i := 1) (f := 3) rfl hi dX12_gathered_140 ?_
    refine m_aload_n hc 1 dX12_gathered_141 rfl rfl ?_
    refine r_geta hc hr 4 dX12_gathered_142 lf_X12_20 (Nat.le_of_ble_eq_true rfl) rfl ?_
    refine m_sipush hc 300 dX12_gathered_145 (by decide) ?_
    refine m_iload_n hc 2 dX12_gathered_148 rfl rfl ?_
    refine m_imul hc dX12_gathered_149 ?_
    refine m_iload_n hc 3 dX12_gathered_150 rfl rfl ?_
    refine m_iadd hc dX12_gathered_151 ?_
    refine m_iload hc 5 dX12_gathered_152 rfl ?_
    obtain ⟨hi, hw⟩ := hw
    refine r_iast hc hr (i := 2) (f := 4) rfl hi dX12_gathered_154 ?_
    refine m_iinc hc 3 (x2 + 1) [(2, .int (x2 + 1)), (3, .int s0), (0, .ref G.2.2.1), (1, .int x1), (4, .int x4), (6, .int x6), (7, .int x7), (8, .int x8), (9, .int x9)] dX12_gathered_155 rfl rfl (Nat.le_of_ble_eq_true rfl) rfl ?_
    refine m_iinc hc 4 (x4 + 1) [(4, .int (x4 + 1)), (2, .int (x2 + 1)), (3, .int s0), (0, .ref G.2.2.1), (1, .int x1), (6, .int x6), (7, .int x7), (8, .int x8), (9, .int x9)] dX12_gathered_158 rfl rfl (Nat.le_of_ble_eq_true rfl) rfl ?_
    refine m_goto hc 7 dX12_gathered_161 rfl ?_
    refine m_sub [3, 4, 1, 2, 0] rfl ?_
    exact h7 x1 (x2 + 1) s0 (x4 + 1) (up (up R1 3 (Int32.toNatClampNeg ((300 * x1) + x2)) r1) 4 (Int32.toNatClampNeg ((300 * x1) + x2)) x6) hw
  · have hw := hw.2 cq
    refine m_goto hc 158 dX12_gathered_117 rfl ?_
    refine m_iinc hc 4 (x4 + 1) [(4, .int (x4 + 1)), (3, .int s0), (0, .ref G.2.2.1), (1, .int x1), (2, .int x2), (6, .int x6), (7, .int x7), (8, .int x8), (9, .int x9)] dX12_gathered_158 rfl rfl (Nat.le_of_ble_eq_true rfl) rfl ?_
    refine m_goto hc 7 dX12_gathered_161 rfl ?_
    refine m_sub [2, 3, 4, 1, 0] rfl ?_
    exact h7 x1 x2 s0 (x4 + 1) R hw
def wb_gathered_7 (K7 : Int32 → Int32 → Int32 → Int32 → RS → Prop) (K : Int32 → RS → Prop) (x1 x2 x3 x4 : Int32) (R : RS) : Prop := ((R 0 7) ≤ x4 → (x3 = 0 → w_gathered_183 K x1 x3 0 x1 (up R 0 7 0)) ∧ (¬ (x3 = 0) → w_gathered_183 K x1 x3 x2 x1 (up R 0 7 0))) ∧ (¬ ((R 0 7) ≤ x4) → vp_in x4 90600 ∧ ∀ v1 : Int32, v1 = (R 6 (Int32.toNatClampNeg x4)) → vp_in v1 531441 ∧ ∀ v2 : Int32, v2 = (R 5 (Int32.toNatClampNeg v1)) → vp_in v1 531441 ∧ (¬ v2 = 0 → (x3 = 0 → w_gathered_112 K7 K x1 x2 x4 v2 (v1 / 6561) (iRem (v1 / 81) 81) (iRem v1 81) 0 (up R 5 (Int32.toNatClampNeg v1) 0)) ∧ (¬ (x3 = 0) → (300 ≤ x2 → w_gathered_112 K7 K x1 x2 x4 v2 (v1 / 6561) (iRem (v1 / 81) 81) (iRem v1 81) 0 (up R 5 (Int32.toNatClampNeg v1) 0)) ∧ (¬ (300 ≤ x2) → (40 < (v1 / 6561) → w_gathered_112 K7 K x1 x2 x4 v2 (v1 / 6561) (iRem (v1 / 81) 81) (iRem v1 81) 0 (up R 5 (Int32.toNatClampNeg v1) 0)) ∧ (¬ (40 < (v1 / 6561)) → (40 < (iRem (v1 / 81) 81) → w_gathered_112 K7 K x1 x2 x4 v2 (v1 / 6561) (iRem (v1 / 81) 81) (iRem v1 81) 0 (up R 5 (Int32.toNatClampNeg v1) 0)) ∧ (¬ (40 < (iRem (v1 / 81) 81)) → (40 < (iRem v1 81) → w_gathered_112 K7 K x1 x2 x4 v2 (v1 / 6561) (iRem (v1 / 81) 81) (iRem v1 81) 0 (up R 5 (Int32.toNatClampNeg v1) 0)) ∧ (¬ (40 < (iRem v1 81)) → w_gathered_112 K7 K x1 x2 x4 v2 (v1 / 6561) (iRem (v1 / 81) 81) (iRem v1 81) 1 (up R 5 (Int32.toNatClampNeg v1) 0))))))) ∧ (v2 = 0 → K7 x1 x2 x3 (x4 + 1) (up R 5 (Int32.toNatClampNeg v1) 0)))
def wl_gathered_7 (K : Int32 → RS → Prop) : Nat → Int32 → Int32 → Int32 → Int32 → RS → Prop
  | 0 => fun _ _ _ _ _ => False
  | nn + 1 => wb_gathered_7 (wl_gathered_7 K nn) K
set_option maxHeartbeats 4000000 in
set_option maxRecDepth 100000 in
theorem l_gathered_7 {G : RG} {X : Fx} {K : Int32 → RS → Prop} (hok : okG G) (hc : Cx X RX12 cX12_gathered 10) (hr : Cr G 2 (some .boolean) K X) : ∀ (nn : Nat) (x1 x2 x3 x4 : Int32) (R : RS), wl_gathered_7 K nn x1 x2 x3 x4 R → MR G X 10 R 7 [(0, .ref G.2.2.1), (1, .int x1), (2, .int x2), (3, .int x3), (4, .int x4)] [] := by
  intro nn
  induction nn with
  | zero => intro x1 x2 x3 x4 R hw; exact False.elim hw
  | succ nn ih =>
    intro x1 x2 x3 x4 R hw
    have hw : wb_gathered_7 (wl_gathered_7 K nn) K x1 x2 x3 x4 R := hw
    have h7 := ih
    generalize wl_gathered_7 K nn = K7 at hw h7
    unfold wb_gathered_7 at hw
    refine m_iload hc 4 dX12_gathered_7 rfl ?_
    refine m_aload_n hc 0 dX12_gathered_9 rfl rfl ?_
    refine r_geti hc hr 7 dX12_gathered_10 lf_X12_141 (Nat.le_of_ble_eq_true rfl) rfl ?_
    refine m_icmp_ge hc 164 dX12_gathered_13 rfl (fun cq => ?_) (fun cq => ?_)
    · have hw := hw.1 cq
      refine m_aload_n hc 0 dX12_gathered_164 rfl rfl ?_
      refine m_iconst hc 0 dX12_gathered_165 (by decide) ?_
      refine r_put hc hr 7 dX12_gathered_166 lf_X12_141 (Nat.le_of_ble_eq_true rfl) rfl rfl (by decide +kernel) ?_
      refine m_aload_n hc 0 dX12_gathered_169 rfl rfl ?_
      refine r_geta hc hr 2 dX12_gathered_170 lf_X12_13 (Nat.le_of_ble_eq_true rfl) rfl ?_
      refine m_iload_n hc 1 dX12_gathered_173 rfl rfl ?_
      refine m_iload_n hc 3 dX12_gathered_174 rfl rfl ?_
      refine m_if_eq hc 182 dX12_gathered_175 rfl (fun cq => ?_) (fun cq => ?_)
      · have hw := hw.1 cq
        refine m_iconst hc 0 dX12_gathered_182 (by decide) ?_
        refine m_sub [0, 1, 3] rfl ?_
        exact b_gathered_183 hok hc hr x1 x3 0 x1 (up R 0 7 0) hw
      · have hw := hw.2 cq
        refine m_iload_n hc 2 dX12_gathered_178 rfl rfl ?_
        refine m_goto hc 183 dX12_gathered_179 rfl ?_
        refine m_sub [0, 1, 3] rfl ?_
        exact b_gathered_183 hok hc hr x1 x3 x2 x1 (up R 0 7 0) hw
    · have hw := hw.2 cq
      refine m_aload_n hc 0 dX12_gathered_16 rfl rfl ?_
      refine r_geta hc hr 6 dX12_gathered_17 lf_X12_28 (Nat.le_of_ble_eq_true rfl) rfl ?_
      refine m_iload hc 4 dX12_gathered_20 rfl ?_
      obtain ⟨hi, hw⟩ := hw
      refine r_iald hc hr (i := 4) (f := 6) rfl hi dX12_gathered_22 ?_
      refine m_topi (fun v1 e_v1 => ?_)
      have hw := hw v1 e_v1
      refine m_istore hc [(5, .int v1), (0, .ref G.2.2.1), (1, .int x1), (2, .int x2), (3, .int x3), (4, .int x4)] dX12_gathered_23 (Nat.le_of_ble_eq_true rfl) rfl ?_
      refine m_aload_n hc 1 dX12_gathered_25 rfl rfl ?_
      refine r_geta hc hr 5 dX12_gathered_26 lf_X12_24 (Nat.le_of_ble_eq_true rfl) rfl ?_
      refine m_iload hc 0 dX12_gathered_29 rfl ?_
      obtain ⟨hi, hw⟩ := hw
      refine r_iald hc hr (i := 3) (f := 5) rfl hi dX12_gathered_31 ?_
      refine m_topi (fun v2 e_v2 => ?_)
      have hw := hw v2 e_v2
      refine m_istore hc [(6, .int v2), (5, .int v1), (0, .ref G.2.2.1), (1, .int x1), (2, .int x2), (3, .int x3), (4, .int x4)] dX12_gathered_32 (Nat.le_of_ble_eq_true rfl) rfl ?_
      refine m_aload_n hc 2 dX12_gathered_34 rfl rfl ?_
      refine r_geta hc hr 5 dX12_gathered_35 lf_X12_24 (Nat.le_of_ble_eq_true rfl) rfl ?_
      refine m_iload hc 1 dX12_gathered_38 rfl ?_
      refine m_iconst hc 0 dX12_gathered_40 (by decide) ?_
      obtain ⟨hi, hw⟩ := hw
      refine r_iast hc hr (i := 3) (f := 5) rfl hi dX12_gathered_41 ?_
      refine m_iload hc 0 dX12_gathered_42 rfl ?_
      refine m_if_ne hc 50 dX12_gathered_44 rfl (fun cq => ?_) (fun cq => ?_)
      · have hw := hw.1 cq
        refine m_iload hc 1 dX12_gathered_50 rfl ?_
        refine m_sipush hc 6561 dX12_gathered_52 (by decide) ?_
        refine m_idiv hc dX12_gathered_55 (by decide) ?_
        refine m_istore hc [(7, .int (v1 / 6561)), (6, .int v2), (5, .int v1), (0, .ref G.2.2.1), (1, .int x1), (2, .int x2), (3, .int x3), (4, .int x4)] dX12_gathered_56 (Nat.le_of_ble_eq_true rfl) rfl ?_
        refine m_iload hc 2 dX12_gathered_58 rfl ?_
        refine m_bipush hc 81 dX12_gathered_60 (by decide) ?_
        refine m_idiv hc dX12_gathered_62 (by decide) ?_
        refine m_bipush hc 81 dX12_gathered_63 (by decide) ?_
        refine m_irem hc dX12_gathered_65 (by decide) ?_
        refine m_istore hc [(8, .int (iRem (v1 / 81) 81)), (7, .int (v1 / 6561)), (6, .int v2), (5, .int v1), (0, .ref G.2.2.1), (1, .int x1), (2, .int x2), (3, .int x3), (4, .int x4)] dX12_gathered_66 (Nat.le_of_ble_eq_true rfl) rfl ?_
        refine m_iload hc 3 dX12_gathered_68 rfl ?_
        refine m_bipush hc 81 dX12_gathered_70 (by decide) ?_
        refine m_irem hc dX12_gathered_72 (by decide) ?_
        refine m_istore hc [(9, .int (iRem v1 81)), (8, .int (iRem (v1 / 81) 81)), (7, .int (v1 / 6561)), (6, .int v2), (5, .int v1), (0, .ref G.2.2.1), (1, .int x1), (2, .int x2), (3, .int x3), (4, .int x4)] dX12_gathered_73 (Nat.le_of_ble_eq_true rfl) rfl ?_
        refine m_iload_n hc 8 dX12_gathered_75 rfl rfl ?_
        refine m_if_eq hc 111 dX12_gathered_76 rfl (fun cq => ?_) (fun cq => ?_)
        · have hw := hw.1 cq
          refine m_iconst hc 0 dX12_gathered_111 (by decide) ?_
          refine m_sub [5, 6, 7, 9, 3, 2, 1, 0] rfl ?_
          exact b_gathered_112 hok hc hr K7 h7 x1 x2 x4 v2 (v1 / 6561) (iRem (v1 / 81) 81) (iRem v1 81) 0 (up R 5 (Int32.toNatClampNeg v1) 0) hw
        · have hw := hw.2 cq
          refine m_iload_n hc 7 dX12_gathered_79 rfl rfl ?_
          refine m_sipush hc 300 dX12_gathered_80 (by decide) ?_
          refine m_icmp_ge hc 111 dX12_gathered_83 rfl (fun cq => ?_) (fun cq => ?_)
          · have hw := hw.1 cq
            refine m_iconst hc 0 dX12_gathered_111 (by decide) ?_
            refine m_sub [5, 6, 7, 9, 3, 2, 1, 0] rfl ?_
            exact b_gathered_112 hok hc hr K7 h7 x1 x2 x4 v2 (v1 / 6561) (iRem (v1 / 81) 81) (iRem v1 81) 0 (up R 5 (Int32.toNatClampNeg v1) 0) hw
          · have hw := hw.2 cq
            refine m_iload hc 2 dX12_gathered_86 rfl ?_
            refine m_bipush hc 40 dX12_gathered_88 (by decide) ?_
            refine m_icmp_gt hc 111 dX12_gathered_90 rfl (fun cq => ?_) (fun cq => ?_)
            · have hw := hw.1 cq
              refine m_iconst hc 0 dX12_gathered_111 (by decide) ?_
              refine m_sub [5, 6, 7, 9, 3, 2, 1, 0] rfl ?_
              exact b_gathered_112 hok hc hr K7 h7 x1 x2 x4 v2 (v1 / 6561) (iRem (v1 / 81) 81) (iRem v1 81) 0 (up R 5 (Int32.toNatClampNeg v1) 0) hw
            · have hw := hw.2 cq
              refine m_iload hc 1 dX12_gathered_93 rfl ?_
              refine m_bipush hc 40 dX12_gathered_95 (by decide) ?_
              refine m_icmp_gt hc 111 dX12_gathered_97 rfl (fun cq => ?_) (fun cq => ?_)
              · have hw := hw.1 cq
                refine m_iconst hc 0 dX12_gathered_111 (by decide) ?_
                refine m_sub [5, 6, 7, 9, 3, 2, 1, 0] rfl ?_
                exact b_gathered_112 hok hc hr K7 h7 x1 x2 x4 v2 (v1 / 6561) (iRem (v1 / 81) 81) (iRem v1 81) 0 (up R 5 (Int32.toNatClampNeg v1) 0) hw
              · have hw := hw.2 cq
                refine m_iload hc 0 dX12_gathered_100 rfl ?_
                refine m_bipush hc 40 dX12_gathered_102 (by decide) ?_
                refine m_icmp_gt hc 111 dX12_gathered_104 rfl (fun cq => ?_) (fun cq => ?_)
                · have hw := hw.1 cq
                  refine m_iconst hc 0 dX12_gathered_111 (by decide) ?_
                  refine m_sub [5, 6, 7, 9, 3, 2, 1, 0] rfl ?_
                  exact b_gathered_112 hok hc hr K7 h7 x1 x2 x4 v2 (v1 / 6561) (iRem (v1 / 81) 81) (iRem v1 81) 0 (up R 5 (Int32.toNatClampNeg v1) 0) hw
                · have hw := hw.2 cq
                  refine m_iconst hc 1 dX12_gathered_107 (by decide) ?_
                  refine m_goto hc 112 dX12_gathered_108 rfl ?_
                  refine m_sub [5, 6, 7, 9, 3, 2, 1, 0] rfl ?_
                  exact b_gathered_112 hok hc hr K7 h7 x1 x2 x4 v2 (v1 / 6561) (iRem (v1 / 81) 81) (iRem v1 81) 1 (up R 5 (Int32.toNatClampNeg v1) 0) hw
      · have hw := hw.2 cq
        refine m_goto hc 158 dX12_gathered_47 rfl ?_
        refine m_iinc hc 6 (x4 + 1) [(4, .int (x4 + 1)), (6, .int v2), (5, .int v1), (0, .ref G.2.2.1), (1, .int x1), (2, .int x2), (3, .int x3)] dX12_gathered_158 rfl rfl (Nat.le_of_ble_eq_true rfl) rfl ?_
        refine m_goto hc 7 dX12_gathered_161 rfl ?_
        refine m_sub [3, 4, 5, 6, 0] rfl ?_
        exact h7 x1 x2 x3 (x4 + 1) (up R 5 (Int32.toNatClampNeg v1) 0) hw
def wp_gathered (x1 : Int32) (R : RS) (K : Int32 → RS → Prop) : Prop := ∃ nn : Nat, wl_gathered_7 K nn x1 0 1 0 R
set_option maxHeartbeats 4000000 in
set_option maxRecDepth 100000 in
theorem ok_gathered {G : RG} (hok : okG G) {x1 : Int32} {R : RS} {K : Int32 → RS → Prop} (hw : wp_gathered x1 R K) : CF 2 yX12_gathered cX12_gathered 10 (some .boolean) [.ref G.2.2.1, .int x1] G R K := by
  refine CF.of (by decide +kernel) hok (Nat.le_of_ble_eq_true rfl) (fun X hc hr => ?_)
  show MR G X 10 R 0 [(0, .ref G.2.2.1), (1, .int x1)] []
  unfold wp_gathered at hw
  refine m_iconst hc 0 dX12_gathered_0 (by decide) ?_
  refine m_istore_n hc [(2, .int 0), (0, .ref G.2.2.1), (1, .int x1)] dX12_gathered_1 rfl (Nat.le_of_ble_eq_true rfl) rfl ?_
  refine m_iconst hc 1 dX12_gathered_2 (by decide) ?_
  refine m_istore_n hc [(3, .int 1), (2, .int 0), (0, .ref G.2.2.1), (1, .int x1)] dX12_gathered_3 rfl (Nat.le_of_ble_eq_true rfl) rfl ?_
  refine m_iconst hc 0 dX12_gathered_4 (by decide) ?_
  refine m_istore hc [(4, .int 0), (3, .int 1), (2, .int 0), (0, .ref G.2.2.1), (1, .int x1)] dX12_gathered_5 (Nat.le_of_ble_eq_true rfl) rfl ?_
  refine m_sub [3, 4, 2, 1, 0] rfl ?_
  obtain ⟨nn, hw⟩ := hw
  exact l_gathered_7 hok hc hr nn x1 0 1 0 R hw
def wb_gathersAll_2 (K2 : Int32 → Int32 → Int32 → RS → Prop) (K : Int32 → RS → Prop) (x1 x2 x3 : Int32) (R : RS) : Prop := vp_in x1 56 ∧ ((R 2 (Int32.toNatClampNeg x1)) ≤ x3 → K 0 R) ∧ (¬ ((R 2 (Int32.toNatClampNeg x1)) ≤ x3) → wp_keyAt x1 x3 R (fun r1 R1 => wp_ex r1 0 R1 (fun r2 R2 => wp_keyAt x1 x3 R2 (fun r3 R3 => wp_ex r3 1 R3 (fun r4 R4 => wp_keyAt x1 x3 R4 (fun r5 R5 => wp_ex r5 2 R5 (fun r6 R6 => wp_numAt x1 x3 R6 (fun r7 R7 => wp_gathers r2 r4 r6 (x2 * r7) R7 (fun r8 R8 => K2 x1 x2 (x3 + 1) R8)))))))))
def wl_gathersAll_2 (K : Int32 → RS → Prop) : Nat → Int32 → Int32 → Int32 → RS → Prop
  | 0 => fun _ _ _ _ => False
  | nn + 1 => wb_gathersAll_2 (wl_gathersAll_2 K nn) K
set_option maxHeartbeats 4000000 in
set_option maxRecDepth 100000 in
theorem l_gathersAll_2 {G : RG} {X : Fx} {K : Int32 → RS → Prop} (hok : okG G) (hc : Cx X RX12 cX12_gathersAll 4) (hr : Cr G 2 none K X) : ∀ (nn : Nat) (x1 x2 x3 : Int32) (R : RS), wl_gathersAll_2 K nn x1 x2 x3 R → MR G X 4 R 2 [(0, .ref G.2.2.1), (1, .int x1), (2, .int x2), (3, .int x3)] [] := by
  intro nn
  induction nn with
  | zero => intro x1 x2 x3 R hw; exact False.elim hw
  | succ nn ih =>
    intro x1 x2 x3 R hw
    have hw : wb_gathersAll_2 (wl_gathersAll_2 K nn) K x1 x2 x3 R := hw
    have h2 := ih
    generalize wl_gathersAll_2 K nn = K2 at hw h2
    unfold wb_gathersAll_2 at hw
    refine m_iload_n hc 3 dX12_gathersAll_2 rfl rfl ?_
    refine m_aload_n hc 0 dX12_gathersAll_3 rfl rfl ?_
    refine r_geta hc hr 2 dX12_gathersAll_4 lf_X12_13 (Nat.le_of_ble_eq_true rfl) rfl ?_
    refine m_iload_n hc 1 dX12_gathersAll_7 rfl rfl ?_
    obtain ⟨hi, hw⟩ := hw
    refine r_iald hc hr (i := 0) (f := 2) rfl hi dX12_gathersAll_8 ?_
    refine m_icmp_ge hc 60 dX12_gathersAll_9 rfl (fun cq => ?_) (fun cq => ?_)
    · have hw := hw.1 cq
      exact r_vret hc hr dX12_gathersAll_60 hw
    · have hw := hw.2 cq
      refine m_aload_n hc 0 dX12_gathersAll_12 rfl rfl ?_
      refine m_aload_n hc 0 dX12_gathersAll_13 rfl rfl ?_
      refine m_iload_n hc 1 dX12_gathersAll_14 rfl rfl ?_
      refine m_iload_n hc 3 dX12_gathersAll_15 rfl rfl ?_
      refine r_callVi hc hr mt_keyAt rfl lm_X12_123 (ok_keyAt hok hw) (Nat.le_of_ble_eq_true rfl) dX12_gathersAll_16 rfl (rest := [.ref G.2.2.1]) rfl (Nat.le_of_ble_eq_true rfl) (fun r1 R1 hw => ?_)
      refine m_iconst hc 0 dX12_gathersAll_19 (by decide) ?_
      refine r_callSi hc hr mt_ex lm_X12_119 (ok_ex hok hw) (Nat.le_of_ble_eq_true rfl) dX12_gathersAll_20 rfl (rest := [.ref G.2.2.1]) rfl (Nat.le_of_ble_eq_true rfl) (fun r2 R2 hw => ?_)
      refine m_aload_n hc 0 dX12_gathersAll_23 rfl rfl ?_
      refine m_iload_n hc 1 dX12_gathersAll_24 rfl rfl ?_
      refine m_iload_n hc 3 dX12_gathersAll_25 rfl rfl ?_
      refine r_callVi hc hr mt_keyAt rfl lm_X12_123 (ok_keyAt hok hw) (Nat.le_of_ble_eq_true rfl) dX12_gathersAll_26 rfl (rest := [.int r2, .ref G.2.2.1]) rfl (Nat.le_of_ble_eq_true rfl) (fun r3 R3 hw => ?_)
      refine m_iconst hc 1 dX12_gathersAll_29 (by decide) ?_
      refine r_callSi hc hr mt_ex lm_X12_119 (ok_ex hok hw) (Nat.le_of_ble_eq_true rfl) dX12_gathersAll_30 rfl (rest := [.int r2, .ref G.2.2.1]) rfl (Nat.le_of_ble_eq_true rfl) (fun r4 R4 hw => ?_)
      refine m_aload_n hc 0 dX12_gathersAll_33 rfl rfl ?_
      refine m_iload_n hc 1 dX12_gathersAll_34 rfl rfl ?_
      refine m_iload_n hc 3 dX12_gathersAll_35 rfl rfl ?_
      refine r_callVi hc hr mt_keyAt rfl lm_X12_123 (ok_keyAt hok hw) (Nat.le_of_ble_eq_true rfl) dX12_gathersAll_36 rfl (rest := [.int r4, .int r2, .ref G.2.2.1]) rfl (Nat.le_of_ble_eq_true rfl) (fun r5 R5 hw => ?_)
      refine m_iconst hc 2 dX12_gathersAll_39 (by decide) ?_
      refine r_callSi hc hr mt_ex lm_X12_119 (ok_ex hok hw) (Nat.le_of_ble_eq_true rfl) dX12_gathersAll_40 rfl (rest := [.int r4, .int r2, .ref G.2.2.1]) rfl (Nat.le_of_ble_eq_true rfl) (fun r6 R6 hw => ?_)
      refine m_iload_n hc 2 dX12_gathersAll_43 rfl rfl ?_
      refine m_aload_n hc 0 dX12_gathersAll_44 rfl rfl ?_
      refine m_iload_n hc 1 dX12_gathersAll_45 rfl rfl ?_
      refine m_iload_n hc 3 dX12_gathersAll_46 rfl rfl ?_
      refine r_callVi hc hr mt_numAt rfl lm_X12_126 (ok_numAt hok hw) (Nat.le_of_ble_eq_true rfl) dX12_gathersAll_47 rfl (rest := [.int x2, .int r6, .int r4, .int r2, .ref G.2.2.1]) rfl (Nat.le_of_ble_eq_true rfl) (fun r7 R7 hw => ?_)
      refine m_imul hc dX12_gathersAll_50 ?_
      refine r_callVv hc hr mt_gathers rfl lm_X12_152 (ok_gathers hok hw) (Nat.le_of_ble_eq_true rfl) dX12_gathersAll_51 rfl (rest := []) rfl (Nat.le_of_ble_eq_true rfl) (fun r8 R8 hw => ?_)
      refine m_iinc hc 3 (x3 + 1) [(3, .int (x3 + 1)), (0, .ref G.2.2.1), (1, .int x1), (2, .int x2)] dX12_gathersAll_54 rfl rfl (Nat.le_of_ble_eq_true rfl) rfl ?_
      refine m_goto hc 2 dX12_gathersAll_57 rfl ?_
      refine m_sub [1, 2, 3, 0] rfl ?_
      exact h2 x1 x2 (x3 + 1) R8 hw
def wp_gathersAll (x1 x2 : Int32) (R : RS) (K : Int32 → RS → Prop) : Prop := ∃ nn : Nat, wl_gathersAll_2 K nn x1 x2 0 R
set_option maxHeartbeats 4000000 in
set_option maxRecDepth 100000 in
theorem ok_gathersAll {G : RG} (hok : okG G) {x1 : Int32} {x2 : Int32} {R : RS} {K : Int32 → RS → Prop} (hw : wp_gathersAll x1 x2 R K) : CF 2 yX12_gathersAll cX12_gathersAll 4 none [.ref G.2.2.1, .int x1, .int x2] G R K := by
  refine CF.of (by decide +kernel) hok (Nat.le_of_ble_eq_true rfl) (fun X hc hr => ?_)
  show MR G X 4 R 0 [(0, .ref G.2.2.1), (1, .int x1), (2, .int x2)] []
  unfold wp_gathersAll at hw
  refine m_iconst hc 0 dX12_gathersAll_0 (by decide) ?_
  refine m_istore_n hc [(3, .int 0), (0, .ref G.2.2.1), (1, .int x1), (2, .int x2)] dX12_gathersAll_1 rfl (Nat.le_of_ble_eq_true rfl) rfl ?_
  refine m_sub [1, 2, 3, 0] rfl ?_
  obtain ⟨nn, hw⟩ := hw
  exact l_gathersAll_2 hok hc hr nn x1 x2 0 R hw
