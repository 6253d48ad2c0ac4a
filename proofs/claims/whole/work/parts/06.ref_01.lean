def wp_sum (x1 x2 x3 x4 : Int32) (R : RS) (K : Int32 → RS → Prop) : Prop := wp_gathersAll x2 1 R (fun r1 R1 => wp_gathersAll x3 x4 R1 (fun r2 R2 => wp_gathered x1 R2 (fun r3 R3 => (r3 = 0 ∨ r3 = 1) ∧ K r3 R3)))
set_option maxHeartbeats 4000000 in
set_option maxRecDepth 100000 in
theorem ok_sum {G : RG} (hok : okG G) {x1 : Int32} {x2 : Int32} {x3 : Int32} {x4 : Int32} {R : RS} {K : Int32 → RS → Prop} (hw : wp_sum x1 x2 x3 x4 R K) : CF 3 yX12_sum cX12_sum 5 (some .boolean) [.ref G.2.2.1, .int x1, .int x2, .int x3, .int x4] G R K := by
  refine CF.of (by decide +kernel) hok (Nat.le_of_ble_eq_true rfl) (fun X hc hr => ?_)
  show MR G X 5 R 0 [(0, .ref G.2.2.1), (1, .int x1), (2, .int x2), (3, .int x3), (4, .int x4)] []
  unfold wp_sum at hw
  refine m_aload_n hc 0 dX12_sum_0 rfl rfl ?_
  refine m_iload_n hc 2 dX12_sum_1 rfl rfl ?_
  refine m_iconst hc 1 dX12_sum_2 (by decide) ?_
  refine r_callVv hc hr mt_gathersAll rfl lm_X12_156 (ok_gathersAll hok hw) (Nat.le_of_ble_eq_true rfl) dX12_sum_3 rfl (rest := []) rfl (Nat.le_of_ble_eq_true rfl) (fun r1 R1 hw => ?_)
  refine m_aload_n hc 0 dX12_sum_6 rfl rfl ?_
  refine m_iload_n hc 3 dX12_sum_7 rfl rfl ?_
  refine m_iload hc 4 dX12_sum_8 rfl ?_
  refine r_callVv hc hr mt_gathersAll rfl lm_X12_156 (ok_gathersAll hok hw) (Nat.le_of_ble_eq_true rfl) dX12_sum_10 rfl (rest := []) rfl (Nat.le_of_ble_eq_true rfl) (fun r2 R2 hw => ?_)
  refine m_aload_n hc 0 dX12_sum_13 rfl rfl ?_
  refine m_iload_n hc 1 dX12_sum_14 rfl rfl ?_
  refine r_callVi hc hr mt_gathered rfl lm_X12_160 (ok_gathered hok hw) (Nat.le_of_ble_eq_true rfl) dX12_sum_15 rfl (rest := []) rfl (Nat.le_of_ble_eq_true rfl) (fun r3 R3 hw => ?_)
  exact r_zret hc hr dX12_sum_18 hw.1 hw.2
def wb_gathersTerm_3 (K3 : Int32 → Int32 → Int32 → Int32 → RS → Prop) (K : Int32 → RS → Prop) (x1 x2 x3 x4 : Int32) (R : RS) : Prop := vp_in x3 56 ∧ ((R 2 (Int32.toNatClampNeg x3)) ≤ x4 → K 0 R) ∧ (¬ ((R 2 (Int32.toNatClampNeg x3)) ≤ x4) → wp_keyAt x3 x4 R (fun r1 R1 => wp_ex x1 0 R1 (fun r2 R2 => wp_ex r1 0 R2 (fun r3 R3 => wp_ex x1 1 R3 (fun r4 R4 => wp_ex r1 1 R4 (fun r5 R5 => wp_ex x1 2 R5 (fun r6 R6 => wp_ex r1 2 R6 (fun r7 R7 => wp_numAt x3 x4 R7 (fun r8 R8 => wp_gathers (r2 + r3) (r4 + r5) (r6 + r7) (x2 * r8) R8 (fun r9 R9 => K3 x1 x2 x3 (x4 + 1) R9))))))))))
def wl_gathersTerm_3 (K : Int32 → RS → Prop) : Nat → Int32 → Int32 → Int32 → Int32 → RS → Prop
  | 0 => fun _ _ _ _ _ => False
  | nn + 1 => wb_gathersTerm_3 (wl_gathersTerm_3 K nn) K
set_option maxHeartbeats 4000000 in
set_option maxRecDepth 100000 in
theorem l_gathersTerm_3 {G : RG} {X : Fx} {K : Int32 → RS → Prop} (hok : okG G) (hc : Cx X RX12 cX12_gathersTerm 6) (hr : Cr G 2 none K X) : ∀ (nn : Nat) (x1 x2 x3 x4 : Int32) (R : RS), wl_gathersTerm_3 K nn x1 x2 x3 x4 R → MR G X 6 R 3 [(0, .ref G.2.2.1), (1, .int x1), (2, .int x2), (3, .int x3), (4, .int x4)] [] := by
  intro nn
  induction nn with
  | zero => intro x1 x2 x3 x4 R hw; exact False.elim hw
  | succ nn ih =>
    intro x1 x2 x3 x4 R hw
    have hw : wb_gathersTerm_3 (wl_gathersTerm_3 K nn) K x1 x2 x3 x4 R := hw
    have h3 := ih
    generalize wl_gathersTerm_3 K nn = K3 at hw h3
    unfold wb_gathersTerm_3 at hw
    refine m_iload hc 4 dX12_gathersTerm_3 rfl ?_
    refine m_aload_n hc 0 dX12_gathersTerm_5 rfl rfl ?_
    refine r_geta hc hr 2 dX12_gathersTerm_6 lf_X12_13 (Nat.le_of_ble_eq_true rfl) rfl ?_
    refine m_iload_n hc 3 dX12_gathersTerm_9 rfl rfl ?_
    obtain ⟨hi, hw⟩ := hw
    refine r_iald hc hr (i := 0) (f := 2) rfl hi dX12_gathersTerm_10 ?_
    refine m_icmp_ge hc 78 dX12_gathersTerm_11 rfl (fun cq => ?_) (fun cq => ?_)
    · have hw := hw.1 cq
      exact r_vret hc hr dX12_gathersTerm_78 hw
    · have hw := hw.2 cq
      refine m_aload_n hc 0 dX12_gathersTerm_14 rfl rfl ?_
      refine m_iload_n hc 3 dX12_gathersTerm_15 rfl rfl ?_
      refine m_iload hc 4 dX12_gathersTerm_16 rfl ?_
      refine r_callVi hc hr mt_keyAt rfl lm_X12_123 (ok_keyAt hok hw) (Nat.le_of_ble_eq_true rfl) dX12_gathersTerm_18 rfl (rest := []) rfl (Nat.le_of_ble_eq_true rfl) (fun r1 R1 hw => ?_)
      refine m_istore hc [(5, .int r1), (0, .ref G.2.2.1), (1, .int x1), (2, .int x2), (3, .int x3), (4, .int x4)] dX12_gathersTerm_21 (Nat.le_of_ble_eq_true rfl) rfl ?_
      refine m_aload_n hc 1 dX12_gathersTerm_23 rfl rfl ?_
      refine m_iload_n hc 2 dX12_gathersTerm_24 rfl rfl ?_
      refine m_iconst hc 0 dX12_gathersTerm_25 (by decide) ?_
      refine r_callSi hc hr mt_ex lm_X12_119 (ok_ex hok hw) (Nat.le_of_ble_eq_true rfl) dX12_gathersTerm_26 rfl (rest := [.ref G.2.2.1]) rfl (Nat.le_of_ble_eq_true rfl) (fun r2 R2 hw => ?_)
      refine m_iload hc 0 dX12_gathersTerm_29 rfl ?_
      refine m_iconst hc 0 dX12_gathersTerm_31 (by decide) ?_
      refine r_callSi hc hr mt_ex lm_X12_119 (ok_ex hok hw) (Nat.le_of_ble_eq_true rfl) dX12_gathersTerm_32 rfl (rest := [.int r2, .ref G.2.2.1]) rfl (Nat.le_of_ble_eq_true rfl) (fun r3 R3 hw => ?_)
      refine m_iadd hc dX12_gathersTerm_35 ?_
      refine m_iload_n hc 2 dX12_gathersTerm_36 rfl rfl ?_
      refine m_iconst hc 1 dX12_gathersTerm_37 (by decide) ?_
      refine r_callSi hc hr mt_ex lm_X12_119 (ok_ex hok hw) (Nat.le_of_ble_eq_true rfl) dX12_gathersTerm_38 rfl (rest := [.int (r2 + r3), .ref G.2.2.1]) rfl (Nat.le_of_ble_eq_true rfl) (fun r4 R4 hw => ?_)
      refine m_iload hc 0 dX12_gathersTerm_41 rfl ?_
      refine m_iconst hc 1 dX12_gathersTerm_43 (by decide) ?_
      refine r_callSi hc hr mt_ex lm_X12_119 (ok_ex hok hw) (Nat.le_of_ble_eq_true rfl) dX12_gathersTerm_44 rfl (rest := [.int r4, .int (r2 + r3), .ref G.2.2.1]) rfl (Nat.le_of_ble_eq_true rfl) (fun r5 R5 hw => ?_)
      refine m_iadd hc dX12_gathersTerm_47 ?_
      refine m_iload_n hc 2 dX12_gathersTerm_48 rfl rfl ?_
      refine m_iconst hc 2 dX12_gathersTerm_49 (by decide) ?_
      refine r_callSi hc hr mt_ex lm_X12_119 (ok_ex hok hw) (Nat.le_of_ble_eq_true rfl) dX12_gathersTerm_50 rfl (rest := [.int (r4 + r5), .int (r2 + r3), .ref G.2.2.1]) rfl (Nat.le_of_ble_eq_true rfl) (fun r6 R6 hw => ?_)
      refine m_iload hc 0 dX12_gathersTerm_53 rfl ?_
      refine m_iconst hc 2 dX12_gathersTerm_55 (by decide) ?_
      refine r_callSi hc hr mt_ex lm_X12_119 (ok_ex hok hw) (Nat.le_of_ble_eq_true rfl) dX12_gathersTerm_56 rfl (rest := [.int r6, .int (r4 + r5), .int (r2 + r3), .ref G.2.2.1]) rfl (Nat.le_of_ble_eq_true rfl) (fun r7 R7 hw => ?_)
      refine m_iadd hc dX12_gathersTerm_59 ?_
      refine m_iload_n hc 3 dX12_gathersTerm_60 rfl rfl ?_
      refine m_aload_n hc 1 dX12_gathersTerm_61 rfl rfl ?_
      refine m_iload_n hc 4 dX12_gathersTerm_62 rfl rfl ?_
      refine m_iload hc 5 dX12_gathersTerm_63 rfl ?_
      refine r_callVi hc hr mt_numAt rfl lm_X12_126 (ok_numAt hok hw) (Nat.le_of_ble_eq_true rfl) dX12_gathersTerm_65 rfl (rest := [.int x2, .int (r6 + r7), .int (r4 + r5), .int (r2 + r3), .ref G.2.2.1]) rfl (Nat.le_of_ble_eq_true rfl) (fun r8 R8 hw => ?_)
      refine m_imul hc dX12_gathersTerm_68 ?_
      refine r_callVv hc hr mt_gathers rfl lm_X12_152 (ok_gathers hok hw) (Nat.le_of_ble_eq_true rfl) dX12_gathersTerm_69 rfl (rest := []) rfl (Nat.le_of_ble_eq_true rfl) (fun r9 R9 hw => ?_)
      refine m_iinc hc 5 (x4 + 1) [(4, .int (x4 + 1)), (5, .int r1), (0, .ref G.2.2.1), (1, .int x1), (2, .int x2), (3, .int x3)] dX12_gathersTerm_72 rfl rfl (Nat.le_of_ble_eq_true rfl) rfl ?_
      refine m_goto hc 3 dX12_gathersTerm_75 rfl ?_
      refine m_sub [2, 3, 4, 5, 0] rfl ?_
      exact h3 x1 x2 x3 (x4 + 1) R9 hw
def wp_gathersTerm (x1 x2 x3 : Int32) (R : RS) (K : Int32 → RS → Prop) : Prop := ∃ nn : Nat, wl_gathersTerm_3 K nn x1 x2 x3 0 R
set_option maxHeartbeats 4000000 in
set_option maxRecDepth 100000 in
theorem ok_gathersTerm {G : RG} (hok : okG G) {x1 : Int32} {x2 : Int32} {x3 : Int32} {R : RS} {K : Int32 → RS → Prop} (hw : wp_gathersTerm x1 x2 x3 R K) : CF 2 yX12_gathersTerm cX12_gathersTerm 6 none [.ref G.2.2.1, .int x1, .int x2, .int x3] G R K := by
  refine CF.of (by decide +kernel) hok (Nat.le_of_ble_eq_true rfl) (fun X hc hr => ?_)
  show MR G X 6 R 0 [(0, .ref G.2.2.1), (1, .int x1), (2, .int x2), (3, .int x3)] []
  unfold wp_gathersTerm at hw
  refine m_iconst hc 0 dX12_gathersTerm_0 (by decide) ?_
  refine m_istore hc [(4, .int 0), (0, .ref G.2.2.1), (1, .int x1), (2, .int x2), (3, .int x3)] dX12_gathersTerm_1 (Nat.le_of_ble_eq_true rfl) rfl ?_
  refine m_sub [1, 2, 3, 4, 0] rfl ?_
  obtain ⟨nn, hw⟩ := hw
  exact l_gathersTerm_3 hok hc hr nn x1 x2 x3 0 R hw
def wb_product_3 (K3 : Int32 → Int32 → Int32 → Int32 → RS → Prop) (K : Int32 → RS → Prop) (x1 x2 x3 x4 : Int32) (R : RS) : Prop := vp_in x2 56 ∧ ((R 2 (Int32.toNatClampNeg x2)) ≤ x4 → wp_gathered x1 R (fun r1 R1 => (r1 = 0 ∨ r1 = 1) ∧ K r1 R1)) ∧ (¬ ((R 2 (Int32.toNatClampNeg x2)) ≤ x4) → wp_keyAt x2 x4 R (fun r2 R2 => wp_numAt x2 x4 R2 (fun r3 R3 => wp_gathersTerm r2 r3 x3 R3 (fun r4 R4 => K3 x1 x2 x3 (x4 + 1) R4))))
def wl_product_3 (K : Int32 → RS → Prop) : Nat → Int32 → Int32 → Int32 → Int32 → RS → Prop
  | 0 => fun _ _ _ _ _ => False
  | nn + 1 => wb_product_3 (wl_product_3 K nn) K
set_option maxHeartbeats 4000000 in
set_option maxRecDepth 100000 in
theorem l_product_3 {G : RG} {X : Fx} {K : Int32 → RS → Prop} (hok : okG G) (hc : Cx X RX12 cX12_product 5) (hr : Cr G 3 (some .boolean) K X) : ∀ (nn : Nat) (x1 x2 x3 x4 : Int32) (R : RS), wl_product_3 K nn x1 x2 x3 x4 R → MR G X 5 R 3 [(0, .ref G.2.2.1), (1, .int x1), (2, .int x2), (3, .int x3), (4, .int x4)] [] := by
  intro nn
  induction nn with
  | zero => intro x1 x2 x3 x4 R hw; exact False.elim hw
  | succ nn ih =>
    intro x1 x2 x3 x4 R hw
    have hw : wb_product_3 (wl_product_3 K nn) K x1 x2 x3 x4 R := hw
    have h3 := ih
    generalize wl_product_3 K nn = K3 at hw h3
    unfold wb_product_3 at hw
    refine m_iload hc 4 dX12_product_3 rfl ?_
    refine m_aload_n hc 0 dX12_product_5 rfl rfl ?_
    refine r_geta hc hr 2 dX12_product_6 lf_X12_13 (Nat.le_of_ble_eq_true rfl) rfl ?_
    refine m_iload_n hc 2 dX12_product_9 rfl rfl ?_
    obtain ⟨hi, hw⟩ := hw
    refine r_iald hc hr (i := 0) (f := 2) rfl hi dX12_product_10 ?_
    refine m_icmp_ge hc 39 dX12_product_11 rfl (fun cq => ?_) (fun cq => ?_)
    · have hw := hw.1 cq
      refine m_aload_n hc 0 dX12_product_39 rfl rfl ?_
      refine m_iload_n hc 1 dX12_product_40 rfl rfl ?_
      refine r_callVi hc hr mt_gathered rfl lm_X12_160 (ok_gathered hok hw) (Nat.le_of_ble_eq_true rfl) dX12_product_41 rfl (rest := []) rfl (Nat.le_of_ble_eq_true rfl) (fun r1 R1 hw => ?_)
      exact r_zret hc hr dX12_product_44 hw.1 hw.2
    · have hw := hw.2 cq
      refine m_aload_n hc 0 dX12_product_14 rfl rfl ?_
      refine m_aload_n hc 0 dX12_product_15 rfl rfl ?_
      refine m_iload_n hc 2 dX12_product_16 rfl rfl ?_
      refine m_iload hc 4 dX12_product_17 rfl ?_
      refine r_callVi hc hr mt_keyAt rfl lm_X12_123 (ok_keyAt hok hw) (Nat.le_of_ble_eq_true rfl) dX12_product_19 rfl (rest := [.ref G.2.2.1]) rfl (Nat.le_of_ble_eq_true rfl) (fun r2 R2 hw => ?_)
      refine m_aload_n hc 0 dX12_product_22 rfl rfl ?_
      refine m_iload_n hc 2 dX12_product_23 rfl rfl ?_
      refine m_iload hc 4 dX12_product_24 rfl ?_
      refine r_callVi hc hr mt_numAt rfl lm_X12_126 (ok_numAt hok hw) (Nat.le_of_ble_eq_true rfl) dX12_product_26 rfl (rest := [.int r2, .ref G.2.2.1]) rfl (Nat.le_of_ble_eq_true rfl) (fun r3 R3 hw => ?_)
      refine m_iload_n hc 3 dX12_product_29 rfl rfl ?_
      refine r_callVv hc hr mt_gathersTerm rfl lm_X12_164 (ok_gathersTerm hok hw) (Nat.le_of_ble_eq_true rfl) dX12_product_30 rfl (rest := []) rfl (Nat.le_of_ble_eq_true rfl) (fun r4 R4 hw => ?_)
      refine m_iinc hc 4 (x4 + 1) [(4, .int (x4 + 1)), (0, .ref G.2.2.1), (1, .int x1), (2, .int x2), (3, .int x3)] dX12_product_33 rfl rfl (Nat.le_of_ble_eq_true rfl) rfl ?_
      refine m_goto hc 3 dX12_product_36 rfl ?_
      refine m_sub [1, 2, 3, 4, 0] rfl ?_
      exact h3 x1 x2 x3 (x4 + 1) R4 hw
def wp_product (x1 x2 x3 : Int32) (R : RS) (K : Int32 → RS → Prop) : Prop := ∃ nn : Nat, wl_product_3 K nn x1 x2 x3 0 R
set_option maxHeartbeats 4000000 in
set_option maxRecDepth 100000 in
theorem ok_product {G : RG} (hok : okG G) {x1 : Int32} {x2 : Int32} {x3 : Int32} {R : RS} {K : Int32 → RS → Prop} (hw : wp_product x1 x2 x3 R K) : CF 3 yX12_product cX12_product 5 (some .boolean) [.ref G.2.2.1, .int x1, .int x2, .int x3] G R K := by
  refine CF.of (by decide +kernel) hok (Nat.le_of_ble_eq_true rfl) (fun X hc hr => ?_)
  show MR G X 5 R 0 [(0, .ref G.2.2.1), (1, .int x1), (2, .int x2), (3, .int x3)] []
  unfold wp_product at hw
  refine m_iconst hc 0 dX12_product_0 (by decide) ?_
  refine m_istore hc [(4, .int 0), (0, .ref G.2.2.1), (1, .int x1), (2, .int x2), (3, .int x3)] dX12_product_1 (Nat.le_of_ble_eq_true rfl) rfl ?_
  refine m_sub [1, 2, 3, 4, 0] rfl ?_
  obtain ⟨nn, hw⟩ := hw
  exact l_product_3 hok hc hr nn x1 x2 x3 0 R hw
def w_number_20 (K : Int32 → RS → Prop) (x1 : Int32) (R : RS) : Prop := wp_gathered x1 R (fun r1 R1 => K 0 R1)
set_option maxHeartbeats 4000000 in
set_option maxRecDepth 100000 in
theorem b_number_20 {G : RG} {X : Fx} {K : Int32 → RS → Prop} (hok : okG G) (hc : Cx X RX12 cX12_number 4) (hr : Cr G 3 none K X) : ∀ (x1 : Int32) (R : RS), w_number_20 K x1 R → MR G X 4 R 20 [(0, .ref G.2.2.1), (1, .int x1)] [] := by
  intro x1 R hw
  unfold w_number_20 at hw
  refine m_aload_n hc 0 dX12_number_20 rfl rfl ?_
  refine m_iload_n hc 1 dX12_number_21 rfl rfl ?_
  refine r_callVi hc hr mt_gathered rfl lm_X12_160 (ok_gathered hok hw) (Nat.le_of_ble_eq_true rfl) dX12_number_22 rfl (rest := []) rfl (Nat.le_of_ble_eq_true rfl) (fun r1 R1 hw => ?_)
  refine m_istore_n hc [(3, .int r1), (0, .ref G.2.2.1), (1, .int x1)] dX12_number_25 rfl (Nat.le_of_ble_eq_true rfl) rfl ?_
  exact r_vret hc hr dX12_number_26 hw
def wp_number (x1 x2 : Int32) (R : RS) (K : Int32 → RS → Prop) : Prop := wp_mod x2 R (fun r1 R1 => (r1 = 0 → w_number_20 K x1 R1) ∧ (¬ (r1 = 0) → wp_mod x2 R1 (fun r2 R2 => wp_gathers 0 0 0 r2 R2 (fun r3 R3 => w_number_20 K x1 R3))))
set_option maxHeartbeats 4000000 in
set_option maxRecDepth 100000 in
theorem ok_number {G : RG} (hok : okG G) {x1 : Int32} {x2 : Int32} {R : RS} {K : Int32 → RS → Prop} (hw : wp_number x1 x2 R K) : CF 3 yX12_number cX12_number 4 none [.ref G.2.2.1, .int x1, .int x2] G R K := by
  refine CF.of (by decide +kernel) hok (Nat.le_of_ble_eq_true rfl) (fun X hc hr => ?_)
  show MR G X 4 R 0 [(0, .ref G.2.2.1), (1, .int x1), (2, .int x2)] []
  unfold wp_number at hw
  refine m_aload_n hc 0 dX12_number_0 rfl rfl ?_
  refine m_iload_n hc 2 dX12_number_1 rfl rfl ?_
  refine r_callVi hc hr mt_mod rfl lm_X12_138 (ok_mod hok hw) (Nat.le_of_ble_eq_true rfl) dX12_number_2 rfl (rest := []) rfl (Nat.le_of_ble_eq_true rfl) (fun r1 R1 hw => ?_)
  refine m_if_eq hc 20 dX12_number_5 rfl (fun cq => ?_) (fun cq => ?_)
  · have hw := hw.1 cq
    refine m_sub [0, 1] rfl ?_
    exact b_number_20 hok hc hr x1 R1 hw
  · have hw := hw.2 cq
    refine m_aload_n hc 0 dX12_number_8 rfl rfl ?_
    refine m_iconst hc 0 dX12_number_9 (by decide) ?_
    refine m_iconst hc 0 dX12_number_10 (by decide) ?_
    refine m_iconst hc 0 dX12_number_11 (by decide) ?_
    refine m_aload_n hc 0 dX12_number_12 rfl rfl ?_
    refine m_iload_n hc 2 dX12_number_13 rfl rfl ?_
    refine r_callVi hc hr mt_mod rfl lm_X12_138 (ok_mod hok hw) (Nat.le_of_ble_eq_true rfl) dX12_number_14 rfl (rest := [.int 0, .int 0, .int 0, .ref G.2.2.1]) rfl (Nat.le_of_ble_eq_true rfl) (fun r2 R2 hw => ?_)
    refine r_callVv hc hr mt_gathers rfl lm_X12_152 (ok_gathers hok hw) (Nat.le_of_ble_eq_true rfl) dX12_number_17 rfl (rest := []) rfl (Nat.le_of_ble_eq_true rfl) (fun r3 R3 hw => ?_)
    refine m_sub [0, 1] rfl ?_
    exact b_number_20 hok hc hr x1 R3 hw
def wb_power_19 (K19 : Int32 → Int32 → Int32 → Int32 → RS → Prop) (K : Int32 → RS → Prop) (x1 x3 x4 x5 : Int32) (R : RS) : Prop := (x3 ≤ x5 → (x4 = 0 ∨ x4 = 1) ∧ K x4 R) ∧ (¬ (x3 ≤ x5) → (x4 = 0 → (x4 = 0 ∨ x4 = 1) ∧ K x4 R) ∧ (¬ (x4 = 0) → (¬ x5 = 0 → wp_copy 53 x1 R (fun r1 R1 => wp_product x1 53 52 R1 (fun r2 R2 => K19 x1 x3 r2 (x5 + 1) R2))) ∧ (x5 = 0 → wp_copy x1 52 R (fun r3 R3 => K19 x1 x3 x4 (x5 + 1) R3))))
def wl_power_19 (K : Int32 → RS → Prop) : Nat → Int32 → Int32 → Int32 → Int32 → RS → Prop
  | 0 => fun _ _ _ _ _ => False
  | nn + 1 => wb_power_19 (wl_power_19 K nn) K
set_option maxHeartbeats 4000000 in
set_option maxRecDepth 100000 in
theorem l_power_19 {G : RG} {X : Fx} {K : Int32 → RS → Prop} (hok : okG G) (hc : Cx X RX12 cX12_power 6) (hr : Cr G 4 (some .boolean) K X) : ∀ (nn : Nat) (x1 x3 x4 x5 : Int32) (R : RS), wl_power_19 K nn x1 x3 x4 x5 R → MR G X 6 R 19 [(0, .ref G.2.2.1), (1, .int x1), (3, .int x3), (4, .int x4), (5, .int x5)] [] := by
  intro nn
  induction nn with
  | zero => intro x1 x3 x4 x5 R hw; exact False.elim hw
  | succ nn ih =>
    intro x1 x3 x4 x5 R hw
    have hw : wb_power_19 (wl_power_19 K nn) K x1 x3 x4 x5 R := hw
    have h19 := ih
    generalize wl_power_19 K nn = K19 at hw h19
    unfold wb_power_19 at hw
    refine m_iload hc 4 dX12_power_19 rfl ?_
    refine m_iload_n hc 2 dX12_power_21 rfl rfl ?_
    refine m_icmp_ge hc 69 dX12_power_22 rfl (fun cq => ?_) (fun cq => ?_)
    · have hw := hw.1 cq
      refine m_iload hc 3 dX12_power_69 rfl ?_
      exact r_zret hc hr dX12_power_71 hw.1 hw.2
    · have hw := hw.2 cq
      refine m_iload hc 3 dX12_power_25 rfl ?_
      refine m_if_eq hc 69 dX12_power_27 rfl (fun cq => ?_) (fun cq => ?_)
      · have hw := hw.1 cq
        refine m_iload hc 3 dX12_power_69 rfl ?_
        exact r_zret hc hr dX12_power_71 hw.1 hw.2
      · have hw := hw.2 cq
        refine m_iload hc 4 dX12_power_30 rfl ?_
        refine m_if_ne hc 45 dX12_power_32 rfl (fun cq => ?_) (fun cq => ?_)
        · have hw := hw.1 cq
          refine m_aload_n hc 0 dX12_power_45 rfl rfl ?_
          refine m_bipush hc 53 dX12_power_46 (by decide) ?_
          refine m_iload_n hc 1 dX12_power_48 rfl rfl ?_
          refine r_callVv hc hr mt_copy rfl lm_X12_168 (ok_copy hok hw) (Nat.le_of_ble_eq_true rfl) dX12_power_49 rfl (rest := []) rfl (Nat.le_of_ble_eq_true rfl) (fun r1 R1 hw => ?_)
          refine m_aload_n hc 0 dX12_power_52 rfl rfl ?_
          refine m_iload_n hc 1 dX12_power_53 rfl rfl ?_
          refine m_bipush hc 53 dX12_power_54 (by decide) ?_
          refine m_bipush hc 52 dX12_power_56 (by decide) ?_
          refine r_callVi hc hr mt_product rfl lm_X12_174 (ok_product hok hw) (Nat.le_of_ble_eq_true rfl) dX12_power_58 rfl (rest := []) rfl (Nat.le_of_ble_eq_true rfl) (fun r2 R2 hw => ?_)
          refine m_istore hc [(4, .int r2), (0, .ref G.2.2.1), (1, .int x1), (3, .int x3), (5, .int x5)] dX12_power_61 (Nat.le_of_ble_eq_true rfl) rfl ?_
          refine m_iinc hc 4 (x5 + 1) [(5, .int (x5 + 1)), (4, .int r2), (0, .ref G.2.2.1), (1, .int x1), (3, .int x3)] dX12_power_63 rfl rfl (Nat.le_of_ble_eq_true rfl) rfl ?_
          refine m_goto hc 19 dX12_power_66 rfl ?_
          refine m_sub [2, 3, 4, 1, 0] rfl ?_
          exact h19 x1 x3 r2 (x5 + 1) R2 hw
        · have hw := hw.2 cq
          refine m_aload_n hc 0 dX12_power_35 rfl rfl ?_
          refine m_iload_n hc 1 dX12_power_36 rfl rfl ?_
          refine m_bipush hc 52 dX12_power_37 (by decide) ?_
          refine r_callVv hc hr mt_copy rfl lm_X12_168 (ok_copy hok hw) (Nat.le_of_ble_eq_true rfl) dX12_power_39 rfl (rest := []) rfl (Nat.le_of_ble_eq_true rfl) (fun r3 R3 hw => ?_)
          refine m_goto hc 63 dX12_power_42 rfl ?_
          refine m_iinc hc 4 (x5 + 1) [(5, .int (x5 + 1)), (0, .ref G.2.2.1), (1, .int x1), (3, .int x3), (4, .int x4)] dX12_power_63 rfl rfl (Nat.le_of_ble_eq_true rfl) rfl ?_
          refine m_goto hc 19 dX12_power_66 rfl ?_
          refine m_sub [1, 2, 3, 4, 0] rfl ?_
          exact h19 x1 x3 x4 (x5 + 1) R3 hw
def wp_power (x1 x2 x3 : Int32) (R : RS) (K : Int32 → RS → Prop) : Prop := wp_copy 52 x2 R (fun r1 R1 => wp_number x1 1 R1 (fun r2 R2 => ∃ nn : Nat, wl_power_19 K nn x1 x3 1 0 R2))
set_option maxHeartbeats 4000000 in
set_option maxRecDepth 100000 in
theorem ok_power {G : RG} (hok : okG G) {x1 : Int32} {x2 : Int32} {x3 : Int32} {R : RS} {K : Int32 → RS → Prop} (hw : wp_power x1 x2 x3 R K) : CF 4 yX12_power cX12_power 6 (some .boolean) [.ref G.2.2.1, .int x1, .int x2, .int x3] G R K := by
  refine CF.of (by decide +kernel) hok (Nat.le_of_ble_eq_true rfl) (fun X hc hr => ?_)
  show MR G X 6 R 0 [(0, .ref G.2.2.1), (1, .int x1), (2, .int x2), (3, .int x3)] []
  unfold wp_power at hw
  refine m_aload_n hc 0 dX12_power_0 rfl rfl ?_
  refine m_bipush hc 52 dX12_power_1 (by decide) ?_
  refine m_iload_n hc 2 dX12_power_3 rfl rfl ?_
  refine r_callVv hc hr mt_copy rfl lm_X12_168 (ok_copy hok hw) (Nat.le_of_ble_eq_true rfl) dX12_power_4 rfl (rest := []) rfl (Nat.le_of_ble_eq_true rfl) (fun r1 R1 hw => ?_)
  refine m_aload_n hc 0 dX12_power_7 rfl rfl ?_
  refine m_iload_n hc 1 dX12_power_8 rfl rfl ?_
  refine m_iconst hc 1 dX12_power_9 (by decide) ?_
  refine r_callVv hc hr mt_number rfl lm_X12_171 (ok_number hok hw) (Nat.le_of_ble_eq_true rfl) dX12_power_10 rfl (rest := []) rfl (Nat.le_of_ble_eq_true rfl) (fun r2 R2 hw => ?_)
  refine m_iconst hc 1 dX12_power_13 (by decide) ?_
  refine m_istore hc [(4, .int 1), (0, .ref G.2.2.1), (1, .int x1), (2, .int x2), (3, .int x3)] dX12_power_14 (Nat.le_of_ble_eq_true rfl) rfl ?_
  refine m_iconst hc 0 dX12_power_16 (by decide) ?_
  refine m_istore hc [(5, .int 0), (4, .int 1), (0, .ref G.2.2.1), (1, .int x1), (2, .int x2), (3, .int x3)] dX12_power_17 (Nat.le_of_ble_eq_true rfl) rfl ?_
  refine m_sub [2, 3, 5, 1, 0] rfl ?_
  obtain ⟨nn, hw⟩ := hw
  exact l_power_19 hok hc hr nn x1 x3 1 0 R2 hw
def wb_powerOf_5 (K5 : Int32 → Int32 → Int32 → Int32 → RS → Prop) (K : Int32 → RS → Prop) (x1 x2 x3 x4 : Int32) (R : RS) : Prop := (x2 ≤ x4 → K x3 R) ∧ (¬ (x2 ≤ x4) → ¬ (R 0 1) = 0 ∧ (K5 x1 x2 (iRem (x3 * x1) (R 0 1)) (x4 + 1) R))
def wl_powerOf_5 (K : Int32 → RS → Prop) : Nat → Int32 → Int32 → Int32 → Int32 → RS → Prop
  | 0 => fun _ _ _ _ _ => False
  | nn + 1 => wb_powerOf_5 (wl_powerOf_5 K nn) K
set_option maxHeartbeats 4000000 in
set_option maxRecDepth 100000 in
theorem l_powerOf_5 {G : RG} {X : Fx} {K : Int32 → RS → Prop} (hok : okG G) (hc : Cx X RX12 cX12_powerOf 5) (hr : Cr G 0 (some .int) K X) : ∀ (nn : Nat) (x1 x2 x3 x4 : Int32) (R : RS), wl_powerOf_5 K nn x1 x2 x3 x4 R → MR G X 5 R 5 [(0, .ref G.2.2.1), (1, .int x1), (2, .int x2), (3, .int x3), (4, .int x4)] [] := by
  intro nn
  induction nn with
  | zero => intro x1 x2 x3 x4 R hw; exact False.elim hw
  | succ nn ih =>
    intro x1 x2 x3 x4 R hw
    have hw : wb_powerOf_5 (wl_powerOf_5 K nn) K x1 x2 x3 x4 R := hw
    have h5 := ih
    generalize wl_powerOf_5 K nn = K5 at hw h5
    unfold wb_powerOf_5 at hw
    refine m_iload hc 4 dX12_powerOf_5 rfl ?_
    refine m_iload_n hc 2 dX12_powerOf_7 rfl rfl ?_
    refine m_icmp_ge hc 26 dX12_powerOf_8 rfl (fun cq => ?_) (fun cq => ?_)
    · have hw := hw.1 cq
      refine m_iload_n hc 3 dX12_powerOf_26 rfl rfl ?_
      exact r_iret hc hr dX12_powerOf_27 hw
    · have hw := hw.2 cq
      refine m_iload_n hc 3 dX12_powerOf_11 rfl rfl ?_
      refine m_iload_n hc 1 dX12_powerOf_12 rfl rfl ?_
      refine m_imul hc dX12_powerOf_13 ?_
      refine m_aload_n hc 0 dX12_powerOf_14 rfl rfl ?_
      refine r_geti hc hr 1 dX12_powerOf_15 lf_X12_9 (Nat.le_of_ble_eq_true rfl) rfl ?_
      obtain ⟨hq, hw⟩ := hw
      refine m_irem hc dX12_powerOf_18 hq ?_
      refine m_istore_n hc [(3, .int (iRem (x3 * x1) (R 0 1))), (0, .ref G.2.2.1), (1, .int x1), (2, .int x2), (4, .int x4)] dX12_powerOf_19 rfl (Nat.le_of_ble_eq_true rfl) rfl ?_
      refine m_iinc hc 4 (x4 + 1) [(4, .int (x4 + 1)), (3, .int (iRem (x3 * x1) (R 0 1))), (0, .ref G.2.2.1), (1, .int x1), (2, .int x2)] dX12_powerOf_20 rfl rfl (Nat.le_of_ble_eq_true rfl) rfl ?_
      refine m_goto hc 5 dX12_powerOf_23 rfl ?_
      refine m_sub [2, 3, 4, 1, 0] rfl ?_
      exact h5 x1 x2 (iRem (x3 * x1) (R 0 1)) (x4 + 1) R hw
def wp_powerOf (x1 x2 : Int32) (R : RS) (K : Int32 → RS → Prop) : Prop := ∃ nn : Nat, wl_powerOf_5 K nn x1 x2 1 0 R
set_option maxHeartbeats 4000000 in
set_option maxRecDepth 100000 in
theorem ok_powerOf {G : RG} (hok : okG G) {x1 : Int32} {x2 : Int32} {R : RS} {K : Int32 → RS → Prop} (hw : wp_powerOf x1 x2 R K) : CF 0 yX12_powerOf cX12_powerOf 5 (some .int) [.ref G.2.2.1, .int x1, .int x2] G R K := by
  refine CF.of (by decide +kernel) hok (Nat.le_of_ble_eq_true rfl) (fun X hc hr => ?_)
  show MR G X 5 R 0 [(0, .ref G.2.2.1), (1, .int x1), (2, .int x2)] []
  unfold wp_powerOf at hw
  refine m_iconst hc 1 dX12_powerOf_0 (by decide) ?_
  refine m_istore_n hc [(3, .int 1), (0, .ref G.2.2.1), (1, .int x1), (2, .int x2)] dX12_powerOf_1 rfl (Nat.le_of_ble_eq_true rfl) rfl ?_
  refine m_iconst hc 0 dX12_powerOf_2 (by decide) ?_
  refine m_istore hc [(4, .int 0), (3, .int 1), (0, .ref G.2.2.1), (1, .int x1), (2, .int x2)] dX12_powerOf_3 (Nat.le_of_ble_eq_true rfl) rfl ?_
  refine m_sub [2, 3, 4, 1, 0] rfl ?_
  obtain ⟨nn, hw⟩ := hw
  exact l_powerOf_5 hok hc hr nn x1 x2 1 0 R hw
def wb_layPowers_5 (K5 : Int32 → Int32 → Int32 → Int32 → RS → Prop) (K : Int32 → RS → Prop) (x1 x2 x3 x4 : Int32) (R : RS) : Prop := (41 ≤ x4 → K 0 R) ∧ (¬ (41 ≤ x4) → vp_in ((41 * x1) + x4) 123 ∧ ¬ ((up R 8 (Int32.toNatClampNeg ((41 * x1) + x4)) x3) 0 1) = 0 ∧ (∀ v1 : Int32, v1 = (iRem (x3 * x2) ((up R 8 (Int32.toNatClampNeg ((41 * x1) + x4)) x3) 0 1)) → K5 x1 x2 v1 (x4 + 1) (up R 8 (Int32.toNatClampNeg ((41 * x1) + x4)) x3)))
def wl_layPowers_5 (K : Int32 → RS → Prop) : Nat → Int32 → Int32 → Int32 → Int32 → RS → Prop
  | 0 => fun _ _ _ _ _ => False
  | nn + 1 => wb_layPowers_5 (wl_layPowers_5 K nn) K
set_option maxHeartbeats 4000000 in
set_option maxRecDepth 100000 in
theorem l_layPowers_5 {G : RG} {X : Fx} {K : Int32 → RS → Prop} (hok : okG G) (hc : Cx X RX12 cX12_layPowers 5) (hr : Cr G 0 none K X) : ∀ (nn : Nat) (x1 x2 x3 x4 : Int32) (R : RS), wl_layPowers_5 K nn x1 x2 x3 x4 R → MR G X 5 R 5 [(0, .ref G.2.2.1), (1, .int x1), (2, .int x2), (3, .int x3), (4, .int x4)] [] := by
  intro nn
  induction nn with
  | zero => intro x1 x2 x3 x4 R hw; exact False.elim hw
  | succ nn ih =>
    intro x1 x2 x3 x4 R hw
    have hw : wb_layPowers_5 (wl_layPowers_5 K nn) K x1 x2 x3 x4 R := hw
    have h5 := ih
    generalize wl_layPowers_5 K nn = K5 at hw h5
    unfold wb_layPowers_5 at hw
    refine m_iload hc 4 dX12_layPowers_5 rfl ?_
    refine m_bipush hc 41 dX12_layPowers_7 (by decide) ?_
    refine m_icmp_ge hc 40 dX12_layPowers_9 rfl (fun cq => ?_) (fun cq => ?_)
    · have hw := hw.1 cq
      exact r_vret hc hr dX12_layPowers_40 hw
    · have hw := hw.2 cq
      refine m_aload_n hc 0 dX12_layPowers_12 rfl rfl ?_
      refine r_geta hc hr 8 dX12_layPowers_13 lf_X12_31 (Nat.le_of_ble_eq_true rfl) rfl ?_
      refine m_bipush hc 41 dX12_layPowers_16 (by decide) ?_
      refine m_iload_n hc 1 dX12_layPowers_18 rfl rfl ?_
      refine m_imul hc dX12_layPowers_19 ?_
      refine m_iload hc 4 dX12_layPowers_20 rfl ?_
      refine m_iadd hc dX12_layPowers_22 ?_
      refine m_iload_n hc 3 dX12_layPowers_23 rfl rfl ?_
      obtain ⟨hi, hw⟩ := hw
      refine r_iast hc hr (i := 5) (f := 8) rfl hi dX12_layPowers_24 ?_
      refine m_iload_n hc 3 dX12_layPowers_25 rfl rfl ?_
      refine m_iload_n hc 2 dX12_layPowers_26 rfl rfl ?_
      refine m_imul hc dX12_layPowers_27 ?_
      refine m_aload_n hc 0 dX12_layPowers_28 rfl rfl ?_
      refine r_geti hc hr 1 dX12_layPowers_29 lf_X12_9 (Nat.le_of_ble_eq_true rfl) rfl ?_
      obtain ⟨hq, hw⟩ := hw
      refine m_irem hc dX12_layPowers_32 hq ?_
      refine m_topi (fun v1 e_v1 => ?_)
      have hw := hw v1 e_v1
      refine m_istore_n hc [(3, .int v1), (0, .ref G.2.2.1), (1, .int x1), (2, .int x2), (4, .int x4)] dX12_layPowers_33 rfl (Nat.le_of_ble_eq_true rfl) rfl ?_
      refine m_iinc hc 4 (x4 + 1) [(4, .int (x4 + 1)), (3, .int v1), (0, .ref G.2.2.1), (1, .int x1), (2, .int x2)] dX12_layPowers_34 rfl rfl (Nat.le_of_ble_eq_true rfl) rfl ?_
      refine m_goto hc 5 dX12_layPowers_37 rfl ?_
      refine m_sub [2, 3, 4, 1, 0] rfl ?_
      exact h5 x1 x2 v1 (x4 + 1) (up R 8 (Int32.toNatClampNeg ((41 * x1) + x4)) x3) hw
def wp_layPowers (x1 x2 : Int32) (R : RS) (K : Int32 → RS → Prop) : Prop := ∃ nn : Nat, wl_layPowers_5 K nn x1 x2 1 0 R
set_option maxHeartbeats 4000000 in
set_option maxRecDepth 100000 in
theorem ok_layPowers {G : RG} (hok : okG G) {x1 : Int32} {x2 : Int32} {R : RS} {K : Int32 → RS → Prop} (hw : wp_layPowers x1 x2 R K) : CF 0 yX12_layPowers cX12_layPowers 5 none [.ref G.2.2.1, .int x1, .int x2] G R K := by
  refine CF.of (by decide +kernel) hok (Nat.le_of_ble_eq_true rfl) (fun X hc hr => ?_)
  show MR G X 5 R 0 [(0, .ref G.2.2.1), (1, .int x1), (2, .int x2)] []
  unfold wp_layPowers at hw
  refine m_iconst hc 1 dX12_layPowers_0 (by decide) ?_
  refine m_istore_n hc [(3, .int 1), (0, .ref G.2.2.1), (1, .int x1), (2, .int x2)] dX12_layPowers_1 rfl (Nat.le_of_ble_eq_true rfl) rfl ?_
  refine m_iconst hc 0 dX12_layPowers_2 (by decide) ?_
  refine m_istore hc [(4, .int 0), (3, .int 1), (0, .ref G.2.2.1), (1, .int x1), (2, .int x2)] dX12_layPowers_3 (Nat.le_of_ble_eq_true rfl) rfl ?_
  refine m_sub [2, 3, 4, 1, 0] rfl ?_
  obtain ⟨nn, hw⟩ := hw
  exact l_layPowers_5 hok hc hr nn x1 x2 1 0 R hw
def wb_valueOf_25 (K25 : Int32 → Int32 → Int32 → RS → Prop) (K : Int32 → RS → Prop) (x1 x5 x6 : Int32) (R : RS) : Prop := vp_in x1 56 ∧ ((R 2 (Int32.toNatClampNeg x1)) ≤ x6 → ¬ (R 0 1) = 0 ∧ (K (iRem x5 (R 0 1)) R)) ∧ (¬ ((R 2 (Int32.toNatClampNeg x1)) ≤ x6) → wp_keyAt x1 x6 R (fun r1 R1 => wp_numAt x1 x6 R1 (fun r2 R2 => wp_ex r1 0 R2 (fun r3 R3 => vp_in r3 123 ∧ wp_ex r1 1 R3 (fun r4 R4 => vp_in (41 + r4) 123 ∧ wp_ex r1 2 R4 (fun r5 R5 => vp_in (82 + r5) 123 ∧ ¬ (R5 0 1) = 0 ∧ (∀ v6 : Int32, v6 = (x5 + (iRem (((r2 * (R3 8 (Int32.toNatClampNeg r3))) * (R4 8 (Int32.toNatClampNeg (41 + r4)))) * (R5 8 (Int32.toNatClampNeg (82 + r5)))) (R5 0 1))) → K25 x1 v6 (x6 + 1) R5)))))))
def wl_valueOf_25 (K : Int32 → RS → Prop) : Nat → Int32 → Int32 → Int32 → RS → Prop
  | 0 => fun _ _ _ _ => False
  | nn + 1 => wb_valueOf_25 (wl_valueOf_25 K nn) K
set_option maxHeartbeats 4000000 in
set_option maxRecDepth 100000 in
theorem l_valueOf_25 {G : RG} {X : Fx} {K : Int32 → RS → Prop} (hok : okG G) (hc : Cx X RX12 cX12_valueOf 8) (hr : Cr G 1 (some .int) K X) : ∀ (nn : Nat) (x1 x5 x6 : Int32) (R : RS), wl_valueOf_25 K nn x1 x5 x6 R → MR G X 8 R 25 [(0, .ref G.2.2.1), (1, .int x1), (5, .int x5), (6, .int x6)] [] := by
  intro nn
  induction nn with
  | zero => intro x1 x5 x6 R hw; exact False.elim hw
  | succ nn ih =>
    intro x1 x5 x6 R hw
    have hw : wb_valueOf_25 (wl_valueOf_25 K nn) K x1 x5 x6 R := hw
    have h25 := ih
    generalize wl_valueOf_25 K nn = K25 at hw h25
    unfold wb_valueOf_25 at hw
    refine m_iload hc 3 dX12_valueOf_25 rfl ?_
    refine m_aload_n hc 0 dX12_valueOf_27 rfl rfl ?_
    refine r_geta hc hr 2 dX12_valueOf_28 lf_X12_13 (Nat.le_of_ble_eq_true rfl) rfl ?_
    refine m_iload_n hc 1 dX12_valueOf_31 rfl rfl ?_
    obtain ⟨hi, hw⟩ := hw
    refine r_iald hc hr (i := 0) (f := 2) rfl hi dX12_valueOf_32 ?_
    refine m_icmp_ge hc 110 dX12_valueOf_33 rfl (fun cq => ?_) (fun cq => ?_)
    · have hw := hw.1 cq
      refine m_iload hc 2 dX12_valueOf_110 rfl ?_
      refine m_aload_n hc 0 dX12_valueOf_112 rfl rfl ?_
      refine r_geti hc hr 1 dX12_valueOf_113 lf_X12_9 (Nat.le_of_ble_eq_true rfl) rfl ?_
      obtain ⟨hq, hw⟩ := hw
      refine m_irem hc dX12_valueOf_116 hq ?_
      exact r_iret hc hr dX12_valueOf_117 hw
    · have hw := hw.2 cq
      refine m_aload_n hc 0 dX12_valueOf_36 rfl rfl ?_
      refine m_iload_n hc 1 dX12_valueOf_37 rfl rfl ?_
      refine m_iload hc 3 dX12_valueOf_38 rfl ?_
      refine r_callVi hc hr mt_keyAt rfl lm_X12_123 (ok_keyAt hok hw) (Nat.le_of_ble_eq_true rfl) dX12_valueOf_40 rfl (rest := []) rfl (Nat.le_of_ble_eq_true rfl) (fun r1 R1 hw => ?_)
      refine m_istore hc [(7, .int r1), (0, .ref G.2.2.1), (1, .int x1), (5, .int x5), (6, .int x6)] dX12_valueOf_43 (Nat.le_of_ble_eq_true rfl) rfl ?_
      refine m_iload hc 3 dX12_valueOf_45 rfl ?_
      refine m_aload_n hc 1 dX12_valueOf_47 rfl rfl ?_
      refine m_iload_n hc 2 dX12_valueOf_48 rfl rfl ?_
      refine m_iload hc 4 dX12_valueOf_49 rfl ?_
      refine r_callVi hc hr mt_numAt rfl lm_X12_126 (ok_numAt hok hw) (Nat.le_of_ble_eq_true rfl) dX12_valueOf_51 rfl (rest := [.int x5]) rfl (Nat.le_of_ble_eq_true rfl) (fun r2 R2 hw => ?_)
      refine m_aload_n hc 1 dX12_valueOf_54 rfl rfl ?_
      refine r_geta hc hr 8 dX12_valueOf_55 lf_X12_31 (Nat.le_of_ble_eq_true rfl) rfl ?_
      refine m_iload hc 0 dX12_valueOf_58 rfl ?_
      refine m_iconst hc 0 dX12_valueOf_60 (by decide) ?_
      refine r_callSi hc hr mt_ex lm_X12_119 (ok_ex hok hw) (Nat.le_of_ble_eq_true rfl) dX12_valueOf_61 rfl (rest := [.ref (G.2.2.2 8), .int r2, .int x5]) rfl (Nat.le_of_ble_eq_true rfl) (fun r3 R3 hw => ?_)
      obtain ⟨hi, hw⟩ := hw
      refine r_iald hc hr (i := 5) (f := 8) rfl hi dX12_valueOf_64 ?_
      refine m_imul hc dX12_valueOf_65 ?_
      refine m_aload_n hc 1 dX12_valueOf_66 rfl rfl ?_
      refine r_geta hc hr 8 dX12_valueOf_67 lf_X12_31 (Nat.le_of_ble_eq_true rfl) rfl ?_
      refine m_bipush hc 41 dX12_valueOf_70 (by decide) ?_
      refine m_iload hc 0 dX12_valueOf_72 rfl ?_
      refine m_iconst hc 1 dX12_valueOf_74 (by decide) ?_
      refine r_callSi hc hr mt_ex lm_X12_119 (ok_ex hok hw) (Nat.le_of_ble_eq_true rfl) dX12_valueOf_75 rfl (rest := [.int 41, .ref (G.2.2.2 8), .int (r2 * (R3 8 (Int32.toNatClampNeg r3))), .int x5]) rfl (Nat.le_of_ble_eq_true rfl) (fun r4 R4 hw => ?_)
      refine m_iadd hc dX12_valueOf_78 ?_
      obtain ⟨hi, hw⟩ := hw
      refine r_iald hc hr (i := 5) (f := 8) rfl hi dX12_valueOf_79 ?_
      refine m_imul hc dX12_valueOf_80 ?_
      refine m_aload_n hc 1 dX12_valueOf_81 rfl rfl ?_
      refine r_geta hc hr 8 dX12_valueOf_82 lf_X12_31 (Nat.le_of_ble_eq_true rfl) rfl ?_
      refine m_bipush hc 82 dX12_valueOf_85 (by decide) ?_
      refine m_iload hc 0 dX12_valueOf_87 rfl ?_
      refine m_iconst hc 2 dX12_valueOf_89 (by decide) ?_
      refine r_callSi hc hr mt_ex lm_X12_119 (ok_ex hok hw) (Nat.le_of_ble_eq_true rfl) dX12_valueOf_90 rfl (rest := [.int 82, .ref (G.2.2.2 8), .int ((r2 * (R3 8 (Int32.toNatClampNeg r3))) * (R4 8 (Int32.toNatClampNeg (41 + r4)))), .int x5]) rfl (Nat.le_of_ble_eq_true rfl) (fun r5 R5 hw => ?_)
      refine m_iadd hc dX12_valueOf_93 ?_
      obtain ⟨hi, hw⟩ := hw
      refine r_iald hc hr (i := 5) (f := 8) rfl hi dX12_valueOf_94 ?_
      refine m_imul hc dX12_valueOf_95 ?_
      refine m_aload_n hc 1 dX12_valueOf_96 rfl rfl ?_
      refine r_geti hc hr 1 dX12_valueOf_97 lf_X12_9 (Nat.le_of_ble_eq_true rfl) rfl ?_
      obtain ⟨hq, hw⟩ := hw
      refine m_irem hc dX12_valueOf_100 hq ?_
      refine m_iadd hc dX12_valueOf_101 ?_
      refine m_topi (fun v6 e_v6 => ?_)
      have hw := hw v6 e_v6
      refine m_istore hc [(5, .int v6), (7, .int r1), (0, .ref G.2.2.1), (1, .int x1), (6, .int x6)] dX12_valueOf_102 (Nat.le_of_ble_eq_true rfl) rfl ?_
      refine m_iinc hc 4 (x6 + 1) [(6, .int (x6 + 1)), (5, .int v6), (7, .int r1), (0, .ref G.2.2.1), (1, .int x1)] dX12_valueOf_104 rfl rfl (Nat.le_of_ble_eq_true rfl) rfl ?_
      refine m_goto hc 25 dX12_valueOf_107 rfl ?_
      refine m_sub [3, 4, 1, 0] rfl ?_
      exact h25 x1 v6 (x6 + 1) R5 hw
def wp_valueOf (x1 x2 x3 x4 : Int32) (R : RS) (K : Int32 → RS → Prop) : Prop := wp_layPowers 0 x2 R (fun r1 R1 => wp_layPowers 1 x3 R1 (fun r2 R2 => wp_layPowers 2 x4 R2 (fun r3 R3 => ∃ nn : Nat, wl_valueOf_25 K nn x1 0 0 R3)))
set_option maxHeartbeats 4000000 in
set_option maxRecDepth 100000 in
theorem ok_valueOf {G : RG} (hok : okG G) {x1 : Int32} {x2 : Int32} {x3 : Int32} {x4 : Int32} {R : RS} {K : Int32 → RS → Prop} (hw : wp_valueOf x1 x2 x3 x4 R K) : CF 1 yX12_valueOf cX12_valueOf 8 (some .int) [.ref G.2.2.1, .int x1, .int x2, .int x3, .int x4] G R K := by
  refine CF.of (by decide +kernel) hok (Nat.le_of_ble_eq_true rfl) (fun X hc hr => ?_)
  show MR G X 8 R 0 [(0, .ref G.2.2.1), (1, .int x1), (2, .int x2), (3, .int x3), (4, .int x4)] []
  unfold wp_valueOf at hw
  refine m_aload_n hc 0 dX12_valueOf_0 rfl rfl ?_
  refine m_iconst hc 0 dX12_valueOf_1 (by decide) ?_
  refine m_iload_n hc 2 dX12_valueOf_2 rfl rfl ?_
  refine r_callVv hc hr mt_layPowers rfl lm_X12_178 (ok_layPowers hok hw) (Nat.le_of_ble_eq_true rfl) dX12_valueOf_3 rfl (rest := []) rfl (Nat.le_of_ble_eq_true rfl) (fun r1 R1 hw => ?_)
  refine m_aload_n hc 0 dX12_valueOf_6 rfl rfl ?_
  refine m_iconst hc 1 dX12_valueOf_7 (by decide) ?_
  refine m_iload_n hc 3 dX12_valueOf_8 rfl rfl ?_
  refine r_callVv hc hr mt_layPowers rfl lm_X12_178 (ok_layPowers hok hw) (Nat.le_of_ble_eq_true rfl) dX12_valueOf_9 rfl (rest := []) rfl (Nat.le_of_ble_eq_true rfl) (fun r2 R2 hw => ?_)
  refine m_aload_n hc 0 dX12_valueOf_12 rfl rfl ?_
  refine m_iconst hc 2 dX12_valueOf_13 (by decide) ?_
  refine m_iload hc 4 dX12_valueOf_14 rfl ?_
  refine r_callVv hc hr mt_layPowers rfl lm_X12_178 (ok_layPowers hok hw) (Nat.le_of_ble_eq_true rfl) dX12_valueOf_16 rfl (rest := []) rfl (Nat.le_of_ble_eq_true rfl) (fun r3 R3 hw => ?_)
  refine m_iconst hc 0 dX12_valueOf_19 (by decide) ?_
  refine m_istore hc [(5, .int 0), (0, .ref G.2.2.1), (1, .int x1), (2, .int x2), (3, .int x3), (4, .int x4)] dX12_valueOf_20 (Nat.le_of_ble_eq_true rfl) rfl ?_
  refine m_iconst hc 0 dX12_valueOf_22 (by decide) ?_
  refine m_istore hc [(6, .int 0), (5, .int 0), (0, .ref G.2.2.1), (1, .int x1), (2, .int x2), (3, .int x3), (4, .int x4)] dX12_valueOf_23 (Nat.le_of_ble_eq_true rfl) rfl ?_
  refine m_sub [2, 3, 1, 0] rfl ?_
  obtain ⟨nn, hw⟩ := hw
  exact l_valueOf_25 hok hc hr nn x1 0 0 R3 hw
def wp_isPoint (x1 x2 x3 : Int32) (R : RS) (K : Int32 → RS → Prop) : Prop := wp_isIn x1 0 ((R 0 1) - 1) R (fun r1 R1 => (r1 = 0 → K 0 R1) ∧ (¬ (r1 = 0) → wp_isIn x2 0 ((R1 0 1) - 1) R1 (fun r2 R2 => (r2 = 0 → K 0 R2) ∧ (¬ (r2 = 0) → wp_isIn x3 0 ((R2 0 1) - 1) R2 (fun r3 R3 => (r3 = 0 → K 0 R3) ∧ (¬ (r3 = 0) → K 1 R3))))))
set_option maxHeartbeats 4000000 in
set_option maxRecDepth 100000 in
theorem ok_isPoint {G : RG} (hok : okG G) {x1 : Int32} {x2 : Int32} {x3 : Int32} {R : RS} {K : Int32 → RS → Prop} (hw : wp_isPoint x1 x2 x3 R K) : CF 1 yX12_isPoint cX12_isPoint 4 (some .boolean) [.ref G.2.2.1, .int x1, .int x2, .int x3] G R K := by
  refine CF.of (by decide +kernel) hok (Nat.le_of_ble_eq_true rfl) (fun X hc hr => ?_)
  show MR G X 4 R 0 [(0, .ref G.2.2.1), (1, .int x1), (2, .int x2), (3, .int x3)] []
  unfold wp_isPoint at hw
  refine m_iload_n hc 1 dX12_isPoint_0 rfl rfl ?_
  refine m_iconst hc 0 dX12_isPoint_1 (by decide) ?_
  refine m_aload_n hc 0 dX12_isPoint_2 rfl rfl ?_
  refine r_geti hc hr 1 dX12_isPoint_3 lf_X12_9 (Nat.le_of_ble_eq_true rfl) rfl ?_
  refine m_iconst hc 1 dX12_isPoint_6 (by decide) ?_
  refine m_isub hc dX12_isPoint_7 ?_
  refine r_callSi hc hr mt_isIn lm_X12_181 (ok_isIn hok hw) (Nat.le_of_ble_eq_true rfl) dX12_isPoint_8 rfl (rest := []) rfl (Nat.le_of_ble_eq_true rfl) (fun r1 R1 hw => ?_)
  refine m_if_eq hc 46 dX12_isPoint_11 rfl (fun cq => ?_) (fun cq => ?_)
  · have hw := hw.1 cq
    refine m_iconst hc 0 dX12_isPoint_46 (by decide) ?_
    exact r_zret hc hr dX12_isPoint_47 (by decide) hw
  · have hw := hw.2 cq
    refine m_iload_n hc 2 dX12_isPoint_14 rfl rfl ?_
    refine m_iconst hc 0 dX12_isPoint_15 (by decide) ?_
    refine m_aload_n hc 0 dX12_isPoint_16 rfl rfl ?_
    refine r_geti hc hr 1 dX12_isPoint_17 lf_X12_9 (Nat.le_of_ble_eq_true rfl) rfl ?_
    refine m_iconst hc 1 dX12_isPoint_20 (by decide) ?_
    refine m_isub hc dX12_isPoint_21 ?_
    refine r_callSi hc hr mt_isIn lm_X12_181 (ok_isIn hok hw) (Nat.le_of_ble_eq_true rfl) dX12_isPoint_22 rfl (rest := []) rfl (Nat.le_of_ble_eq_true rfl) (fun r2 R2 hw => ?_)
    refine m_if_eq hc 46 dX12_isPoint_25 rfl (fun cq => ?_) (fun cq => ?_)
    · have hw := hw.1 cq
      refine m_iconst hc 0 dX12_isPoint_46 (by decide) ?_
      exact r_zret hc hr dX12_isPoint_47 (by decide) hw
    · have hw := hw.2 cq
      refine m_iload_n hc 3 dX12_isPoint_28 rfl rfl ?_
      refine m_iconst hc 0 dX12_isPoint_29 (by decide) ?_
      refine m_aload_n hc 0 dX12_isPoint_30 rfl rfl ?_
      refine r_geti hc hr 1 dX12_isPoint_31 lf_X12_9 (Nat.le_of_ble_eq_true rfl) rfl ?_
      refine m_iconst hc 1 dX12_isPoint_34 (by decide) ?_
      refine m_isub hc dX12_isPoint_35 ?_
      refine r_callSi hc hr mt_isIn lm_X12_181 (ok_isIn hok hw) (Nat.le_of_ble_eq_true rfl) dX12_isPoint_36 rfl (rest := []) rfl (Nat.le_of_ble_eq_true rfl) (fun r3 R3 hw => ?_)
      refine m_if_eq hc 46 dX12_isPoint_39 rfl (fun cq => ?_) (fun cq => ?_)
      · have hw := hw.1 cq
        refine m_iconst hc 0 dX12_isPoint_46 (by decide) ?_
        exact r_zret hc hr dX12_isPoint_47 (by decide) hw
      · have hw := hw.2 cq
        refine m_iconst hc 1 dX12_isPoint_42 (by decide) ?_
        refine m_goto hc 47 dX12_isPoint_43 rfl ?_
        exact r_zret hc hr dX12_isPoint_47 (by decide) hw
def wb_zeros_27 (K4 : Int32 → Int32 → Int32 → RS → Prop) (K15 : Int32 → Int32 → Int32 → Int32 → RS → Prop) (K27 : Int32 → Int32 → Int32 → Int32 → Int32 → RS → Prop) (K : Int32 → RS → Prop) (x1 x2 x3 x4 x5 : Int32) (R : RS) : Prop := ((R 0 1) ≤ x5 → K15 x1 x2 x3 (x4 + 1) R) ∧ (¬ ((R 0 1) ≤ x5) → wp_valueOf x1 x3 x4 x5 R (fun r1 R1 => (¬ r1 = 0 → K27 x1 (x2 + 0) x3 x4 (x5 + 1) R1) ∧ (r1 = 0 → K27 x1 (x2 + 1) x3 x4 (x5 + 1) R1)))
def wl_zeros_27 (K4 : Int32 → Int32 → Int32 → RS → Prop) (K15 : Int32 → Int32 → Int32 → Int32 → RS → Prop) (K : Int32 → RS → Prop) : Nat → Int32 → Int32 → Int32 → Int32 → Int32 → RS → Prop
  | 0 => fun _ _ _ _ _ _ => False
  | nn + 1 => wb_zeros_27 K4 K15 (wl_zeros_27 K4 K15 K nn) K
set_option maxHeartbeats 4000000 in
set_option maxRecDepth 100000 in
theorem l_zeros_27 {G : RG} {X : Fx} {K : Int32 → RS → Prop} (hok : okG G) (hc : Cx X RX12 cX12_zeros 6) (hr : Cr G 2 (some .int) K X) (K4 : Int32 → Int32 → Int32 → RS → Prop) (K15 : Int32 → Int32 → Int32 → Int32 → RS → Prop) (h4 : ∀ (x1 x2 x3 : Int32) (R : RS), K4 x1 x2 x3 R → MR G X 6 R 4 [(0, .ref G.2.2.1), (1, .int x1), (2, .int x2), (3, .int x3)] []) (h15 : ∀ (x1 x2 x3 x4 : Int32) (R : RS), K15 x1 x2 x3 x4 R → MR G X 6 R 15 [(0, .ref G.2.2.1), (1, .int x1), (2, .int x2), (3, .int x3), (4, .int x4)] []) : ∀ (nn : Nat) (x1 x2 x3 x4 x5 : Int32) (R : RS), wl_zeros_27 K4 K15 K nn x1 x2 x3 x4 x5 R → MR G X 6 R 27 [(0, .ref G.2.2.1), (1, .int x1), (2, .int x2), (3, .int x3), (4, .int x4), (5, .int x5)] [] := by
  intro nn
  induction nn with
  | zero => intro x1 x2 x3 x4 x5 R hw; exact False.elim hw
  | succ nn ih =>
    intro x1 x2 x3 x4 x5 R hw
    have hw : wb_zeros_27 K4 K15 (wl_zeros_27 K4 K15 K nn) K x1 x2 x3 x4 x5 R := hw
    have h27 := ih
    generalize wl_zeros_27 K4 K15 K nn = K27 at hw h27
    unfold wb_zeros_27 at hw
    refine m_iload hc 5 dX12_zeros_27 rfl ?_
    refine m_aload_n hc 0 dX12_zeros_29 rfl rfl ?_
    refine r_geti hc hr 1 dX12_zeros_30 lf_X12_9 (Nat.le_of_ble_eq_true rfl) rfl ?_
    refine m_icmp_ge hc 63 dX12_zeros_33 rfl (fun cq => ?_) (fun cq => ?_)
    · have hw := hw.1 cq
      refine m_iinc hc 4 (x4 + 1) [(4, .int (x4 + 1)), (0, .ref G.2.2.1), (1, .int x1), (2, .int x2), (3, .int x3), (5, .int x5)] dX12_zeros_63 rfl rfl (Nat.le_of_ble_eq_true rfl) rfl ?_
      refine m_goto hc 15 dX12_zeros_66 rfl ?_
      refine m_sub [1, 2, 3, 4, 0] rfl ?_
      exact h15 x1 x2 x3 (x4 + 1) R hw
    · have hw := hw.2 cq
      refine m_iload_n hc 2 dX12_zeros_36 rfl rfl ?_
      refine m_aload_n hc 0 dX12_zeros_37 rfl rfl ?_
      refine m_iload_n hc 1 dX12_zeros_38 rfl rfl ?_
      refine m_iload_n hc 3 dX12_zeros_39 rfl rfl ?_
      refine m_iload hc 4 dX12_zeros_40 rfl ?_
      refine m_iload hc 5 dX12_zeros_42 rfl ?_
      refine r_callVi hc hr mt_valueOf rfl lm_X12_184 (ok_valueOf hok hw) (Nat.le_of_ble_eq_true rfl) dX12_zeros_44 rfl (rest := [.int x2]) rfl (Nat.le_of_ble_eq_true rfl) (fun r1 R1 hw => ?_)
      refine m_if_ne hc 54 dX12_zeros_47 rfl (fun cq => ?_) (fun cq => ?_)
      · have hw := hw.1 cq
        refine m_iconst hc 0 dX12_zeros_54 (by decide) ?_
        refine m_iadd hc dX12_zeros_55 ?_
        refine m_istore_n hc [(2, .int (x2 + 0)), (0, .ref G.2.2.1), (1, .int x1), (3, .int x3), (4, .int x4), (5, .int x5)] dX12_zeros_56 rfl (Nat.le_of_ble_eq_true rfl) rfl ?_
        refine m_iinc hc 5 (x5 + 1) [(5, .int (x5 + 1)), (2, .int (x2 + 0)), (0, .ref G.2.2.1), (1, .int x1), (3, .int x3), (4, .int x4)] dX12_zeros_57 rfl rfl (Nat.le_of_ble_eq_true rfl) rfl ?_
        refine m_goto hc 27 dX12_zeros_60 rfl ?_
        refine m_sub [2, 3, 1, 4, 5, 0] rfl ?_
        exact h27 x1 (x2 + 0) x3 x4 (x5 + 1) R1 hw
      · have hw := hw.2 cq
        refine m_iconst hc 1 dX12_zeros_50 (by decide) ?_
        refine m_goto hc 55 dX12_zeros_51 rfl ?_
        refine m_iadd hc dX12_zeros_55 ?_
        refine m_istore_n hc [(2, .int (x2 + 1)), (0, .ref G.2.2.1), (1, .int x1), (3, .int x3), (4, .int x4), (5, .int x5)] dX12_zeros_56 rfl (Nat.le_of_ble_eq_true rfl) rfl ?_
        refine m_iinc hc 5 (x5 + 1) [(5, .int (x5 + 1)), (2, .int (x2 + 1)), (0, .ref G.2.2.1), (1, .int x1), (3, .int x3), (4, .int x4)] dX12_zeros_57 rfl rfl (Nat.le_of_ble_eq_true rfl) rfl ?_
        refine m_goto hc 27 dX12_zeros_60 rfl ?_
        refine m_sub [2, 3, 1, 4, 5, 0] rfl ?_
        exact h27 x1 (x2 + 1) x3 x4 (x5 + 1) R1 hw
def wb_zeros_15 (K4 : Int32 → Int32 → Int32 → RS → Prop) (K15 : Int32 → Int32 → Int32 → Int32 → RS → Prop) (K : Int32 → RS → Prop) (x1 x2 x3 x4 : Int32) (R : RS) : Prop := ((R 0 1) ≤ x4 → K4 x1 x2 (x3 + 1) R) ∧ (¬ ((R 0 1) ≤ x4) → ∃ nn : Nat, wl_zeros_27 K4 K15 K nn x1 x2 x3 x4 0 R)
def wl_zeros_15 (K4 : Int32 → Int32 → Int32 → RS → Prop) (K : Int32 → RS → Prop) : Nat → Int32 → Int32 → Int32 → Int32 → RS → Prop
  | 0 => fun _ _ _ _ _ => False
  | nn + 1 => wb_zeros_15 K4 (wl_zeros_15 K4 K nn) K
set_option maxHeartbeats 4000000 in
set_option maxRecDepth 100000 in
theorem l_zeros_15 {G : RG} {X : Fx} {K : Int32 → RS → Prop} (hok : okG G) (hc : Cx X RX12 cX12_zeros 6) (hr : Cr G 2 (some .int) K X) (K4 : Int32 → Int32 → Int32 → RS → Prop) (h4 : ∀ (x1 x2 x3 : Int32) (R : RS), K4 x1 x2 x3 R → MR G X 6 R 4 [(0, .ref G.2.2.1), (1, .int x1), (2, .int x2), (3, .int x3)] []) : ∀ (nn : Nat) (x1 x2 x3 x4 : Int32) (R : RS), wl_zeros_15 K4 K nn x1 x2 x3 x4 R → MR G X 6 R 15 [(0, .ref G.2.2.1), (1, .int x1), (2, .int x2), (3, .int x3), (4, .int x4)] [] := by
  intro nn
  induction nn with
  | zero => intro x1 x2 x3 x4 R hw; exact False.elim hw
  | succ nn ih =>
    intro x1 x2 x3 x4 R hw
    have hw : wb_zeros_15 K4 (wl_zeros_15 K4 K nn) K x1 x2 x3 x4 R := hw
    have h15 := ih
    generalize wl_zeros_15 K4 K nn = K15 at hw h15
    unfold wb_zeros_15 at hw
    refine m_iload hc 4 dX12_zeros_15 rfl ?_
    refine m_aload_n hc 0 dX12_zeros_17 rfl rfl ?_
    refine r_geti hc hr 1 dX12_zeros_18 lf_X12_9 (Nat.le_of_ble_eq_true rfl) rfl ?_
    refine m_icmp_ge hc 69 dX12_zeros_21 rfl (fun cq => ?_) (fun cq => ?_)
    · have hw := hw.1 cq
      refine m_iinc hc 3 (x3 + 1) [(3, .int (x3 + 1)), (0, .ref G.2.2.1), (1, .int x1), (2, .int x2), (4, .int x4)] dX12_zeros_69 rfl rfl (Nat.le_of_ble_eq_true rfl) rfl ?_
      refine m_goto hc 4 dX12_zeros_72 rfl ?_
      refine m_sub [1, 2, 3, 0] rfl ?_
      exact h4 x1 x2 (x3 + 1) R hw
    · have hw := hw.2 cq
      refine m_iconst hc 0 dX12_zeros_24 (by decide) ?_
      refine m_istore hc [(5, .int 0), (0, .ref G.2.2.1), (1, .int x1), (2, .int x2), (3, .int x3), (4, .int x4)] dX12_zeros_25 (Nat.le_of_ble_eq_true rfl) rfl ?_
      refine m_sub [1, 2, 3, 4, 5, 0] rfl ?_
      obtain ⟨nn, hw⟩ := hw
      exact l_zeros_27 hok hc hr K4 K15 h4 h15 nn x1 x2 x3 x4 0 R hw
def wb_zeros_4 (K4 : Int32 → Int32 → Int32 → RS → Prop) (K : Int32 → RS → Prop) (x1 x2 x3 : Int32) (R : RS) : Prop := ((R 0 1) ≤ x3 → K x2 R) ∧ (¬ ((R 0 1) ≤ x3) → ∃ nn : Nat, wl_zeros_15 K4 K nn x1 x2 x3 0 R)
def wl_zeros_4 (K : Int32 → RS → Prop) : Nat → Int32 → Int32 → Int32 → RS → Prop
  | 0 => fun _ _ _ _ => False
  | nn + 1 => wb_zeros_4 (wl_zeros_4 K nn) K
set_option maxHeartbeats 4000000 in
set_option maxRecDepth 100000 in
theorem l_zeros_4 {G : RG} {X : Fx} {K : Int32 → RS → Prop} (hok : okG G) (hc : Cx X RX12 cX12_zeros 6) (hr : Cr G 2 (some .int) K X) : ∀ (nn : Nat) (x1 x2 x3 : Int32) (R : RS), wl_zeros_4 K nn x1 x2 x3 R → MR G X 6 R 4 [(0, .ref G.2.2.1), (1, .int x1), (2, .int x2), (3, .int x3)] [] := by
  intro nn
  induction nn with
  | zero => intro x1 x2 x3 R hw; exact False.elim hw
  | succ nn ih =>
    intro x1 x2 x3 R hw
    have hw : wb_zeros_4 (wl_zeros_4 K nn) K x1 x2 x3 R := hw
    have h4 := ih
    generalize wl_zeros_4 K nn = K4 at hw h4
    unfold wb_zeros_4 at hw
    refine m_iload_n hc 3 dX12_zeros_4 rfl rfl ?_
    refine m_aload_n hc 0 dX12_zeros_5 rfl rfl ?_
    refine r_geti hc hr 1 dX12_zeros_6 lf_X12_9 (Nat.le_of_ble_eq_true rfl) rfl ?_
    refine m_icmp_ge hc 75 dX12_zeros_9 rfl (fun cq => ?_) (fun cq => ?_)
    · have hw := hw.1 cq
      refine m_iload_n hc 2 dX12_zeros_75 rfl rfl ?_
      exact r_iret hc hr dX12_zeros_76 hw
    · have hw := hw.2 cq
      refine m_iconst hc 0 dX12_zeros_12 (by decide) ?_
      refine m_istore hc [(4, .int 0), (0, .ref G.2.2.1), (1, .int x1), (2, .int x2), (3, .int x3)] dX12_zeros_13 (Nat.le_of_ble_eq_true rfl) rfl ?_
      refine m_sub [1, 2, 3, 4, 0] rfl ?_
      obtain ⟨nn, hw⟩ := hw
      exact l_zeros_15 hok hc hr K4 h4 nn x1 x2 x3 0 R hw
def wp_zeros (x1 : Int32) (R : RS) (K : Int32 → RS → Prop) : Prop := ∃ nn : Nat, wl_zeros_4 K nn x1 0 0 R
set_option maxHeartbeats 4000000 in
set_option maxRecDepth 100000 in
theorem ok_zeros {G : RG} (hok : okG G) {x1 : Int32} {R : RS} {K : Int32 → RS → Prop} (hw : wp_zeros x1 R K) : CF 2 yX12_zeros cX12_zeros 6 (some .int) [.ref G.2.2.1, .int x1] G R K := by
  refine CF.of (by decide +kernel) hok (Nat.le_of_ble_eq_true rfl) (fun X hc hr => ?_)
  show MR G X 6 R 0 [(0, .ref G.2.2.1), (1, .int x1)] []
  unfold wp_zeros at hw
  refine m_iconst hc 0 dX12_zeros_0 (by decide) ?_
  refine m_istore_n hc [(2, .int 0), (0, .ref G.2.2.1), (1, .int x1)] dX12_zeros_1 rfl (Nat.le_of_ble_eq_true rfl) rfl ?_
  refine m_iconst hc 0 dX12_zeros_2 (by decide) ?_
  refine m_istore_n hc [(3, .int 0), (2, .int 0), (0, .ref G.2.2.1), (1, .int x1)] dX12_zeros_3 rfl (Nat.le_of_ble_eq_true rfl) rfl ?_
  refine m_sub [2, 3, 1, 0] rfl ?_
  obtain ⟨nn, hw⟩ := hw
  exact l_zeros_4 hok hc hr nn x1 0 0 R hw
def wb_witnessOf_25 (K2 : Int32 → Int32 → Int32 → RS → Prop) (K13 : Int32 → Int32 → Int32 → Int32 → RS → Prop) (K25 : Int32 → Int32 → Int32 → Int32 → Int32 → RS → Prop) (K : Int32 → RS → Prop) (x1 x2 x3 x4 x5 : Int32) (R : RS) : Prop := ((R 0 1) ≤ x5 → K13 x1 x2 x3 (x4 + 1) R) ∧ (¬ ((R 0 1) ≤ x5) → wp_valueOf x1 x3 x4 x5 R (fun r1 R1 => wp_valueOf x2 x3 x4 x5 R1 (fun r2 R2 => (r1 = r2 → K25 x1 x2 x3 x4 (x5 + 1) R2) ∧ (¬ (r1 = r2) → K ((((x3 * (R2 0 1)) + x4) * (R2 0 1)) + x5) R2))))
def wl_witnessOf_25 (K2 : Int32 → Int32 → Int32 → RS → Prop) (K13 : Int32 → Int32 → Int32 → Int32 → RS → Prop) (K : Int32 → RS → Prop) : Nat → Int32 → Int32 → Int32 → Int32 → Int32 → RS → Prop
  | 0 => fun _ _ _ _ _ _ => False
  | nn + 1 => wb_witnessOf_25 K2 K13 (wl_witnessOf_25 K2 K13 K nn) K
set_option maxHeartbeats 4000000 in
set_option maxRecDepth 100000 in
theorem l_witnessOf_25 {G : RG} {X : Fx} {K : Int32 → RS → Prop} (hok : okG G) (hc : Cx X RX12 cX12_witnessOf 6) (hr : Cr G 2 (some .int) K X) (K2 : Int32 → Int32 → Int32 → RS → Prop) (K13 : Int32 → Int32 → Int32 → Int32 → RS → Prop) (h2 : ∀ (x1 x2 x3 : Int32) (R : RS), K2 x1 x2 x3 R → MR G X 6 R 2 [(0, .ref G.2.2.1), (1, .int x1), (2, .int x2), (3, .int x3)] []) (h13 : ∀ (x1 x2 x3 x4 : Int32) (R : RS), K13 x1 x2 x3 x4 R → MR G X 6 R 13 [(0, .ref G.2.2.1), (1, .int x1), (2, .int x2), (3, .int x3), (4, .int x4)] []) : ∀ (nn : Nat) (x1 x2 x3 x4 x5 : Int32) (R : RS), wl_witnessOf_25 K2 K13 K nn x1 x2 x3 x4 x5 R → MR G X 6 R 25 [(0, .ref G.2.2.1), (1, .int x1), (2, .int x2), (3, .int x3), (4, .int x4), (5, .int x5)] [] := by
  intro nn
  induction nn with
  | zero => intro x1 x2 x3 x4 x5 R hw; exact False.elim hw
  | succ nn ih =>
    intro x1 x2 x3 x4 x5 R hw
    have hw : wb_witnessOf_25 K2 K13 (wl_witnessOf_25 K2 K13 K nn) K x1 x2 x3 x4 x5 R := hw
    have h25 := ih
    generalize wl_witnessOf_25 K2 K13 K nn = K25 at hw h25
    unfold wb_witnessOf_25 at hw
    refine m_iload hc 5 dX12_witnessOf_25 rfl ?_
    refine m_aload_n hc 0 dX12_witnessOf_27 rfl rfl ?_
    refine r_geti hc hr 1 dX12_witnessOf_28 lf_X12_9 (Nat.le_of_ble_eq_true rfl) rfl ?_
    refine m_icmp_ge hc 81 dX12_witnessOf_31 rfl (fun cq => ?_) (fun cq => ?_)
    · have hw := hw.1 cq
      refine m_iinc hc 4 (x4 + 1) [(4, .int (x4 + 1)), (0, .ref G.2.2.1), (1, .int x1), (2, .int x2), (3, .int x3), (5, .int x5)] dX12_witnessOf_81 rfl rfl (Nat.le_of_ble_eq_true rfl) rfl ?_
      refine m_goto hc 13 dX12_witnessOf_84 rfl ?_
      refine m_sub [1, 2, 3, 4, 0] rfl ?_
      exact h13 x1 x2 x3 (x4 + 1) R hw
    · have hw := hw.2 cq
      refine m_aload_n hc 0 dX12_witnessOf_34 rfl rfl ?_
      refine m_iload_n hc 1 dX12_witnessOf_35 rfl rfl ?_
      refine m_iload_n hc 3 dX12_witnessOf_36 rfl rfl ?_
      refine m_iload hc 4 dX12_witnessOf_37 rfl ?_
      refine m_iload hc 5 dX12_witnessOf_39 rfl ?_
      refine r_callVi hc hr mt_valueOf rfl lm_X12_184 (ok_valueOf hok hw) (Nat.le_of_ble_eq_true rfl) dX12_witnessOf_41 rfl (rest := []) rfl (Nat.le_of_ble_eq_true rfl) (fun r1 R1 hw => ?_)
      refine m_aload_n hc 0 dX12_witnessOf_44 rfl rfl ?_
      refine m_iload_n hc 2 dX12_witnessOf_45 rfl rfl ?_
      refine m_iload_n hc 3 dX12_witnessOf_46 rfl rfl ?_
      refine m_iload hc 4 dX12_witnessOf_47 rfl ?_
      refine m_iload hc 5 dX12_witnessOf_49 rfl ?_
      refine r_callVi hc hr mt_valueOf rfl lm_X12_184 (ok_valueOf hok hw) (Nat.le_of_ble_eq_true rfl) dX12_witnessOf_51 rfl (rest := [.int r1]) rfl (Nat.le_of_ble_eq_true rfl) (fun r2 R2 hw => ?_)
      refine m_icmp_eq hc 75 dX12_witnessOf_54 rfl (fun cq => ?_) (fun cq => ?_)
      · have hw := hw.1 cq
        refine m_iinc hc 5 (x5 + 1) [(5, .int (x5 + 1)), (0, .ref G.2.2.1), (1, .int x1), (2, .int x2), (3, .int x3), (4, .int x4)] dX12_witnessOf_75 rfl rfl (Nat.le_of_ble_eq_true rfl) rfl ?_
        refine m_goto hc 25 dX12_witnessOf_78 rfl ?_
        refine m_sub [1, 2, 3, 4, 5, 0] rfl ?_
        exact h25 x1 x2 x3 x4 (x5 + 1) R2 hw
      · have hw := hw.2 cq
        refine m_iload_n hc 3 dX12_witnessOf_57 rfl rfl ?_
        refine m_aload_n hc 0 dX12_witnessOf_58 rfl rfl ?_
        refine r_geti hc hr 1 dX12_witnessOf_59 lf_X12_9 (Nat.le_of_ble_eq_true rfl) rfl ?_
        refine m_imul hc dX12_witnessOf_62 ?_
        refine m_iload hc 4 dX12_witnessOf_63 rfl ?_
        refine m_iadd hc dX12_witnessOf_65 ?_
        refine m_aload_n hc 0 dX12_witnessOf_66 rfl rfl ?_
        refine r_geti hc hr 1 dX12_witnessOf_67 lf_X12_9 (Nat.le_of_ble_eq_true rfl) rfl ?_
        refine m_imul hc dX12_witnessOf_70 ?_
        refine m_iload hc 5 dX12_witnessOf_71 rfl ?_
        refine m_iadd hc dX12_witnessOf_73 ?_
        exact r_iret hc hr dX12_witnessOf_74 hw
def wb_witnessOf_13 (K2 : Int32 → Int32 → Int32 → RS → Prop) (K13 : Int32 → Int32 → Int32 → Int32 → RS → Prop) (K : Int32 → RS → Prop) (x1 x2 x3 x4 : Int32) (R : RS) : Prop := ((R 0 1) ≤ x4 → K2 x1 x2 (x3 + 1) R) ∧ (¬ ((R 0 1) ≤ x4) → ∃ nn : Nat, wl_witnessOf_25 K2 K13 K nn x1 x2 x3 x4 0 R)
def wl_witnessOf_13 (K2 : Int32 → Int32 → Int32 → RS → Prop) (K : Int32 → RS → Prop) : Nat → Int32 → Int32 → Int32 → Int32 → RS → Prop
  | 0 => fun _ _ _ _ _ => False
  | nn + 1 => wb_witnessOf_13 K2 (wl_witnessOf_13 K2 K nn) K
set_option maxHeartbeats 4000000 in
set_option maxRecDepth 100000 in
theorem l_witnessOf_13 {G : RG} {X : Fx} {K : Int32 → RS → Prop} (hok : okG G) (hc : Cx X RX12 cX12_witnessOf 6) (hr : Cr G 2 (some .int) K X) (K2 : Int32 → Int32 → Int32 → RS → Prop) (h2 : ∀ (x1 x2 x3 : Int32) (R : RS), K2 x1 x2 x3 R → MR G X 6 R 2 [(0, .ref G.2.2.1), (1, .int x1), (2, .int x2), (3, .int x3)] []) : ∀ (nn : Nat) (x1 x2 x3 x4 : Int32) (R : RS), wl_witnessOf_13 K2 K nn x1 x2 x3 x4 R → MR G X 6 R 13 [(0, .ref G.2.2.1), (1, .int x1), (2, .int x2), (3, .int x3), (4, .int x4)] [] := by
  intro nn
  induction nn with
  | zero => intro x1 x2 x3 x4 R hw; exact False.elim hw
  | succ nn ih =>
    intro x1 x2 x3 x4 R hw
    have hw : wb_witnessOf_13 K2 (wl_witnessOf_13 K2 K nn) K x1 x2 x3 x4 R := hw
    have h13 := ih
    generalize wl_witnessOf_13 K2 K nn = K13 at hw h13
    unfold wb_witnessOf_13 at hw
    refine m_iload hc 4 dX12_witnessOf_13 rfl ?_
    refine m_aload_n hc 0 dX12_witnessOf_15 rfl rfl ?_
    refine r_geti hc hr 1 dX12_witnessOf_16 lf_X12_9 (Nat.le_of_ble_eq_true rfl) rfl ?_
    refine m_icmp_ge hc 87 dX12_witnessOf_19 rfl (fun cq => ?_) (fun cq => ?_)
    · have hw := hw.1 cq
      refine m_iinc hc 3 (x3 + 1) [(3, .int (x3 + 1)), (0, .ref G.2.2.1), (1, .int x1), (2, .int x2), (4, .int x4)] dX12_witnessOf_87 rfl rfl (Nat.le_of_ble_eq_true rfl) rfl ?_
      refine m_goto hc 2 dX12_witnessOf_90 rfl ?_
      refine m_sub [1, 2, 3, 0] rfl ?_
      exact h2 x1 x2 (x3 + 1) R hw
    · have hw := hw.2 cq
      refine m_iconst hc 0 dX12_witnessOf_22 (by decide) ?_
      refine m_istore hc [(5, .int 0), (0, .ref G.2.2.1), (1, .int x1), (2, .int x2), (3, .int x3), (4, .int x4)] dX12_witnessOf_23 (Nat.le_of_ble_eq_true rfl) rfl ?_
      refine m_sub [1, 2, 3, 4, 5, 0] rfl ?_
      obtain ⟨nn, hw⟩ := hw
      exact l_witnessOf_25 hok hc hr K2 K13 h2 h13 nn x1 x2 x3 x4 0 R hw
def wb_witnessOf_2 (K2 : Int32 → Int32 → Int32 → RS → Prop) (K : Int32 → RS → Prop) (x1 x2 x3 : Int32) (R : RS) : Prop := ((R 0 1) ≤ x3 → K (-1) R) ∧ (¬ ((R 0 1) ≤ x3) → ∃ nn : Nat, wl_witnessOf_13 K2 K nn x1 x2 x3 0 R)
def wl_witnessOf_2 (K : Int32 → RS → Prop) : Nat → Int32 → Int32 → Int32 → RS → Prop
  | 0 => fun _ _ _ _ => False
  | nn + 1 => wb_witnessOf_2 (wl_witnessOf_2 K nn) K
set_option maxHeartbeats 4000000 in
set_option maxRecDepth 100000 in
theorem l_witnessOf_2 {G : RG} {X : Fx} {K : Int32 → RS → Prop} (hok : okG G) (hc : Cx X RX12 cX12_witnessOf 6) (hr : Cr G 2 (some .int) K X) : ∀ (nn : Nat) (x1 x2 x3 : Int32) (R : RS), wl_witnessOf_2 K nn x1 x2 x3 R → MR G X 6 R 2 [(0, .ref G.2.2.1), (1, .int x1), (2, .int x2), (3, .int x3)] [] := by
  intro nn
  induction nn with
  | zero => intro x1 x2 x3 R hw; exact False.elim hw
  | succ nn ih =>
    intro x1 x2 x3 R hw
    have hw : wb_witnessOf_2 (wl_witnessOf_2 K nn) K x1 x2 x3 R := hw
    have h2 := ih
    generalize wl_witnessOf_2 K nn = K2 at hw h2
    unfold wb_witnessOf_2 at hw
    refine m_iload_n hc 3 dX12_witnessOf_2 rfl rfl ?_
    refine m_aload_n hc 0 dX12_witnessOf_3 rfl rfl ?_
    refine r_geti hc hr 1 dX12_witnessOf_4 lf_X12_9 (Nat.le_of_ble_eq_true rfl) rfl ?_
    refine m_icmp_ge hc 93 dX12_witnessOf_7 rfl (fun cq => ?_) (fun cq => ?_)
    · have hw := hw.1 cq
      refine m_iconst hc (-1) dX12_witnessOf_93 (by decide) ?_
      exact r_iret hc hr dX12_witnessOf_94 hw
    · have hw := hw.2 cq
      refine m_iconst hc 0 dX12_witnessOf_10 (by decide) ?_
      refine m_istore hc [(4, .int 0), (0, .ref G.2.2.1), (1, .int x1), (2, .int x2), (3, .int x3)] dX12_witnessOf_11 (Nat.le_of_ble_eq_true rfl) rfl ?_
      refine m_sub [1, 2, 3, 4, 0] rfl ?_
      obtain ⟨nn, hw⟩ := hw
      exact l_witnessOf_13 hok hc hr K2 h2 nn x1 x2 x3 0 R hw
def wp_witnessOf (x1 x2 : Int32) (R : RS) (K : Int32 → RS → Prop) : Prop := ∃ nn : Nat, wl_witnessOf_2 K nn x1 x2 0 R
set_option maxHeartbeats 4000000 in
set_option maxRecDepth 100000 in
theorem ok_witnessOf {G : RG} (hok : okG G) {x1 : Int32} {x2 : Int32} {R : RS} {K : Int32 → RS → Prop} (hw : wp_witnessOf x1 x2 R K) : CF 2 yX12_witnessOf cX12_witnessOf 6 (some .int) [.ref G.2.2.1, .int x1, .int x2] G R K := by
  refine CF.of (by decide +kernel) hok (Nat.le_of_ble_eq_true rfl) (fun X hc hr => ?_)
  show MR G X 6 R 0 [(0, .ref G.2.2.1), (1, .int x1), (2, .int x2)] []
  unfold wp_witnessOf at hw
  refine m_iconst hc 0 dX12_witnessOf_0 (by decide) ?_
  refine m_istore_n hc [(3, .int 0), (0, .ref G.2.2.1), (1, .int x1), (2, .int x2)] dX12_witnessOf_1 rfl (Nat.le_of_ble_eq_true rfl) rfl ?_
  refine m_sub [1, 2, 3, 0] rfl ?_
  obtain ⟨nn, hw⟩ := hw
  exact l_witnessOf_2 hok hc hr nn x1 x2 0 R hw
def wb_keep_137 (K137 : Int32 → Int32 → RS → Prop) (K : Int32 → RS → Prop) (x1 x2 : Int32) (R : RS) : Prop := vp_in x1 56 ∧ ((R 2 (Int32.toNatClampNeg x1)) ≤ x2 → K 0 (up R 0 13 ((R 0 13) + 1))) ∧ (¬ ((R 2 (Int32.toNatClampNeg x1)) ≤ x2) → wp_keyAt x1 x2 R (fun r1 R1 => vp_in ((300 * (R 0 13)) + x2) 6000 ∧ wp_numAt x1 x2 (up R1 11 (Int32.toNatClampNeg ((300 * (R 0 13)) + x2)) r1) (fun r2 R2 => vp_in ((300 * ((up R1 11 (Int32.toNatClampNeg ((300 * (R 0 13)) + x2)) r1) 0 13)) + x2) 6000 ∧ K137 x1 (x2 + 1) (up R2 12 (Int32.toNatClampNeg ((300 * ((up R1 11 (Int32.toNatClampNeg ((300 * (R 0 13)) + x2)) r1) 0 13)) + x2)) r2))))
def wl_keep_137 (K : Int32 → RS → Prop) : Nat → Int32 → Int32 → RS → Prop
  | 0 => fun _ _ _ => False
  | nn + 1 => wb_keep_137 (wl_keep_137 K nn) K
set_option maxHeartbeats 4000000 in
set_option maxRecDepth 100000 in
theorem l_keep_137 {G : RG} {X : Fx} {K : Int32 → RS → Prop} (hok : okG G) (hc : Cx X RX12 cX12_keep 3) (hr : Cr G 1 none K X) : ∀ (nn : Nat) (x1 x2 : Int32) (R : RS), wl_keep_137 K nn x1 x2 R → MR G X 3 R 137 [(0, .ref G.2.2.1), (1, .int x1), (2, .int x2)] [] := by
  intro nn
  induction nn with
  | zero => intro x1 x2 R hw; exact False.elim hw
  | succ nn ih =>
    intro x1 x2 R hw
    have hw : wb_keep_137 (wl_keep_137 K nn) K x1 x2 R := hw
    have h137 := ih
    generalize wl_keep_137 K nn = K137 at hw h137
    unfold wb_keep_137 at hw
    refine m_iload_n hc 2 dX12_keep_137 rfl rfl ?_
    refine m_aload_n hc 0 dX12_keep_138 rfl rfl ?_
    refine r_geta hc hr 2 dX12_keep_139 lf_X12_13 (Nat.le_of_ble_eq_true rfl) rfl ?_
    refine m_iload_n hc 1 dX12_keep_142 rfl rfl ?_
    obtain ⟨hi, hw⟩ := hw
    refine r_iald hc hr (i := 0) (f := 2) rfl hi dX12_keep_143 ?_
    refine m_icmp_ge hc 195 dX12_keep_144 rfl (fun cq => ?_) (fun cq => ?_)
    · have hw := hw.1 cq
      refine m_aload_n hc 0 dX12_keep_195 rfl rfl ?_
      refine m_dup hc dX12_keep_196 rfl ?_
      refine r_geti hc hr 13 dX12_keep_197 lf_X12_188 (Nat.le_of_ble_eq_true rfl) rfl ?_
      refine m_iconst hc 1 dX12_keep_200 (by decide) ?_
      refine m_iadd hc dX12_keep_201 ?_
      refine r_put hc hr 13 dX12_keep_202 lf_X12_188 (Nat.le_of_ble_eq_true rfl) rfl rfl (by decide +kernel) ?_
      exact r_vret hc hr dX12_keep_205 hw
    · have hw := hw.2 cq
      refine m_aload_n hc 0 dX12_keep_147 rfl rfl ?_
      refine r_geta hc hr 11 dX12_keep_148 lf_X12_40 (Nat.le_of_ble_eq_true rfl) rfl ?_
      refine m_sipush hc 300 dX12_keep_151 (by decide) ?_
      refine m_aload_n hc 0 dX12_keep_154 rfl rfl ?_
      refine r_geti hc hr 13 dX12_keep_155 lf_X12_188 (Nat.le_of_ble_eq_true rfl) rfl ?_
      refine m_imul hc dX12_keep_158 ?_
      refine m_iload_n hc 2 dX12_keep_159 rfl rfl ?_
      refine m_iadd hc dX12_keep_160 ?_
      refine m_aload_n hc 0 dX12_keep_161 rfl rfl ?_
      refine m_iload_n hc 1 dX12_keep_162 rfl rfl ?_
      refine m_iload_n hc 2 dX12_keep_163 rfl rfl ?_
      refine r_callVi hc hr mt_keyAt rfl lm_X12_123 (ok_keyAt hok hw) (Nat.le_of_ble_eq_true rfl) dX12_keep_164 rfl (rest := [.int ((300 * (R 0 13)) + x2), .ref (G.2.2.2 11)]) rfl (Nat.le_of_ble_eq_true rfl) (fun r1 R1 hw => ?_)
      obtain ⟨hi, hw⟩ := hw
      refine r_iast hc hr (i := 8) (f := 11) rfl hi dX12_keep_167 ?_
      refine m_aload_n hc 0 dX12_keep_168 rfl rfl ?_
      refine r_geta hc hr 12 dX12_keep_169 lf_X12_43 (Nat.le_of_ble_eq_true rfl) rfl ?_
      refine m_sipush hc 300 dX12_keep_172 (by decide) ?_
      refine m_aload_n hc 0 dX12_keep_175 rfl rfl ?_
      refine r_geti hc hr 13 dX12_keep_176 lf_X12_188 (Nat.le_of_ble_eq_true rfl) rfl ?_
      refine m_imul hc dX12_keep_179 ?_
      refine m_iload_n hc 2 dX12_keep_180 rfl rfl ?_
      refine m_iadd hc dX12_keep_181 ?_
      refine m_aload_n hc 0 dX12_keep_182 rfl rfl ?_
      refine m_iload_n hc 1 dX12_keep_183 rfl rfl ?_
      refine m_iload_n hc 2 dX12_keep_184 rfl rfl ?_
      refine r_callVi hc hr mt_numAt rfl lm_X12_126 (ok_numAt hok hw) (Nat.le_of_ble_eq_true rfl) dX12_keep_185 rfl (rest := [.int ((300 * ((up R1 11 (Int32.toNatClampNeg ((300 * (R 0 13)) + x2)) r1) 0 13)) + x2), .ref (G.2.2.2 12)]) rfl (Nat.le_of_ble_eq_true rfl) (fun r2 R2 hw => ?_)
      obtain ⟨hi, hw⟩ := hw
      refine r_iast hc hr (i := 9) (f := 12) rfl hi dX12_keep_188 ?_
      refine m_iinc hc 2 (x2 + 1) [(2, .int (x2 + 1)), (0, .ref G.2.2.1), (1, .int x1)] dX12_keep_189 rfl rfl (Nat.le_of_ble_eq_true rfl) rfl ?_
      refine m_goto hc 137 dX12_keep_192 rfl ?_
      refine m_sub [1, 2, 0] rfl ?_
      exact h137 x1 (x2 + 1) (up R2 12 (Int32.toNatClampNeg ((300 * ((up R1 11 (Int32.toNatClampNeg ((300 * (R 0 13)) + x2)) r1) 0 13)) + x2)) r2) hw
def w_keep_110 (K : Int32 → RS → Prop) (x1 : Int32) (R : RS) : Prop := vp_in (R 0 13) 20 ∧ vp_in x1 56 ∧ vp_in ((up R 9 (Int32.toNatClampNeg (R 0 13)) x1) 0 13) 20 ∧ ∃ nn : Nat, wl_keep_137 K nn x1 0 (up (up R 9 (Int32.toNatClampNeg (R 0 13)) x1) 10 (Int32.toNatClampNeg ((up R 9 (Int32.toNatClampNeg (R 0 13)) x1) 0 13)) ((up R 9 (Int32.toNatClampNeg (R 0 13)) x1) 2 (Int32.toNatClampNeg x1)))
set_option maxHeartbeats 4000000 in
set_option maxRecDepth 100000 in
theorem b_keep_110 {G : RG} {X : Fx} {K : Int32 → RS → Prop} (hok : okG G) (hc : Cx X RX12 cX12_keep 3) (hr : Cr G 1 none K X) : ∀ (x1 : Int32) (R : RS), w_keep_110 K x1 R → MR G X 3 R 110 [(0, .ref G.2.2.1), (1, .int x1)] [] := by
  intro x1 R hw
  unfold w_keep_110 at hw
  refine m_aload_n hc 0 dX12_keep_110 rfl rfl ?_
  refine r_geta hc hr 9 dX12_keep_111 lf_X12_34 (Nat.le_of_ble_eq_true rfl) rfl ?_
  refine m_aload_n hc 0 dX12_keep_114 rfl rfl ?_
  refine r_geti hc hr 13 dX12_keep_115 lf_X12_188 (Nat.le_of_ble_eq_true rfl) rfl ?_
  refine m_iload_n hc 1 dX12_keep_118 rfl rfl ?_
  obtain ⟨hi, hw⟩ := hw
  refine r_iast hc hr (i := 6) (f := 9) rfl hi dX12_keep_119 ?_
  refine m_aload_n hc 0 dX12_keep_120 rfl rfl ?_
  refine r_geta hc hr 10 dX12_keep_121 lf_X12_37 (Nat.le_of_ble_eq_true rfl) rfl ?_
  refine m_aload_n hc 0 dX12_keep_124 rfl rfl ?_
  refine r_geti hc hr 13 dX12_keep_125 lf_X12_188 (Nat.le_of_ble_eq_true rfl) rfl ?_
  refine m_aload_n hc 0 dX12_keep_128 rfl rfl ?_
  refine r_geta hc hr 2 dX12_keep_129 lf_X12_13 (Nat.le_of_ble_eq_true rfl) rfl ?_
  refine m_iload_n hc 1 dX12_keep_132 rfl rfl ?_
  obtain ⟨hi, hw⟩ := hw
  refine r_iald hc hr (i := 0) (f := 2) rfl hi dX12_keep_133 ?_
  obtain ⟨hi, hw⟩ := hw
  refine r_iast hc hr (i := 7) (f := 10) rfl hi dX12_keep_134 ?_
  refine m_iconst hc 0 dX12_keep_135 (by decide) ?_
  refine m_istore_n hc [(2, .int 0), (0, .ref G.2.2.1), (1, .int x1)] dX12_keep_136 rfl (Nat.le_of_ble_eq_true rfl) rfl ?_
  refine m_sub [1, 2, 0] rfl ?_
  obtain ⟨nn, hw⟩ := hw
  exact l_keep_137 hok hc hr nn x1 0 (up (up R 9 (Int32.toNatClampNeg (R 0 13)) x1) 10 (Int32.toNatClampNeg ((up R 9 (Int32.toNatClampNeg (R 0 13)) x1) 0 13)) ((up R 9 (Int32.toNatClampNeg (R 0 13)) x1) 2 (Int32.toNatClampNeg x1))) hw
def wb_keep_55 (K55 : Int32 → Int32 → RS → Prop) (K : Int32 → RS → Prop) (x1 x2 : Int32) (R : RS) : Prop := (6000 ≤ x2 → w_keep_110 K x1 (up R 0 13 ((R 0 13) - 1))) ∧ (¬ (6000 ≤ x2) → vp_in x2 6000 ∧ vp_in (x2 - 300) 6000 ∧ vp_in x2 6000 ∧ vp_in (x2 - 300) 6000 ∧ K55 x1 (x2 + 1) (up (up R 11 (Int32.toNatClampNeg (x2 - 300)) (R 11 (Int32.toNatClampNeg x2))) 12 (Int32.toNatClampNeg (x2 - 300)) ((up R 11 (Int32.toNatClampNeg (x2 - 300)) (R 11 (Int32.toNatClampNeg x2))) 12 (Int32.toNatClampNeg x2))))
def wl_keep_55 (K : Int32 → RS → Prop) : Nat → Int32 → Int32 → RS → Prop
  | 0 => fun _ _ _ => False
  | nn + 1 => wb_keep_55 (wl_keep_55 K nn) K
set_option maxHeartbeats 4000000 in
set_option maxRecDepth 100000 in
theorem l_keep_55 {G : RG} {X : Fx} {K : Int32 → RS → Prop} (hok : okG G) (hc : Cx X RX12 cX12_keep 3) (hr : Cr G 1 none K X) : ∀ (nn : Nat) (x1 x2 : Int32) (R : RS), wl_keep_55 K nn x1 x2 R → MR G X 3 R 55 [(0, .ref G.2.2.1), (1, .int x1), (2, .int x2)] [] := by
  intro nn
  induction nn with
  | zero => intro x1 x2 R hw; exact False.elim hw
  | succ nn ih =>
    intro x1 x2 R hw
    have hw : wb_keep_55 (wl_keep_55 K nn) K x1 x2 R := hw
    have h55 := ih
    generalize wl_keep_55 K nn = K55 at hw h55
    unfold wb_keep_55 at hw
    refine m_iload_n hc 2 dX12_keep_55 rfl rfl ?_
    refine m_sipush hc 6000 dX12_keep_56 (by decide) ?_
    refine m_icmp_ge hc 100 dX12_keep_59 rfl (fun cq => ?_) (fun cq => ?_)
    · have hw := hw.1 cq
      refine m_aload_n hc 0 dX12_keep_100 rfl rfl ?_
      refine m_dup hc dX12_keep_101 rfl ?_
      refine r_geti hc hr 13 dX12_keep_102 lf_X12_188 (Nat.le_of_ble_eq_true rfl) rfl ?_
      refine m_iconst hc 1 dX12_keep_105 (by decide) ?_
      refine m_isub hc dX12_keep_106 ?_
      refine r_put hc hr 13 dX12_keep_107 lf_X12_188 (Nat.le_of_ble_eq_true rfl) rfl rfl (by decide +kernel) ?_
      refine m_sub [0, 1] rfl ?_
      exact b_keep_110 hok hc hr x1 (up R 0 13 ((R 0 13) - 1)) hw
    · have hw := hw.2 cq
      refine m_aload_n hc 0 dX12_keep_62 rfl rfl ?_
      refine r_geta hc hr 11 dX12_keep_63 lf_X12_40 (Nat.le_of_ble_eq_true rfl) rfl ?_
      refine m_iload_n hc 2 dX12_keep_66 rfl rfl ?_
      refine m_sipush hc 300 dX12_keep_67 (by decide) ?_
      refine m_isub hc dX12_keep_70 ?_
      refine m_aload_n hc 0 dX12_keep_71 rfl rfl ?_
      refine r_geta hc hr 11 dX12_keep_72 lf_X12_40 (Nat.le_of_ble_eq_true rfl) rfl ?_
      refine m_iload_n hc 2 dX12_keep_75 rfl rfl ?_
      obtain ⟨hi, hw⟩ := hw
      refine r_iald hc hr (i := 8) (f := 11) rfl hi dX12_keep_76 ?_
      obtain ⟨hi, hw⟩ := hw
      refine r_iast hc hr (i := 8) (f := 11) rfl hi dX12_keep_77 ?_
      refine m_aload_n hc 0 dX12_keep_78 rfl rfl ?_
      refine r_geta hc hr 12 dX12_keep_79 lf_X12_43 (Nat.le_of_ble_eq_true rfl) rfl ?_
      refine m_iload_n hc 2 dX12_keep_82 rfl rfl ?_
      refine m_sipush hc 300 dX12_keep_83 (by decide) ?_
      refine m_isub hc dX12_keep_86 ?_
      refine m_aload_n hc 0 dX12_keep_87 rfl rfl ?_
      refine r_geta hc hr 12 dX12_keep_88 lf_X12_43 (Nat.le_of_ble_eq_true rfl) rfl ?_
      refine m_iload_n hc 2 dX12_keep_91 rfl rfl ?_
      obtain ⟨hi, hw⟩ := hw
      refine r_iald hc hr (i := 9) (f := 12) rfl hi dX12_keep_92 ?_
      obtain ⟨hi, hw⟩ := hw
      refine r_iast hc hr (i := 9) (f := 12) rfl hi dX12_keep_93 ?_
      refine m_iinc hc 2 (x2 + 1) [(2, .int (x2 + 1)), (0, .ref G.2.2.1), (1, .int x1)] dX12_keep_94 rfl rfl (Nat.le_of_ble_eq_true rfl) rfl ?_
      refine m_goto hc 55 dX12_keep_97 rfl ?_
      refine m_sub [1, 2, 0] rfl ?_
      exact h55 x1 (x2 + 1) (up (up R 11 (Int32.toNatClampNeg (x2 - 300)) (R 11 (Int32.toNatClampNeg x2))) 12 (Int32.toNatClampNeg (x2 - 300)) ((up R 11 (Int32.toNatClampNeg (x2 - 300)) (R 11 (Int32.toNatClampNeg x2))) 12 (Int32.toNatClampNeg x2))) hw
def wb_keep_11 (K11 : Int32 → Int32 → RS → Prop) (K : Int32 → RS → Prop) (x1 x2 : Int32) (R : RS) : Prop := (20 ≤ x2 → ∃ nn : Nat, wl_keep_55 K nn x1 300 R) ∧ (¬ (20 ≤ x2) → vp_in x2 20 ∧ vp_in (x2 - 1) 20 ∧ vp_in x2 20 ∧ vp_in (x2 - 1) 20 ∧ K11 x1 (x2 + 1) (up (up R 9 (Int32.toNatClampNeg (x2 - 1)) (R 9 (Int32.toNatClampNeg x2))) 10 (Int32.toNatClampNeg (x2 - 1)) ((up R 9 (Int32.toNatClampNeg (x2 - 1)) (R 9 (Int32.toNatClampNeg x2))) 10 (Int32.toNatClampNeg x2))))
def wl_keep_11 (K : Int32 → RS → Prop) : Nat → Int32 → Int32 → RS → Prop
  | 0 => fun _ _ _ => False
  | nn + 1 => wb_keep_11 (wl_keep_11 K nn) K
set_option maxHeartbeats 4000000 in
set_option maxRecDepth 100000 in
theorem l_keep_11 {G : RG} {X : Fx} {K : Int32 → RS → Prop} (hok : okG G) (hc : Cx X RX12 cX12_keep 3) (hr : Cr G 1 none K X) : ∀ (nn : Nat) (x1 x2 : Int32) (R : RS), wl_keep_11 K nn x1 x2 R → MR G X 3 R 11 [(0, .ref G.2.2.1), (1, .int x1), (2, .int x2)] [] := by
  intro nn
  induction nn with
  | zero => intro x1 x2 R hw; exact False.elim hw
  | succ nn ih =>
    intro x1 x2 R hw
    have hw : wb_keep_11 (wl_keep_11 K nn) K x1 x2 R := hw
    have h11 := ih
    generalize wl_keep_11 K nn = K11 at hw h11
    unfold wb_keep_11 at hw
    refine m_iload_n hc 2 dX12_keep_11 rfl rfl ?_
    refine m_bipush hc 20 dX12_keep_12 (by decide) ?_
    refine m_icmp_ge hc 51 dX12_keep_14 rfl (fun cq => ?_) (fun cq => ?_)
    · have hw := hw.1 cq
      refine m_sipush hc 300 dX12_keep_51 (by decide) ?_
      refine m_istore_n hc [(2, .int 300), (0, .ref G.2.2.1), (1, .int x1)] dX12_keep_54 rfl (Nat.le_of_ble_eq_true rfl) rfl ?_
      refine m_sub [1, 2, 0] rfl ?_
      obtain ⟨nn, hw⟩ := hw
      exact l_keep_55 hok hc hr nn x1 300 R hw
    · have hw := hw.2 cq
      refine m_aload_n hc 0 dX12_keep_17 rfl rfl ?_
      refine r_geta hc hr 9 dX12_keep_18 lf_X12_34 (Nat.le_of_ble_eq_true rfl) rfl ?_
      refine m_iload_n hc 2 dX12_keep_21 rfl rfl ?_
      refine m_iconst hc 1 dX12_keep_22 (by decide) ?_
      refine m_isub hc dX12_keep_23 ?_
      refine m_aload_n hc 0 dX12_keep_24 rfl rfl ?_
      refine r_geta hc hr 9 dX12_keep_25 lf_X12_34 (Nat.le_of_ble_eq_true rfl) rfl ?_
      refine m_iload_n hc 2 dX12_keep_28 rfl rfl ?_
      obtain ⟨hi, hw⟩ := hw
      refine r_iald hc hr (i := 6) (f := 9) rfl hi dX12_keep_29 ?_
      obtain ⟨hi, hw⟩ := hw
      refine r_iast hc hr (i := 6) (f := 9) rfl hi dX12_keep_30 ?_
      refine m_aload_n hc 0 dX12_keep_31 rfl rfl ?_
      refine r_geta hc hr 10 dX12_keep_32 lf_X12_37 (Nat.le_of_ble_eq_true rfl) rfl ?_
      refine m_iload_n hc 2 dX12_keep_35 rfl rfl ?_
      refine m_iconst hc 1 dX12_keep_36 (by decide) ?_
      refine m_isub hc dX12_keep_37 ?_
      refine m_aload_n hc 0 dX12_keep_38 rfl rfl ?_
      refine r_geta hc hr 10 dX12_keep_39 lf_X12_37 (Nat.le_of_ble_eq_true rfl) rfl ?_
      refine m_iload_n hc 2 dX12_keep_42 rfl rfl ?_
      obtain ⟨hi, hw⟩ := hw
      refine r_iald hc hr (i := 7) (f := 10) rfl hi dX12_keep_43 ?_
      obtain ⟨hi, hw⟩ := hw
      refine r_iast hc hr (i := 7) (f := 10) rfl hi dX12_keep_44 ?_
      refine m_iinc hc 2 (x2 + 1) [(2, .int (x2 + 1)), (0, .ref G.2.2.1), (1, .int x1)] dX12_keep_45 rfl rfl (Nat.le_of_ble_eq_true rfl) rfl ?_
      refine m_goto hc 11 dX12_keep_48 rfl ?_
      refine m_sub [1, 2, 0] rfl ?_
      exact h11 x1 (x2 + 1) (up (up R 9 (Int32.toNatClampNeg (x2 - 1)) (R 9 (Int32.toNatClampNeg x2))) 10 (Int32.toNatClampNeg (x2 - 1)) ((up R 9 (Int32.toNatClampNeg (x2 - 1)) (R 9 (Int32.toNatClampNeg x2))) 10 (Int32.toNatClampNeg x2))) hw
def wp_keep (x1 : Int32) (R : RS) (K : Int32 → RS → Prop) : Prop := (¬ (R 0 13) = 20 → w_keep_110 K x1 R) ∧ ((R 0 13) = 20 → ∃ nn : Nat, wl_keep_11 K nn x1 1 R)
set_option maxHeartbeats 4000000 in
set_option maxRecDepth 100000 in
theorem ok_keep {G : RG} (hok : okG G) {x1 : Int32} {R : RS} {K : Int32 → RS → Prop} (hw : wp_keep x1 R K) : CF 1 yX12_keep cX12_keep 3 none [.ref G.2.2.1, .int x1] G R K := by
  refine CF.of (by decide +kernel) hok (Nat.le_of_ble_eq_true rfl) (fun X hc hr => ?_)
  show MR G X 3 R 0 [(0, .ref G.2.2.1), (1, .int x1)] []
  unfold wp_keep at hw
  refine m_aload_n hc 0 dX12_keep_0 rfl rfl ?_
  refine r_geti hc hr 13 dX12_keep_1 lf_X12_188 (Nat.le_of_ble_eq_true rfl) rfl ?_
  refine m_bipush hc 20 dX12_keep_4 (by decide) ?_
  refine m_icmp_ne hc 110 dX12_keep_6 rfl (fun cq => ?_) (fun cq => ?_)
  · have hw := hw.1 cq
    exact b_keep_110 hok hc hr x1 R hw
  · have hw := hw.2 cq
    refine m_iconst hc 1 dX12_keep_9 (by decide) ?_
    refine m_istore_n hc [(2, .int 1), (0, .ref G.2.2.1), (1, .int x1)] dX12_keep_10 rfl (Nat.le_of_ble_eq_true rfl) rfl ?_
    refine m_sub [1, 2, 0] rfl ?_
    obtain ⟨nn, hw⟩ := hw
    exact l_keep_11 hok hc hr nn x1 1 R hw
