def wb_leaves_39 (K11 : Nat → Nat → Int32 → Int32 → RS → Prop) (K39 : Nat → Nat → Int32 → Int32 → Int32 → Int32 → RS → Prop) (K : Int32 → RS → Prop) (x1 x2 : Nat) (x3 x4 x5 x6 : Int32) (R : RS) : Prop := (x3 < x6 → wp_topOf x1 R (fun r1 R1 => K11 x1 x2 x3 r1 R1)) ∧ (¬ (x3 < x6) → rP x1 ∧ vp_in ((x6 + x4) - x3) (rlen x1) ∧ rP x2 ∧ vp_in x6 (rlen x2) ∧ wp_mod ((R x1 (Int32.toNatClampNeg ((x6 + x4) - x3))) - (x5 * (R x2 (Int32.toNatClampNeg x6)))) R (fun r2 R2 => rP x1 ∧ vp_in ((x6 + x4) - x3) (rlen x1) ∧ K39 x1 x2 x3 x4 x5 (x6 + 1) (up R2 x1 (Int32.toNatClampNeg ((x6 + x4) - x3)) r2)))
def wl_leaves_39 (K11 : Nat → Nat → Int32 → Int32 → RS → Prop) (K : Int32 → RS → Prop) : Nat → Nat → Nat → Int32 → Int32 → Int32 → Int32 → RS → Prop
  | 0 => fun _ _ _ _ _ _ _ => False
  | nn + 1 => wb_leaves_39 K11 (wl_leaves_39 K11 K nn) K
set_option maxHeartbeats 4000000 in
set_option maxRecDepth 100000 in
theorem l_leaves_39 {G : RG} {X : Fx} {K : Int32 → RS → Prop} (hok : okG G) (hc : Cx X RX12 cX12_leaves 7) (hr : Cr G 1 none K X) (K11 : Nat → Nat → Int32 → Int32 → RS → Prop) (h11 : ∀ (x1 x2 : Nat) (x3 x4 : Int32) (R : RS), K11 x1 x2 x3 x4 R → MR G X 7 R 11 [(0, .ref G.2.2.1), (1, .ref (G.2.2.2 x1)), (2, .ref (G.2.2.2 x2)), (3, .int x3), (4, .int x4)] []) : ∀ (nn : Nat) (x1 x2 : Nat) (x3 x4 x5 x6 : Int32) (R : RS), wl_leaves_39 K11 K nn x1 x2 x3 x4 x5 x6 R → MR G X 7 R 39 [(0, .ref G.2.2.1), (1, .ref (G.2.2.2 x1)), (2, .ref (G.2.2.2 x2)), (3, .int x3), (4, .int x4), (5, .int x5), (6, .int x6)] [] := by
  intro nn
  induction nn with
  | zero => intro x1 x2 x3 x4 x5 x6 R hw; exact False.elim hw
  | succ nn ih =>
    intro x1 x2 x3 x4 x5 x6 R hw
    have hw : wb_leaves_39 K11 (wl_leaves_39 K11 K nn) K x1 x2 x3 x4 x5 x6 R := hw
    have h39 := ih
    generalize wl_leaves_39 K11 K nn = K39 at hw h39
    unfold wb_leaves_39 at hw
    refine m_iload hc 6 dX12_leaves_39 rfl ?_
    refine m_iload_n hc 3 dX12_leaves_41 rfl rfl ?_
    refine m_icmp_gt hc 81 dX12_leaves_42 rfl (fun cq => ?_) (fun cq => ?_)
    · have hw := hw.1 cq
      refine m_aload_n hc 1 dX12_leaves_81 rfl rfl ?_
      refine r_callSi hc hr mt_topOf lm_X12_206 (ok_topOf hok hw) (Nat.le_of_ble_eq_true rfl) dX12_leaves_82 rfl (rest := []) rfl (Nat.le_of_ble_eq_true rfl) (fun r1 R1 hw => ?_)
      refine m_istore hc [(4, .int r1), (0, .ref G.2.2.1), (1, .ref (G.2.2.2 x1)), (2, .ref (G.2.2.2 x2)), (3, .int x3), (5, .int x5), (6, .int x6)] dX12_leaves_85 (Nat.le_of_ble_eq_true rfl) rfl ?_
      refine m_goto hc 11 dX12_leaves_87 rfl ?_
      refine m_sub [1, 2, 3, 4, 0] rfl ?_
      exact h11 x1 x2 x3 r1 R1 hw
    · have hw := hw.2 cq
      refine m_aload_n hc 1 dX12_leaves_45 rfl rfl ?_
      refine m_iload hc 6 dX12_leaves_46 rfl ?_
      refine m_iload hc 4 dX12_leaves_48 rfl ?_
      refine m_iadd hc dX12_leaves_50 ?_
      refine m_iload_n hc 3 dX12_leaves_51 rfl rfl ?_
      refine m_isub hc dX12_leaves_52 ?_
      refine m_aload_n hc 0 dX12_leaves_53 rfl rfl ?_
      refine m_aload_n hc 1 dX12_leaves_54 rfl rfl ?_
      refine m_iload hc 6 dX12_leaves_55 rfl ?_
      refine m_iload hc 4 dX12_leaves_57 rfl ?_
      refine m_iadd hc dX12_leaves_59 ?_
      refine m_iload_n hc 3 dX12_leaves_60 rfl rfl ?_
      refine m_isub hc dX12_leaves_61 ?_
      obtain ⟨⟨ii, hii⟩, hi, hw⟩ := hw
      refine r_iald hc hr hii hi dX12_leaves_62 ?_
      refine m_iload hc 5 dX12_leaves_63 rfl ?_
      refine m_aload_n hc 2 dX12_leaves_65 rfl rfl ?_
      refine m_iload hc 6 dX12_leaves_66 rfl ?_
      obtain ⟨⟨ii, hii⟩, hi, hw⟩ := hw
      refine r_iald hc hr hii hi dX12_leaves_68 ?_
      refine m_imul hc dX12_leaves_69 ?_
      refine m_isub hc dX12_leaves_70 ?_
      refine r_callVi hc hr mt_mod rfl lm_X12_138 (ok_mod hok hw) (Nat.le_of_ble_eq_true rfl) dX12_leaves_71 rfl (rest := [.int ((x6 + x4) - x3), .ref (G.2.2.2 x1)]) rfl (Nat.le_of_ble_eq_true rfl) (fun r2 R2 hw => ?_)
      obtain ⟨⟨ii, hii⟩, hi, hw⟩ := hw
      refine r_iast hc hr hii hi dX12_leaves_74 ?_
      refine m_iinc hc 6 (x6 + 1) [(6, .int (x6 + 1)), (0, .ref G.2.2.1), (1, .ref (G.2.2.2 x1)), (2, .ref (G.2.2.2 x2)), (3, .int x3), (4, .int x4), (5, .int x5)] dX12_leaves_75 rfl rfl (Nat.le_of_ble_eq_true rfl) rfl ?_
      refine m_goto hc 39 dX12_leaves_78 rfl ?_
      refine m_sub [1, 2, 3, 4, 5, 6, 0] rfl ?_
      exact h39 x1 x2 x3 x4 x5 (x6 + 1) (up R2 x1 (Int32.toNatClampNeg ((x6 + x4) - x3)) r2) hw
def wb_leaves_11 (K11 : Nat → Nat → Int32 → Int32 → RS → Prop) (K : Int32 → RS → Prop) (x1 x2 : Nat) (x3 x4 : Int32) (R : RS) : Prop := (x4 < x3 → K 0 R) ∧ (¬ (x4 < x3) → rP x1 ∧ vp_in x4 (rlen x1) ∧ rP x2 ∧ vp_in x3 (rlen x2) ∧ wp_inverse (R x2 (Int32.toNatClampNeg x3)) R (fun r1 R1 => ¬ (R1 0 1) = 0 ∧ (∀ v2 : Int32, v2 = (iRem ((R x1 (Int32.toNatClampNeg x4)) * r1) (R1 0 1)) → ∃ nn : Nat, wl_leaves_39 K11 K nn x1 x2 x3 x4 v2 0 R1)))
def wl_leaves_11 (K : Int32 → RS → Prop) : Nat → Nat → Nat → Int32 → Int32 → RS → Prop
  | 0 => fun _ _ _ _ _ => False
  | nn + 1 => wb_leaves_11 (wl_leaves_11 K nn) K
set_option maxHeartbeats 4000000 in
set_option maxRecDepth 100000 in
theorem l_leaves_11 {G : RG} {X : Fx} {K : Int32 → RS → Prop} (hok : okG G) (hc : Cx X RX12 cX12_leaves 7) (hr : Cr G 1 none K X) : ∀ (nn : Nat) (x1 x2 : Nat) (x3 x4 : Int32) (R : RS), wl_leaves_11 K nn x1 x2 x3 x4 R → MR G X 7 R 11 [(0, .ref G.2.2.1), (1, .ref (G.2.2.2 x1)), (2, .ref (G.2.2.2 x2)), (3, .int x3), (4, .int x4)] [] := by
  intro nn
  induction nn with
  | zero => intro x1 x2 x3 x4 R hw; exact False.elim hw
  | succ nn ih =>
    intro x1 x2 x3 x4 R hw
    have hw : wb_leaves_11 (wl_leaves_11 K nn) K x1 x2 x3 x4 R := hw
    have h11 := ih
    generalize wl_leaves_11 K nn = K11 at hw h11
    unfold wb_leaves_11 at hw
    refine m_iload hc 4 dX12_leaves_11 rfl ?_
    refine m_iload_n hc 3 dX12_leaves_13 rfl rfl ?_
    refine m_icmp_lt hc 90 dX12_leaves_14 rfl (fun cq => ?_) (fun cq => ?_)
    · have hw := hw.1 cq
      exact r_vret hc hr dX12_leaves_90 hw
    · have hw := hw.2 cq
      refine m_aload_n hc 1 dX12_leaves_17 rfl rfl ?_
      refine m_iload hc 4 dX12_leaves_18 rfl ?_
      obtain ⟨⟨ii, hii⟩, hi, hw⟩ := hw
      refine r_iald hc hr hii hi dX12_leaves_20 ?_
      refine m_aload_n hc 0 dX12_leaves_21 rfl rfl ?_
      refine m_aload_n hc 2 dX12_leaves_22 rfl rfl ?_
      refine m_iload_n hc 3 dX12_leaves_23 rfl rfl ?_
      obtain ⟨⟨ii, hii⟩, hi, hw⟩ := hw
      refine r_iald hc hr hii hi dX12_leaves_24 ?_
      refine r_callVi hc hr mt_inverse rfl lm_X12_210 (ok_inverse hok hw) (Nat.le_of_ble_eq_true rfl) dX12_leaves_25 rfl (rest := [.int (R x1 (Int32.toNatClampNeg x4))]) rfl (Nat.le_of_ble_eq_true rfl) (fun r1 R1 hw => ?_)
      refine m_imul hc dX12_leaves_28 ?_
      refine m_aload_n hc 0 dX12_leaves_29 rfl rfl ?_
      refine r_geti hc hr 1 dX12_leaves_30 lf_X12_9 (Nat.le_of_ble_eq_true rfl) rfl ?_
      obtain ⟨hq, hw⟩ := hw
      refine m_irem hc dX12_leaves_33 hq ?_
      refine m_topi (fun v2 e_v2 => ?_)
      have hw := hw v2 e_v2
      refine m_istore hc [(5, .int v2), (0, .ref G.2.2.1), (1, .ref (G.2.2.2 x1)), (2, .ref (G.2.2.2 x2)), (3, .int x3), (4, .int x4)] dX12_leaves_34 (Nat.le_of_ble_eq_true rfl) rfl ?_
      refine m_iconst hc 0 dX12_leaves_36 (by decide) ?_
      refine m_istore hc [(6, .int 0), (5, .int v2), (0, .ref G.2.2.1), (1, .ref (G.2.2.2 x1)), (2, .ref (G.2.2.2 x2)), (3, .int x3), (4, .int x4)] dX12_leaves_37 (Nat.le_of_ble_eq_true rfl) rfl ?_
      refine m_sub [2, 3, 4, 5, 6, 1, 0] rfl ?_
      obtain ⟨nn, hw⟩ := hw
      exact l_leaves_39 hok hc hr K11 h11 nn x1 x2 x3 x4 v2 0 R1 hw
def wp_leaves (x1 x2 : Nat) (R : RS) (K : Int32 → RS → Prop) : Prop := wp_topOf x2 R (fun r1 R1 => wp_topOf x1 R1 (fun r2 R2 => ∃ nn : Nat, wl_leaves_11 K nn x1 x2 r1 r2 R2))
set_option maxHeartbeats 4000000 in
set_option maxRecDepth 100000 in
theorem ok_leaves {G : RG} (hok : okG G) {x1 : Nat} {x2 : Nat} {R : RS} {K : Int32 → RS → Prop} (hw : wp_leaves x1 x2 R K) : CF 1 yX12_leaves cX12_leaves 7 none [.ref G.2.2.1, .ref (G.2.2.2 x1), .ref (G.2.2.2 x2)] G R K := by
  refine CF.of (by decide +kernel) hok (Nat.le_of_ble_eq_true rfl) (fun X hc hr => ?_)
  show MR G X 7 R 0 [(0, .ref G.2.2.1), (1, .ref (G.2.2.2 x1)), (2, .ref (G.2.2.2 x2))] []
  unfold wp_leaves at hw
  refine m_aload_n hc 2 dX12_leaves_0 rfl rfl ?_
  refine r_callSi hc hr mt_topOf lm_X12_206 (ok_topOf hok hw) (Nat.le_of_ble_eq_true rfl) dX12_leaves_1 rfl (rest := []) rfl (Nat.le_of_ble_eq_true rfl) (fun r1 R1 hw => ?_)
  refine m_istore_n hc [(3, .int r1), (0, .ref G.2.2.1), (1, .ref (G.2.2.2 x1)), (2, .ref (G.2.2.2 x2))] dX12_leaves_4 rfl (Nat.le_of_ble_eq_true rfl) rfl ?_
  refine m_aload_n hc 2 dX12_leaves_5 rfl rfl ?_
  refine r_callSi hc hr mt_topOf lm_X12_206 (ok_topOf hok hw) (Nat.le_of_ble_eq_true rfl) dX12_leaves_6 rfl (rest := []) rfl (Nat.le_of_ble_eq_true rfl) (fun r2 R2 hw => ?_)
  refine m_istore hc [(4, .int r2), (3, .int r1), (0, .ref G.2.2.1), (1, .ref (G.2.2.2 x1)), (2, .ref (G.2.2.2 x2))] dX12_leaves_9 (Nat.le_of_ble_eq_true rfl) rfl ?_
  refine m_sub [2, 3, 4, 1, 0] rfl ?_
  obtain ⟨nn, hw⟩ := hw
  exact l_leaves_11 hok hc hr nn x1 x2 r1 r2 R2 hw
def wb_common_125 (K125 : Int32 → Int32 → Int32 → Int32 → RS → Prop) (K : Int32 → RS → Prop) (x1 x4 x5 x6 : Int32) (R : RS) : Prop := (x4 < x6 → wp_gathered x1 R (fun r1 R1 => (r1 = 0 ∨ r1 = 1) ∧ K r1 R1)) ∧ (¬ (x4 < x6) → vp_in x6 41 ∧ ((R 15 (Int32.toNatClampNeg x6)) = 0 → K125 x1 x4 x5 (x6 + 1) R) ∧ (¬ ((R 15 (Int32.toNatClampNeg x6)) = 0) → vp_in x6 41 ∧ wp_gathers x6 0 0 ((R 15 (Int32.toNatClampNeg x6)) * x5) R (fun r2 R2 => K125 x1 x4 x5 (x6 + 1) R2)))
def wl_common_125 (K : Int32 → RS → Prop) : Nat → Int32 → Int32 → Int32 → Int32 → RS → Prop
  | 0 => fun _ _ _ _ _ => False
  | nn + 1 => wb_common_125 (wl_common_125 K nn) K
set_option maxHeartbeats 4000000 in
set_option maxRecDepth 100000 in
theorem l_common_125 {G : RG} {X : Fx} {K : Int32 → RS → Prop} (hok : okG G) (hc : Cx X RX12 cX12_common 7) (hr : Cr G 3 (some .boolean) K X) : ∀ (nn : Nat) (x1 x4 x5 x6 : Int32) (R : RS), wl_common_125 K nn x1 x4 x5 x6 R → MR G X 7 R 125 [(0, .ref G.2.2.1), (1, .int x1), (4, .int x4), (5, .int x5), (6, .int x6)] [] := by
  intro nn
  induction nn with
  | zero => intro x1 x4 x5 x6 R hw; exact False.elim hw
  | succ nn ih =>
    intro x1 x4 x5 x6 R hw
    have hw : wb_common_125 (wl_common_125 K nn) K x1 x4 x5 x6 R := hw
    have h125 := ih
    generalize wl_common_125 K nn = K125 at hw h125
    unfold wb_common_125 at hw
    refine m_iload hc 4 dX12_common_125 rfl ?_
    refine m_iload hc 2 dX12_common_127 rfl ?_
    refine m_icmp_gt hc 166 dX12_common_129 rfl (fun cq => ?_) (fun cq => ?_)
    · have hw := hw.1 cq
      refine m_aload_n hc 0 dX12_common_166 rfl rfl ?_
      refine m_iload_n hc 1 dX12_common_167 rfl rfl ?_
      refine r_callVi hc hr mt_gathered rfl lm_X12_160 (ok_gathered hok hw) (Nat.le_of_ble_eq_true rfl) dX12_common_168 rfl (rest := []) rfl (Nat.le_of_ble_eq_true rfl) (fun r1 R1 hw => ?_)
      exact r_zret hc hr dX12_common_171 hw.1 hw.2
    · have hw := hw.2 cq
      refine m_aload_n hc 0 dX12_common_132 rfl rfl ?_
      refine r_geta hc hr 15 dX12_common_133 lf_X12_49 (Nat.le_of_ble_eq_true rfl) rfl ?_
      refine m_iload hc 4 dX12_common_136 rfl ?_
      obtain ⟨hi, hw⟩ := hw
      refine r_iald hc hr (i := 11) (f := 15) rfl hi dX12_common_138 ?_
      refine m_if_eq hc 160 dX12_common_139 rfl (fun cq => ?_) (fun cq => ?_)
      · have hw := hw.1 cq
        refine m_iinc hc 4 (x6 + 1) [(6, .int (x6 + 1)), (0, .ref G.2.2.1), (1, .int x1), (4, .int x4), (5, .int x5)] dX12_common_160 rfl rfl (Nat.le_of_ble_eq_true rfl) rfl ?_
        refine m_goto hc 125 dX12_common_163 rfl ?_
        refine m_sub [1, 2, 3, 4, 0] rfl ?_
        exact h125 x1 x4 x5 (x6 + 1) R hw
      · have hw := hw.2 cq
        refine m_aload_n hc 0 dX12_common_142 rfl rfl ?_
        refine m_iload hc 4 dX12_common_143 rfl ?_
        refine m_iconst hc 0 dX12_common_145 (by decide) ?_
        refine m_iconst hc 0 dX12_common_146 (by decide) ?_
        refine m_aload_n hc 0 dX12_common_147 rfl rfl ?_
        refine r_geta hc hr 15 dX12_common_148 lf_X12_49 (Nat.le_of_ble_eq_true rfl) rfl ?_
        refine m_iload hc 4 dX12_common_151 rfl ?_
        obtain ⟨hi, hw⟩ := hw
        refine r_iald hc hr (i := 11) (f := 15) rfl hi dX12_common_153 ?_
        refine m_iload hc 3 dX12_common_154 rfl ?_
        refine m_imul hc dX12_common_156 ?_
        refine r_callVv hc hr mt_gathers rfl lm_X12_152 (ok_gathers hok hw) (Nat.le_of_ble_eq_true rfl) dX12_common_157 rfl (rest := []) rfl (Nat.le_of_ble_eq_true rfl) (fun r2 R2 hw => ?_)
        refine m_iinc hc 4 (x6 + 1) [(6, .int (x6 + 1)), (0, .ref G.2.2.1), (1, .int x1), (4, .int x4), (5, .int x5)] dX12_common_160 rfl rfl (Nat.le_of_ble_eq_true rfl) rfl ?_
        refine m_goto hc 125 dX12_common_163 rfl ?_
        refine m_sub [1, 2, 3, 4, 0] rfl ?_
        exact h125 x1 x4 x5 (x6 + 1) R2 hw
def wb_common_43 (K18 : Int32 → RS → Prop) (K43 : Int32 → Int32 → RS → Prop) (K : Int32 → RS → Prop) (x1 x4 : Int32) (R : RS) : Prop := (41 ≤ x4 → K18 x1 R) ∧ (¬ (41 ≤ x4) → vp_in x4 41 ∧ ∀ v1 : Int32, v1 = (R 15 (Int32.toNatClampNeg x4)) → vp_in x4 41 ∧ vp_in x4 41 ∧ vp_in x4 41 ∧ K43 x1 (x4 + 1) (up (up R 15 (Int32.toNatClampNeg x4) (R 16 (Int32.toNatClampNeg x4))) 16 (Int32.toNatClampNeg x4) v1))
def wl_common_43 (K18 : Int32 → RS → Prop) (K : Int32 → RS → Prop) : Nat → Int32 → Int32 → RS → Prop
  | 0 => fun _ _ _ => False
  | nn + 1 => wb_common_43 K18 (wl_common_43 K18 K nn) K
set_option maxHeartbeats 4000000 in
set_option maxRecDepth 100000 in
theorem l_common_43 {G : RG} {X : Fx} {K : Int32 → RS → Prop} (hok : okG G) (hc : Cx X RX12 cX12_common 7) (hr : Cr G 3 (some .boolean) K X) (K18 : Int32 → RS → Prop) (h18 : ∀ (x1 : Int32) (R : RS), K18 x1 R → MR G X 7 R 18 [(0, .ref G.2.2.1), (1, .int x1)] []) : ∀ (nn : Nat) (x1 x4 : Int32) (R : RS), wl_common_43 K18 K nn x1 x4 R → MR G X 7 R 43 [(0, .ref G.2.2.1), (1, .int x1), (4, .int x4)] [] := by
  intro nn
  induction nn with
  | zero => intro x1 x4 R hw; exact False.elim hw
  | succ nn ih =>
    intro x1 x4 R hw
    have hw : wb_common_43 K18 (wl_common_43 K18 K nn) K x1 x4 R := hw
    have h43 := ih
    generalize wl_common_43 K18 K nn = K43 at hw h43
    unfold wb_common_43 at hw
    refine m_iload hc 2 dX12_common_43 rfl ?_
    refine m_bipush hc 41 dX12_common_45 (by decide) ?_
    refine m_icmp_ge hc 88 dX12_common_47 rfl (fun cq => ?_) (fun cq => ?_)
    · have hw := hw.1 cq
      refine m_goto hc 18 dX12_common_88 rfl ?_
      refine m_sub [0, 1] rfl ?_
      exact h18 x1 R hw
    · have hw := hw.2 cq
      refine m_aload_n hc 0 dX12_common_50 rfl rfl ?_
      refine r_geta hc hr 15 dX12_common_51 lf_X12_49 (Nat.le_of_ble_eq_true rfl) rfl ?_
      refine m_iload hc 2 dX12_common_54 rfl ?_
      obtain ⟨hi, hw⟩ := hw
      refine r_iald hc hr (i := 11) (f := 15) rfl hi dX12_common_56 ?_
      refine m_topi (fun v1 e_v1 => ?_)
      have hw := hw v1 e_v1
      refine m_istore hc [(5, .int v1), (0, .ref G.2.2.1), (1, .int x1), (4, .int x4)] dX12_common_57 (Nat.le_of_ble_eq_true rfl) rfl ?_
      refine m_aload_n hc 1 dX12_common_59 rfl rfl ?_
      refine r_geta hc hr 15 dX12_common_60 lf_X12_49 (Nat.le_of_ble_eq_true rfl) rfl ?_
      refine m_iload hc 3 dX12_common_63 rfl ?_
      refine m_aload_n hc 1 dX12_common_65 rfl rfl ?_
      refine r_geta hc hr 16 dX12_common_66 lf_X12_52 (Nat.le_of_ble_eq_true rfl) rfl ?_
      refine m_iload hc 3 dX12_common_69 rfl ?_
      obtain ⟨hi, hw⟩ := hw
      refine r_iald hc hr (i := 12) (f := 16) rfl hi dX12_common_71 ?_
      obtain ⟨hi, hw⟩ := hw
      refine r_iast hc hr (i := 11) (f := 15) rfl hi dX12_common_72 ?_
      refine m_aload_n hc 1 dX12_common_73 rfl rfl ?_
      refine r_geta hc hr 16 dX12_common_74 lf_X12_52 (Nat.le_of_ble_eq_true rfl) rfl ?_
      refine m_iload hc 3 dX12_common_77 rfl ?_
      refine m_iload hc 0 dX12_common_79 rfl ?_
      obtain ⟨hi, hw⟩ := hw
      refine r_iast hc hr (i := 12) (f := 16) rfl hi dX12_common_81 ?_
      refine m_iinc hc 3 (x4 + 1) [(4, .int (x4 + 1)), (5, .int v1), (0, .ref G.2.2.1), (1, .int x1)] dX12_common_82 rfl rfl (Nat.le_of_ble_eq_true rfl) rfl ?_
      refine m_goto hc 43 dX12_common_85 rfl ?_
      refine m_sub [2, 3, 0] rfl ?_
      exact h43 x1 (x4 + 1) (up (up R 15 (Int32.toNatClampNeg x4) (R 16 (Int32.toNatClampNeg x4))) 16 (Int32.toNatClampNeg x4) v1) hw
def wb_common_18 (K18 : Int32 → RS → Prop) (K : Int32 → RS → Prop) (x1 : Int32) (R : RS) : Prop := wp_topOf 16 R (fun r1 R1 => (r1 < 0 → wp_topOf 15 R1 (fun r2 R2 => (0 ≤ r2 → vp_in r2 41 ∧ wp_inverse (R2 15 (Int32.toNatClampNeg r2)) R2 (fun r3 R3 => ∃ nn : Nat, wl_common_125 K nn x1 r2 r3 0 R3)) ∧ (¬ (0 ≤ r2) → ∃ nn : Nat, wl_common_125 K nn x1 r2 0 0 R2))) ∧ (¬ (r1 < 0) → wp_leaves 15 16 R1 (fun r4 R4 => ∃ nn : Nat, wl_common_43 K18 K nn x1 0 R4)))
def wl_common_18 (K : Int32 → RS → Prop) : Nat → Int32 → RS → Prop
  | 0 => fun _ _ => False
  | nn + 1 => wb_common_18 (wl_common_18 K nn) K
set_option maxHeartbeats 4000000 in
set_option maxRecDepth 100000 in
theorem l_common_18 {G : RG} {X : Fx} {K : Int32 → RS → Prop} (hok : okG G) (hc : Cx X RX12 cX12_common 7) (hr : Cr G 3 (some .boolean) K X) : ∀ (nn : Nat) (x1 : Int32) (R : RS), wl_common_18 K nn x1 R → MR G X 7 R 18 [(0, .ref G.2.2.1), (1, .int x1)] [] := by
  intro nn
  induction nn with
  | zero => intro x1 R hw; exact False.elim hw
  | succ nn ih =>
    intro x1 R hw
    have hw : wb_common_18 (wl_common_18 K nn) K x1 R := hw
    have h18 := ih
    generalize wl_common_18 K nn = K18 at hw h18
    unfold wb_common_18 at hw
    refine m_aload_n hc 0 dX12_common_18 rfl rfl ?_
    refine r_geta hc hr 16 dX12_common_19 lf_X12_52 (Nat.le_of_ble_eq_true rfl) rfl ?_
    refine r_callSi hc hr mt_topOf lm_X12_206 (ok_topOf hok hw) (Nat.le_of_ble_eq_true rfl) dX12_common_22 rfl (rest := []) rfl (Nat.le_of_ble_eq_true rfl) (fun r1 R1 hw => ?_)
    refine m_if_lt hc 91 dX12_common_25 rfl (fun cq => ?_) (fun cq => ?_)
    · have hw := hw.1 cq
      refine m_aload_n hc 0 dX12_common_91 rfl rfl ?_
      refine r_geta hc hr 15 dX12_common_92 lf_X12_49 (Nat.le_of_ble_eq_true rfl) rfl ?_
      refine r_callSi hc hr mt_topOf lm_X12_206 (ok_topOf hok hw) (Nat.le_of_ble_eq_true rfl) dX12_common_95 rfl (rest := []) rfl (Nat.le_of_ble_eq_true rfl) (fun r2 R2 hw => ?_)
      refine m_istore hc [(4, .int r2), (0, .ref G.2.2.1), (1, .int x1)] dX12_common_98 (Nat.le_of_ble_eq_true rfl) rfl ?_
      refine m_iload hc 0 dX12_common_100 rfl ?_
      refine m_if_ge hc 109 dX12_common_102 rfl (fun cq => ?_) (fun cq => ?_)
      · have hw := hw.1 cq
        refine m_aload_n hc 1 dX12_common_109 rfl rfl ?_
        refine m_aload_n hc 1 dX12_common_110 rfl rfl ?_
        refine r_geta hc hr 15 dX12_common_111 lf_X12_49 (Nat.le_of_ble_eq_true rfl) rfl ?_
        refine m_iload hc 0 dX12_common_114 rfl ?_
        obtain ⟨hi, hw⟩ := hw
        refine r_iald hc hr (i := 11) (f := 15) rfl hi dX12_common_116 ?_
        refine r_callVi hc hr mt_inverse rfl lm_X12_210 (ok_inverse hok hw) (Nat.le_of_ble_eq_true rfl) dX12_common_117 rfl (rest := []) rfl (Nat.le_of_ble_eq_true rfl) (fun r3 R3 hw => ?_)
        refine m_istore hc [(5, .int r3), (4, .int r2), (0, .ref G.2.2.1), (1, .int x1)] dX12_common_120 (Nat.le_of_ble_eq_true rfl) rfl ?_
        refine m_iconst hc 0 dX12_common_122 (by decide) ?_
        refine m_istore hc [(6, .int 0), (5, .int r3), (4, .int r2), (0, .ref G.2.2.1), (1, .int x1)] dX12_common_123 (Nat.le_of_ble_eq_true rfl) rfl ?_
        refine m_sub [3, 4, 2, 1, 0] rfl ?_
        obtain ⟨nn, hw⟩ := hw
        exact l_common_125 hok hc hr nn x1 r2 r3 0 R3 hw
      · have hw := hw.2 cq
        refine m_iconst hc 0 dX12_common_105 (by decide) ?_
        refine m_goto hc 120 dX12_common_106 rfl ?_
        refine m_istore hc [(5, .int 0), (4, .int r2), (0, .ref G.2.2.1), (1, .int x1)] dX12_common_120 (Nat.le_of_ble_eq_true rfl) rfl ?_
        refine m_iconst hc 0 dX12_common_122 (by decide) ?_
        refine m_istore hc [(6, .int 0), (5, .int 0), (4, .int r2), (0, .ref G.2.2.1), (1, .int x1)] dX12_common_123 (Nat.le_of_ble_eq_true rfl) rfl ?_
        refine m_sub [3, 4, 2, 1, 0] rfl ?_
        obtain ⟨nn, hw⟩ := hw
        exact l_common_125 hok hc hr nn x1 r2 0 0 R2 hw
    · have hw := hw.2 cq
      refine m_aload_n hc 0 dX12_common_28 rfl rfl ?_
      refine m_aload_n hc 0 dX12_common_29 rfl rfl ?_
      refine r_geta hc hr 15 dX12_common_30 lf_X12_49 (Nat.le_of_ble_eq_true rfl) rfl ?_
      refine m_aload_n hc 0 dX12_common_33 rfl rfl ?_
      refine r_geta hc hr 16 dX12_common_34 lf_X12_52 (Nat.le_of_ble_eq_true rfl) rfl ?_
      refine r_callVv hc hr mt_leaves rfl lm_X12_217 (ok_leaves hok hw) (Nat.le_of_ble_eq_true rfl) dX12_common_37 rfl (rest := []) rfl (Nat.le_of_ble_eq_true rfl) (fun r4 R4 hw => ?_)
      refine m_iconst hc 0 dX12_common_40 (by decide) ?_
      refine m_istore hc [(4, .int 0), (0, .ref G.2.2.1), (1, .int x1)] dX12_common_41 (Nat.le_of_ble_eq_true rfl) rfl ?_
      refine m_sub [1, 2, 0] rfl ?_
      obtain ⟨nn, hw⟩ := hw
      exact l_common_43 hok hc hr K18 h18 nn x1 0 R4 hw
def wp_common (x1 x2 x3 : Int32) (R : RS) (K : Int32 → RS → Prop) : Prop := wp_spread x2 15 R (fun r1 R1 => wp_spread x3 16 R1 (fun r2 R2 => ∃ nn : Nat, wl_common_18 K nn x1 R2))
set_option maxHeartbeats 4000000 in
set_option maxRecDepth 100000 in
theorem ok_common {G : RG} (hok : okG G) {x1 : Int32} {x2 : Int32} {x3 : Int32} {R : RS} {K : Int32 → RS → Prop} (hw : wp_common x1 x2 x3 R K) : CF 3 yX12_common cX12_common 7 (some .boolean) [.ref G.2.2.1, .int x1, .int x2, .int x3] G R K := by
  refine CF.of (by decide +kernel) hok (Nat.le_of_ble_eq_true rfl) (fun X hc hr => ?_)
  show MR G X 7 R 0 [(0, .ref G.2.2.1), (1, .int x1), (2, .int x2), (3, .int x3)] []
  unfold wp_common at hw
  refine m_aload_n hc 0 dX12_common_0 rfl rfl ?_
  refine m_iload_n hc 2 dX12_common_1 rfl rfl ?_
  refine m_aload_n hc 0 dX12_common_2 rfl rfl ?_
  refine r_geta hc hr 15 dX12_common_3 lf_X12_49 (Nat.le_of_ble_eq_true rfl) rfl ?_
  refine r_callVv hc hr mt_spread rfl lm_X12_213 (ok_spread hok hw) (Nat.le_of_ble_eq_true rfl) dX12_common_6 rfl (rest := []) rfl (Nat.le_of_ble_eq_true rfl) (fun r1 R1 hw => ?_)
  refine m_aload_n hc 0 dX12_common_9 rfl rfl ?_
  refine m_iload_n hc 3 dX12_common_10 rfl rfl ?_
  refine m_aload_n hc 0 dX12_common_11 rfl rfl ?_
  refine r_geta hc hr 16 dX12_common_12 lf_X12_52 (Nat.le_of_ble_eq_true rfl) rfl ?_
  refine r_callVv hc hr mt_spread rfl lm_X12_213 (ok_spread hok hw) (Nat.le_of_ble_eq_true rfl) dX12_common_15 rfl (rest := []) rfl (Nat.le_of_ble_eq_true rfl) (fun r2 R2 hw => ?_)
  refine m_sub [0, 1] rfl ?_
  obtain ⟨nn, hw⟩ := hw
  exact l_common_18 hok hc hr nn x1 R2 hw
def wb_layWhole_26 (K26 : Int32 → Int32 → RS → Prop) (K : Int32 → RS → Prop) (x1 x2 : Int32) (R : RS) : Prop := vp_in x1 56 ∧ ((R 2 (Int32.toNatClampNeg x1)) ≤ x2 → K 0 R) ∧ (¬ ((R 2 (Int32.toNatClampNeg x1)) ≤ x2) → wp_keyAt x1 x2 R (fun r1 R1 => wp_numAt x1 x2 R1 (fun r2 R2 => vp_in r1 68921 ∧ K26 x1 (x2 + 1) (up R2 17 (Int32.toNatClampNeg r1) r2))))
def wl_layWhole_26 (K : Int32 → RS → Prop) : Nat → Int32 → Int32 → RS → Prop
  | 0 => fun _ _ _ => False
  | nn + 1 => wb_layWhole_26 (wl_layWhole_26 K nn) K
set_option maxHeartbeats 4000000 in
set_option maxRecDepth 100000 in
theorem l_layWhole_26 {G : RG} {X : Fx} {K : Int32 → RS → Prop} (hok : okG G) (hc : Cx X RX12 cX12_layWhole 3) (hr : Cr G 1 none K X) : ∀ (nn : Nat) (x1 x2 : Int32) (R : RS), wl_layWhole_26 K nn x1 x2 R → MR G X 3 R 26 [(0, .ref G.2.2.1), (1, .int x1), (2, .int x2)] [] := by
  intro nn
  induction nn with
  | zero => intro x1 x2 R hw; exact False.elim hw
  | succ nn ih =>
    intro x1 x2 R hw
    have hw : wb_layWhole_26 (wl_layWhole_26 K nn) K x1 x2 R := hw
    have h26 := ih
    generalize wl_layWhole_26 K nn = K26 at hw h26
    unfold wb_layWhole_26 at hw
    refine m_iload_n hc 2 dX12_layWhole_26 rfl rfl ?_
    refine m_aload_n hc 0 dX12_layWhole_27 rfl rfl ?_
    refine r_geta hc hr 2 dX12_layWhole_28 lf_X12_13 (Nat.le_of_ble_eq_true rfl) rfl ?_
    refine m_iload_n hc 1 dX12_layWhole_31 rfl rfl ?_
    obtain ⟨hi, hw⟩ := hw
    refine r_iald hc hr (i := 0) (f := 2) rfl hi dX12_layWhole_32 ?_
    refine m_icmp_ge hc 59 dX12_layWhole_33 rfl (fun cq => ?_) (fun cq => ?_)
    · have hw := hw.1 cq
      exact r_vret hc hr dX12_layWhole_59 hw
    · have hw := hw.2 cq
      refine m_aload_n hc 0 dX12_layWhole_36 rfl rfl ?_
      refine r_geta hc hr 17 dX12_layWhole_37 lf_X12_56 (Nat.le_of_ble_eq_true rfl) rfl ?_
      refine m_aload_n hc 0 dX12_layWhole_40 rfl rfl ?_
      refine m_iload_n hc 1 dX12_layWhole_41 rfl rfl ?_
      refine m_iload_n hc 2 dX12_layWhole_42 rfl rfl ?_
      refine r_callVi hc hr mt_keyAt rfl lm_X12_123 (ok_keyAt hok hw) (Nat.le_of_ble_eq_true rfl) dX12_layWhole_43 rfl (rest := [.ref (G.2.2.2 17)]) rfl (Nat.le_of_ble_eq_true rfl) (fun r1 R1 hw => ?_)
      refine m_aload_n hc 0 dX12_layWhole_46 rfl rfl ?_
      refine m_iload_n hc 1 dX12_layWhole_47 rfl rfl ?_
      refine m_iload_n hc 2 dX12_layWhole_48 rfl rfl ?_
      refine r_callVi hc hr mt_numAt rfl lm_X12_126 (ok_numAt hok hw) (Nat.le_of_ble_eq_true rfl) dX12_layWhole_49 rfl (rest := [.int r1, .ref (G.2.2.2 17)]) rfl (Nat.le_of_ble_eq_true rfl) (fun r2 R2 hw => ?_)
      obtain ⟨hi, hw⟩ := hw
      refine r_iast hc hr (i := 13) (f := 17) rfl hi dX12_layWhole_52 ?_
      refine m_iinc hc 2 (x2 + 1) [(2, .int (x2 + 1)), (0, .ref G.2.2.1), (1, .int x1)] dX12_layWhole_53 rfl rfl (Nat.le_of_ble_eq_true rfl) rfl ?_
      refine m_goto hc 26 dX12_layWhole_56 rfl ?_
      refine m_sub [1, 2, 0] rfl ?_
      exact h26 x1 (x2 + 1) (up R2 17 (Int32.toNatClampNeg r1) r2) hw
def wb_layWhole_2 (K2 : Int32 → Int32 → RS → Prop) (K : Int32 → RS → Prop) (x1 x2 : Int32) (R : RS) : Prop := (68921 ≤ x2 → ∃ nn : Nat, wl_layWhole_26 K nn x1 0 R) ∧ (¬ (68921 ≤ x2) → vp_in x2 68921 ∧ K2 x1 (x2 + 1) (up R 17 (Int32.toNatClampNeg x2) 0))
def wl_layWhole_2 (K : Int32 → RS → Prop) : Nat → Int32 → Int32 → RS → Prop
  | 0 => fun _ _ _ => False
  | nn + 1 => wb_layWhole_2 (wl_layWhole_2 K nn) K
set_option maxHeartbeats 4000000 in
set_option maxRecDepth 100000 in
theorem l_layWhole_2 {G : RG} {X : Fx} {K : Int32 → RS → Prop} (hok : okG G) (hc : Cx X RX12 cX12_layWhole 3) (hr : Cr G 1 none K X) : ∀ (nn : Nat) (x1 x2 : Int32) (R : RS), wl_layWhole_2 K nn x1 x2 R → MR G X 3 R 2 [(0, .ref G.2.2.1), (1, .int x1), (2, .int x2)] [] := by
  intro nn
  induction nn with
  | zero => intro x1 x2 R hw; exact False.elim hw
  | succ nn ih =>
    intro x1 x2 R hw
    have hw : wb_layWhole_2 (wl_layWhole_2 K nn) K x1 x2 R := hw
    have h2 := ih
    generalize wl_layWhole_2 K nn = K2 at hw h2
    unfold wb_layWhole_2 at hw
    refine m_iload_n hc 2 dX12_layWhole_2 rfl rfl ?_
    refine m_aload_n hc 0 dX12_layWhole_3 rfl rfl ?_
    refine r_geta hc hr 17 dX12_layWhole_4 lf_X12_56 (Nat.le_of_ble_eq_true rfl) rfl ?_
    refine r_alen hc hr (i := 13) (f := 17) (v := 68921) rfl rfl dX12_layWhole_7 ?_
    refine m_icmp_ge hc 24 dX12_layWhole_8 rfl (fun cq => ?_) (fun cq => ?_)
    · have hw := hw.1 cq
      refine m_iconst hc 0 dX12_layWhole_24 (by decide) ?_
      refine m_istore_n hc [(2, .int 0), (0, .ref G.2.2.1), (1, .int x1)] dX12_layWhole_25 rfl (Nat.le_of_ble_eq_true rfl) rfl ?_
      refine m_sub [1, 2, 0] rfl ?_
      obtain ⟨nn, hw⟩ := hw
      exact l_layWhole_26 hok hc hr nn x1 0 R hw
    · have hw := hw.2 cq
      refine m_aload_n hc 0 dX12_layWhole_11 rfl rfl ?_
      refine r_geta hc hr 17 dX12_layWhole_12 lf_X12_56 (Nat.le_of_ble_eq_true rfl) rfl ?_
      refine m_iload_n hc 2 dX12_layWhole_15 rfl rfl ?_
      refine m_iconst hc 0 dX12_layWhole_16 (by decide) ?_
      obtain ⟨hi, hw⟩ := hw
      refine r_iast hc hr (i := 13) (f := 17) rfl hi dX12_layWhole_17 ?_
      refine m_iinc hc 2 (x2 + 1) [(2, .int (x2 + 1)), (0, .ref G.2.2.1), (1, .int x1)] dX12_layWhole_18 rfl rfl (Nat.le_of_ble_eq_true rfl) rfl ?_
      refine m_goto hc 2 dX12_layWhole_21 rfl ?_
      refine m_sub [1, 2, 0] rfl ?_
      exact h2 x1 (x2 + 1) (up R 17 (Int32.toNatClampNeg x2) 0) hw
def wp_layWhole (x1 : Int32) (R : RS) (K : Int32 → RS → Prop) : Prop := ∃ nn : Nat, wl_layWhole_2 K nn x1 0 R
set_option maxHeartbeats 4000000 in
set_option maxRecDepth 100000 in
theorem ok_layWhole {G : RG} (hok : okG G) {x1 : Int32} {R : RS} {K : Int32 → RS → Prop} (hw : wp_layWhole x1 R K) : CF 1 yX12_layWhole cX12_layWhole 3 none [.ref G.2.2.1, .int x1] G R K := by
  refine CF.of (by decide +kernel) hok (Nat.le_of_ble_eq_true rfl) (fun X hc hr => ?_)
  show MR G X 3 R 0 [(0, .ref G.2.2.1), (1, .int x1)] []
  unfold wp_layWhole at hw
  refine m_iconst hc 0 dX12_layWhole_0 (by decide) ?_
  refine m_istore_n hc [(2, .int 0), (0, .ref G.2.2.1), (1, .int x1)] dX12_layWhole_1 rfl (Nat.le_of_ble_eq_true rfl) rfl ?_
  refine m_sub [1, 2, 0] rfl ?_
  obtain ⟨nn, hw⟩ := hw
  exact l_layWhole_2 hok hc hr nn x1 0 R hw
def wb_layValues_23 (K2 : Int32 → Int32 → RS → Prop) (K12 : Int32 → Int32 → Int32 → RS → Prop) (K23 : Int32 → Int32 → Int32 → Int32 → RS → Prop) (K : Int32 → RS → Prop) (x1 x2 x3 x4 : Int32) (R : RS) : Prop := ((R 0 1) ≤ x4 → K12 x1 x2 (x3 + 1) R) ∧ (¬ ((R 0 1) ≤ x4) → wp_valueOf x1 x2 x3 x4 R (fun r1 R1 => vp_in ((((x2 * (R 0 1)) + x3) * (R 0 1)) + x4) 2197 ∧ K23 x1 x2 x3 (x4 + 1) (up R1 21 (Int32.toNatClampNeg ((((x2 * (R 0 1)) + x3) * (R 0 1)) + x4)) r1)))
def wl_layValues_23 (K2 : Int32 → Int32 → RS → Prop) (K12 : Int32 → Int32 → Int32 → RS → Prop) (K : Int32 → RS → Prop) : Nat → Int32 → Int32 → Int32 → Int32 → RS → Prop
  | 0 => fun _ _ _ _ _ => False
  | nn + 1 => wb_layValues_23 K2 K12 (wl_layValues_23 K2 K12 K nn) K
set_option maxHeartbeats 4000000 in
set_option maxRecDepth 100000 in
theorem l_layValues_23 {G : RG} {X : Fx} {K : Int32 → RS → Prop} (hok : okG G) (hc : Cx X RX12 cX12_layValues 5) (hr : Cr G 2 none K X) (K2 : Int32 → Int32 → RS → Prop) (K12 : Int32 → Int32 → Int32 → RS → Prop) (h2 : ∀ (x1 x2 : Int32) (R : RS), K2 x1 x2 R → MR G X 5 R 2 [(0, .ref G.2.2.1), (1, .int x1), (2, .int x2)] []) (h12 : ∀ (x1 x2 x3 : Int32) (R : RS), K12 x1 x2 x3 R → MR G X 5 R 12 [(0, .ref G.2.2.1), (1, .int x1), (2, .int x2), (3, .int x3)] []) : ∀ (nn : Nat) (x1 x2 x3 x4 : Int32) (R : RS), wl_layValues_23 K2 K12 K nn x1 x2 x3 x4 R → MR G X 5 R 23 [(0, .ref G.2.2.1), (1, .int x1), (2, .int x2), (3, .int x3), (4, .int x4)] [] := by
  intro nn
  induction nn with
  | zero => intro x1 x2 x3 x4 R hw; exact False.elim hw
  | succ nn ih =>
    intro x1 x2 x3 x4 R hw
    have hw : wb_layValues_23 K2 K12 (wl_layValues_23 K2 K12 K nn) K x1 x2 x3 x4 R := hw
    have h23 := ih
    generalize wl_layValues_23 K2 K12 K nn = K23 at hw h23
    unfold wb_layValues_23 at hw
    refine m_iload hc 4 dX12_layValues_23 rfl ?_
    refine m_aload_n hc 0 dX12_layValues_25 rfl rfl ?_
    refine r_geti hc hr 1 dX12_layValues_26 lf_X12_9 (Nat.le_of_ble_eq_true rfl) rfl ?_
    refine m_icmp_ge hc 68 dX12_layValues_29 rfl (fun cq => ?_) (fun cq => ?_)
    · have hw := hw.1 cq
      refine m_iinc hc 3 (x3 + 1) [(3, .int (x3 + 1)), (0, .ref G.2.2.1), (1, .int x1), (2, .int x2), (4, .int x4)] dX12_layValues_68 rfl rfl (Nat.le_of_ble_eq_true rfl) rfl ?_
      refine m_goto hc 12 dX12_layValues_71 rfl ?_
      refine m_sub [1, 2, 3, 0] rfl ?_
      exact h12 x1 x2 (x3 + 1) R hw
    · have hw := hw.2 cq
      refine m_aload_n hc 0 dX12_layValues_32 rfl rfl ?_
      refine r_geta hc hr 21 dX12_layValues_33 lf_X12_68 (Nat.le_of_ble_eq_true rfl) rfl ?_
      refine m_iload_n hc 2 dX12_layValues_36 rfl rfl ?_
      refine m_aload_n hc 0 dX12_layValues_37 rfl rfl ?_
      refine r_geti hc hr 1 dX12_layValues_38 lf_X12_9 (Nat.le_of_ble_eq_true rfl) rfl ?_
      refine m_imul hc dX12_layValues_41 ?_
      refine m_iload_n hc 3 dX12_layValues_42 rfl rfl ?_
      refine m_iadd hc dX12_layValues_43 ?_
      refine m_aload_n hc 0 dX12_layValues_44 rfl rfl ?_
      refine r_geti hc hr 1 dX12_layValues_45 lf_X12_9 (Nat.le_of_ble_eq_true rfl) rfl ?_
      refine m_imul hc dX12_layValues_48 ?_
      refine m_iload hc 4 dX12_layValues_49 rfl ?_
      refine m_iadd hc dX12_layValues_51 ?_
      refine m_aload_n hc 0 dX12_layValues_52 rfl rfl ?_
      refine m_iload_n hc 1 dX12_layValues_53 rfl rfl ?_
      refine m_iload_n hc 2 dX12_layValues_54 rfl rfl ?_
      refine m_iload_n hc 3 dX12_layValues_55 rfl rfl ?_
      refine m_iload hc 4 dX12_layValues_56 rfl ?_
      refine r_callVi hc hr mt_valueOf rfl lm_X12_184 (ok_valueOf hok hw) (Nat.le_of_ble_eq_true rfl) dX12_layValues_58 rfl (rest := [.int ((((x2 * (R 0 1)) + x3) * (R 0 1)) + x4), .ref (G.2.2.2 21)]) rfl (Nat.le_of_ble_eq_true rfl) (fun r1 R1 hw => ?_)
      obtain ⟨hi, hw⟩ := hw
      refine r_iast hc hr (i := 17) (f := 21) rfl hi dX12_layValues_61 ?_
      refine m_iinc hc 4 (x4 + 1) [(4, .int (x4 + 1)), (0, .ref G.2.2.1), (1, .int x1), (2, .int x2), (3, .int x3)] dX12_layValues_62 rfl rfl (Nat.le_of_ble_eq_true rfl) rfl ?_
      refine m_goto hc 23 dX12_layValues_65 rfl ?_
      refine m_sub [1, 2, 3, 4, 0] rfl ?_
      exact h23 x1 x2 x3 (x4 + 1) (up R1 21 (Int32.toNatClampNeg ((((x2 * (R 0 1)) + x3) * (R 0 1)) + x4)) r1) hw
def wb_layValues_12 (K2 : Int32 → Int32 → RS → Prop) (K12 : Int32 → Int32 → Int32 → RS → Prop) (K : Int32 → RS → Prop) (x1 x2 x3 : Int32) (R : RS) : Prop := ((R 0 1) ≤ x3 → K2 x1 (x2 + 1) R) ∧ (¬ ((R 0 1) ≤ x3) → ∃ nn : Nat, wl_layValues_23 K2 K12 K nn x1 x2 x3 0 R)
def wl_layValues_12 (K2 : Int32 → Int32 → RS → Prop) (K : Int32 → RS → Prop) : Nat → Int32 → Int32 → Int32 → RS → Prop
  | 0 => fun _ _ _ _ => False
  | nn + 1 => wb_layValues_12 K2 (wl_layValues_12 K2 K nn) K
set_option maxHeartbeats 4000000 in
set_option maxRecDepth 100000 in
theorem l_layValues_12 {G : RG} {X : Fx} {K : Int32 → RS → Prop} (hok : okG G) (hc : Cx X RX12 cX12_layValues 5) (hr : Cr G 2 none K X) (K2 : Int32 → Int32 → RS → Prop) (h2 : ∀ (x1 x2 : Int32) (R : RS), K2 x1 x2 R → MR G X 5 R 2 [(0, .ref G.2.2.1), (1, .int x1), (2, .int x2)] []) : ∀ (nn : Nat) (x1 x2 x3 : Int32) (R : RS), wl_layValues_12 K2 K nn x1 x2 x3 R → MR G X 5 R 12 [(0, .ref G.2.2.1), (1, .int x1), (2, .int x2), (3, .int x3)] [] := by
  intro nn
  induction nn with
  | zero => intro x1 x2 x3 R hw; exact False.elim hw
  | succ nn ih =>
    intro x1 x2 x3 R hw
    have hw : wb_layValues_12 K2 (wl_layValues_12 K2 K nn) K x1 x2 x3 R := hw
    have h12 := ih
    generalize wl_layValues_12 K2 K nn = K12 at hw h12
    unfold wb_layValues_12 at hw
    refine m_iload_n hc 3 dX12_layValues_12 rfl rfl ?_
    refine m_aload_n hc 0 dX12_layValues_13 rfl rfl ?_
    refine r_geti hc hr 1 dX12_layValues_14 lf_X12_9 (Nat.le_of_ble_eq_true rfl) rfl ?_
    refine m_icmp_ge hc 74 dX12_layValues_17 rfl (fun cq => ?_) (fun cq => ?_)
    · have hw := hw.1 cq
      refine m_iinc hc 2 (x2 + 1) [(2, .int (x2 + 1)), (0, .ref G.2.2.1), (1, .int x1), (3, .int x3)] dX12_layValues_74 rfl rfl (Nat.le_of_ble_eq_true rfl) rfl ?_
      refine m_goto hc 2 dX12_layValues_77 rfl ?_
      refine m_sub [1, 2, 0] rfl ?_
      exact h2 x1 (x2 + 1) R hw
    · have hw := hw.2 cq
      refine m_iconst hc 0 dX12_layValues_20 (by decide) ?_
      refine m_istore hc [(4, .int 0), (0, .ref G.2.2.1), (1, .int x1), (2, .int x2), (3, .int x3)] dX12_layValues_21 (Nat.le_of_ble_eq_true rfl) rfl ?_
      refine m_sub [1, 2, 3, 4, 0] rfl ?_
      obtain ⟨nn, hw⟩ := hw
      exact l_layValues_23 hok hc hr K2 K12 h2 h12 nn x1 x2 x3 0 R hw
def wb_layValues_2 (K2 : Int32 → Int32 → RS → Prop) (K : Int32 → RS → Prop) (x1 x2 : Int32) (R : RS) : Prop := ((R 0 1) ≤ x2 → K 0 R) ∧ (¬ ((R 0 1) ≤ x2) → ∃ nn : Nat, wl_layValues_12 K2 K nn x1 x2 0 R)
def wl_layValues_2 (K : Int32 → RS → Prop) : Nat → Int32 → Int32 → RS → Prop
  | 0 => fun _ _ _ => False
  | nn + 1 => wb_layValues_2 (wl_layValues_2 K nn) K
set_option maxHeartbeats 4000000 in
set_option maxRecDepth 100000 in
theorem l_layValues_2 {G : RG} {X : Fx} {K : Int32 → RS → Prop} (hok : okG G) (hc : Cx X RX12 cX12_layValues 5) (hr : Cr G 2 none K X) : ∀ (nn : Nat) (x1 x2 : Int32) (R : RS), wl_layValues_2 K nn x1 x2 R → MR G X 5 R 2 [(0, .ref G.2.2.1), (1, .int x1), (2, .int x2)] [] := by
  intro nn
  induction nn with
  | zero => intro x1 x2 R hw; exact False.elim hw
  | succ nn ih =>
    intro x1 x2 R hw
    have hw : wb_layValues_2 (wl_layValues_2 K nn) K x1 x2 R := hw
    have h2 := ih
    generalize wl_layValues_2 K nn = K2 at hw h2
    unfold wb_layValues_2 at hw
    refine m_iload_n hc 2 dX12_layValues_2 rfl rfl ?_
    refine m_aload_n hc 0 dX12_layValues_3 rfl rfl ?_
    refine r_geti hc hr 1 dX12_layValues_4 lf_X12_9 (Nat.le_of_ble_eq_true rfl) rfl ?_
    refine m_icmp_ge hc 80 dX12_layValues_7 rfl (fun cq => ?_) (fun cq => ?_)
    · have hw := hw.1 cq
      exact r_vret hc hr dX12_layValues_80 hw
    · have hw := hw.2 cq
      refine m_iconst hc 0 dX12_layValues_10 (by decide) ?_
      refine m_istore_n hc [(3, .int 0), (0, .ref G.2.2.1), (1, .int x1), (2, .int x2)] dX12_layValues_11 rfl (Nat.le_of_ble_eq_true rfl) rfl ?_
      refine m_sub [1, 2, 3, 0] rfl ?_
      obtain ⟨nn, hw⟩ := hw
      exact l_layValues_12 hok hc hr K2 h2 nn x1 x2 0 R hw
def wp_layValues (x1 : Int32) (R : RS) (K : Int32 → RS → Prop) : Prop := ∃ nn : Nat, wl_layValues_2 K nn x1 0 R
set_option maxHeartbeats 4000000 in
set_option maxRecDepth 100000 in
theorem ok_layValues {G : RG} (hok : okG G) {x1 : Int32} {R : RS} {K : Int32 → RS → Prop} (hw : wp_layValues x1 R K) : CF 2 yX12_layValues cX12_layValues 5 none [.ref G.2.2.1, .int x1] G R K := by
  refine CF.of (by decide +kernel) hok (Nat.le_of_ble_eq_true rfl) (fun X hc hr => ?_)
  show MR G X 5 R 0 [(0, .ref G.2.2.1), (1, .int x1)] []
  unfold wp_layValues at hw
  refine m_iconst hc 0 dX12_layValues_0 (by decide) ?_
  refine m_istore_n hc [(2, .int 0), (0, .ref G.2.2.1), (1, .int x1)] dX12_layValues_1 rfl (Nat.le_of_ble_eq_true rfl) rfl ?_
  refine m_sub [1, 2, 0] rfl ?_
  obtain ⟨nn, hw⟩ := hw
  exact l_layValues_2 hok hc hr nn x1 0 R hw
def wp_lines (R : RS) (K : Int32 → RS → Prop) : Prop := K (((((R 0 1) * (R 0 1)) * (R 0 1)) + ((R 0 1) * (R 0 1))) + (R 0 1)) R
set_option maxHeartbeats 4000000 in
set_option maxRecDepth 100000 in
theorem ok_lines {G : RG} (hok : okG G) {R : RS} {K : Int32 → RS → Prop} (hw : wp_lines R K) : CF 0 yX12_lines cX12_lines 1 (some .int) [.ref G.2.2.1] G R K := by
  refine CF.of (by decide +kernel) hok (Nat.le_of_ble_eq_true rfl) (fun X hc hr => ?_)
  show MR G X 1 R 0 [(0, .ref G.2.2.1)] []
  unfold wp_lines at hw
  refine m_aload_n hc 0 dX12_lines_0 rfl rfl ?_
  refine r_geti hc hr 1 dX12_lines_1 lf_X12_9 (Nat.le_of_ble_eq_true rfl) rfl ?_
  refine m_aload_n hc 0 dX12_lines_4 rfl rfl ?_
  refine r_geti hc hr 1 dX12_lines_5 lf_X12_9 (Nat.le_of_ble_eq_true rfl) rfl ?_
  refine m_imul hc dX12_lines_8 ?_
  refine m_aload_n hc 0 dX12_lines_9 rfl rfl ?_
  refine r_geti hc hr 1 dX12_lines_10 lf_X12_9 (Nat.le_of_ble_eq_true rfl) rfl ?_
  refine m_imul hc dX12_lines_13 ?_
  refine m_aload_n hc 0 dX12_lines_14 rfl rfl ?_
  refine r_geti hc hr 1 dX12_lines_15 lf_X12_9 (Nat.le_of_ble_eq_true rfl) rfl ?_
  refine m_aload_n hc 0 dX12_lines_18 rfl rfl ?_
  refine r_geti hc hr 1 dX12_lines_19 lf_X12_9 (Nat.le_of_ble_eq_true rfl) rfl ?_
  refine m_imul hc dX12_lines_22 ?_
  refine m_iadd hc dX12_lines_23 ?_
  refine m_aload_n hc 0 dX12_lines_24 rfl rfl ?_
  refine r_geti hc hr 1 dX12_lines_25 lf_X12_9 (Nat.le_of_ble_eq_true rfl) rfl ?_
  refine m_iadd hc dX12_lines_28 ?_
  exact r_iret hc hr dX12_lines_29 hw
def w_layLine_136 (K : Int32 → RS → Prop) (x2 s0 : Int32) (R : RS) : Prop := (¬ ((up R 0 24 s0) 0 23) = 1 → K 0 (up (up R 0 24 s0) 0 25 (x2 - (((up R 0 24 s0) 0 1) * ((up R 0 24 s0) 0 1))))) ∧ (((up R 0 24 s0) 0 23) = 1 → ¬ ((up R 0 24 s0) 0 1) = 0 ∧ (K 0 (up (up R 0 24 s0) 0 25 (iRem x2 ((up R 0 24 s0) 0 1)))))
set_option maxHeartbeats 4000000 in
set_option maxRecDepth 100000 in
theorem b_layLine_136 {G : RG} {X : Fx} {K : Int32 → RS → Prop} (hok : okG G) (hc : Cx X RX12 cX12_layLine 3) (hr : Cr G 0 none K X) : ∀ (x2 s0 : Int32) (R : RS), w_layLine_136 K x2 s0 R → MR G X 3 R 136 [(0, .ref G.2.2.1), (2, .int x2)] [.int s0, .ref G.2.2.1] := by
  intro x2 s0 R hw
  unfold w_layLine_136 at hw
  refine r_put hc hr 24 dX12_layLine_136 lf_X12_227 (Nat.le_of_ble_eq_true rfl) rfl rfl (by decide +kernel) ?_
  refine m_aload_n hc 0 dX12_layLine_139 rfl rfl ?_
  refine m_aload_n hc 0 dX12_layLine_140 rfl rfl ?_
  refine r_geti hc hr 23 dX12_layLine_141 lf_X12_224 (Nat.le_of_ble_eq_true rfl) rfl ?_
  refine m_iconst hc 1 dX12_layLine_144 (by decide) ?_
  refine m_icmp_ne hc 157 dX12_layLine_145 rfl (fun cq => ?_) (fun cq => ?_)
  · have hw := hw.1 cq
    refine m_iload_n hc 1 dX12_layLine_157 rfl rfl ?_
    refine m_aload_n hc 0 dX12_layLine_158 rfl rfl ?_
    refine r_geti hc hr 1 dX12_layLine_159 lf_X12_9 (Nat.le_of_ble_eq_true rfl) rfl ?_
    refine m_aload_n hc 0 dX12_layLine_162 rfl rfl ?_
    refine r_geti hc hr 1 dX12_layLine_163 lf_X12_9 (Nat.le_of_ble_eq_true rfl) rfl ?_
    refine m_imul hc dX12_layLine_166 ?_
    refine m_isub hc dX12_layLine_167 ?_
    refine r_put hc hr 25 dX12_layLine_168 lf_X12_230 (Nat.le_of_ble_eq_true rfl) rfl rfl (by decide +kernel) ?_
    exact r_vret hc hr dX12_layLine_171 hw
  · have hw := hw.2 cq
    refine m_iload_n hc 1 dX12_layLine_148 rfl rfl ?_
    refine m_aload_n hc 0 dX12_layLine_149 rfl rfl ?_
    refine r_geti hc hr 1 dX12_layLine_150 lf_X12_9 (Nat.le_of_ble_eq_true rfl) rfl ?_
    obtain ⟨hq, hw⟩ := hw
    refine m_irem hc dX12_layLine_153 hq ?_
    refine m_goto hc 168 dX12_layLine_154 rfl ?_
    refine r_put hc hr 25 dX12_layLine_168 lf_X12_230 (Nat.le_of_ble_eq_true rfl) rfl rfl (by decide +kernel) ?_
    exact r_vret hc hr dX12_layLine_171 hw
def w_layLine_114 (K : Int32 → RS → Prop) (x2 s0 : Int32) (R : RS) : Prop := (¬ ((up R 0 23 s0) 0 23) = 1 → w_layLine_136 K x2 1 (up R 0 23 s0)) ∧ (((up R 0 23 s0) 0 23) = 1 → ¬ ((up R 0 23 s0) 0 1) = 0 ∧ (w_layLine_136 K x2 (x2 / ((up R 0 23 s0) 0 1)) (up R 0 23 s0)))
set_option maxHeartbeats 4000000 in
set_option maxRecDepth 100000 in
theorem b_layLine_114 {G : RG} {X : Fx} {K : Int32 → RS → Prop} (hok : okG G) (hc : Cx X RX12 cX12_layLine 3) (hr : Cr G 0 none K X) : ∀ (x2 s0 : Int32) (R : RS), w_layLine_114 K x2 s0 R → MR G X 3 R 114 [(0, .ref G.2.2.1), (2, .int x2)] [.int s0, .ref G.2.2.1] := by
  intro x2 s0 R hw
  unfold w_layLine_114 at hw
  refine r_put hc hr 23 dX12_layLine_114 lf_X12_224 (Nat.le_of_ble_eq_true rfl) rfl rfl (by decide +kernel) ?_
  refine m_aload_n hc 0 dX12_layLine_117 rfl rfl ?_
  refine m_aload_n hc 0 dX12_layLine_118 rfl rfl ?_
  refine r_geti hc hr 23 dX12_layLine_119 lf_X12_224 (Nat.le_of_ble_eq_true rfl) rfl ?_
  refine m_iconst hc 1 dX12_layLine_122 (by decide) ?_
  refine m_icmp_ne hc 135 dX12_layLine_123 rfl (fun cq => ?_) (fun cq => ?_)
  · have hw := hw.1 cq
    refine m_iconst hc 1 dX12_layLine_135 (by decide) ?_
    exact b_layLine_136 hok hc hr x2 1 (up R 0 23 s0) hw
  · have hw := hw.2 cq
    refine m_iload_n hc 1 dX12_layLine_126 rfl rfl ?_
    refine m_aload_n hc 0 dX12_layLine_127 rfl rfl ?_
    refine r_geti hc hr 1 dX12_layLine_128 lf_X12_9 (Nat.le_of_ble_eq_true rfl) rfl ?_
    obtain ⟨hq, hw⟩ := hw
    refine m_idiv hc dX12_layLine_131 hq ?_
    refine m_goto hc 136 dX12_layLine_132 rfl ?_
    exact b_layLine_136 hok hc hr x2 (x2 / ((up R 0 23 s0) 0 1)) (up R 0 23 s0) hw
def w_layLine_26 (K : Int32 → RS → Prop) (x2 s0 : Int32) (R : RS) : Prop := (¬ ((up R 0 22 s0) 0 22) = 1 → ∀ v1 : Int32, v1 = (x2 - ((((up R 0 22 s0) 0 1) * ((up R 0 22 s0) 0 1)) * ((up R 0 22 s0) 0 1))) → ((((up R 0 22 s0) 0 1) * ((up R 0 22 s0) 0 1)) ≤ v1 → w_layLine_114 K v1 0 (up R 0 22 s0)) ∧ (¬ ((((up R 0 22 s0) 0 1) * ((up R 0 22 s0) 0 1)) ≤ v1) → w_layLine_114 K v1 1 (up R 0 22 s0))) ∧ (((up R 0 22 s0) 0 22) = 1 → ¬ (((up R 0 22 s0) 0 1) * ((up R 0 22 s0) 0 1)) = 0 ∧ (¬ ((up (up R 0 22 s0) 0 23 (x2 / (((up R 0 22 s0) 0 1) * ((up R 0 22 s0) 0 1)))) 0 1) = 0 ∧ (¬ ((up (up R 0 22 s0) 0 23 (x2 / (((up R 0 22 s0) 0 1) * ((up R 0 22 s0) 0 1)))) 0 1) = 0 ∧ (¬ ((up (up (up R 0 22 s0) 0 23 (x2 / (((up R 0 22 s0) 0 1) * ((up R 0 22 s0) 0 1)))) 0 24 (iRem (x2 / ((up (up R 0 22 s0) 0 23 (x2 / (((up R 0 22 s0) 0 1) * ((up R 0 22 s0) 0 1)))) 0 1)) ((up (up R 0 22 s0) 0 23 (x2 / (((up R 0 22 s0) 0 1) * ((up R 0 22 s0) 0 1)))) 0 1))) 0 1) = 0 ∧ (K 0 (up (up (up (up R 0 22 s0) 0 23 (x2 / (((up R 0 22 s0) 0 1) * ((up R 0 22 s0) 0 1)))) 0 24 (iRem (x2 / ((up (up R 0 22 s0) 0 23 (x2 / (((up R 0 22 s0) 0 1) * ((up R 0 22 s0) 0 1)))) 0 1)) ((up (up R 0 22 s0) 0 23 (x2 / (((up R 0 22 s0) 0 1) * ((up R 0 22 s0) 0 1)))) 0 1))) 0 25 (iRem x2 ((up (up (up R 0 22 s0) 0 23 (x2 / (((up R 0 22 s0) 0 1) * ((up R 0 22 s0) 0 1)))) 0 24 (iRem (x2 / ((up (up R 0 22 s0) 0 23 (x2 / (((up R 0 22 s0) 0 1) * ((up R 0 22 s0) 0 1)))) 0 1)) ((up (up R 0 22 s0) 0 23 (x2 / (((up R 0 22 s0) 0 1) * ((up R 0 22 s0) 0 1)))) 0 1))) 0 1))))))))
set_option maxHeartbeats 4000000 in
set_option maxRecDepth 100000 in
theorem b_layLine_26 {G : RG} {X : Fx} {K : Int32 → RS → Prop} (hok : okG G) (hc : Cx X RX12 cX12_layLine 3) (hr : Cr G 0 none K X) : ∀ (x2 s0 : Int32) (R : RS), w_layLine_26 K x2 s0 R → MR G X 3 R 26 [(0, .ref G.2.2.1), (2, .int x2)] [.int s0, .ref G.2.2.1] := by
  intro x2 s0 R hw
  unfold w_layLine_26 at hw
  refine r_put hc hr 22 dX12_layLine_26 lf_X12_221 (Nat.le_of_ble_eq_true rfl) rfl rfl (by decide +kernel) ?_
  refine m_aload_n hc 0 dX12_layLine_29 rfl rfl ?_
  refine r_geti hc hr 22 dX12_layLine_30 lf_X12_221 (Nat.le_of_ble_eq_true rfl) rfl ?_
  refine m_iconst hc 1 dX12_layLine_33 (by decide) ?_
  refine m_icmp_ne hc 78 dX12_layLine_34 rfl (fun cq => ?_) (fun cq => ?_)
  · have hw := hw.1 cq
    refine m_iload_n hc 1 dX12_layLine_78 rfl rfl ?_
    refine m_aload_n hc 0 dX12_layLine_79 rfl rfl ?_
    refine r_geti hc hr 1 dX12_layLine_80 lf_X12_9 (Nat.le_of_ble_eq_true rfl) rfl ?_
    refine m_aload_n hc 0 dX12_layLine_83 rfl rfl ?_
    refine r_geti hc hr 1 dX12_layLine_84 lf_X12_9 (Nat.le_of_ble_eq_true rfl) rfl ?_
    refine m_imul hc dX12_layLine_87 ?_
    refine m_aload_n hc 0 dX12_layLine_88 rfl rfl ?_
    refine r_geti hc hr 1 dX12_layLine_89 lf_X12_9 (Nat.le_of_ble_eq_true rfl) rfl ?_
    refine m_imul hc dX12_layLine_92 ?_
    refine m_isub hc dX12_layLine_93 ?_
    refine m_topi (fun v1 e_v1 => ?_)
    have hw := hw v1 e_v1
    refine m_istore_n hc [(2, .int v1), (0, .ref G.2.2.1)] dX12_layLine_94 rfl (Nat.le_of_ble_eq_true rfl) rfl ?_
    refine m_aload_n hc 1 dX12_layLine_95 rfl rfl ?_
    refine m_iload_n hc 0 dX12_layLine_96 rfl rfl ?_
    refine m_aload_n hc 1 dX12_layLine_97 rfl rfl ?_
    refine r_geti hc hr 1 dX12_layLine_98 lf_X12_9 (Nat.le_of_ble_eq_true rfl) rfl ?_
    refine m_aload_n hc 1 dX12_layLine_101 rfl rfl ?_
    refine r_geti hc hr 1 dX12_layLine_102 lf_X12_9 (Nat.le_of_ble_eq_true rfl) rfl ?_
    refine m_imul hc dX12_layLine_105 ?_
    refine m_icmp_ge hc 113 dX12_layLine_106 rfl (fun cq => ?_) (fun cq => ?_)
    · have hw := hw.1 cq
      refine m_iconst hc 0 dX12_layLine_113 (by decide) ?_
      refine m_sub [1, 0] rfl ?_
      exact b_layLine_114 hok hc hr v1 0 (up R 0 22 s0) hw
    · have hw := hw.2 cq
      refine m_iconst hc 1 dX12_layLine_109 (by decide) ?_
      refine m_goto hc 114 dX12_layLine_110 rfl ?_
      refine m_sub [1, 0] rfl ?_
      exact b_layLine_114 hok hc hr v1 1 (up R 0 22 s0) hw
  · have hw := hw.2 cq
    refine m_aload_n hc 0 dX12_layLine_37 rfl rfl ?_
    refine m_iload_n hc 1 dX12_layLine_38 rfl rfl ?_
    refine m_aload_n hc 0 dX12_layLine_39 rfl rfl ?_
    refine r_geti hc hr 1 dX12_layLine_40 lf_X12_9 (Nat.le_of_ble_eq_true rfl) rfl ?_
    refine m_aload_n hc 0 dX12_layLine_43 rfl rfl ?_
    refine r_geti hc hr 1 dX12_layLine_44 lf_X12_9 (Nat.le_of_ble_eq_true rfl) rfl ?_
    refine m_imul hc dX12_layLine_47 ?_
    obtain ⟨hq, hw⟩ := hw
    refine m_idiv hc dX12_layLine_48 hq ?_
    refine r_put hc hr 23 dX12_layLine_49 lf_X12_224 (Nat.le_of_ble_eq_true rfl) rfl rfl (by decide +kernel) ?_
    refine m_aload_n hc 0 dX12_layLine_52 rfl rfl ?_
    refine m_iload_n hc 1 dX12_layLine_53 rfl rfl ?_
    refine m_aload_n hc 0 dX12_layLine_54 rfl rfl ?_
    refine r_geti hc hr 1 dX12_layLine_55 lf_X12_9 (Nat.le_of_ble_eq_true rfl) rfl ?_
    obtain ⟨hq, hw⟩ := hw
    refine m_idiv hc dX12_layLine_58 hq ?_
    refine m_aload_n hc 0 dX12_layLine_59 rfl rfl ?_
    refine r_geti hc hr 1 dX12_layLine_60 lf_X12_9 (Nat.le_of_ble_eq_true rfl) rfl ?_
    obtain ⟨hq, hw⟩ := hw
    refine m_irem hc dX12_layLine_63 hq ?_
    refine r_put hc hr 24 dX12_layLine_64 lf_X12_227 (Nat.le_of_ble_eq_true rfl) rfl rfl (by decide +kernel) ?_
    refine m_aload_n hc 0 dX12_layLine_67 rfl rfl ?_
    refine m_iload_n hc 1 dX12_layLine_68 rfl rfl ?_
    refine m_aload_n hc 0 dX12_layLine_69 rfl rfl ?_
    refine r_geti hc hr 1 dX12_layLine_70 lf_X12_9 (Nat.le_of_ble_eq_true rfl) rfl ?_
    obtain ⟨hq, hw⟩ := hw
    refine m_irem hc dX12_layLine_73 hq ?_
    refine r_put hc hr 25 dX12_layLine_74 lf_X12_230 (Nat.le_of_ble_eq_true rfl) rfl rfl (by decide +kernel) ?_
    exact r_vret hc hr dX12_layLine_77 hw
def wp_layLine (x1 : Int32) (R : RS) (K : Int32 → RS → Prop) : Prop := ((((R 0 1) * (R 0 1)) * (R 0 1)) ≤ x1 → w_layLine_26 K x1 0 R) ∧ (¬ ((((R 0 1) * (R 0 1)) * (R 0 1)) ≤ x1) → w_layLine_26 K x1 1 R)
set_option maxHeartbeats 4000000 in
set_option maxRecDepth 100000 in
theorem ok_layLine {G : RG} (hok : okG G) {x1 : Int32} {R : RS} {K : Int32 → RS → Prop} (hw : wp_layLine x1 R K) : CF 0 yX12_layLine cX12_layLine 3 none [.ref G.2.2.1, .int x1] G R K := by
  refine CF.of (by decide +kernel) hok (Nat.le_of_ble_eq_true rfl) (fun X hc hr => ?_)
  show MR G X 3 R 0 [(0, .ref G.2.2.1), (1, .int x1)] []
  unfold wp_layLine at hw
  refine m_iload_n hc 1 dX12_layLine_0 rfl rfl ?_
  refine m_istore_n hc [(2, .int x1), (0, .ref G.2.2.1), (1, .int x1)] dX12_layLine_1 rfl (Nat.le_of_ble_eq_true rfl) rfl ?_
  refine m_aload_n hc 1 dX12_layLine_2 rfl rfl ?_
  refine m_iload_n hc 0 dX12_layLine_3 rfl rfl ?_
  refine m_aload_n hc 1 dX12_layLine_4 rfl rfl ?_
  refine r_geti hc hr 1 dX12_layLine_5 lf_X12_9 (Nat.le_of_ble_eq_true rfl) rfl ?_
  refine m_aload_n hc 1 dX12_layLine_8 rfl rfl ?_
  refine r_geti hc hr 1 dX12_layLine_9 lf_X12_9 (Nat.le_of_ble_eq_true rfl) rfl ?_
  refine m_imul hc dX12_layLine_12 ?_
  refine m_aload_n hc 1 dX12_layLine_13 rfl rfl ?_
  refine r_geti hc hr 1 dX12_layLine_14 lf_X12_9 (Nat.le_of_ble_eq_true rfl) rfl ?_
  refine m_imul hc dX12_layLine_17 ?_
  refine m_icmp_ge hc 25 dX12_layLine_18 rfl (fun cq => ?_) (fun cq => ?_)
  · have hw := hw.1 cq
    refine m_iconst hc 0 dX12_layLine_25 (by decide) ?_
    refine m_sub [1, 0] rfl ?_
    exact b_layLine_26 hok hc hr x1 0 R hw
  · have hw := hw.2 cq
    refine m_iconst hc 1 dX12_layLine_21 (by decide) ?_
    refine m_goto hc 26 dX12_layLine_22 rfl ?_
    refine m_sub [1, 0] rfl ?_
    exact b_layLine_26 hok hc hr x1 1 R hw
def wb_vanishes_22 (K2 : Int32 → RS → Prop) (K12 : Int32 → Int32 → RS → Prop) (K22 : Int32 → Int32 → Int32 → RS → Prop) (K : Int32 → RS → Prop) (x1 x2 x3 : Int32) (R : RS) : Prop := ((R 0 1) ≤ x3 → K12 x1 (x2 + 1) R) ∧ (¬ ((R 0 1) ≤ x3) → ¬ (R 0 1) = 0 ∧ ((¬ (iRem (((((R 0 22) * x1) + ((R 0 23) * x2)) + ((R 0 24) * x3)) + (R 0 25)) (R 0 1)) = 0 → K22 x1 x2 (x3 + 1) R) ∧ ((iRem (((((R 0 22) * x1) + ((R 0 23) * x2)) + ((R 0 24) * x3)) + (R 0 25)) (R 0 1)) = 0 → vp_in ((((x1 * (R 0 1)) + x2) * (R 0 1)) + x3) 2197 ∧ ((R 21 (Int32.toNatClampNeg ((((x1 * (R 0 1)) + x2) * (R 0 1)) + x3))) = 0 → K22 x1 x2 (x3 + 1) R) ∧ (¬ ((R 21 (Int32.toNatClampNeg ((((x1 * (R 0 1)) + x2) * (R 0 1)) + x3))) = 0) → K 0 R))))
def wl_vanishes_22 (K2 : Int32 → RS → Prop) (K12 : Int32 → Int32 → RS → Prop) (K : Int32 → RS → Prop) : Nat → Int32 → Int32 → Int32 → RS → Prop
  | 0 => fun _ _ _ _ => False
  | nn + 1 => wb_vanishes_22 K2 K12 (wl_vanishes_22 K2 K12 K nn) K
set_option maxHeartbeats 4000000 in
set_option maxRecDepth 100000 in
theorem l_vanishes_22 {G : RG} {X : Fx} {K : Int32 → RS → Prop} (hok : okG G) (hc : Cx X RX12 cX12_vanishes 4) (hr : Cr G 0 (some .boolean) K X) (K2 : Int32 → RS → Prop) (K12 : Int32 → Int32 → RS → Prop) (h2 : ∀ (x1 : Int32) (R : RS), K2 x1 R → MR G X 4 R 2 [(0, .ref G.2.2.1), (1, .int x1)] []) (h12 : ∀ (x1 x2 : Int32) (R : RS), K12 x1 x2 R → MR G X 4 R 12 [(0, .ref G.2.2.1), (1, .int x1), (2, .int x2)] []) : ∀ (nn : Nat) (x1 x2 x3 : Int32) (R : RS), wl_vanishes_22 K2 K12 K nn x1 x2 x3 R → MR G X 4 R 22 [(0, .ref G.2.2.1), (1, .int x1), (2, .int x2), (3, .int x3)] [] := by
  intro nn
  induction nn with
  | zero => intro x1 x2 x3 R hw; exact False.elim hw
  | succ nn ih =>
    intro x1 x2 x3 R hw
    have hw : wb_vanishes_22 K2 K12 (wl_vanishes_22 K2 K12 K nn) K x1 x2 x3 R := hw
    have h22 := ih
    generalize wl_vanishes_22 K2 K12 K nn = K22 at hw h22
    unfold wb_vanishes_22 at hw
    refine m_iload_n hc 3 dX12_vanishes_22 rfl rfl ?_
    refine m_aload_n hc 0 dX12_vanishes_23 rfl rfl ?_
    refine r_geti hc hr 1 dX12_vanishes_24 lf_X12_9 (Nat.le_of_ble_eq_true rfl) rfl ?_
    refine m_icmp_ge hc 94 dX12_vanishes_27 rfl (fun cq => ?_) (fun cq => ?_)
    · have hw := hw.1 cq
      refine m_iinc hc 2 (x2 + 1) [(2, .int (x2 + 1)), (0, .ref G.2.2.1), (1, .int x1), (3, .int x3)] dX12_vanishes_94 rfl rfl (Nat.le_of_ble_eq_true rfl) rfl ?_
      refine m_goto hc 12 dX12_vanishes_97 rfl ?_
      refine m_sub [1, 2, 0] rfl ?_
      exact h12 x1 (x2 + 1) R hw
    · have hw := hw.2 cq
      refine m_aload_n hc 0 dX12_vanishes_30 rfl rfl ?_
      refine r_geti hc hr 22 dX12_vanishes_31 lf_X12_221 (Nat.le_of_ble_eq_true rfl) rfl ?_
      refine m_iload_n hc 1 dX12_vanishes_34 rfl rfl ?_
      refine m_imul hc dX12_vanishes_35 ?_
      refine m_aload_n hc 0 dX12_vanishes_36 rfl rfl ?_
      refine r_geti hc hr 23 dX12_vanishes_37 lf_X12_224 (Nat.le_of_ble_eq_true rfl) rfl ?_
      refine m_iload_n hc 2 dX12_vanishes_40 rfl rfl ?_
      refine m_imul hc dX12_vanishes_41 ?_
      refine m_iadd hc dX12_vanishes_42 ?_
      refine m_aload_n hc 0 dX12_vanishes_43 rfl rfl ?_
      refine r_geti hc hr 24 dX12_vanishes_44 lf_X12_227 (Nat.le_of_ble_eq_true rfl) rfl ?_
      refine m_iload_n hc 3 dX12_vanishes_47 rfl rfl ?_
      refine m_imul hc dX12_vanishes_48 ?_
      refine m_iadd hc dX12_vanishes_49 ?_
      refine m_aload_n hc 0 dX12_vanishes_50 rfl rfl ?_
      refine r_geti hc hr 25 dX12_vanishes_51 lf_X12_230 (Nat.le_of_ble_eq_true rfl) rfl ?_
      refine m_iadd hc dX12_vanishes_54 ?_
      refine m_aload_n hc 0 dX12_vanishes_55 rfl rfl ?_
      refine r_geti hc hr 1 dX12_vanishes_56 lf_X12_9 (Nat.le_of_ble_eq_true rfl) rfl ?_
      obtain ⟨hq, hw⟩ := hw
      refine m_irem hc dX12_vanishes_59 hq ?_
      refine m_if_ne hc 88 dX12_vanishes_60 rfl (fun cq => ?_) (fun cq => ?_)
      · have hw := hw.1 cq
        refine m_iinc hc 3 (x3 + 1) [(3, .int (x3 + 1)), (0, .ref G.2.2.1), (1, .int x1), (2, .int x2)] dX12_vanishes_88 rfl rfl (Nat.le_of_ble_eq_true rfl) rfl ?_
        refine m_goto hc 22 dX12_vanishes_91 rfl ?_
        refine m_sub [1, 2, 3, 0] rfl ?_
        exact h22 x1 x2 (x3 + 1) R hw
      · have hw := hw.2 cq
        refine m_aload_n hc 0 dX12_vanishes_63 rfl rfl ?_
        refine r_geta hc hr 21 dX12_vanishes_64 lf_X12_68 (Nat.le_of_ble_eq_true rfl) rfl ?_
        refine m_iload_n hc 1 dX12_vanishes_67 rfl rfl ?_
        refine m_aload_n hc 0 dX12_vanishes_68 rfl rfl ?_
        refine r_geti hc hr 1 dX12_vanishes_69 lf_X12_9 (Nat.le_of_ble_eq_true rfl) rfl ?_
        refine m_imul hc dX12_vanishes_72 ?_
        refine m_iload_n hc 2 dX12_vanishes_73 rfl rfl ?_
        refine m_iadd hc dX12_vanishes_74 ?_
        refine m_aload_n hc 0 dX12_vanishes_75 rfl rfl ?_
        refine r_geti hc hr 1 dX12_vanishes_76 lf_X12_9 (Nat.le_of_ble_eq_true rfl) rfl ?_
        refine m_imul hc dX12_vanishes_79 ?_
        refine m_iload_n hc 3 dX12_vanishes_80 rfl rfl ?_
        refine m_iadd hc dX12_vanishes_81 ?_
        obtain ⟨hi, hw⟩ := hw
        refine r_iald hc hr (i := 17) (f := 21) rfl hi dX12_vanishes_82 ?_
        refine m_if_eq hc 88 dX12_vanishes_83 rfl (fun cq => ?_) (fun cq => ?_)
        · have hw := hw.1 cq
          refine m_iinc hc 3 (x3 + 1) [(3, .int (x3 + 1)), (0, .ref G.2.2.1), (1, .int x1), (2, .int x2)] dX12_vanishes_88 rfl rfl (Nat.le_of_ble_eq_true rfl) rfl ?_
          refine m_goto hc 22 dX12_vanishes_91 rfl ?_
          refine m_sub [1, 2, 3, 0] rfl ?_
          exact h22 x1 x2 (x3 + 1) R hw
        · have hw := hw.2 cq
          refine m_iconst hc 0 dX12_vanishes_86 (by decide) ?_
          exact r_zret hc hr dX12_vanishes_87 (by decide) hw
def wb_vanishes_12 (K2 : Int32 → RS → Prop) (K12 : Int32 → Int32 → RS → Prop) (K : Int32 → RS → Prop) (x1 x2 : Int32) (R : RS) : Prop := ((R 0 1) ≤ x2 → K2 (x1 + 1) R) ∧ (¬ ((R 0 1) ≤ x2) → ∃ nn : Nat, wl_vanishes_22 K2 K12 K nn x1 x2 0 R)
def wl_vanishes_12 (K2 : Int32 → RS → Prop) (K : Int32 → RS → Prop) : Nat → Int32 → Int32 → RS → Prop
  | 0 => fun _ _ _ => False
  | nn + 1 => wb_vanishes_12 K2 (wl_vanishes_12 K2 K nn) K
set_option maxHeartbeats 4000000 in
set_option maxRecDepth 100000 in
theorem l_vanishes_12 {G : RG} {X : Fx} {K : Int32 → RS → Prop} (hok : okG G) (hc : Cx X RX12 cX12_vanishes 4) (hr : Cr G 0 (some .boolean) K X) (K2 : Int32 → RS → Prop) (h2 : ∀ (x1 : Int32) (R : RS), K2 x1 R → MR G X 4 R 2 [(0, .ref G.2.2.1), (1, .int x1)] []) : ∀ (nn : Nat) (x1 x2 : Int32) (R : RS), wl_vanishes_12 K2 K nn x1 x2 R → MR G X 4 R 12 [(0, .ref G.2.2.1), (1, .int x1), (2, .int x2)] [] := by
  intro nn
  induction nn with
  | zero => intro x1 x2 R hw; exact False.elim hw
  | succ nn ih =>
    intro x1 x2 R hw
    have hw : wb_vanishes_12 K2 (wl_vanishes_12 K2 K nn) K x1 x2 R := hw
    have h12 := ih
    generalize wl_vanishes_12 K2 K nn = K12 at hw h12
    unfold wb_vanishes_12 at hw
    refine m_iload_n hc 2 dX12_vanishes_12 rfl rfl ?_
    refine m_aload_n hc 0 dX12_vanishes_13 rfl rfl ?_
    refine r_geti hc hr 1 dX12_vanishes_14 lf_X12_9 (Nat.le_of_ble_eq_true rfl) rfl ?_
    refine m_icmp_ge hc 100 dX12_vanishes_17 rfl (fun cq => ?_) (fun cq => ?_)
    · have hw := hw.1 cq
      refine m_iinc hc 1 (x1 + 1) [(1, .int (x1 + 1)), (0, .ref G.2.2.1), (2, .int x2)] dX12_vanishes_100 rfl rfl (Nat.le_of_ble_eq_true rfl) rfl ?_
      refine m_goto hc 2 dX12_vanishes_103 rfl ?_
      refine m_sub [1, 0] rfl ?_
      exact h2 (x1 + 1) R hw
    · have hw := hw.2 cq
      refine m_iconst hc 0 dX12_vanishes_20 (by decide) ?_
      refine m_istore_n hc [(3, .int 0), (0, .ref G.2.2.1), (1, .int x1), (2, .int x2)] dX12_vanishes_21 rfl (Nat.le_of_ble_eq_true rfl) rfl ?_
      refine m_sub [1, 2, 3, 0] rfl ?_
      obtain ⟨nn, hw⟩ := hw
      exact l_vanishes_22 hok hc hr K2 K12 h2 h12 nn x1 x2 0 R hw
def wb_vanishes_2 (K2 : Int32 → RS → Prop) (K : Int32 → RS → Prop) (x1 : Int32) (R : RS) : Prop := ((R 0 1) ≤ x1 → K 1 R) ∧ (¬ ((R 0 1) ≤ x1) → ∃ nn : Nat, wl_vanishes_12 K2 K nn x1 0 R)
def wl_vanishes_2 (K : Int32 → RS → Prop) : Nat → Int32 → RS → Prop
  | 0 => fun _ _ => False
  | nn + 1 => wb_vanishes_2 (wl_vanishes_2 K nn) K
set_option maxHeartbeats 4000000 in
set_option maxRecDepth 100000 in
theorem l_vanishes_2 {G : RG} {X : Fx} {K : Int32 → RS → Prop} (hok : okG G) (hc : Cx X RX12 cX12_vanishes 4) (hr : Cr G 0 (some .boolean) K X) : ∀ (nn : Nat) (x1 : Int32) (R : RS), wl_vanishes_2 K nn x1 R → MR G X 4 R 2 [(0, .ref G.2.2.1), (1, .int x1)] [] := by
  intro nn
  induction nn with
  | zero => intro x1 R hw; exact False.elim hw
  | succ nn ih =>
    intro x1 R hw
    have hw : wb_vanishes_2 (wl_vanishes_2 K nn) K x1 R := hw
    have h2 := ih
    generalize wl_vanishes_2 K nn = K2 at hw h2
    unfold wb_vanishes_2 at hw
    refine m_iload_n hc 1 dX12_vanishes_2 rfl rfl ?_
    refine m_aload_n hc 0 dX12_vanishes_3 rfl rfl ?_
    refine r_geti hc hr 1 dX12_vanishes_4 lf_X12_9 (Nat.le_of_ble_eq_true rfl) rfl ?_
    refine m_icmp_ge hc 106 dX12_vanishes_7 rfl (fun cq => ?_) (fun cq => ?_)
    · have hw := hw.1 cq
      refine m_iconst hc 1 dX12_vanishes_106 (by decide) ?_
      exact r_zret hc hr dX12_vanishes_107 (by decide) hw
    · have hw := hw.2 cq
      refine m_iconst hc 0 dX12_vanishes_10 (by decide) ?_
      refine m_istore_n hc [(2, .int 0), (0, .ref G.2.2.1), (1, .int x1)] dX12_vanishes_11 rfl (Nat.le_of_ble_eq_true rfl) rfl ?_
      refine m_sub [1, 2, 0] rfl ?_
      obtain ⟨nn, hw⟩ := hw
      exact l_vanishes_12 hok hc hr K2 h2 nn x1 0 R hw
def wp_vanishes (R : RS) (K : Int32 → RS → Prop) : Prop := ∃ nn : Nat, wl_vanishes_2 K nn 0 R
set_option maxHeartbeats 4000000 in
set_option maxRecDepth 100000 in
theorem ok_vanishes {G : RG} (hok : okG G) {R : RS} {K : Int32 → RS → Prop} (hw : wp_vanishes R K) : CF 0 yX12_vanishes cX12_vanishes 4 (some .boolean) [.ref G.2.2.1] G R K := by
  refine CF.of (by decide +kernel) hok (Nat.le_of_ble_eq_true rfl) (fun X hc hr => ?_)
  show MR G X 4 R 0 [(0, .ref G.2.2.1)] []
  unfold wp_vanishes at hw
  refine m_iconst hc 0 dX12_vanishes_0 (by decide) ?_
  refine m_istore_n hc [(1, .int 0), (0, .ref G.2.2.1)] dX12_vanishes_1 rfl (Nat.le_of_ble_eq_true rfl) rfl ?_
  refine m_sub [1, 0] rfl ?_
  obtain ⟨nn, hw⟩ := hw
  exact l_vanishes_2 hok hc hr nn 0 R hw
def wp_lead (R : RS) (K : Int32 → RS → Prop) : Prop := (¬ (R 0 22) = 1 → (¬ (R 0 23) = 1 → K 2 R) ∧ ((R 0 23) = 1 → K 1 R)) ∧ ((R 0 22) = 1 → K 0 R)
set_option maxHeartbeats 4000000 in
set_option maxRecDepth 100000 in
theorem ok_lead {G : RG} (hok : okG G) {R : RS} {K : Int32 → RS → Prop} (hw : wp_lead R K) : CF 0 yX12_lead cX12_lead 1 (some .int) [.ref G.2.2.1] G R K := by
  refine CF.of (by decide +kernel) hok (Nat.le_of_ble_eq_true rfl) (fun X hc hr => ?_)
  show MR G X 1 R 0 [(0, .ref G.2.2.1)] []
  unfold wp_lead at hw
  refine m_aload_n hc 0 dX12_lead_0 rfl rfl ?_
  refine r_geti hc hr 22 dX12_lead_1 lf_X12_221 (Nat.le_of_ble_eq_true rfl) rfl ?_
  refine m_iconst hc 1 dX12_lead_4 (by decide) ?_
  refine m_icmp_ne hc 12 dX12_lead_5 rfl (fun cq => ?_) (fun cq => ?_)
  · have hw := hw.1 cq
    refine m_aload_n hc 0 dX12_lead_12 rfl rfl ?_
    refine r_geti hc hr 23 dX12_lead_13 lf_X12_224 (Nat.le_of_ble_eq_true rfl) rfl ?_
    refine m_iconst hc 1 dX12_lead_16 (by decide) ?_
    refine m_icmp_ne hc 24 dX12_lead_17 rfl (fun cq => ?_) (fun cq => ?_)
    · have hw := hw.1 cq
      refine m_iconst hc 2 dX12_lead_24 (by decide) ?_
      exact r_iret hc hr dX12_lead_25 hw
    · have hw := hw.2 cq
      refine m_iconst hc 1 dX12_lead_20 (by decide) ?_
      refine m_goto hc 25 dX12_lead_21 rfl ?_
      exact r_iret hc hr dX12_lead_25 hw
  · have hw := hw.2 cq
    refine m_iconst hc 0 dX12_lead_8 (by decide) ?_
    refine m_goto hc 25 dX12_lead_9 rfl ?_
    exact r_iret hc hr dX12_lead_25 hw
def wp_cell (x0 x1 x2 x3 : Int32) (R : RS) (K : Int32 → RS → Prop) : Prop := (¬ x0 = 0 → (¬ x0 = 1 → wp_keyOf x2 x3 x1 R (fun r1 R1 => K r1 R1)) ∧ (x0 = 1 → wp_keyOf x2 x1 x3 R (fun r2 R2 => K r2 R2))) ∧ (x0 = 0 → wp_keyOf x1 x2 x3 R (fun r3 R3 => K r3 R3))
set_option maxHeartbeats 4000000 in
set_option maxRecDepth 100000 in
theorem ok_cell {G : RG} (hok : okG G) {x0 : Int32} {x1 : Int32} {x2 : Int32} {x3 : Int32} {R : RS} {K : Int32 → RS → Prop} (hw : wp_cell x0 x1 x2 x3 R K) : CF 1 yX12_cell cX12_cell 4 (some .int) [.int x0, .int x1, .int x2, .int x3] G R K := by
  refine CF.of (by decide +kernel) hok (Nat.le_of_ble_eq_true rfl) (fun X hc hr => ?_)
  show MR G X 4 R 0 [(0, .int x0), (1, .int x1), (2, .int x2), (3, .int x3)] []
  unfold wp_cell at hw
  refine m_iload_n hc 0 dX12_cell_0 rfl rfl ?_
  refine m_if_ne hc 13 dX12_cell_1 rfl (fun cq => ?_) (fun cq => ?_)
  · have hw := hw.1 cq
    refine m_iload_n hc 0 dX12_cell_13 rfl rfl ?_
    refine m_iconst hc 1 dX12_cell_14 (by decide) ?_
    refine m_icmp_ne hc 27 dX12_cell_15 rfl (fun cq => ?_) (fun cq => ?_)
    · have hw := hw.1 cq
      refine m_iload_n hc 2 dX12_cell_27 rfl rfl ?_
      refine m_iload_n hc 3 dX12_cell_28 rfl rfl ?_
      refine m_iload_n hc 1 dX12_cell_29 rfl rfl ?_
      refine r_callSi hc hr mt_keyOf lm_X12_144 (ok_keyOf hok hw) (Nat.le_of_ble_eq_true rfl) dX12_cell_30 rfl (rest := []) rfl (Nat.le_of_ble_eq_true rfl) (fun r1 R1 hw => ?_)
      exact r_iret hc hr dX12_cell_33 hw
    · have hw := hw.2 cq
      refine m_iload_n hc 2 dX12_cell_18 rfl rfl ?_
      refine m_iload_n hc 1 dX12_cell_19 rfl rfl ?_
      refine m_iload_n hc 3 dX12_cell_20 rfl rfl ?_
      refine r_callSi hc hr mt_keyOf lm_X12_144 (ok_keyOf hok hw) (Nat.le_of_ble_eq_true rfl) dX12_cell_21 rfl (rest := []) rfl (Nat.le_of_ble_eq_true rfl) (fun r2 R2 hw => ?_)
      refine m_goto hc 33 dX12_cell_24 rfl ?_
      exact r_iret hc hr dX12_cell_33 hw
  · have hw := hw.2 cq
    refine m_iload_n hc 1 dX12_cell_4 rfl rfl ?_
    refine m_iload_n hc 2 dX12_cell_5 rfl rfl ?_
    refine m_iload_n hc 3 dX12_cell_6 rfl rfl ?_
    refine r_callSi hc hr mt_keyOf lm_X12_144 (ok_keyOf hok hw) (Nat.le_of_ble_eq_true rfl) dX12_cell_7 rfl (rest := []) rfl (Nat.le_of_ble_eq_true rfl) (fun r3 R3 hw => ?_)
    refine m_goto hc 33 dX12_cell_10 rfl ?_
    exact r_iret hc hr dX12_cell_33 hw
def wb_steps_257 (K257 : Int32 → Int32 → RS → Prop) (K : Int32 → RS → Prop) (x5 x6 : Int32) (R : RS) : Prop := (1764 ≤ x6 → (x5 = 0 ∨ x5 = 1) ∧ K x5 R) ∧ (¬ (1764 ≤ x6) → vp_in x6 1764 ∧ vp_in x6 1764 ∧ K257 x5 (x6 + 1) (up R 19 (Int32.toNatClampNeg x6) (R 20 (Int32.toNatClampNeg x6))))
def wl_steps_257 (K : Int32 → RS → Prop) : Nat → Int32 → Int32 → RS → Prop
  | 0 => fun _ _ _ => False
  | nn + 1 => wb_steps_257 (wl_steps_257 K nn) K
set_option maxHeartbeats 4000000 in
set_option maxRecDepth 100000 in
theorem l_steps_257 {G : RG} {X : Fx} {K : Int32 → RS → Prop} (hok : okG G) (hc : Cx X RX12 cX12_steps 9) (hr : Cr G 2 (some .boolean) K X) : ∀ (nn : Nat) (x5 x6 : Int32) (R : RS), wl_steps_257 K nn x5 x6 R → MR G X 9 R 257 [(0, .ref G.2.2.1), (5, .int x5), (6, .int x6)] [] := by
  intro nn
  induction nn with
  | zero => intro x5 x6 R hw; exact False.elim hw
  | succ nn ih =>
    intro x5 x6 R hw
    have hw : wb_steps_257 (wl_steps_257 K nn) K x5 x6 R := hw
    have h257 := ih
    generalize wl_steps_257 K nn = K257 at hw h257
    unfold wb_steps_257 at hw
    refine m_iload hc 2 dX12_steps_257 rfl ?_
    refine m_aload_n hc 0 dX12_steps_259 rfl rfl ?_
    refine r_geta hc hr 19 dX12_steps_260 lf_X12_62 (Nat.le_of_ble_eq_true rfl) rfl ?_
    refine r_alen hc hr (i := 15) (f := 19) (v := 1764) rfl rfl dX12_steps_263 ?_
    refine m_icmp_ge hc 287 dX12_steps_264 rfl (fun cq => ?_) (fun cq => ?_)
    · have hw := hw.1 cq
      refine m_iload hc 1 dX12_steps_287 rfl ?_
      exact r_zret hc hr dX12_steps_289 hw.1 hw.2
    · have hw := hw.2 cq
      refine m_aload_n hc 0 dX12_steps_267 rfl rfl ?_
      refine r_geta hc hr 19 dX12_steps_268 lf_X12_62 (Nat.le_of_ble_eq_true rfl) rfl ?_
      refine m_iload hc 2 dX12_steps_271 rfl ?_
      refine m_aload_n hc 0 dX12_steps_273 rfl rfl ?_
      refine r_geta hc hr 20 dX12_steps_274 lf_X12_65 (Nat.le_of_ble_eq_true rfl) rfl ?_
      refine m_iload hc 2 dX12_steps_277 rfl ?_
      obtain ⟨hi, hw⟩ := hw
      refine r_iald hc hr (i := 16) (f := 20) rfl hi dX12_steps_279 ?_
      obtain ⟨hi, hw⟩ := hw
      refine r_iast hc hr (i := 15) (f := 19) rfl hi dX12_steps_280 ?_
      refine m_iinc hc 2 (x6 + 1) [(6, .int (x6 + 1)), (0, .ref G.2.2.1), (5, .int x5)] dX12_steps_281 rfl rfl (Nat.le_of_ble_eq_true rfl) rfl ?_
      refine m_goto hc 257 dX12_steps_284 rfl ?_
      refine m_sub [1, 2, 0] rfl ?_
      exact h257 x5 (x6 + 1) (up R 19 (Int32.toNatClampNeg x6) (R 20 (Int32.toNatClampNeg x6))) hw
def w_steps_183 (K44 : Int32 → Int32 → Int32 → Int32 → Int32 → Int32 → RS → Prop) (K54 : Int32 → Int32 → Int32 → Int32 → Int32 → Int32 → Int32 → RS → Prop) (K : Int32 → RS → Prop) (x1 x2 x3 x4 x5 x6 x7 s0 s1 : Int32) (R : RS) : Prop := ¬ (R 0 1) = 0 ∧ (vp_in ((x6 * 42) + x7) 1764 ∧ (x5 = 0 → K54 x1 x2 x3 x4 0 x6 (x7 + 1) (up R 20 (Int32.toNatClampNeg ((x6 * 42) + x7)) (iRem (s1 + s0) (R 0 1)))) ∧ (¬ (x5 = 0) → ¬ ((up R 20 (Int32.toNatClampNeg ((x6 * 42) + x7)) (iRem (s1 + s0) (R 0 1))) 0 1) = 0 ∧ (((iRem (s1 + s0) ((up R 20 (Int32.toNatClampNeg ((x6 * 42) + x7)) (iRem (s1 + s0) (R 0 1))) 0 1)) = 0 → K54 x1 x2 x3 x4 1 x6 (x7 + 1) (up R 20 (Int32.toNatClampNeg ((x6 * 42) + x7)) (iRem (s1 + s0) (R 0 1)))) ∧ (¬ ((iRem (s1 + s0) ((up R 20 (Int32.toNatClampNeg ((x6 * 42) + x7)) (iRem (s1 + s0) (R 0 1))) 0 1)) = 0) → (41 ≤ x6 → K54 x1 x2 x3 x4 0 x6 (x7 + 1) (up R 20 (Int32.toNatClampNeg ((x6 * 42) + x7)) (iRem (s1 + s0) (R 0 1)))) ∧ (¬ (41 ≤ x6) → (41 ≤ x7 → K54 x1 x2 x3 x4 0 x6 (x7 + 1) (up R 20 (Int32.toNatClampNeg ((x6 * 42) + x7)) (iRem (s1 + s0) (R 0 1)))) ∧ (¬ (41 ≤ x7) → K54 x1 x2 x3 x4 1 x6 (x7 + 1) (up R 20 (Int32.toNatClampNeg ((x6 * 42) + x7)) (iRem (s1 + s0) (R 0 1)))))))))
set_option maxHeartbeats 4000000 in
set_option maxRecDepth 100000 in
theorem b_steps_183 {G : RG} {X : Fx} {K : Int32 → RS → Prop} (hok : okG G) (hc : Cx X RX12 cX12_steps 9) (hr : Cr G 2 (some .boolean) K X) (K44 : Int32 → Int32 → Int32 → Int32 → Int32 → Int32 → RS → Prop) (K54 : Int32 → Int32 → Int32 → Int32 → Int32 → Int32 → Int32 → RS → Prop) (h44 : ∀ (x1 x2 x3 x4 x5 x6 : Int32) (R : RS), K44 x1 x2 x3 x4 x5 x6 R → MR G X 9 R 44 [(0, .ref G.2.2.1), (1, .int x1), (2, .int x2), (3, .int x3), (4, .int x4), (5, .int x5), (6, .int x6)] []) (h54 : ∀ (x1 x2 x3 x4 x5 x6 x7 : Int32) (R : RS), K54 x1 x2 x3 x4 x5 x6 x7 R → MR G X 9 R 54 [(0, .ref G.2.2.1), (1, .int x1), (2, .int x2), (3, .int x3), (4, .int x4), (5, .int x5), (6, .int x6), (7, .int x7)] []) : ∀ (x1 x2 x3 x4 x5 x6 x7 s0 s1 : Int32) (R : RS), w_steps_183 K44 K54 K x1 x2 x3 x4 x5 x6 x7 s0 s1 R → MR G X 9 R 183 [(0, .ref G.2.2.1), (1, .int x1), (2, .int x2), (3, .int x3), (4, .int x4), (5, .int x5), (6, .int x6), (7, .int x7)] [.int s0, .int s1] := by
  intro x1 x2 x3 x4 x5 x6 x7 s0 s1 R hw
  unfold w_steps_183 at hw
  refine m_iadd hc dX12_steps_183 ?_
  refine m_istore hc [(8, .int (s1 + s0)), (0, .ref G.2.2.1), (1, .int x1), (2, .int x2), (3, .int x3), (4, .int x4), (5, .int x5), (6, .int x6), (7, .int x7)] dX12_steps_184 (Nat.le_of_ble_eq_true rfl) rfl ?_
  refine m_aload_n hc 1 dX12_steps_186 rfl rfl ?_
  refine r_geta hc hr 20 dX12_steps_187 lf_X12_65 (Nat.le_of_ble_eq_true rfl) rfl ?_
  refine m_iload hc 7 dX12_steps_190 rfl ?_
  refine m_bipush hc 42 dX12_steps_192 (by decide) ?_
  refine m_imul hc dX12_steps_194 ?_
  refine m_iload hc 8 dX12_steps_195 rfl ?_
  refine m_iadd hc dX12_steps_197 ?_
  refine m_iload hc 0 dX12_steps_198 rfl ?_
  refine m_aload_n hc 1 dX12_steps_200 rfl rfl ?_
  refine r_geti hc hr 1 dX12_steps_201 lf_X12_9 (Nat.le_of_ble_eq_true rfl) rfl ?_
  obtain ⟨hq, hw⟩ := hw
  refine m_irem hc dX12_steps_204 hq ?_
  obtain ⟨hi, hw⟩ := hw
  refine r_iast hc hr (i := 16) (f := 20) rfl hi dX12_steps_205 ?_
  refine m_iload hc 6 dX12_steps_206 rfl ?_
  refine m_if_eq hc 239 dX12_steps_208 rfl (fun cq => ?_) (fun cq => ?_)
  · have hw := hw.1 cq
    refine m_iconst hc 0 dX12_steps_239 (by decide) ?_
    refine m_istore hc [(5, .int 0), (8, .int (s1 + s0)), (0, .ref G.2.2.1), (1, .int x1), (2, .int x2), (3, .int x3), (4, .int x4), (6, .int x6), (7, .int x7)] dX12_steps_240 (Nat.le_of_ble_eq_true rfl) rfl ?_
    refine m_iinc hc 8 (x7 + 1) [(7, .int (x7 + 1)), (5, .int 0), (8, .int (s1 + s0)), (0, .ref G.2.2.1), (1, .int x1), (2, .int x2), (3, .int x3), (4, .int x4), (6, .int x6)] dX12_steps_242 rfl rfl (Nat.le_of_ble_eq_true rfl) rfl ?_
    refine m_goto hc 54 dX12_steps_245 rfl ?_
    refine m_sub [3, 4, 5, 6, 7, 1, 8, 0] rfl ?_
    exact h54 x1 x2 x3 x4 0 x6 (x7 + 1) (up R 20 (Int32.toNatClampNeg ((x6 * 42) + x7)) (iRem (s1 + s0) (R 0 1))) hw
  · have hw := hw.2 cq
    refine m_iload hc 0 dX12_steps_211 rfl ?_
    refine m_aload_n hc 1 dX12_steps_213 rfl rfl ?_
    refine r_geti hc hr 1 dX12_steps_214 lf_X12_9 (Nat.le_of_ble_eq_true rfl) rfl ?_
    obtain ⟨hq, hw⟩ := hw
    refine m_irem hc dX12_steps_217 hq ?_
    refine m_if_eq hc 235 dX12_steps_218 rfl (fun cq => ?_) (fun cq => ?_)
    · have hw := hw.1 cq
      refine m_iconst hc 1 dX12_steps_235 (by decide) ?_
      refine m_goto hc 240 dX12_steps_236 rfl ?_
      refine m_istore hc [(5, .int 1), (8, .int (s1 + s0)), (0, .ref G.2.2.1), (1, .int x1), (2, .int x2), (3, .int x3), (4, .int x4), (6, .int x6), (7, .int x7)] dX12_steps_240 (Nat.le_of_ble_eq_true rfl) rfl ?_
      refine m_iinc hc 8 (x7 + 1) [(7, .int (x7 + 1)), (5, .int 1), (8, .int (s1 + s0)), (0, .ref G.2.2.1), (1, .int x1), (2, .int x2), (3, .int x3), (4, .int x4), (6, .int x6)] dX12_steps_242 rfl rfl (Nat.le_of_ble_eq_true rfl) rfl ?_
      refine m_goto hc 54 dX12_steps_245 rfl ?_
      refine m_sub [3, 4, 5, 6, 7, 1, 8, 0] rfl ?_
      exact h54 x1 x2 x3 x4 1 x6 (x7 + 1) (up R 20 (Int32.toNatClampNeg ((x6 * 42) + x7)) (iRem (s1 + s0) (R 0 1))) hw
    · have hw := hw.2 cq
      refine m_iload hc 7 dX12_steps_221 rfl ?_
      refine m_bipush hc 41 dX12_steps_223 (by decide) ?_
      refine m_icmp_ge hc 239 dX12_steps_225 rfl (fun cq => ?_) (fun cq => ?_)
      · have hw := hw.1 cq
        refine m_iconst hc 0 dX12_steps_239 (by decide) ?_
        refine m_istore hc [(5, .int 0), (8, .int (s1 + s0)), (0, .ref G.2.2.1), (1, .int x1), (2, .int x2), (3, .int x3), (4, .int x4), (6, .int x6), (7, .int x7)] dX12_steps_240 (Nat.le_of_ble_eq_true rfl) rfl ?_
        refine m_iinc hc 8 (x7 + 1) [(7, .int (x7 + 1)), (5, .int 0), (8, .int (s1 + s0)), (0, .ref G.2.2.1), (1, .int x1), (2, .int x2), (3, .int x3), (4, .int x4), (6, .int x6)] dX12_steps_242 rfl rfl (Nat.le_of_ble_eq_true rfl) rfl ?_
        refine m_goto hc 54 dX12_steps_245 rfl ?_
        refine m_sub [3, 4, 5, 6, 7, 1, 8, 0] rfl ?_
        exact h54 x1 x2 x3 x4 0 x6 (x7 + 1) (up R 20 (Int32.toNatClampNeg ((x6 * 42) + x7)) (iRem (s1 + s0) (R 0 1))) hw
      · have hw := hw.2 cq
        refine m_iload hc 8 dX12_steps_228 rfl ?_
        refine m_bipush hc 41 dX12_steps_230 (by decide) ?_
        refine m_icmp_ge hc 239 dX12_steps_232 rfl (fun cq => ?_) (fun cq => ?_)
        · have hw := hw.1 cq
          refine m_iconst hc 0 dX12_steps_239 (by decide) ?_
          refine m_istore hc [(5, .int 0), (8, .int (s1 + s0)), (0, .ref G.2.2.1), (1, .int x1), (2, .int x2), (3, .int x3), (4, .int x4), (6, .int x6), (7, .int x7)] dX12_steps_240 (Nat.le_of_ble_eq_true rfl) rfl ?_
          refine m_iinc hc 8 (x7 + 1) [(7, .int (x7 + 1)), (5, .int 0), (8, .int (s1 + s0)), (0, .ref G.2.2.1), (1, .int x1), (2, .int x2), (3, .int x3), (4, .int x4), (6, .int x6)] dX12_steps_242 rfl rfl (Nat.le_of_ble_eq_true rfl) rfl ?_
          refine m_goto hc 54 dX12_steps_245 rfl ?_
          refine m_sub [3, 4, 5, 6, 7, 1, 8, 0] rfl ?_
          exact h54 x1 x2 x3 x4 0 x6 (x7 + 1) (up R 20 (Int32.toNatClampNeg ((x6 * 42) + x7)) (iRem (s1 + s0) (R 0 1))) hw
        · have hw := hw.2 cq
          refine m_iconst hc 1 dX12_steps_235 (by decide) ?_
          refine m_goto hc 240 dX12_steps_236 rfl ?_
          refine m_istore hc [(5, .int 1), (8, .int (s1 + s0)), (0, .ref G.2.2.1), (1, .int x1), (2, .int x2), (3, .int x3), (4, .int x4), (6, .int x6), (7, .int x7)] dX12_steps_240 (Nat.le_of_ble_eq_true rfl) rfl ?_
          refine m_iinc hc 8 (x7 + 1) [(7, .int (x7 + 1)), (5, .int 1), (8, .int (s1 + s0)), (0, .ref G.2.2.1), (1, .int x1), (2, .int x2), (3, .int x3), (4, .int x4), (6, .int x6)] dX12_steps_242 rfl rfl (Nat.le_of_ble_eq_true rfl) rfl ?_
          refine m_goto hc 54 dX12_steps_245 rfl ?_
          refine m_sub [3, 4, 5, 6, 7, 1, 8, 0] rfl ?_
          exact h54 x1 x2 x3 x4 1 x6 (x7 + 1) (up R 20 (Int32.toNatClampNeg ((x6 * 42) + x7)) (iRem (s1 + s0) (R 0 1))) hw
def w_steps_151 (K44 : Int32 → Int32 → Int32 → Int32 → Int32 → Int32 → RS → Prop) (K54 : Int32 → Int32 → Int32 → Int32 → Int32 → Int32 → Int32 → RS → Prop) (K : Int32 → RS → Prop) (x1 x2 x3 x4 x5 x6 x7 s0 s1 : Int32) (R : RS) : Prop := (x7 ≤ 0 → w_steps_183 K44 K54 K x1 x2 x3 x4 x5 x6 x7 0 (s1 + s0) R) ∧ (¬ (x7 ≤ 0) → vp_in (((x6 * 42) + x7) - 1) 1764 ∧ w_steps_183 K44 K54 K x1 x2 x3 x4 x5 x6 x7 ((R 19 (Int32.toNatClampNeg (((x6 * 42) + x7) - 1))) * x4) (s1 + s0) R)
set_option maxHeartbeats 4000000 in
set_option maxRecDepth 100000 in
theorem b_steps_151 {G : RG} {X : Fx} {K : Int32 → RS → Prop} (hok : okG G) (hc : Cx X RX12 cX12_steps 9) (hr : Cr G 2 (some .boolean) K X) (K44 : Int32 → Int32 → Int32 → Int32 → Int32 → Int32 → RS → Prop) (K54 : Int32 → Int32 → Int32 → Int32 → Int32 → Int32 → Int32 → RS → Prop) (h44 : ∀ (x1 x2 x3 x4 x5 x6 : Int32) (R : RS), K44 x1 x2 x3 x4 x5 x6 R → MR G X 9 R 44 [(0, .ref G.2.2.1), (1, .int x1), (2, .int x2), (3, .int x3), (4, .int x4), (5, .int x5), (6, .int x6)] []) (h54 : ∀ (x1 x2 x3 x4 x5 x6 x7 : Int32) (R : RS), K54 x1 x2 x3 x4 x5 x6 x7 R → MR G X 9 R 54 [(0, .ref G.2.2.1), (1, .int x1), (2, .int x2), (3, .int x3), (4, .int x4), (5, .int x5), (6, .int x6), (7, .int x7)] []) : ∀ (x1 x2 x3 x4 x5 x6 x7 s0 s1 : Int32) (R : RS), w_steps_151 K44 K54 K x1 x2 x3 x4 x5 x6 x7 s0 s1 R → MR G X 9 R 151 [(0, .ref G.2.2.1), (1, .int x1), (2, .int x2), (3, .int x3), (4, .int x4), (5, .int x5), (6, .int x6), (7, .int x7)] [.int s0, .int s1] := by
  intro x1 x2 x3 x4 x5 x6 x7 s0 s1 R hw
  unfold w_steps_151 at hw
  refine m_iadd hc dX12_steps_151 ?_
  refine m_istore hc [(8, .int (s1 + s0)), (0, .ref G.2.2.1), (1, .int x1), (2, .int x2), (3, .int x3), (4, .int x4), (5, .int x5), (6, .int x6), (7, .int x7)] dX12_steps_152 (Nat.le_of_ble_eq_true rfl) rfl ?_
  refine m_iload hc 0 dX12_steps_154 rfl ?_
  refine m_iload hc 8 dX12_steps_156 rfl ?_
  refine m_if_le hc 182 dX12_steps_158 rfl (fun cq => ?_) (fun cq => ?_)
  · have hw := hw.1 cq
    refine m_iconst hc 0 dX12_steps_182 (by decide) ?_
    refine m_sub [1, 2, 3, 4, 5, 6, 7, 8] rfl ?_
    exact b_steps_183 hok hc hr K44 K54 h44 h54 x1 x2 x3 x4 x5 x6 x7 0 (s1 + s0) R hw
  · have hw := hw.2 cq
    refine m_aload_n hc 1 dX12_steps_161 rfl rfl ?_
    refine r_geta hc hr 19 dX12_steps_162 lf_X12_62 (Nat.le_of_ble_eq_true rfl) rfl ?_
    refine m_iload hc 7 dX12_steps_165 rfl ?_
    refine m_bipush hc 42 dX12_steps_167 (by decide) ?_
    refine m_imul hc dX12_steps_169 ?_
    refine m_iload hc 8 dX12_steps_170 rfl ?_
    refine m_iadd hc dX12_steps_172 ?_
    refine m_iconst hc 1 dX12_steps_173 (by decide) ?_
    refine m_isub hc dX12_steps_174 ?_
    obtain ⟨hi, hw⟩ := hw
    refine r_iald hc hr (i := 15) (f := 19) rfl hi dX12_steps_175 ?_
    refine m_iload hc 5 dX12_steps_176 rfl ?_
    refine m_imul hc dX12_steps_178 ?_
    refine m_goto hc 183 dX12_steps_179 rfl ?_
    refine m_sub [1, 2, 3, 4, 5, 6, 7, 8] rfl ?_
    exact b_steps_183 hok hc hr K44 K54 h44 h54 x1 x2 x3 x4 x5 x6 x7 ((R 19 (Int32.toNatClampNeg (((x6 * 42) + x7) - 1))) * x4) (s1 + s0) R hw
def w_steps_93 (K44 : Int32 → Int32 → Int32 → Int32 → Int32 → Int32 → RS → Prop) (K54 : Int32 → Int32 → Int32 → Int32 → Int32 → Int32 → Int32 → RS → Prop) (K : Int32 → RS → Prop) (x1 x2 x3 x4 x5 x6 x7 s0 : Int32) (R : RS) : Prop := vp_in ((x6 * 42) + x7) 1764 ∧ ∀ v1 : Int32, v1 = (s0 + ((R 19 (Int32.toNatClampNeg ((x6 * 42) + x7))) * ((R 0 1) - (R 0 25)))) → (x6 ≤ 0 → w_steps_151 K44 K54 K x1 x2 x3 x4 x5 x6 x7 0 v1 R) ∧ (¬ (x6 ≤ 0) → vp_in (((x6 - 1) * 42) + x7) 1764 ∧ w_steps_151 K44 K54 K x1 x2 x3 x4 x5 x6 x7 ((R 19 (Int32.toNatClampNeg (((x6 - 1) * 42) + x7))) * x3) v1 R)
set_option maxHeartbeats 4000000 in
set_option maxRecDepth 100000 in
theorem b_steps_93 {G : RG} {X : Fx} {K : Int32 → RS → Prop} (hok : okG G) (hc : Cx X RX12 cX12_steps 9) (hr : Cr G 2 (some .boolean) K X) (K44 : Int32 → Int32 → Int32 → Int32 → Int32 → Int32 → RS → Prop) (K54 : Int32 → Int32 → Int32 → Int32 → Int32 → Int32 → Int32 → RS → Prop) (h44 : ∀ (x1 x2 x3 x4 x5 x6 : Int32) (R : RS), K44 x1 x2 x3 x4 x5 x6 R → MR G X 9 R 44 [(0, .ref G.2.2.1), (1, .int x1), (2, .int x2), (3, .int x3), (4, .int x4), (5, .int x5), (6, .int x6)] []) (h54 : ∀ (x1 x2 x3 x4 x5 x6 x7 : Int32) (R : RS), K54 x1 x2 x3 x4 x5 x6 x7 R → MR G X 9 R 54 [(0, .ref G.2.2.1), (1, .int x1), (2, .int x2), (3, .int x3), (4, .int x4), (5, .int x5), (6, .int x6), (7, .int x7)] []) : ∀ (x1 x2 x3 x4 x5 x6 x7 s0 : Int32) (R : RS), w_steps_93 K44 K54 K x1 x2 x3 x4 x5 x6 x7 s0 R → MR G X 9 R 93 [(0, .ref G.2.2.1), (1, .int x1), (2, .int x2), (3, .int x3), (4, .int x4), (5, .int x5), (6, .int x6), (7, .int x7)] [.int s0] := by
  intro x1 x2 x3 x4 x5 x6 x7 s0 R hw
  unfold w_steps_93 at hw
  refine m_istore hc [(8, .int s0), (0, .ref G.2.2.1), (1, .int x1), (2, .int x2), (3, .int x3), (4, .int x4), (5, .int x5), (6, .int x6), (7, .int x7)] dX12_steps_93 (Nat.le_of_ble_eq_true rfl) rfl ?_
  refine m_iload hc 0 dX12_steps_95 rfl ?_
  refine m_aload_n hc 1 dX12_steps_97 rfl rfl ?_
  refine r_geta hc hr 19 dX12_steps_98 lf_X12_62 (Nat.le_of_ble_eq_true rfl) rfl ?_
  refine m_iload hc 7 dX12_steps_101 rfl ?_
  refine m_bipush hc 42 dX12_steps_103 (by decide) ?_
  refine m_imul hc dX12_steps_105 ?_
  refine m_iload hc 8 dX12_steps_106 rfl ?_
  refine m_iadd hc dX12_steps_108 ?_
  obtain ⟨hi, hw⟩ := hw
  refine r_iald hc hr (i := 15) (f := 19) rfl hi dX12_steps_109 ?_
  refine m_aload_n hc 1 dX12_steps_110 rfl rfl ?_
  refine r_geti hc hr 1 dX12_steps_111 lf_X12_9 (Nat.le_of_ble_eq_true rfl) rfl ?_
  refine m_aload_n hc 1 dX12_steps_114 rfl rfl ?_
  refine r_geti hc hr 25 dX12_steps_115 lf_X12_230 (Nat.le_of_ble_eq_true rfl) rfl ?_
  refine m_isub hc dX12_steps_118 ?_
  refine m_imul hc dX12_steps_119 ?_
  refine m_iadd hc dX12_steps_120 ?_
  refine m_topi (fun v1 e_v1 => ?_)
  have hw := hw v1 e_v1
  refine m_istore hc [(8, .int v1), (0, .ref G.2.2.1), (1, .int x1), (2, .int x2), (3, .int x3), (4, .int x4), (5, .int x5), (6, .int x6), (7, .int x7)] dX12_steps_121 (Nat.le_of_ble_eq_true rfl) rfl ?_
  refine m_iload hc 0 dX12_steps_123 rfl ?_
  refine m_iload hc 7 dX12_steps_125 rfl ?_
  refine m_if_le hc 150 dX12_steps_127 rfl (fun cq => ?_) (fun cq => ?_)
  · have hw := hw.1 cq
    refine m_iconst hc 0 dX12_steps_150 (by decide) ?_
    refine m_sub [1, 2, 3, 4, 5, 6, 7, 8] rfl ?_
    exact b_steps_151 hok hc hr K44 K54 h44 h54 x1 x2 x3 x4 x5 x6 x7 0 v1 R hw
  · have hw := hw.2 cq
    refine m_aload_n hc 1 dX12_steps_130 rfl rfl ?_
    refine r_geta hc hr 19 dX12_steps_131 lf_X12_62 (Nat.le_of_ble_eq_true rfl) rfl ?_
    refine m_iload hc 7 dX12_steps_134 rfl ?_
    refine m_iconst hc 1 dX12_steps_136 (by decide) ?_
    refine m_isub hc dX12_steps_137 ?_
    refine m_bipush hc 42 dX12_steps_138 (by decide) ?_
    refine m_imul hc dX12_steps_140 ?_
    refine m_iload hc 8 dX12_steps_141 rfl ?_
    refine m_iadd hc dX12_steps_143 ?_
    obtain ⟨hi, hw⟩ := hw
    refine r_iald hc hr (i := 15) (f := 19) rfl hi dX12_steps_144 ?_
    refine m_iload_n hc 4 dX12_steps_145 rfl rfl ?_
    refine m_imul hc dX12_steps_146 ?_
    refine m_goto hc 151 dX12_steps_147 rfl ?_
    refine m_sub [1, 2, 3, 4, 5, 6, 7, 8] rfl ?_
    exact b_steps_151 hok hc hr K44 K54 h44 h54 x1 x2 x3 x4 x5 x6 x7 ((R 19 (Int32.toNatClampNeg (((x6 - 1) * 42) + x7))) * x3) v1 R hw
def wb_steps_54 (K44 : Int32 → Int32 → Int32 → Int32 → Int32 → Int32 → RS → Prop) (K54 : Int32 → Int32 → Int32 → Int32 → Int32 → Int32 → Int32 → RS → Prop) (K : Int32 → RS → Prop) (x1 x2 x3 x4 x5 x6 x7 : Int32) (R : RS) : Prop := (41 < x7 → K44 x1 x2 x3 x4 x5 (x6 + 1) R) ∧ (¬ (41 < x7) → (41 ≤ x6 → w_steps_93 K44 K54 K x1 x2 x3 x4 x5 x6 x7 0 R) ∧ (¬ (41 ≤ x6) → (41 ≤ x7 → w_steps_93 K44 K54 K x1 x2 x3 x4 x5 x6 x7 0 R) ∧ (¬ (41 ≤ x7) → wp_cell x1 x2 x6 x7 R (fun r1 R1 => vp_in r1 68921 ∧ w_steps_93 K44 K54 K x1 x2 x3 x4 x5 x6 x7 (R1 17 (Int32.toNatClampNeg r1)) R1))))
def wl_steps_54 (K44 : Int32 → Int32 → Int32 → Int32 → Int32 → Int32 → RS → Prop) (K : Int32 → RS → Prop) : Nat → Int32 → Int32 → Int32 → Int32 → Int32 → Int32 → Int32 → RS → Prop
  | 0 => fun _ _ _ _ _ _ _ _ => False
  | nn + 1 => wb_steps_54 K44 (wl_steps_54 K44 K nn) K
set_option maxHeartbeats 4000000 in
set_option maxRecDepth 100000 in
theorem l_steps_54 {G : RG} {X : Fx} {K : Int32 → RS → Prop} (hok : okG G) (hc : Cx X RX12 cX12_steps 9) (hr : Cr G 2 (some .boolean) K X) (K44 : Int32 → Int32 → Int32 → Int32 → Int32 → Int32 → RS → Prop) (h44 : ∀ (x1 x2 x3 x4 x5 x6 : Int32) (R : RS), K44 x1 x2 x3 x4 x5 x6 R → MR G X 9 R 44 [(0, .ref G.2.2.1), (1, .int x1), (2, .int x2), (3, .int x3), (4, .int x4), (5, .int x5), (6, .int x6)] []) : ∀ (nn : Nat) (x1 x2 x3 x4 x5 x6 x7 : Int32) (R : RS), wl_steps_54 K44 K nn x1 x2 x3 x4 x5 x6 x7 R → MR G X 9 R 54 [(0, .ref G.2.2.1), (1, .int x1), (2, .int x2), (3, .int x3), (4, .int x4), (5, .int x5), (6, .int x6), (7, .int x7)] [] := by
  intro nn
  induction nn with
  | zero => intro x1 x2 x3 x4 x5 x6 x7 R hw; exact False.elim hw
  | succ nn ih =>
    intro x1 x2 x3 x4 x5 x6 x7 R hw
    have hw : wb_steps_54 K44 (wl_steps_54 K44 K nn) K x1 x2 x3 x4 x5 x6 x7 R := hw
    have h54 := ih
    generalize wl_steps_54 K44 K nn = K54 at hw h54
    unfold wb_steps_54 at hw
    refine m_iload hc 7 dX12_steps_54 rfl ?_
    refine m_bipush hc 41 dX12_steps_56 (by decide) ?_
    refine m_icmp_gt hc 248 dX12_steps_58 rfl (fun cq => ?_) (fun cq => ?_)
    · have hw := hw.1 cq
      refine m_iinc hc 6 (x6 + 1) [(6, .int (x6 + 1)), (0, .ref G.2.2.1), (1, .int x1), (2, .int x2), (3, .int x3), (4, .int x4), (5, .int x5), (7, .int x7)] dX12_steps_248 rfl rfl (Nat.le_of_ble_eq_true rfl) rfl ?_
      refine m_goto hc 44 dX12_steps_251 rfl ?_
      refine m_sub [1, 2, 3, 4, 5, 6, 0] rfl ?_
      exact h44 x1 x2 x3 x4 x5 (x6 + 1) R hw
    · have hw := hw.2 cq
      refine m_iload hc 6 dX12_steps_61 rfl ?_
      refine m_bipush hc 41 dX12_steps_63 (by decide) ?_
      refine m_icmp_ge hc 92 dX12_steps_65 rfl (fun cq => ?_) (fun cq => ?_)
      · have hw := hw.1 cq
        refine m_iconst hc 0 dX12_steps_92 (by decide) ?_
        exact b_steps_93 hok hc hr K44 K54 h44 h54 x1 x2 x3 x4 x5 x6 x7 0 R hw
      · have hw := hw.2 cq
        refine m_iload hc 7 dX12_steps_68 rfl ?_
        refine m_bipush hc 41 dX12_steps_70 (by decide) ?_
        refine m_icmp_ge hc 92 dX12_steps_72 rfl (fun cq => ?_) (fun cq => ?_)
        · have hw := hw.1 cq
          refine m_iconst hc 0 dX12_steps_92 (by decide) ?_
          exact b_steps_93 hok hc hr K44 K54 h44 h54 x1 x2 x3 x4 x5 x6 x7 0 R hw
        · have hw := hw.2 cq
          refine m_aload_n hc 0 dX12_steps_75 rfl rfl ?_
          refine r_geta hc hr 17 dX12_steps_76 lf_X12_56 (Nat.le_of_ble_eq_true rfl) rfl ?_
          refine m_iload_n hc 1 dX12_steps_79 rfl rfl ?_
          refine m_iload_n hc 2 dX12_steps_80 rfl rfl ?_
          refine m_iload hc 6 dX12_steps_81 rfl ?_
          refine m_iload hc 7 dX12_steps_83 rfl ?_
          refine r_callSi hc hr mt_cell lm_X12_233 (ok_cell hok hw) (Nat.le_of_ble_eq_true rfl) dX12_steps_85 rfl (rest := [.ref (G.2.2.2 17)]) rfl (Nat.le_of_ble_eq_true rfl) (fun r1 R1 hw => ?_)
          obtain ⟨hi, hw⟩ := hw
          refine r_iald hc hr (i := 13) (f := 17) rfl hi dX12_steps_88 ?_
          refine m_goto hc 93 dX12_steps_89 rfl ?_
          exact b_steps_93 hok hc hr K44 K54 h44 h54 x1 x2 x3 x4 x5 x6 x7 (R1 17 (Int32.toNatClampNeg r1)) R1 hw
def wb_steps_44 (K44 : Int32 → Int32 → Int32 → Int32 → Int32 → Int32 → RS → Prop) (K : Int32 → RS → Prop) (x1 x2 x3 x4 x5 x6 : Int32) (R : RS) : Prop := (41 < x6 → ∃ nn : Nat, wl_steps_257 K nn x5 0 R) ∧ (¬ (41 < x6) → ∃ nn : Nat, wl_steps_54 K44 K nn x1 x2 x3 x4 x5 x6 0 R)
def wl_steps_44 (K : Int32 → RS → Prop) : Nat → Int32 → Int32 → Int32 → Int32 → Int32 → Int32 → RS → Prop
  | 0 => fun _ _ _ _ _ _ _ => False
  | nn + 1 => wb_steps_44 (wl_steps_44 K nn) K
set_option maxHeartbeats 4000000 in
set_option maxRecDepth 100000 in
theorem l_steps_44 {G : RG} {X : Fx} {K : Int32 → RS → Prop} (hok : okG G) (hc : Cx X RX12 cX12_steps 9) (hr : Cr G 2 (some .boolean) K X) : ∀ (nn : Nat) (x1 x2 x3 x4 x5 x6 : Int32) (R : RS), wl_steps_44 K nn x1 x2 x3 x4 x5 x6 R → MR G X 9 R 44 [(0, .ref G.2.2.1), (1, .int x1), (2, .int x2), (3, .int x3), (4, .int x4), (5, .int x5), (6, .int x6)] [] := by
  intro nn
  induction nn with
  | zero => intro x1 x2 x3 x4 x5 x6 R hw; exact False.elim hw
  | succ nn ih =>
    intro x1 x2 x3 x4 x5 x6 R hw
    have hw : wb_steps_44 (wl_steps_44 K nn) K x1 x2 x3 x4 x5 x6 R := hw
    have h44 := ih
    generalize wl_steps_44 K nn = K44 at hw h44
    unfold wb_steps_44 at hw
    refine m_iload hc 6 dX12_steps_44 rfl ?_
    refine m_bipush hc 41 dX12_steps_46 (by decide) ?_
    refine m_icmp_gt hc 254 dX12_steps_48 rfl (fun cq => ?_) (fun cq => ?_)
    · have hw := hw.1 cq
      refine m_iconst hc 0 dX12_steps_254 (by decide) ?_
      refine m_istore hc [(6, .int 0), (0, .ref G.2.2.1), (1, .int x1), (2, .int x2), (3, .int x3), (4, .int x4), (5, .int x5)] dX12_steps_255 (Nat.le_of_ble_eq_true rfl) rfl ?_
      refine m_sub [1, 6, 0] rfl ?_
      obtain ⟨nn, hw⟩ := hw
      exact l_steps_257 hok hc hr nn x5 0 R hw
    · have hw := hw.2 cq
      refine m_iconst hc 0 dX12_steps_51 (by decide) ?_
      refine m_istore hc [(7, .int 0), (0, .ref G.2.2.1), (1, .int x1), (2, .int x2), (3, .int x3), (4, .int x4), (5, .int x5), (6, .int x6)] dX12_steps_52 (Nat.le_of_ble_eq_true rfl) rfl ?_
      refine m_sub [1, 2, 3, 4, 5, 6, 7, 0] rfl ?_
      obtain ⟨nn, hw⟩ := hw
      exact l_steps_54 hok hc hr K44 h44 nn x1 x2 x3 x4 x5 x6 0 R hw
def w_steps_36 (K : Int32 → RS → Prop) (x1 x2 x3 s0 : Int32) (R : RS) : Prop := ∃ nn : Nat, wl_steps_44 K nn x1 x2 x3 s0 1 0 R
set_option maxHeartbeats 4000000 in
set_option maxRecDepth 100000 in
theorem b_steps_36 {G : RG} {X : Fx} {K : Int32 → RS → Prop} (hok : okG G) (hc : Cx X RX12 cX12_steps 9) (hr : Cr G 2 (some .boolean) K X) : ∀ (x1 x2 x3 s0 : Int32) (R : RS), w_steps_36 K x1 x2 x3 s0 R → MR G X 9 R 36 [(0, .ref G.2.2.1), (1, .int x1), (2, .int x2), (3, .int x3)] [.int s0] := by
  intro x1 x2 x3 s0 R hw
  unfold w_steps_36 at hw
  refine m_istore hc [(4, .int s0), (0, .ref G.2.2.1), (1, .int x1), (2, .int x2), (3, .int x3)] dX12_steps_36 (Nat.le_of_ble_eq_true rfl) rfl ?_
  refine m_iconst hc 1 dX12_steps_38 (by decide) ?_
  refine m_istore hc [(5, .int 1), (4, .int s0), (0, .ref G.2.2.1), (1, .int x1), (2, .int x2), (3, .int x3)] dX12_steps_39 (Nat.le_of_ble_eq_true rfl) rfl ?_
  refine m_iconst hc 0 dX12_steps_41 (by decide) ?_
  refine m_istore hc [(6, .int 0), (5, .int 1), (4, .int s0), (0, .ref G.2.2.1), (1, .int x1), (2, .int x2), (3, .int x3)] dX12_steps_42 (Nat.le_of_ble_eq_true rfl) rfl ?_
  refine m_sub [3, 4, 5, 6, 2, 1, 0] rfl ?_
  obtain ⟨nn, hw⟩ := hw
  exact l_steps_44 hok hc hr nn x1 x2 x3 s0 1 0 R hw
def w_steps_17 (K : Int32 → RS → Prop) (x1 x2 s0 : Int32) (R : RS) : Prop := (¬ x1 = 2 → w_steps_36 K x1 x2 s0 ((R 0 1) - (R 0 24)) R) ∧ (x1 = 2 → w_steps_36 K x1 x2 s0 0 R)
set_option maxHeartbeats 4000000 in
set_option maxRecDepth 100000 in
theorem b_steps_17 {G : RG} {X : Fx} {K : Int32 → RS → Prop} (hok : okG G) (hc : Cx X RX12 cX12_steps 9) (hr : Cr G 2 (some .boolean) K X) : ∀ (x1 x2 s0 : Int32) (R : RS), w_steps_17 K x1 x2 s0 R → MR G X 9 R 17 [(0, .ref G.2.2.1), (1, .int x1), (2, .int x2)] [.int s0] := by
  intro x1 x2 s0 R hw
  unfold w_steps_17 at hw
  refine m_istore_n hc [(3, .int s0), (0, .ref G.2.2.1), (1, .int x1), (2, .int x2)] dX12_steps_17 rfl (Nat.le_of_ble_eq_true rfl) rfl ?_
  refine m_iload_n hc 2 dX12_steps_18 rfl rfl ?_
  refine m_iconst hc 2 dX12_steps_19 (by decide) ?_
  refine m_icmp_ne hc 27 dX12_steps_20 rfl (fun cq => ?_) (fun cq => ?_)
  · have hw := hw.1 cq
    refine m_aload_n hc 1 dX12_steps_27 rfl rfl ?_
    refine r_geti hc hr 1 dX12_steps_28 lf_X12_9 (Nat.le_of_ble_eq_true rfl) rfl ?_
    refine m_aload_n hc 1 dX12_steps_31 rfl rfl ?_
    refine r_geti hc hr 24 dX12_steps_32 lf_X12_227 (Nat.le_of_ble_eq_true rfl) rfl ?_
    refine m_isub hc dX12_steps_35 ?_
    refine m_sub [1, 2, 3, 0] rfl ?_
    exact b_steps_36 hok hc hr x1 x2 s0 ((R 0 1) - (R 0 24)) R hw
  · have hw := hw.2 cq
    refine m_iconst hc 0 dX12_steps_23 (by decide) ?_
    refine m_goto hc 36 dX12_steps_24 rfl ?_
    refine m_sub [1, 2, 3, 0] rfl ?_
    exact b_steps_36 hok hc hr x1 x2 s0 0 R hw
def wp_steps (x1 x2 : Int32) (R : RS) (K : Int32 → RS → Prop) : Prop := (¬ x1 = 0 → w_steps_17 K x1 x2 0 R) ∧ (x1 = 0 → w_steps_17 K x1 x2 ((R 0 1) - (R 0 23)) R)
set_option maxHeartbeats 4000000 in
set_option maxRecDepth 100000 in
theorem ok_steps {G : RG} (hok : okG G) {x1 : Int32} {x2 : Int32} {R : RS} {K : Int32 → RS → Prop} (hw : wp_steps x1 x2 R K) : CF 2 yX12_steps cX12_steps 9 (some .boolean) [.ref G.2.2.1, .int x1, .int x2] G R K := by
  refine CF.of (by decide +kernel) hok (Nat.le_of_ble_eq_true rfl) (fun X hc hr => ?_)
  show MR G X 9 R 0 [(0, .ref G.2.2.1), (1, .int x1), (2, .int x2)] []
  unfold wp_steps at hw
  refine m_iload_n hc 1 dX12_steps_0 rfl rfl ?_
  refine m_if_ne hc 16 dX12_steps_1 rfl (fun cq => ?_) (fun cq => ?_)
  · have hw := hw.1 cq
    refine m_iconst hc 0 dX12_steps_16 (by decide) ?_
    exact b_steps_17 hok hc hr x1 x2 0 R hw
  · have hw := hw.2 cq
    refine m_aload_n hc 0 dX12_steps_4 rfl rfl ?_
    refine r_geti hc hr 1 dX12_steps_5 lf_X12_9 (Nat.le_of_ble_eq_true rfl) rfl ?_
    refine m_aload_n hc 0 dX12_steps_8 rfl rfl ?_
    refine r_geti hc hr 23 dX12_steps_9 lf_X12_224 (Nat.le_of_ble_eq_true rfl) rfl ?_
    refine m_isub hc dX12_steps_12 ?_
    refine m_goto hc 17 dX12_steps_13 rfl ?_
    exact b_steps_17 hok hc hr x1 x2 ((R 0 1) - (R 0 23)) R hw
