def w_often_113 (K : Int32 → RS → Prop) (x1 x2 x3 x4 x5 s0 : Int32) (R : RS) : Prop := (((up R 0 0 s0) 0 0) ≤ 0 → vp_in x1 56 ∧ (¬ ((up R 0 0 s0) 2 (Int32.toNatClampNeg x1)) = 0 → wp_layValues x1 (up (up (up (up (up R 0 0 s0) 0 22 x2) 0 23 x3) 0 24 x4) 0 25 x5) (fun r1 R1 => wp_oftenOf x1 R1 (fun r2 R2 => K r2 R2))) ∧ (((up R 0 0 s0) 2 (Int32.toNatClampNeg x1)) = 0 → K (-1) (up R 0 0 s0))) ∧ (¬ (((up R 0 0 s0) 0 0) ≤ 0) → K 0 (up R 0 0 s0))
set_option maxHeartbeats 4000000 in
set_option maxRecDepth 100000 in
theorem b_often_113 {G : RG} {X : Fx} {K : Int32 → RS → Prop} (hok : okG G) (hc : Cx X RX12 cX12_often 8) (hr : Cr G 5 (some .int) K X) : ∀ (x1 x2 x3 x4 x5 s0 : Int32) (R : RS), w_often_113 K x1 x2 x3 x4 x5 s0 R → MR G X 8 R 113 [(0, .ref G.2.2.1), (1, .int x1), (2, .int x2), (3, .int x3), (4, .int x4), (5, .int x5)] [.int s0, .ref G.2.2.1] := by
  intro x1 x2 x3 x4 x5 s0 R hw
  unfold w_often_113 at hw
  refine r_put hc hr 0 dX12_often_113 lf_X12_116 (Nat.le_of_ble_eq_true rfl) rfl rfl (by decide +kernel) ?_
  refine m_aload_n hc 0 dX12_often_116 rfl rfl ?_
  refine r_geti hc hr 0 dX12_often_117 lf_X12_116 (Nat.le_of_ble_eq_true rfl) rfl ?_
  refine m_if_le hc 125 dX12_often_120 rfl (fun cq => ?_) (fun cq => ?_)
  · have hw := hw.1 cq
    refine m_aload_n hc 0 dX12_often_125 rfl rfl ?_
    refine r_geta hc hr 2 dX12_often_126 lf_X12_13 (Nat.le_of_ble_eq_true rfl) rfl ?_
    refine m_iload_n hc 1 dX12_often_129 rfl rfl ?_
    obtain ⟨hi, hw⟩ := hw
    refine r_iald hc hr (i := 0) (f := 2) rfl hi dX12_often_130 ?_
    refine m_if_ne hc 136 dX12_often_131 rfl (fun cq => ?_) (fun cq => ?_)
    · have hw := hw.1 cq
      refine m_aload_n hc 0 dX12_often_136 rfl rfl ?_
      refine m_iload_n hc 2 dX12_often_137 rfl rfl ?_
      refine r_put hc hr 22 dX12_often_138 lf_X12_221 (Nat.le_of_ble_eq_true rfl) rfl rfl (by decide +kernel) ?_
      refine m_aload_n hc 0 dX12_often_141 rfl rfl ?_
      refine m_iload_n hc 3 dX12_often_142 rfl rfl ?_
      refine r_put hc hr 23 dX12_often_143 lf_X12_224 (Nat.le_of_ble_eq_true rfl) rfl rfl (by decide +kernel) ?_
      refine m_aload_n hc 0 dX12_often_146 rfl rfl ?_
      refine m_iload hc 4 dX12_often_147 rfl ?_
      refine r_put hc hr 24 dX12_often_149 lf_X12_227 (Nat.le_of_ble_eq_true rfl) rfl rfl (by decide +kernel) ?_
      refine m_aload_n hc 0 dX12_often_152 rfl rfl ?_
      refine m_iload hc 5 dX12_often_153 rfl ?_
      refine r_put hc hr 25 dX12_often_155 lf_X12_230 (Nat.le_of_ble_eq_true rfl) rfl rfl (by decide +kernel) ?_
      refine m_aload_n hc 0 dX12_often_158 rfl rfl ?_
      refine m_iload_n hc 1 dX12_often_159 rfl rfl ?_
      refine r_callVv hc hr mt_layValues rfl lm_X12_256 (ok_layValues hok hw) (Nat.le_of_ble_eq_true rfl) dX12_often_160 rfl (rest := []) rfl (Nat.le_of_ble_eq_true rfl) (fun r1 R1 hw => ?_)
      refine m_aload_n hc 0 dX12_often_163 rfl rfl ?_
      refine m_iload_n hc 1 dX12_often_164 rfl rfl ?_
      refine r_callVi hc hr mt_oftenOf rfl lm_X12_333 (ok_oftenOf hok hw) (Nat.le_of_ble_eq_true rfl) dX12_often_165 rfl (rest := []) rfl (Nat.le_of_ble_eq_true rfl) (fun r2 R2 hw => ?_)
      exact r_iret hc hr dX12_often_168 hw
    · have hw := hw.2 cq
      refine m_iconst hc (-1) dX12_often_134 (by decide) ?_
      exact r_iret hc hr dX12_often_135 hw
  · have hw := hw.2 cq
    refine m_iconst hc 0 dX12_often_123 (by decide) ?_
    exact r_iret hc hr dX12_often_124 hw
def w_often_89 (K : Int32 → RS → Prop) (x1 x2 x3 x4 x5 s0 : Int32) (R : RS) : Prop := wp_isPlace x1 R (fun r1 R1 => (¬ r1 = 0 → (¬ s0 = 0 → w_often_113 K x1 x2 x3 x4 x5 0 R1) ∧ (s0 = 0 → w_often_113 K x1 x2 x3 x4 x5 2 R1)) ∧ (r1 = 0 → w_often_113 K x1 x2 x3 x4 x5 1 R1))
set_option maxHeartbeats 4000000 in
set_option maxRecDepth 100000 in
theorem b_often_89 {G : RG} {X : Fx} {K : Int32 → RS → Prop} (hok : okG G) (hc : Cx X RX12 cX12_often 8) (hr : Cr G 5 (some .int) K X) : ∀ (x1 x2 x3 x4 x5 s0 : Int32) (R : RS), w_often_89 K x1 x2 x3 x4 x5 s0 R → MR G X 8 R 89 [(0, .ref G.2.2.1), (1, .int x1), (2, .int x2), (3, .int x3), (4, .int x4), (5, .int x5)] [.int s0] := by
  intro x1 x2 x3 x4 x5 s0 R hw
  unfold w_often_89 at hw
  refine m_istore hc [(7, .int s0), (0, .ref G.2.2.1), (1, .int x1), (2, .int x2), (3, .int x3), (4, .int x4), (5, .int x5)] dX12_often_89 (Nat.le_of_ble_eq_true rfl) rfl ?_
  refine m_aload_n hc 1 dX12_often_91 rfl rfl ?_
  refine m_iload_n hc 2 dX12_often_92 rfl rfl ?_
  refine r_callSi hc hr mt_isPlace lm_X12_265 (ok_isPlace hok hw) (Nat.le_of_ble_eq_true rfl) dX12_often_93 rfl (rest := [.ref G.2.2.1]) rfl (Nat.le_of_ble_eq_true rfl) (fun r1 R1 hw => ?_)
  refine m_if_ne hc 103 dX12_often_96 rfl (fun cq => ?_) (fun cq => ?_)
  · have hw := hw.1 cq
    refine m_iload hc 0 dX12_often_103 rfl ?_
    refine m_if_ne hc 112 dX12_often_105 rfl (fun cq => ?_) (fun cq => ?_)
    · have hw := hw.1 cq
      refine m_iconst hc 0 dX12_often_112 (by decide) ?_
      refine m_sub [1, 2, 3, 4, 5, 6] rfl ?_
      exact b_often_113 hok hc hr x1 x2 x3 x4 x5 0 R1 hw
    · have hw := hw.2 cq
      refine m_iconst hc 2 dX12_often_108 (by decide) ?_
      refine m_goto hc 113 dX12_often_109 rfl ?_
      refine m_sub [1, 2, 3, 4, 5, 6] rfl ?_
      exact b_often_113 hok hc hr x1 x2 x3 x4 x5 2 R1 hw
  · have hw := hw.2 cq
    refine m_iconst hc 1 dX12_often_99 (by decide) ?_
    refine m_goto hc 113 dX12_often_100 rfl ?_
    refine m_sub [1, 2, 3, 4, 5, 6] rfl ?_
    exact b_often_113 hok hc hr x1 x2 x3 x4 x5 1 R1 hw
def w_often_18 (K : Int32 → RS → Prop) (x1 x2 x3 x4 x5 s0 : Int32) (R : RS) : Prop := wp_isIn x2 0 ((R 0 1) - 1) R (fun r1 R1 => (r1 = 0 → w_often_89 K x1 x2 x3 x4 x5 0 R1) ∧ (¬ (r1 = 0) → wp_isIn x3 0 ((R1 0 1) - 1) R1 (fun r2 R2 => (r2 = 0 → w_often_89 K x1 x2 x3 x4 x5 0 R2) ∧ (¬ (r2 = 0) → wp_isIn x4 0 ((R2 0 1) - 1) R2 (fun r3 R3 => (r3 = 0 → w_often_89 K x1 x2 x3 x4 x5 0 R3) ∧ (¬ (r3 = 0) → wp_isIn x5 0 ((R3 0 1) - 1) R3 (fun r4 R4 => (r4 = 0 → w_often_89 K x1 x2 x3 x4 x5 0 R4) ∧ (¬ (r4 = 0) → (¬ s0 = 1 → w_often_89 K x1 x2 x3 x4 x5 0 R4) ∧ (s0 = 1 → w_often_89 K x1 x2 x3 x4 x5 1 R4)))))))))
set_option maxHeartbeats 4000000 in
set_option maxRecDepth 100000 in
theorem b_often_18 {G : RG} {X : Fx} {K : Int32 → RS → Prop} (hok : okG G) (hc : Cx X RX12 cX12_often 8) (hr : Cr G 5 (some .int) K X) : ∀ (x1 x2 x3 x4 x5 s0 : Int32) (R : RS), w_often_18 K x1 x2 x3 x4 x5 s0 R → MR G X 8 R 18 [(0, .ref G.2.2.1), (1, .int x1), (2, .int x2), (3, .int x3), (4, .int x4), (5, .int x5)] [.int s0] := by
  intro x1 x2 x3 x4 x5 s0 R hw
  unfold w_often_18 at hw
  refine m_istore hc [(6, .int s0), (0, .ref G.2.2.1), (1, .int x1), (2, .int x2), (3, .int x3), (4, .int x4), (5, .int x5)] dX12_often_18 (Nat.le_of_ble_eq_true rfl) rfl ?_
  refine m_iload_n hc 3 dX12_often_20 rfl rfl ?_
  refine m_iconst hc 0 dX12_often_21 (by decide) ?_
  refine m_aload_n hc 1 dX12_often_22 rfl rfl ?_
  refine r_geti hc hr 1 dX12_often_23 lf_X12_9 (Nat.le_of_ble_eq_true rfl) rfl ?_
  refine m_iconst hc 1 dX12_often_26 (by decide) ?_
  refine m_isub hc dX12_often_27 ?_
  refine r_callSi hc hr mt_isIn lm_X12_181 (ok_isIn hok hw) (Nat.le_of_ble_eq_true rfl) dX12_often_28 rfl (rest := []) rfl (Nat.le_of_ble_eq_true rfl) (fun r1 R1 hw => ?_)
  refine m_if_eq hc 88 dX12_often_31 rfl (fun cq => ?_) (fun cq => ?_)
  · have hw := hw.1 cq
    refine m_iconst hc 0 dX12_often_88 (by decide) ?_
    refine m_sub [1, 2, 3, 4, 5, 6] rfl ?_
    exact b_often_89 hok hc hr x1 x2 x3 x4 x5 0 R1 hw
  · have hw := hw.2 cq
    refine m_iload_n hc 4 dX12_often_34 rfl rfl ?_
    refine m_iconst hc 0 dX12_often_35 (by decide) ?_
    refine m_aload_n hc 1 dX12_often_36 rfl rfl ?_
    refine r_geti hc hr 1 dX12_often_37 lf_X12_9 (Nat.le_of_ble_eq_true rfl) rfl ?_
    refine m_iconst hc 1 dX12_often_40 (by decide) ?_
    refine m_isub hc dX12_often_41 ?_
    refine r_callSi hc hr mt_isIn lm_X12_181 (ok_isIn hok hw) (Nat.le_of_ble_eq_true rfl) dX12_often_42 rfl (rest := []) rfl (Nat.le_of_ble_eq_true rfl) (fun r2 R2 hw => ?_)
    refine m_if_eq hc 88 dX12_often_45 rfl (fun cq => ?_) (fun cq => ?_)
    · have hw := hw.1 cq
      refine m_iconst hc 0 dX12_often_88 (by decide) ?_
      refine m_sub [1, 2, 3, 4, 5, 6] rfl ?_
      exact b_often_89 hok hc hr x1 x2 x3 x4 x5 0 R2 hw
    · have hw := hw.2 cq
      refine m_iload hc 5 dX12_often_48 rfl ?_
      refine m_iconst hc 0 dX12_often_50 (by decide) ?_
      refine m_aload_n hc 1 dX12_often_51 rfl rfl ?_
      refine r_geti hc hr 1 dX12_often_52 lf_X12_9 (Nat.le_of_ble_eq_true rfl) rfl ?_
      refine m_iconst hc 1 dX12_often_55 (by decide) ?_
      refine m_isub hc dX12_often_56 ?_
      refine r_callSi hc hr mt_isIn lm_X12_181 (ok_isIn hok hw) (Nat.le_of_ble_eq_true rfl) dX12_often_57 rfl (rest := []) rfl (Nat.le_of_ble_eq_true rfl) (fun r3 R3 hw => ?_)
      refine m_if_eq hc 88 dX12_often_60 rfl (fun cq => ?_) (fun cq => ?_)
      · have hw := hw.1 cq
        refine m_iconst hc 0 dX12_often_88 (by decide) ?_
        refine m_sub [1, 2, 3, 4, 5, 6] rfl ?_
        exact b_often_89 hok hc hr x1 x2 x3 x4 x5 0 R3 hw
      · have hw := hw.2 cq
        refine m_iload hc 6 dX12_often_63 rfl ?_
        refine m_iconst hc 0 dX12_often_65 (by decide) ?_
        refine m_aload_n hc 1 dX12_often_66 rfl rfl ?_
        refine r_geti hc hr 1 dX12_often_67 lf_X12_9 (Nat.le_of_ble_eq_true rfl) rfl ?_
        refine m_iconst hc 1 dX12_often_70 (by decide) ?_
        refine m_isub hc dX12_often_71 ?_
        refine r_callSi hc hr mt_isIn lm_X12_181 (ok_isIn hok hw) (Nat.le_of_ble_eq_true rfl) dX12_often_72 rfl (rest := []) rfl (Nat.le_of_ble_eq_true rfl) (fun r4 R4 hw => ?_)
        refine m_if_eq hc 88 dX12_often_75 rfl (fun cq => ?_) (fun cq => ?_)
        · have hw := hw.1 cq
          refine m_iconst hc 0 dX12_often_88 (by decide) ?_
          refine m_sub [1, 2, 3, 4, 5, 6] rfl ?_
          exact b_often_89 hok hc hr x1 x2 x3 x4 x5 0 R4 hw
        · have hw := hw.2 cq
          refine m_iload hc 0 dX12_often_78 rfl ?_
          refine m_iconst hc 1 dX12_often_80 (by decide) ?_
          refine m_icmp_ne hc 88 dX12_often_81 rfl (fun cq => ?_) (fun cq => ?_)
          · have hw := hw.1 cq
            refine m_iconst hc 0 dX12_often_88 (by decide) ?_
            refine m_sub [1, 2, 3, 4, 5, 6] rfl ?_
            exact b_often_89 hok hc hr x1 x2 x3 x4 x5 0 R4 hw
          · have hw := hw.2 cq
            refine m_iconst hc 1 dX12_often_84 (by decide) ?_
            refine m_goto hc 89 dX12_often_85 rfl ?_
            refine m_sub [1, 2, 3, 4, 5, 6] rfl ?_
            exact b_often_89 hok hc hr x1 x2 x3 x4 x5 1 R4 hw
def wp_often (x1 x2 x3 x4 x5 : Int32) (R : RS) (K : Int32 → RS → Prop) : Prop := (x2 = 0 → (x3 = 0 → w_often_18 K x1 x2 x3 x4 x5 x4 R) ∧ (¬ (x3 = 0) → w_often_18 K x1 x2 x3 x4 x5 x3 R)) ∧ (¬ (x2 = 0) → w_often_18 K x1 x2 x3 x4 x5 x2 R)
set_option maxHeartbeats 4000000 in
set_option maxRecDepth 100000 in
theorem ok_often {G : RG} (hok : okG G) {x1 : Int32} {x2 : Int32} {x3 : Int32} {x4 : Int32} {x5 : Int32} {R : RS} {K : Int32 → RS → Prop} (hw : wp_often x1 x2 x3 x4 x5 R K) : CF 5 yX12_often cX12_often 8 (some .int) [.ref G.2.2.1, .int x1, .int x2, .int x3, .int x4, .int x5] G R K := by
  refine CF.of (by decide +kernel) hok (Nat.le_of_ble_eq_true rfl) (fun X hc hr => ?_)
  show MR G X 8 R 0 [(0, .ref G.2.2.1), (1, .int x1), (2, .int x2), (3, .int x3), (4, .int x4), (5, .int x5)] []
  unfold wp_often at hw
  refine m_iload_n hc 2 dX12_often_0 rfl rfl ?_
  refine m_if_eq hc 8 dX12_often_1 rfl (fun cq => ?_) (fun cq => ?_)
  · have hw := hw.1 cq
    refine m_iload_n hc 3 dX12_often_8 rfl rfl ?_
    refine m_if_eq hc 16 dX12_often_9 rfl (fun cq => ?_) (fun cq => ?_)
    · have hw := hw.1 cq
      refine m_iload hc 4 dX12_often_16 rfl ?_
      exact b_often_18 hok hc hr x1 x2 x3 x4 x5 x4 R hw
    · have hw := hw.2 cq
      refine m_iload_n hc 3 dX12_often_12 rfl rfl ?_
      refine m_goto hc 18 dX12_often_13 rfl ?_
      exact b_often_18 hok hc hr x1 x2 x3 x4 x5 x3 R hw
  · have hw := hw.2 cq
    refine m_iload_n hc 2 dX12_often_4 rfl rfl ?_
    refine m_goto hc 18 dX12_often_5 rfl ?_
    exact b_often_18 hok hc hr x1 x2 x3 x4 x5 x2 R hw
def w_isAhead_55 (K35 : Int32 → Int32 → Int32 → Int32 → RS → Prop) (K : Int32 → RS → Prop) (x0 x1 x2 x4 s0 : Int32) (R : RS) : Prop := wp_ex x0 s0 R (fun r1 R1 => wp_ex x1 s0 R1 (fun r2 R2 => (r1 = r2 → K35 x0 x1 x2 (x4 + 1) R2) ∧ (¬ (r1 = r2) → wp_ex x0 s0 R2 (fun r3 R3 => wp_ex x1 s0 R3 (fun r4 R4 => (r3 ≤ r4 → K 0 R4) ∧ (¬ (r3 ≤ r4) → K 1 R4))))))
set_option maxHeartbeats 4000000 in
set_option maxRecDepth 100000 in
theorem b_isAhead_55 {G : RG} {X : Fx} {K : Int32 → RS → Prop} (hok : okG G) (hc : Cx X RX12 cX12_isAhead 6) (hr : Cr G 2 (some .boolean) K X) (K35 : Int32 → Int32 → Int32 → Int32 → RS → Prop) (h35 : ∀ (x0 x1 x2 x4 : Int32) (R : RS), K35 x0 x1 x2 x4 R → MR G X 6 R 35 [(0, .int x0), (1, .int x1), (2, .int x2), (4, .int x4)] []) : ∀ (x0 x1 x2 x4 s0 : Int32) (R : RS), w_isAhead_55 K35 K x0 x1 x2 x4 s0 R → MR G X 6 R 55 [(0, .int x0), (1, .int x1), (2, .int x2), (4, .int x4)] [.int s0] := by
  intro x0 x1 x2 x4 s0 R hw
  unfold w_isAhead_55 at hw
  refine m_istore hc [(5, .int s0), (0, .int x0), (1, .int x1), (2, .int x2), (4, .int x4)] dX12_isAhead_55 (Nat.le_of_ble_eq_true rfl) rfl ?_
  refine m_iload_n hc 1 dX12_isAhead_57 rfl rfl ?_
  refine m_iload hc 0 dX12_isAhead_58 rfl ?_
  refine r_callSi hc hr mt_ex lm_X12_119 (ok_ex hok hw) (Nat.le_of_ble_eq_true rfl) dX12_isAhead_60 rfl (rest := []) rfl (Nat.le_of_ble_eq_true rfl) (fun r1 R1 hw => ?_)
  refine m_iload_n hc 2 dX12_isAhead_63 rfl rfl ?_
  refine m_iload hc 0 dX12_isAhead_64 rfl ?_
  refine r_callSi hc hr mt_ex lm_X12_119 (ok_ex hok hw) (Nat.le_of_ble_eq_true rfl) dX12_isAhead_66 rfl (rest := [.int r1]) rfl (Nat.le_of_ble_eq_true rfl) (fun r2 R2 hw => ?_)
  refine m_icmp_eq hc 93 dX12_isAhead_69 rfl (fun cq => ?_) (fun cq => ?_)
  · have hw := hw.1 cq
    refine m_iinc hc 4 (x4 + 1) [(4, .int (x4 + 1)), (5, .int s0), (0, .int x0), (1, .int x1), (2, .int x2)] dX12_isAhead_93 rfl rfl (Nat.le_of_ble_eq_true rfl) rfl ?_
    refine m_goto hc 35 dX12_isAhead_96 rfl ?_
    refine m_sub [2, 3, 4, 0] rfl ?_
    exact h35 x0 x1 x2 (x4 + 1) R2 hw
  · have hw := hw.2 cq
    refine m_iload_n hc 1 dX12_isAhead_72 rfl rfl ?_
    refine m_iload hc 0 dX12_isAhead_73 rfl ?_
    refine r_callSi hc hr mt_ex lm_X12_119 (ok_ex hok hw) (Nat.le_of_ble_eq_true rfl) dX12_isAhead_75 rfl (rest := []) rfl (Nat.le_of_ble_eq_true rfl) (fun r3 R3 hw => ?_)
    refine m_iload_n hc 2 dX12_isAhead_78 rfl rfl ?_
    refine m_iload hc 0 dX12_isAhead_79 rfl ?_
    refine r_callSi hc hr mt_ex lm_X12_119 (ok_ex hok hw) (Nat.le_of_ble_eq_true rfl) dX12_isAhead_81 rfl (rest := [.int r3]) rfl (Nat.le_of_ble_eq_true rfl) (fun r4 R4 hw => ?_)
    refine m_icmp_le hc 91 dX12_isAhead_84 rfl (fun cq => ?_) (fun cq => ?_)
    · have hw := hw.1 cq
      refine m_iconst hc 0 dX12_isAhead_91 (by decide) ?_
      exact r_zret hc hr dX12_isAhead_92 (by decide) hw
    · have hw := hw.2 cq
      refine m_iconst hc 1 dX12_isAhead_87 (by decide) ?_
      refine m_goto hc 92 dX12_isAhead_88 rfl ?_
      exact r_zret hc hr dX12_isAhead_92 (by decide) hw
def wb_isAhead_35 (K35 : Int32 → Int32 → Int32 → Int32 → RS → Prop) (K : Int32 → RS → Prop) (x0 x1 x2 x4 : Int32) (R : RS) : Prop := (3 ≤ x4 → K 0 R) ∧ (¬ (3 ≤ x4) → (¬ x2 = 2 → w_isAhead_55 K35 K x0 x1 x2 x4 x4 R) ∧ (x2 = 2 → w_isAhead_55 K35 K x0 x1 x2 x4 (2 - x4) R))
def wl_isAhead_35 (K : Int32 → RS → Prop) : Nat → Int32 → Int32 → Int32 → Int32 → RS → Prop
  | 0 => fun _ _ _ _ _ => False
  | nn + 1 => wb_isAhead_35 (wl_isAhead_35 K nn) K
set_option maxHeartbeats 4000000 in
set_option maxRecDepth 100000 in
theorem l_isAhead_35 {G : RG} {X : Fx} {K : Int32 → RS → Prop} (hok : okG G) (hc : Cx X RX12 cX12_isAhead 6) (hr : Cr G 2 (some .boolean) K X) : ∀ (nn : Nat) (x0 x1 x2 x4 : Int32) (R : RS), wl_isAhead_35 K nn x0 x1 x2 x4 R → MR G X 6 R 35 [(0, .int x0), (1, .int x1), (2, .int x2), (4, .int x4)] [] := by
  intro nn
  induction nn with
  | zero => intro x0 x1 x2 x4 R hw; exact False.elim hw
  | succ nn ih =>
    intro x0 x1 x2 x4 R hw
    have hw : wb_isAhead_35 (wl_isAhead_35 K nn) K x0 x1 x2 x4 R := hw
    have h35 := ih
    generalize wl_isAhead_35 K nn = K35 at hw h35
    unfold wb_isAhead_35 at hw
    refine m_iload hc 3 dX12_isAhead_35 rfl ?_
    refine m_iconst hc 3 dX12_isAhead_37 (by decide) ?_
    refine m_icmp_ge hc 99 dX12_isAhead_38 rfl (fun cq => ?_) (fun cq => ?_)
    · have hw := hw.1 cq
      refine m_iconst hc 0 dX12_isAhead_99 (by decide) ?_
      exact r_zret hc hr dX12_isAhead_100 (by decide) hw
    · have hw := hw.2 cq
      refine m_iload_n hc 2 dX12_isAhead_41 rfl rfl ?_
      refine m_iconst hc 2 dX12_isAhead_42 (by decide) ?_
      refine m_icmp_ne hc 53 dX12_isAhead_43 rfl (fun cq => ?_) (fun cq => ?_)
      · have hw := hw.1 cq
        refine m_iload hc 3 dX12_isAhead_53 rfl ?_
        exact b_isAhead_55 hok hc hr K35 h35 x0 x1 x2 x4 x4 R hw
      · have hw := hw.2 cq
        refine m_iconst hc 2 dX12_isAhead_46 (by decide) ?_
        refine m_iload hc 3 dX12_isAhead_47 rfl ?_
        refine m_isub hc dX12_isAhead_49 ?_
        refine m_goto hc 55 dX12_isAhead_50 rfl ?_
        exact b_isAhead_55 hok hc hr K35 h35 x0 x1 x2 x4 (2 - x4) R hw
def w_isAhead_17 (K : Int32 → RS → Prop) (x0 x1 x2 s0 : Int32) (R : RS) : Prop := (s0 = 0 → ∃ nn : Nat, wl_isAhead_35 K nn x0 x1 x2 0 R) ∧ (¬ (s0 = 0) → (s0 ≤ 0 → K 0 R) ∧ (¬ (s0 ≤ 0) → K 1 R))
set_option maxHeartbeats 4000000 in
set_option maxRecDepth 100000 in
theorem b_isAhead_17 {G : RG} {X : Fx} {K : Int32 → RS → Prop} (hok : okG G) (hc : Cx X RX12 cX12_isAhead 6) (hr : Cr G 2 (some .boolean) K X) : ∀ (x0 x1 x2 s0 : Int32) (R : RS), w_isAhead_17 K x0 x1 x2 s0 R → MR G X 6 R 17 [(0, .int x0), (1, .int x1), (2, .int x2)] [.int s0] := by
  intro x0 x1 x2 s0 R hw
  unfold w_isAhead_17 at hw
  refine m_istore_n hc [(3, .int s0), (0, .int x0), (1, .int x1), (2, .int x2)] dX12_isAhead_17 rfl (Nat.le_of_ble_eq_true rfl) rfl ?_
  refine m_iload_n hc 0 dX12_isAhead_18 rfl rfl ?_
  refine m_if_eq hc 32 dX12_isAhead_19 rfl (fun cq => ?_) (fun cq => ?_)
  · have hw := hw.1 cq
    refine m_iconst hc 0 dX12_isAhead_32 (by decide) ?_
    refine m_istore hc [(4, .int 0), (3, .int s0), (0, .int x0), (1, .int x1), (2, .int x2)] dX12_isAhead_33 (Nat.le_of_ble_eq_true rfl) rfl ?_
    refine m_sub [2, 3, 4, 0] rfl ?_
    obtain ⟨nn, hw⟩ := hw
    exact l_isAhead_35 hok hc hr nn x0 x1 x2 0 R hw
  · have hw := hw.2 cq
    refine m_iload_n hc 0 dX12_isAhead_22 rfl rfl ?_
    refine m_if_le hc 30 dX12_isAhead_23 rfl (fun cq => ?_) (fun cq => ?_)
    · have hw := hw.1 cq
      refine m_iconst hc 0 dX12_isAhead_30 (by decide) ?_
      exact r_zret hc hr dX12_isAhead_31 (by decide) hw
    · have hw := hw.2 cq
      refine m_iconst hc 1 dX12_isAhead_26 (by decide) ?_
      refine m_goto hc 31 dX12_isAhead_27 rfl ?_
      exact r_zret hc hr dX12_isAhead_31 (by decide) hw
def wp_isAhead (x0 x1 x2 : Int32) (R : RS) (K : Int32 → RS → Prop) : Prop := (¬ x2 = 0 → w_isAhead_17 K x0 x1 x2 0 R) ∧ (x2 = 0 → wp_degreeOfKey x0 R (fun r1 R1 => wp_degreeOfKey x1 R1 (fun r2 R2 => w_isAhead_17 K x0 x1 x2 (r1 - r2) R2)))
set_option maxHeartbeats 4000000 in
set_option maxRecDepth 100000 in
theorem ok_isAhead {G : RG} (hok : okG G) {x0 : Int32} {x1 : Int32} {x2 : Int32} {R : RS} {K : Int32 → RS → Prop} (hw : wp_isAhead x0 x1 x2 R K) : CF 2 yX12_isAhead cX12_isAhead 6 (some .boolean) [.int x0, .int x1, .int x2] G R K := by
  refine CF.of (by decide +kernel) hok (Nat.le_of_ble_eq_true rfl) (fun X hc hr => ?_)
  show MR G X 6 R 0 [(0, .int x0), (1, .int x1), (2, .int x2)] []
  unfold wp_isAhead at hw
  refine m_iload_n hc 2 dX12_isAhead_0 rfl rfl ?_
  refine m_if_ne hc 16 dX12_isAhead_1 rfl (fun cq => ?_) (fun cq => ?_)
  · have hw := hw.1 cq
    refine m_iconst hc 0 dX12_isAhead_16 (by decide) ?_
    exact b_isAhead_17 hok hc hr x0 x1 x2 0 R hw
  · have hw := hw.2 cq
    refine m_iload_n hc 0 dX12_isAhead_4 rfl rfl ?_
    refine r_callSi hc hr mt_degreeOfKey lm_X12_129 (ok_degreeOfKey hok hw) (Nat.le_of_ble_eq_true rfl) dX12_isAhead_5 rfl (rest := []) rfl (Nat.le_of_ble_eq_true rfl) (fun r1 R1 hw => ?_)
    refine m_iload_n hc 1 dX12_isAhead_8 rfl rfl ?_
    refine r_callSi hc hr mt_degreeOfKey lm_X12_129 (ok_degreeOfKey hok hw) (Nat.le_of_ble_eq_true rfl) dX12_isAhead_9 rfl (rest := [.int r1]) rfl (Nat.le_of_ble_eq_true rfl) (fun r2 R2 hw => ?_)
    refine m_isub hc dX12_isAhead_12 ?_
    refine m_goto hc 17 dX12_isAhead_13 rfl ?_
    exact b_isAhead_17 hok hc hr x0 x1 x2 (r1 - r2) R2 hw
def wb_placeOf_20 (K3 : Int32 → Int32 → Int32 → Int32 → RS → Prop) (K20 : Int32 → Int32 → Int32 → Int32 → Int32 → Int32 → RS → Prop) (K : Int32 → RS → Prop) (x1 x2 x3 x4 x5 x6 : Int32) (R : RS) : Prop := vp_in x1 56 ∧ ((R 2 (Int32.toNatClampNeg x1)) ≤ x6 → (¬ x5 = x3 → K3 x1 x2 x3 (x4 + 1) R) ∧ (x5 = x3 → K x4 R)) ∧ (¬ ((R 2 (Int32.toNatClampNeg x1)) ≤ x6) → wp_keyAt x1 x6 R (fun r1 R1 => wp_keyAt x1 x4 R1 (fun r2 R2 => wp_isAhead r1 r2 x2 R2 (fun r3 R3 => (r3 = 0 → K20 x1 x2 x3 x4 (x5 + 0) (x6 + 1) R3) ∧ (¬ (r3 = 0) → K20 x1 x2 x3 x4 (x5 + 1) (x6 + 1) R3)))))
def wl_placeOf_20 (K3 : Int32 → Int32 → Int32 → Int32 → RS → Prop) (K : Int32 → RS → Prop) : Nat → Int32 → Int32 → Int32 → Int32 → Int32 → Int32 → RS → Prop
  | 0 => fun _ _ _ _ _ _ _ => False
  | nn + 1 => wb_placeOf_20 K3 (wl_placeOf_20 K3 K nn) K
set_option maxHeartbeats 4000000 in
set_option maxRecDepth 100000 in
theorem l_placeOf_20 {G : RG} {X : Fx} {K : Int32 → RS → Prop} (hok : okG G) (hc : Cx X RX12 cX12_placeOf 7) (hr : Cr G 3 (some .int) K X) (K3 : Int32 → Int32 → Int32 → Int32 → RS → Prop) (h3 : ∀ (x1 x2 x3 x4 : Int32) (R : RS), K3 x1 x2 x3 x4 R → MR G X 7 R 3 [(0, .ref G.2.2.1), (1, .int x1), (2, .int x2), (3, .int x3), (4, .int x4)] []) : ∀ (nn : Nat) (x1 x2 x3 x4 x5 x6 : Int32) (R : RS), wl_placeOf_20 K3 K nn x1 x2 x3 x4 x5 x6 R → MR G X 7 R 20 [(0, .ref G.2.2.1), (1, .int x1), (2, .int x2), (3, .int x3), (4, .int x4), (5, .int x5), (6, .int x6)] [] := by
  intro nn
  induction nn with
  | zero => intro x1 x2 x3 x4 x5 x6 R hw; exact False.elim hw
  | succ nn ih =>
    intro x1 x2 x3 x4 x5 x6 R hw
    have hw : wb_placeOf_20 K3 (wl_placeOf_20 K3 K nn) K x1 x2 x3 x4 x5 x6 R := hw
    have h20 := ih
    generalize wl_placeOf_20 K3 K nn = K20 at hw h20
    unfold wb_placeOf_20 at hw
    refine m_iload hc 6 dX12_placeOf_20 rfl ?_
    refine m_aload_n hc 0 dX12_placeOf_22 rfl rfl ?_
    refine r_geta hc hr 2 dX12_placeOf_23 lf_X12_13 (Nat.le_of_ble_eq_true rfl) rfl ?_
    refine m_iload_n hc 1 dX12_placeOf_26 rfl rfl ?_
    obtain ⟨hi, hw⟩ := hw
    refine r_iald hc hr (i := 0) (f := 2) rfl hi dX12_placeOf_27 ?_
    refine m_icmp_ge hc 68 dX12_placeOf_28 rfl (fun cq => ?_) (fun cq => ?_)
    · have hw := hw.1 cq
      refine m_iload hc 5 dX12_placeOf_68 rfl ?_
      refine m_iload_n hc 3 dX12_placeOf_70 rfl rfl ?_
      refine m_icmp_ne hc 77 dX12_placeOf_71 rfl (fun cq => ?_) (fun cq => ?_)
      · have hw := hw.1 cq
        refine m_iinc hc 4 (x4 + 1) [(4, .int (x4 + 1)), (0, .ref G.2.2.1), (1, .int x1), (2, .int x2), (3, .int x3), (5, .int x5), (6, .int x6)] dX12_placeOf_77 rfl rfl (Nat.le_of_ble_eq_true rfl) rfl ?_
        refine m_goto hc 3 dX12_placeOf_80 rfl ?_
        refine m_sub [1, 2, 3, 4, 0] rfl ?_
        exact h3 x1 x2 x3 (x4 + 1) R hw
      · have hw := hw.2 cq
        refine m_iload hc 4 dX12_placeOf_74 rfl ?_
        exact r_iret hc hr dX12_placeOf_76 hw
    · have hw := hw.2 cq
      refine m_iload hc 5 dX12_placeOf_31 rfl ?_
      refine m_aload_n hc 0 dX12_placeOf_33 rfl rfl ?_
      refine m_iload_n hc 1 dX12_placeOf_34 rfl rfl ?_
      refine m_iload hc 6 dX12_placeOf_35 rfl ?_
      refine r_callVi hc hr mt_keyAt rfl lm_X12_123 (ok_keyAt hok hw) (Nat.le_of_ble_eq_true rfl) dX12_placeOf_37 rfl (rest := [.int x5]) rfl (Nat.le_of_ble_eq_true rfl) (fun r1 R1 hw => ?_)
      refine m_aload_n hc 0 dX12_placeOf_40 rfl rfl ?_
      refine m_iload_n hc 1 dX12_placeOf_41 rfl rfl ?_
      refine m_iload hc 4 dX12_placeOf_42 rfl ?_
      refine r_callVi hc hr mt_keyAt rfl lm_X12_123 (ok_keyAt hok hw) (Nat.le_of_ble_eq_true rfl) dX12_placeOf_44 rfl (rest := [.int r1, .int x5]) rfl (Nat.le_of_ble_eq_true rfl) (fun r2 R2 hw => ?_)
      refine m_iload_n hc 2 dX12_placeOf_47 rfl rfl ?_
      refine r_callSi hc hr mt_isAhead lm_X12_339 (ok_isAhead hok hw) (Nat.le_of_ble_eq_true rfl) dX12_placeOf_48 rfl (rest := [.int x5]) rfl (Nat.le_of_ble_eq_true rfl) (fun r3 R3 hw => ?_)
      refine m_if_eq hc 58 dX12_placeOf_51 rfl (fun cq => ?_) (fun cq => ?_)
      · have hw := hw.1 cq
        refine m_iconst hc 0 dX12_placeOf_58 (by decide) ?_
        refine m_iadd hc dX12_placeOf_59 ?_
        refine m_istore hc [(5, .int (x5 + 0)), (0, .ref G.2.2.1), (1, .int x1), (2, .int x2), (3, .int x3), (4, .int x4), (6, .int x6)] dX12_placeOf_60 (Nat.le_of_ble_eq_true rfl) rfl ?_
        refine m_iinc hc 6 (x6 + 1) [(6, .int (x6 + 1)), (5, .int (x5 + 0)), (0, .ref G.2.2.1), (1, .int x1), (2, .int x2), (3, .int x3), (4, .int x4)] dX12_placeOf_62 rfl rfl (Nat.le_of_ble_eq_true rfl) rfl ?_
        refine m_goto hc 20 dX12_placeOf_65 rfl ?_
        refine m_sub [2, 3, 4, 5, 6, 1, 0] rfl ?_
        exact h20 x1 x2 x3 x4 (x5 + 0) (x6 + 1) R3 hw
      · have hw := hw.2 cq
        refine m_iconst hc 1 dX12_placeOf_54 (by decide) ?_
        refine m_goto hc 59 dX12_placeOf_55 rfl ?_
        refine m_iadd hc dX12_placeOf_59 ?_
        refine m_istore hc [(5, .int (x5 + 1)), (0, .ref G.2.2.1), (1, .int x1), (2, .int x2), (3, .int x3), (4, .int x4), (6, .int x6)] dX12_placeOf_60 (Nat.le_of_ble_eq_true rfl) rfl ?_
        refine m_iinc hc 6 (x6 + 1) [(6, .int (x6 + 1)), (5, .int (x5 + 1)), (0, .ref G.2.2.1), (1, .int x1), (2, .int x2), (3, .int x3), (4, .int x4)] dX12_placeOf_62 rfl rfl (Nat.le_of_ble_eq_true rfl) rfl ?_
        refine m_goto hc 20 dX12_placeOf_65 rfl ?_
        refine m_sub [2, 3, 4, 5, 6, 1, 0] rfl ?_
        exact h20 x1 x2 x3 x4 (x5 + 1) (x6 + 1) R3 hw
def wb_placeOf_3 (K3 : Int32 → Int32 → Int32 → Int32 → RS → Prop) (K : Int32 → RS → Prop) (x1 x2 x3 x4 : Int32) (R : RS) : Prop := vp_in x1 56 ∧ ((R 2 (Int32.toNatClampNeg x1)) ≤ x4 → K (-1) R) ∧ (¬ ((R 2 (Int32.toNatClampNeg x1)) ≤ x4) → ∃ nn : Nat, wl_placeOf_20 K3 K nn x1 x2 x3 x4 0 0 R)
def wl_placeOf_3 (K : Int32 → RS → Prop) : Nat → Int32 → Int32 → Int32 → Int32 → RS → Prop
  | 0 => fun _ _ _ _ _ => False
  | nn + 1 => wb_placeOf_3 (wl_placeOf_3 K nn) K
set_option maxHeartbeats 4000000 in
set_option maxRecDepth 100000 in
theorem l_placeOf_3 {G : RG} {X : Fx} {K : Int32 → RS → Prop} (hok : okG G) (hc : Cx X RX12 cX12_placeOf 7) (hr : Cr G 3 (some .int) K X) : ∀ (nn : Nat) (x1 x2 x3 x4 : Int32) (R : RS), wl_placeOf_3 K nn x1 x2 x3 x4 R → MR G X 7 R 3 [(0, .ref G.2.2.1), (1, .int x1), (2, .int x2), (3, .int x3), (4, .int x4)] [] := by
  intro nn
  induction nn with
  | zero => intro x1 x2 x3 x4 R hw; exact False.elim hw
  | succ nn ih =>
    intro x1 x2 x3 x4 R hw
    have hw : wb_placeOf_3 (wl_placeOf_3 K nn) K x1 x2 x3 x4 R := hw
    have h3 := ih
    generalize wl_placeOf_3 K nn = K3 at hw h3
    unfold wb_placeOf_3 at hw
    refine m_iload hc 4 dX12_placeOf_3 rfl ?_
    refine m_aload_n hc 0 dX12_placeOf_5 rfl rfl ?_
    refine r_geta hc hr 2 dX12_placeOf_6 lf_X12_13 (Nat.le_of_ble_eq_true rfl) rfl ?_
    refine m_iload_n hc 1 dX12_placeOf_9 rfl rfl ?_
    obtain ⟨hi, hw⟩ := hw
    refine r_iald hc hr (i := 0) (f := 2) rfl hi dX12_placeOf_10 ?_
    refine m_icmp_ge hc 83 dX12_placeOf_11 rfl (fun cq => ?_) (fun cq => ?_)
    · have hw := hw.1 cq
      refine m_iconst hc (-1) dX12_placeOf_83 (by decide) ?_
      exact r_iret hc hr dX12_placeOf_84 hw
    · have hw := hw.2 cq
      refine m_iconst hc 0 dX12_placeOf_14 (by decide) ?_
      refine m_istore hc [(5, .int 0), (0, .ref G.2.2.1), (1, .int x1), (2, .int x2), (3, .int x3), (4, .int x4)] dX12_placeOf_15 (Nat.le_of_ble_eq_true rfl) rfl ?_
      refine m_iconst hc 0 dX12_placeOf_17 (by decide) ?_
      refine m_istore hc [(6, .int 0), (5, .int 0), (0, .ref G.2.2.1), (1, .int x1), (2, .int x2), (3, .int x3), (4, .int x4)] dX12_placeOf_18 (Nat.le_of_ble_eq_true rfl) rfl ?_
      refine m_sub [2, 3, 4, 5, 6, 1, 0] rfl ?_
      obtain ⟨nn, hw⟩ := hw
      exact l_placeOf_20 hok hc hr K3 h3 nn x1 x2 x3 x4 0 0 R hw
def wp_placeOf (x1 x2 x3 : Int32) (R : RS) (K : Int32 → RS → Prop) : Prop := ∃ nn : Nat, wl_placeOf_3 K nn x1 x2 x3 0 R
set_option maxHeartbeats 4000000 in
set_option maxRecDepth 100000 in
theorem ok_placeOf {G : RG} (hok : okG G) {x1 : Int32} {x2 : Int32} {x3 : Int32} {R : RS} {K : Int32 → RS → Prop} (hw : wp_placeOf x1 x2 x3 R K) : CF 3 yX12_placeOf cX12_placeOf 7 (some .int) [.ref G.2.2.1, .int x1, .int x2, .int x3] G R K := by
  refine CF.of (by decide +kernel) hok (Nat.le_of_ble_eq_true rfl) (fun X hc hr => ?_)
  show MR G X 7 R 0 [(0, .ref G.2.2.1), (1, .int x1), (2, .int x2), (3, .int x3)] []
  unfold wp_placeOf at hw
  refine m_iconst hc 0 dX12_placeOf_0 (by decide) ?_
  refine m_istore hc [(4, .int 0), (0, .ref G.2.2.1), (1, .int x1), (2, .int x2), (3, .int x3)] dX12_placeOf_1 (Nat.le_of_ble_eq_true rfl) rfl ?_
  refine m_sub [1, 2, 3, 4, 0] rfl ?_
  obtain ⟨nn, hw⟩ := hw
  exact l_placeOf_3 hok hc hr nn x1 x2 x3 0 R hw
def w_term_47 (K : Int32 → RS → Prop) (R : RS) : Prop := wp_fail 1 R (fun r1 R1 => K r1 R1)
set_option maxHeartbeats 4000000 in
set_option maxRecDepth 100000 in
theorem b_term_47 {G : RG} {X : Fx} {K : Int32 → RS → Prop} (hok : okG G) (hc : Cx X RX12 cX12_term 6) (hr : Cr G 4 (some .int) K X) : ∀ (R : RS), w_term_47 K R → MR G X 6 R 47 [(0, .ref G.2.2.1)] [] := by
  intro R hw
  unfold w_term_47 at hw
  refine m_aload_n hc 0 dX12_term_47 rfl rfl ?_
  refine m_iconst hc 1 dX12_term_48 (by decide) ?_
  refine r_callVi hc hr mt_fail rfl lm_X12_317 (ok_fail hok hw) (Nat.le_of_ble_eq_true rfl) dX12_term_49 rfl (rest := []) rfl (Nat.le_of_ble_eq_true rfl) (fun r1 R1 hw => ?_)
  exact r_iret hc hr dX12_term_52 hw
def wp_term (x1 x2 x3 x4 : Int32) (R : RS) (K : Int32 → RS → Prop) : Prop := wp_isPlace x1 (up R 0 0 0) (fun r1 R1 => (r1 = 0 → w_term_47 K R1) ∧ (¬ (r1 = 0) → wp_isIn x2 0 2 R1 (fun r2 R2 => (r2 = 0 → w_term_47 K R2) ∧ (¬ (r2 = 0) → vp_in x1 56 ∧ wp_isIn x3 0 ((R2 2 (Int32.toNatClampNeg x1)) - 1) R2 (fun r3 R3 => (r3 = 0 → w_term_47 K R3) ∧ (¬ (r3 = 0) → wp_isIn x4 0 3 R3 (fun r4 R4 => (¬ r4 = 0 → wp_placeOf x1 x2 x3 R4 (fun r5 R5 => (¬ x4 = 0 → wp_keyAt x1 r5 R5 (fun r6 R6 => wp_ex r6 (x4 - 1) R6 (fun r7 R7 => K r7 R7))) ∧ (x4 = 0 → wp_numAt x1 r5 R5 (fun r8 R8 => K r8 R8)))) ∧ (r4 = 0 → w_term_47 K R4))))))))
set_option maxHeartbeats 4000000 in
set_option maxRecDepth 100000 in
theorem ok_term {G : RG} (hok : okG G) {x1 : Int32} {x2 : Int32} {x3 : Int32} {x4 : Int32} {R : RS} {K : Int32 → RS → Prop} (hw : wp_term x1 x2 x3 x4 R K) : CF 4 yX12_term cX12_term 6 (some .int) [.ref G.2.2.1, .int x1, .int x2, .int x3, .int x4] G R K := by
  refine CF.of (by decide +kernel) hok (Nat.le_of_ble_eq_true rfl) (fun X hc hr => ?_)
  show MR G X 6 R 0 [(0, .ref G.2.2.1), (1, .int x1), (2, .int x2), (3, .int x3), (4, .int x4)] []
  unfold wp_term at hw
  refine m_aload_n hc 0 dX12_term_0 rfl rfl ?_
  refine m_iconst hc 0 dX12_term_1 (by decide) ?_
  refine r_put hc hr 0 dX12_term_2 lf_X12_116 (Nat.le_of_ble_eq_true rfl) rfl rfl (by decide +kernel) ?_
  refine m_iload_n hc 1 dX12_term_5 rfl rfl ?_
  refine r_callSi hc hr mt_isPlace lm_X12_265 (ok_isPlace hok hw) (Nat.le_of_ble_eq_true rfl) dX12_term_6 rfl (rest := []) rfl (Nat.le_of_ble_eq_true rfl) (fun r1 R1 hw => ?_)
  refine m_if_eq hc 47 dX12_term_9 rfl (fun cq => ?_) (fun cq => ?_)
  · have hw := hw.1 cq
    refine m_sub [0] rfl ?_
    exact b_term_47 hok hc hr R1 hw
  · have hw := hw.2 cq
    refine m_iload_n hc 2 dX12_term_12 rfl rfl ?_
    refine m_iconst hc 0 dX12_term_13 (by decide) ?_
    refine m_iconst hc 2 dX12_term_14 (by decide) ?_
    refine r_callSi hc hr mt_isIn lm_X12_181 (ok_isIn hok hw) (Nat.le_of_ble_eq_true rfl) dX12_term_15 rfl (rest := []) rfl (Nat.le_of_ble_eq_true rfl) (fun r2 R2 hw => ?_)
    refine m_if_eq hc 47 dX12_term_18 rfl (fun cq => ?_) (fun cq => ?_)
    · have hw := hw.1 cq
      refine m_sub [0] rfl ?_
      exact b_term_47 hok hc hr R2 hw
    · have hw := hw.2 cq
      refine m_iload_n hc 3 dX12_term_21 rfl rfl ?_
      refine m_iconst hc 0 dX12_term_22 (by decide) ?_
      refine m_aload_n hc 0 dX12_term_23 rfl rfl ?_
      refine r_geta hc hr 2 dX12_term_24 lf_X12_13 (Nat.le_of_ble_eq_true rfl) rfl ?_
      refine m_iload_n hc 1 dX12_term_27 rfl rfl ?_
      obtain ⟨hi, hw⟩ := hw
      refine r_iald hc hr (i := 0) (f := 2) rfl hi dX12_term_28 ?_
      refine m_iconst hc 1 dX12_term_29 (by decide) ?_
      refine m_isub hc dX12_term_30 ?_
      refine r_callSi hc hr mt_isIn lm_X12_181 (ok_isIn hok hw) (Nat.le_of_ble_eq_true rfl) dX12_term_31 rfl (rest := []) rfl (Nat.le_of_ble_eq_true rfl) (fun r3 R3 hw => ?_)
      refine m_if_eq hc 47 dX12_term_34 rfl (fun cq => ?_) (fun cq => ?_)
      · have hw := hw.1 cq
        refine m_sub [0] rfl ?_
        exact b_term_47 hok hc hr R3 hw
      · have hw := hw.2 cq
        refine m_iload hc 4 dX12_term_37 rfl ?_
        refine m_iconst hc 0 dX12_term_39 (by decide) ?_
        refine m_iconst hc 3 dX12_term_40 (by decide) ?_
        refine r_callSi hc hr mt_isIn lm_X12_181 (ok_isIn hok hw) (Nat.le_of_ble_eq_true rfl) dX12_term_41 rfl (rest := []) rfl (Nat.le_of_ble_eq_true rfl) (fun r4 R4 hw => ?_)
        refine m_if_ne hc 53 dX12_term_44 rfl (fun cq => ?_) (fun cq => ?_)
        · have hw := hw.1 cq
          refine m_aload_n hc 0 dX12_term_53 rfl rfl ?_
          refine m_iload_n hc 1 dX12_term_54 rfl rfl ?_
          refine m_iload_n hc 2 dX12_term_55 rfl rfl ?_
          refine m_iload_n hc 3 dX12_term_56 rfl rfl ?_
          refine r_callVi hc hr mt_placeOf rfl lm_X12_342 (ok_placeOf hok hw) (Nat.le_of_ble_eq_true rfl) dX12_term_57 rfl (rest := []) rfl (Nat.le_of_ble_eq_true rfl) (fun r5 R5 hw => ?_)
          refine m_istore hc [(5, .int r5), (0, .ref G.2.2.1), (1, .int x1), (2, .int x2), (3, .int x3), (4, .int x4)] dX12_term_60 (Nat.le_of_ble_eq_true rfl) rfl ?_
          refine m_iload hc 5 dX12_term_62 rfl ?_
          refine m_if_ne hc 77 dX12_term_64 rfl (fun cq => ?_) (fun cq => ?_)
          · have hw := hw.1 cq
            refine m_aload_n hc 1 dX12_term_77 rfl rfl ?_
            refine m_iload_n hc 2 dX12_term_78 rfl rfl ?_
            refine m_iload hc 0 dX12_term_79 rfl ?_
            refine r_callVi hc hr mt_keyAt rfl lm_X12_123 (ok_keyAt hok hw) (Nat.le_of_ble_eq_true rfl) dX12_term_81 rfl (rest := []) rfl (Nat.le_of_ble_eq_true rfl) (fun r6 R6 hw => ?_)
            refine m_iload hc 5 dX12_term_84 rfl ?_
            refine m_iconst hc 1 dX12_term_86 (by decide) ?_
            refine m_isub hc dX12_term_87 ?_
            refine r_callSi hc hr mt_ex lm_X12_119 (ok_ex hok hw) (Nat.le_of_ble_eq_true rfl) dX12_term_88 rfl (rest := []) rfl (Nat.le_of_ble_eq_true rfl) (fun r7 R7 hw => ?_)
            exact r_iret hc hr dX12_term_91 hw
          · have hw := hw.2 cq
            refine m_aload_n hc 1 dX12_term_67 rfl rfl ?_
            refine m_iload_n hc 2 dX12_term_68 rfl rfl ?_
            refine m_iload hc 0 dX12_term_69 rfl ?_
            refine r_callVi hc hr mt_numAt rfl lm_X12_126 (ok_numAt hok hw) (Nat.le_of_ble_eq_true rfl) dX12_term_71 rfl (rest := []) rfl (Nat.le_of_ble_eq_true rfl) (fun r8 R8 hw => ?_)
            refine m_goto hc 91 dX12_term_74 rfl ?_
            exact r_iret hc hr dX12_term_91 hw
        · have hw := hw.2 cq
          refine m_sub [0] rfl ?_
          exact b_term_47 hok hc hr R4 hw
def wb_number__64 (K64 : Int32 → Int32 → Int32 → Int32 → Int32 → RS → Prop) (K : Int32 → RS → Prop) (x1 x2 x3 x4 x5 : Int32) (R : RS) : Prop := vp_in x1 56 ∧ ((R 2 (Int32.toNatClampNeg x1)) ≤ x5 → K 0 R) ∧ (¬ ((R 2 (Int32.toNatClampNeg x1)) ≤ x5) → wp_keyAt x1 x5 R (fun r1 R1 => wp_keyOf x2 x3 x4 R1 (fun r2 R2 => (¬ r1 = r2 → K64 x1 x2 x3 x4 (x5 + 1) R2) ∧ (r1 = r2 → wp_numAt x1 x5 R2 (fun r3 R3 => K r3 R3)))))
def wl_number__64 (K : Int32 → RS → Prop) : Nat → Int32 → Int32 → Int32 → Int32 → Int32 → RS → Prop
  | 0 => fun _ _ _ _ _ _ => False
  | nn + 1 => wb_number__64 (wl_number__64 K nn) K
set_option maxHeartbeats 4000000 in
set_option maxRecDepth 100000 in
theorem l_number__64 {G : RG} {X : Fx} {K : Int32 → RS → Prop} (hok : okG G) (hc : Cx X RX12 cX12_number_ 6) (hr : Cr G 2 (some .int) K X) : ∀ (nn : Nat) (x1 x2 x3 x4 x5 : Int32) (R : RS), wl_number__64 K nn x1 x2 x3 x4 x5 R → MR G X 6 R 64 [(0, .ref G.2.2.1), (1, .int x1), (2, .int x2), (3, .int x3), (4, .int x4), (5, .int x5)] [] := by
  intro nn
  induction nn with
  | zero => intro x1 x2 x3 x4 x5 R hw; exact False.elim hw
  | succ nn ih =>
    intro x1 x2 x3 x4 x5 R hw
    have hw : wb_number__64 (wl_number__64 K nn) K x1 x2 x3 x4 x5 R := hw
    have h64 := ih
    generalize wl_number__64 K nn = K64 at hw h64
    unfold wb_number__64 at hw
    refine m_iload hc 5 dX12_number__64 rfl ?_
    refine m_aload_n hc 0 dX12_number__66 rfl rfl ?_
    refine r_geta hc hr 2 dX12_number__67 lf_X12_13 (Nat.le_of_ble_eq_true rfl) rfl ?_
    refine m_iload_n hc 1 dX12_number__70 rfl rfl ?_
    obtain ⟨hi, hw⟩ := hw
    refine r_iald hc hr (i := 0) (f := 2) rfl hi dX12_number__71 ?_
    refine m_icmp_ge hc 106 dX12_number__72 rfl (fun cq => ?_) (fun cq => ?_)
    · have hw := hw.1 cq
      refine m_iconst hc 0 dX12_number__106 (by decide) ?_
      exact r_iret hc hr dX12_number__107 hw
    · have hw := hw.2 cq
      refine m_aload_n hc 0 dX12_number__75 rfl rfl ?_
      refine m_iload_n hc 1 dX12_number__76 rfl rfl ?_
      refine m_iload hc 5 dX12_number__77 rfl ?_
      refine r_callVi hc hr mt_keyAt rfl lm_X12_123 (ok_keyAt hok hw) (Nat.le_of_ble_eq_true rfl) dX12_number__79 rfl (rest := []) rfl (Nat.le_of_ble_eq_true rfl) (fun r1 R1 hw => ?_)
      refine m_iload_n hc 2 dX12_number__82 rfl rfl ?_
      refine m_iload_n hc 3 dX12_number__83 rfl rfl ?_
      refine m_iload hc 4 dX12_number__84 rfl ?_
      refine r_callSi hc hr mt_keyOf lm_X12_144 (ok_keyOf hok hw) (Nat.le_of_ble_eq_true rfl) dX12_number__86 rfl (rest := [.int r1]) rfl (Nat.le_of_ble_eq_true rfl) (fun r2 R2 hw => ?_)
      refine m_icmp_ne hc 100 dX12_number__89 rfl (fun cq => ?_) (fun cq => ?_)
      · have hw := hw.1 cq
        refine m_iinc hc 5 (x5 + 1) [(5, .int (x5 + 1)), (0, .ref G.2.2.1), (1, .int x1), (2, .int x2), (3, .int x3), (4, .int x4)] dX12_number__100 rfl rfl (Nat.le_of_ble_eq_true rfl) rfl ?_
        refine m_goto hc 64 dX12_number__103 rfl ?_
        refine m_sub [1, 2, 3, 4, 5, 0] rfl ?_
        exact h64 x1 x2 x3 x4 (x5 + 1) R2 hw
      · have hw := hw.2 cq
        refine m_aload_n hc 0 dX12_number__92 rfl rfl ?_
        refine m_iload_n hc 1 dX12_number__93 rfl rfl ?_
        refine m_iload hc 5 dX12_number__94 rfl ?_
        refine r_callVi hc hr mt_numAt rfl lm_X12_126 (ok_numAt hok hw) (Nat.le_of_ble_eq_true rfl) dX12_number__96 rfl (rest := []) rfl (Nat.le_of_ble_eq_true rfl) (fun r3 R3 hw => ?_)
        exact r_iret hc hr dX12_number__99 hw
def w_number__30 (K : Int32 → RS → Prop) (x1 x2 x3 x4 s0 : Int32) (R : RS) : Prop := (0 < ((up R 0 0 s0) 0 0) → K 0 (up R 0 0 s0)) ∧ (¬ (0 < ((up R 0 0 s0) 0 0)) → (40 < x2 → K 0 (up R 0 0 s0)) ∧ (¬ (40 < x2) → (40 < x3 → K 0 (up R 0 0 s0)) ∧ (¬ (40 < x3) → (x4 ≤ 40 → ∃ nn : Nat, wl_number__64 K nn x1 x2 x3 x4 0 (up R 0 0 s0)) ∧ (¬ (x4 ≤ 40) → K 0 (up R 0 0 s0)))))
set_option maxHeartbeats 4000000 in
set_option maxRecDepth 100000 in
theorem b_number__30 {G : RG} {X : Fx} {K : Int32 → RS → Prop} (hok : okG G) (hc : Cx X RX12 cX12_number_ 6) (hr : Cr G 2 (some .int) K X) : ∀ (x1 x2 x3 x4 s0 : Int32) (R : RS), w_number__30 K x1 x2 x3 x4 s0 R → MR G X 6 R 30 [(0, .ref G.2.2.1), (1, .int x1), (2, .int x2), (3, .int x3), (4, .int x4)] [.int s0, .ref G.2.2.1] := by
  intro x1 x2 x3 x4 s0 R hw
  unfold w_number__30 at hw
  refine r_put hc hr 0 dX12_number__30 lf_X12_116 (Nat.le_of_ble_eq_true rfl) rfl rfl (by decide +kernel) ?_
  refine m_aload_n hc 0 dX12_number__33 rfl rfl ?_
  refine r_geti hc hr 0 dX12_number__34 lf_X12_116 (Nat.le_of_ble_eq_true rfl) rfl ?_
  refine m_if_gt hc 59 dX12_number__37 rfl (fun cq => ?_) (fun cq => ?_)
  · have hw := hw.1 cq
    refine m_iconst hc 0 dX12_number__59 (by decide) ?_
    exact r_iret hc hr dX12_number__60 hw
  · have hw := hw.2 cq
    refine m_iload_n hc 2 dX12_number__40 rfl rfl ?_
    refine m_bipush hc 40 dX12_number__41 (by decide) ?_
    refine m_icmp_gt hc 59 dX12_number__43 rfl (fun cq => ?_) (fun cq => ?_)
    · have hw := hw.1 cq
      refine m_iconst hc 0 dX12_number__59 (by decide) ?_
      exact r_iret hc hr dX12_number__60 hw
    · have hw := hw.2 cq
      refine m_iload_n hc 3 dX12_number__46 rfl rfl ?_
      refine m_bipush hc 40 dX12_number__47 (by decide) ?_
      refine m_icmp_gt hc 59 dX12_number__49 rfl (fun cq => ?_) (fun cq => ?_)
      · have hw := hw.1 cq
        refine m_iconst hc 0 dX12_number__59 (by decide) ?_
        exact r_iret hc hr dX12_number__60 hw
      · have hw := hw.2 cq
        refine m_iload hc 4 dX12_number__52 rfl ?_
        refine m_bipush hc 40 dX12_number__54 (by decide) ?_
        refine m_icmp_le hc 61 dX12_number__56 rfl (fun cq => ?_) (fun cq => ?_)
        · have hw := hw.1 cq
          refine m_iconst hc 0 dX12_number__61 (by decide) ?_
          refine m_istore hc [(5, .int 0), (0, .ref G.2.2.1), (1, .int x1), (2, .int x2), (3, .int x3), (4, .int x4)] dX12_number__62 (Nat.le_of_ble_eq_true rfl) rfl ?_
          refine m_sub [1, 2, 3, 4, 5, 0] rfl ?_
          obtain ⟨nn, hw⟩ := hw
          exact l_number__64 hok hc hr nn x1 x2 x3 x4 0 (up R 0 0 s0) hw
        · have hw := hw.2 cq
          refine m_iconst hc 0 dX12_number__59 (by decide) ?_
          exact r_iret hc hr dX12_number__60 hw
def wp_number_ (x1 x2 x3 x4 : Int32) (R : RS) (K : Int32 → RS → Prop) : Prop := wp_isPlace x1 R (fun r1 R1 => (¬ r1 = 0 → (x2 < 0 → w_number__30 K x1 x2 x3 x4 2 R1) ∧ (¬ (x2 < 0) → (x3 < 0 → w_number__30 K x1 x2 x3 x4 2 R1) ∧ (¬ (x3 < 0) → (0 ≤ x4 → w_number__30 K x1 x2 x3 x4 0 R1) ∧ (¬ (0 ≤ x4) → w_number__30 K x1 x2 x3 x4 2 R1)))) ∧ (r1 = 0 → w_number__30 K x1 x2 x3 x4 1 R1))
set_option maxHeartbeats 4000000 in
set_option maxRecDepth 100000 in
theorem ok_number_ {G : RG} (hok : okG G) {x1 : Int32} {x2 : Int32} {x3 : Int32} {x4 : Int32} {R : RS} {K : Int32 → RS → Prop} (hw : wp_number_ x1 x2 x3 x4 R K) : CF 2 yX12_number_ cX12_number_ 6 (some .int) [.ref G.2.2.1, .int x1, .int x2, .int x3, .int x4] G R K := by
  refine CF.of (by decide +kernel) hok (Nat.le_of_ble_eq_true rfl) (fun X hc hr => ?_)
  show MR G X 6 R 0 [(0, .ref G.2.2.1), (1, .int x1), (2, .int x2), (3, .int x3), (4, .int x4)] []
  unfold wp_number_ at hw
  refine m_aload_n hc 0 dX12_number__0 rfl rfl ?_
  refine m_iload_n hc 1 dX12_number__1 rfl rfl ?_
  refine r_callSi hc hr mt_isPlace lm_X12_265 (ok_isPlace hok hw) (Nat.le_of_ble_eq_true rfl) dX12_number__2 rfl (rest := [.ref G.2.2.1]) rfl (Nat.le_of_ble_eq_true rfl) (fun r1 R1 hw => ?_)
  refine m_if_ne hc 12 dX12_number__5 rfl (fun cq => ?_) (fun cq => ?_)
  · have hw := hw.1 cq
    refine m_iload_n hc 2 dX12_number__12 rfl rfl ?_
    refine m_if_lt hc 25 dX12_number__13 rfl (fun cq => ?_) (fun cq => ?_)
    · have hw := hw.1 cq
      refine m_iconst hc 2 dX12_number__25 (by decide) ?_
      refine m_goto hc 30 dX12_number__26 rfl ?_
      exact b_number__30 hok hc hr x1 x2 x3 x4 2 R1 hw
    · have hw := hw.2 cq
      refine m_iload_n hc 3 dX12_number__16 rfl rfl ?_
      refine m_if_lt hc 25 dX12_number__17 rfl (fun cq => ?_) (fun cq => ?_)
      · have hw := hw.1 cq
        refine m_iconst hc 2 dX12_number__25 (by decide) ?_
        refine m_goto hc 30 dX12_number__26 rfl ?_
        exact b_number__30 hok hc hr x1 x2 x3 x4 2 R1 hw
      · have hw := hw.2 cq
        refine m_iload hc 4 dX12_number__20 rfl ?_
        refine m_if_ge hc 29 dX12_number__22 rfl (fun cq => ?_) (fun cq => ?_)
        · have hw := hw.1 cq
          refine m_iconst hc 0 dX12_number__29 (by decide) ?_
          exact b_number__30 hok hc hr x1 x2 x3 x4 0 R1 hw
        · have hw := hw.2 cq
          refine m_iconst hc 2 dX12_number__25 (by decide) ?_
          refine m_goto hc 30 dX12_number__26 rfl ?_
          exact b_number__30 hok hc hr x1 x2 x3 x4 2 R1 hw
  · have hw := hw.2 cq
    refine m_iconst hc 1 dX12_number__8 (by decide) ?_
    refine m_goto hc 30 dX12_number__9 rfl ?_
    exact b_number__30 hok hc hr x1 x2 x3 x4 1 R1 hw
def w_value_28 (K : Int32 → RS → Prop) (x1 x2 x3 x4 s0 : Int32) (R : RS) : Prop := (((up R 0 0 s0) 0 0) ≤ 0 → wp_valueOf x1 x2 x3 x4 (up R 0 0 s0) (fun r1 R1 => K r1 R1)) ∧ (¬ (((up R 0 0 s0) 0 0) ≤ 0) → K 0 (up R 0 0 s0))
set_option maxHeartbeats 4000000 in
set_option maxRecDepth 100000 in
theorem b_value_28 {G : RG} {X : Fx} {K : Int32 → RS → Prop} (hok : okG G) (hc : Cx X RX12 cX12_value 5) (hr : Cr G 2 (some .int) K X) : ∀ (x1 x2 x3 x4 s0 : Int32) (R : RS), w_value_28 K x1 x2 x3 x4 s0 R → MR G X 5 R 28 [(0, .ref G.2.2.1), (1, .int x1), (2, .int x2), (3, .int x3), (4, .int x4)] [.int s0, .ref G.2.2.1] := by
  intro x1 x2 x3 x4 s0 R hw
  unfold w_value_28 at hw
  refine r_put hc hr 0 dX12_value_28 lf_X12_116 (Nat.le_of_ble_eq_true rfl) rfl rfl (by decide +kernel) ?_
  refine m_aload_n hc 0 dX12_value_31 rfl rfl ?_
  refine r_geti hc hr 0 dX12_value_32 lf_X12_116 (Nat.le_of_ble_eq_true rfl) rfl ?_
  refine m_if_le hc 42 dX12_value_35 rfl (fun cq => ?_) (fun cq => ?_)
  · have hw := hw.1 cq
    refine m_aload_n hc 0 dX12_value_42 rfl rfl ?_
    refine m_iload_n hc 1 dX12_value_43 rfl rfl ?_
    refine m_iload_n hc 2 dX12_value_44 rfl rfl ?_
    refine m_iload_n hc 3 dX12_value_45 rfl rfl ?_
    refine m_iload hc 4 dX12_value_46 rfl ?_
    refine r_callVi hc hr mt_valueOf rfl lm_X12_184 (ok_valueOf hok hw) (Nat.le_of_ble_eq_true rfl) dX12_value_48 rfl (rest := []) rfl (Nat.le_of_ble_eq_true rfl) (fun r1 R1 hw => ?_)
    exact r_iret hc hr dX12_value_51 hw
  · have hw := hw.2 cq
    refine m_iconst hc 0 dX12_value_38 (by decide) ?_
    refine m_goto hc 51 dX12_value_39 rfl ?_
    exact r_iret hc hr dX12_value_51 hw
def wp_value (x1 x2 x3 x4 : Int32) (R : RS) (K : Int32 → RS → Prop) : Prop := wp_isPlace x1 R (fun r1 R1 => (¬ r1 = 0 → wp_isPoint x2 x3 x4 R1 (fun r2 R2 => (¬ r2 = 0 → w_value_28 K x1 x2 x3 x4 0 R2) ∧ (r2 = 0 → w_value_28 K x1 x2 x3 x4 2 R2))) ∧ (r1 = 0 → w_value_28 K x1 x2 x3 x4 1 R1))
set_option maxHeartbeats 4000000 in
set_option maxRecDepth 100000 in
theorem ok_value {G : RG} (hok : okG G) {x1 : Int32} {x2 : Int32} {x3 : Int32} {x4 : Int32} {R : RS} {K : Int32 → RS → Prop} (hw : wp_value x1 x2 x3 x4 R K) : CF 2 yX12_value cX12_value 5 (some .int) [.ref G.2.2.1, .int x1, .int x2, .int x3, .int x4] G R K := by
  refine CF.of (by decide +kernel) hok (Nat.le_of_ble_eq_true rfl) (fun X hc hr => ?_)
  show MR G X 5 R 0 [(0, .ref G.2.2.1), (1, .int x1), (2, .int x2), (3, .int x3), (4, .int x4)] []
  unfold wp_value at hw
  refine m_aload_n hc 0 dX12_value_0 rfl rfl ?_
  refine m_iload_n hc 1 dX12_value_1 rfl rfl ?_
  refine r_callSi hc hr mt_isPlace lm_X12_265 (ok_isPlace hok hw) (Nat.le_of_ble_eq_true rfl) dX12_value_2 rfl (rest := [.ref G.2.2.1]) rfl (Nat.le_of_ble_eq_true rfl) (fun r1 R1 hw => ?_)
  refine m_if_ne hc 12 dX12_value_5 rfl (fun cq => ?_) (fun cq => ?_)
  · have hw := hw.1 cq
    refine m_aload_n hc 0 dX12_value_12 rfl rfl ?_
    refine m_iload_n hc 2 dX12_value_13 rfl rfl ?_
    refine m_iload_n hc 3 dX12_value_14 rfl rfl ?_
    refine m_iload hc 4 dX12_value_15 rfl ?_
    refine r_callVi hc hr mt_isPoint rfl lm_X12_345 (ok_isPoint hok hw) (Nat.le_of_ble_eq_true rfl) dX12_value_17 rfl (rest := [.ref G.2.2.1]) rfl (Nat.le_of_ble_eq_true rfl) (fun r2 R2 hw => ?_)
    refine m_if_ne hc 27 dX12_value_20 rfl (fun cq => ?_) (fun cq => ?_)
    · have hw := hw.1 cq
      refine m_iconst hc 0 dX12_value_27 (by decide) ?_
      exact b_value_28 hok hc hr x1 x2 x3 x4 0 R2 hw
    · have hw := hw.2 cq
      refine m_iconst hc 2 dX12_value_23 (by decide) ?_
      refine m_goto hc 28 dX12_value_24 rfl ?_
      exact b_value_28 hok hc hr x1 x2 x3 x4 2 R2 hw
  · have hw := hw.2 cq
    refine m_iconst hc 1 dX12_value_8 (by decide) ?_
    refine m_goto hc 28 dX12_value_9 rfl ?_
    exact b_value_28 hok hc hr x1 x2 x3 x4 1 R1 hw
def w_same_20 (K : Int32 → RS → Prop) (x1 x2 x3 s0 : Int32) (R : RS) : Prop := (((up R 0 0 s0) 0 0) ≤ 0 → (x3 = 0 → wp_areSame x1 x2 (up R 0 0 s0) (fun r1 R1 => (r1 = 0 ∨ r1 = 1) ∧ K r1 R1)) ∧ (¬ (x3 = 0) → wp_witnessOf x1 x2 (up R 0 0 s0) (fun r2 R2 => (¬ r2 = (-1) → K 0 R2) ∧ (r2 = (-1) → K 1 R2)))) ∧ (¬ (((up R 0 0 s0) 0 0) ≤ 0) → K 0 (up R 0 0 s0))
set_option maxHeartbeats 4000000 in
set_option maxRecDepth 100000 in
theorem b_same_20 {G : RG} {X : Fx} {K : Int32 → RS → Prop} (hok : okG G) (hc : Cx X RX12 cX12_same 4) (hr : Cr G 3 (some .boolean) K X) : ∀ (x1 x2 x3 s0 : Int32) (R : RS), w_same_20 K x1 x2 x3 s0 R → MR G X 4 R 20 [(0, .ref G.2.2.1), (1, .int x1), (2, .int x2), (3, .int x3)] [.int s0, .ref G.2.2.1] := by
  intro x1 x2 x3 s0 R hw
  unfold w_same_20 at hw
  refine r_put hc hr 0 dX12_same_20 lf_X12_116 (Nat.le_of_ble_eq_true rfl) rfl rfl (by decide +kernel) ?_
  refine m_aload_n hc 0 dX12_same_23 rfl rfl ?_
  refine r_geti hc hr 0 dX12_same_24 lf_X12_116 (Nat.le_of_ble_eq_true rfl) rfl ?_
  refine m_if_le hc 32 dX12_same_27 rfl (fun cq => ?_) (fun cq => ?_)
  · have hw := hw.1 cq
    refine m_iload_n hc 3 dX12_same_32 rfl rfl ?_
    refine m_if_eq hc 54 dX12_same_33 rfl (fun cq => ?_) (fun cq => ?_)
    · have hw := hw.1 cq
      refine m_aload_n hc 0 dX12_same_54 rfl rfl ?_
      refine m_iload_n hc 1 dX12_same_55 rfl rfl ?_
      refine m_iload_n hc 2 dX12_same_56 rfl rfl ?_
      refine r_callVi hc hr mt_areSame rfl lm_X12_351 (ok_areSame hok hw) (Nat.le_of_ble_eq_true rfl) dX12_same_57 rfl (rest := []) rfl (Nat.le_of_ble_eq_true rfl) (fun r1 R1 hw => ?_)
      exact r_zret hc hr dX12_same_60 hw.1 hw.2
    · have hw := hw.2 cq
      refine m_aload_n hc 0 dX12_same_36 rfl rfl ?_
      refine m_iload_n hc 1 dX12_same_37 rfl rfl ?_
      refine m_iload_n hc 2 dX12_same_38 rfl rfl ?_
      refine r_callVi hc hr mt_witnessOf rfl lm_X12_348 (ok_witnessOf hok hw) (Nat.le_of_ble_eq_true rfl) dX12_same_39 rfl (rest := []) rfl (Nat.le_of_ble_eq_true rfl) (fun r2 R2 hw => ?_)
      refine m_iconst hc (-1) dX12_same_42 (by decide) ?_
      refine m_icmp_ne hc 50 dX12_same_43 rfl (fun cq => ?_) (fun cq => ?_)
      · have hw := hw.1 cq
        refine m_iconst hc 0 dX12_same_50 (by decide) ?_
        refine m_goto hc 60 dX12_same_51 rfl ?_
        exact r_zret hc hr dX12_same_60 (by decide) hw
      · have hw := hw.2 cq
        refine m_iconst hc 1 dX12_same_46 (by decide) ?_
        refine m_goto hc 60 dX12_same_47 rfl ?_
        exact r_zret hc hr dX12_same_60 (by decide) hw
  · have hw := hw.2 cq
    refine m_iconst hc 0 dX12_same_30 (by decide) ?_
    exact r_zret hc hr dX12_same_31 (by decide) hw
def wp_same (x1 x2 x3 : Int32) (R : RS) (K : Int32 → RS → Prop) : Prop := wp_isPlace x1 R (fun r1 R1 => (r1 = 0 → w_same_20 K x1 x2 x3 1 R1) ∧ (¬ (r1 = 0) → wp_isPlace x2 R1 (fun r2 R2 => (¬ r2 = 0 → w_same_20 K x1 x2 x3 0 R2) ∧ (r2 = 0 → w_same_20 K x1 x2 x3 1 R2))))
set_option maxHeartbeats 4000000 in
set_option maxRecDepth 100000 in
theorem ok_same {G : RG} (hok : okG G) {x1 : Int32} {x2 : Int32} {x3 : Int32} {R : RS} {K : Int32 → RS → Prop} (hw : wp_same x1 x2 x3 R K) : CF 3 yX12_same cX12_same 4 (some .boolean) [.ref G.2.2.1, .int x1, .int x2, .int x3] G R K := by
  refine CF.of (by decide +kernel) hok (Nat.le_of_ble_eq_true rfl) (fun X hc hr => ?_)
  show MR G X 4 R 0 [(0, .ref G.2.2.1), (1, .int x1), (2, .int x2), (3, .int x3)] []
  unfold wp_same at hw
  refine m_aload_n hc 0 dX12_same_0 rfl rfl ?_
  refine m_iload_n hc 1 dX12_same_1 rfl rfl ?_
  refine r_callSi hc hr mt_isPlace lm_X12_265 (ok_isPlace hok hw) (Nat.le_of_ble_eq_true rfl) dX12_same_2 rfl (rest := [.ref G.2.2.1]) rfl (Nat.le_of_ble_eq_true rfl) (fun r1 R1 hw => ?_)
  refine m_if_eq hc 15 dX12_same_5 rfl (fun cq => ?_) (fun cq => ?_)
  · have hw := hw.1 cq
    refine m_iconst hc 1 dX12_same_15 (by decide) ?_
    refine m_goto hc 20 dX12_same_16 rfl ?_
    exact b_same_20 hok hc hr x1 x2 x3 1 R1 hw
  · have hw := hw.2 cq
    refine m_iload_n hc 2 dX12_same_8 rfl rfl ?_
    refine r_callSi hc hr mt_isPlace lm_X12_265 (ok_isPlace hok hw) (Nat.le_of_ble_eq_true rfl) dX12_same_9 rfl (rest := [.ref G.2.2.1]) rfl (Nat.le_of_ble_eq_true rfl) (fun r2 R2 hw => ?_)
    refine m_if_ne hc 19 dX12_same_12 rfl (fun cq => ?_) (fun cq => ?_)
    · have hw := hw.1 cq
      refine m_iconst hc 0 dX12_same_19 (by decide) ?_
      exact b_same_20 hok hc hr x1 x2 x3 0 R2 hw
    · have hw := hw.2 cq
      refine m_iconst hc 1 dX12_same_15 (by decide) ?_
      refine m_goto hc 20 dX12_same_16 rfl ?_
      exact b_same_20 hok hc hr x1 x2 x3 1 R2 hw
def w_witness_20 (K : Int32 → RS → Prop) (x1 x2 s0 : Int32) (R : RS) : Prop := (((up R 0 0 s0) 0 0) ≤ 0 → wp_witnessOf x1 x2 (up R 0 0 s0) (fun r1 R1 => K r1 R1)) ∧ (¬ (((up R 0 0 s0) 0 0) ≤ 0) → K 0 (up R 0 0 s0))
set_option maxHeartbeats 4000000 in
set_option maxRecDepth 100000 in
theorem b_witness_20 {G : RG} {X : Fx} {K : Int32 → RS → Prop} (hok : okG G) (hc : Cx X RX12 cX12_witness 3) (hr : Cr G 3 (some .int) K X) : ∀ (x1 x2 s0 : Int32) (R : RS), w_witness_20 K x1 x2 s0 R → MR G X 3 R 20 [(0, .ref G.2.2.1), (1, .int x1), (2, .int x2)] [.int s0, .ref G.2.2.1] := by
  intro x1 x2 s0 R hw
  unfold w_witness_20 at hw
  refine r_put hc hr 0 dX12_witness_20 lf_X12_116 (Nat.le_of_ble_eq_true rfl) rfl rfl (by decide +kernel) ?_
  refine m_aload_n hc 0 dX12_witness_23 rfl rfl ?_
  refine r_geti hc hr 0 dX12_witness_24 lf_X12_116 (Nat.le_of_ble_eq_true rfl) rfl ?_
  refine m_if_le hc 34 dX12_witness_27 rfl (fun cq => ?_) (fun cq => ?_)
  · have hw := hw.1 cq
    refine m_aload_n hc 0 dX12_witness_34 rfl rfl ?_
    refine m_iload_n hc 1 dX12_witness_35 rfl rfl ?_
    refine m_iload_n hc 2 dX12_witness_36 rfl rfl ?_
    refine r_callVi hc hr mt_witnessOf rfl lm_X12_348 (ok_witnessOf hok hw) (Nat.le_of_ble_eq_true rfl) dX12_witness_37 rfl (rest := []) rfl (Nat.le_of_ble_eq_true rfl) (fun r1 R1 hw => ?_)
    exact r_iret hc hr dX12_witness_40 hw
  · have hw := hw.2 cq
    refine m_iconst hc 0 dX12_witness_30 (by decide) ?_
    refine m_goto hc 40 dX12_witness_31 rfl ?_
    exact r_iret hc hr dX12_witness_40 hw
def wp_witness (x1 x2 : Int32) (R : RS) (K : Int32 → RS → Prop) : Prop := wp_isPlace x1 R (fun r1 R1 => (r1 = 0 → w_witness_20 K x1 x2 1 R1) ∧ (¬ (r1 = 0) → wp_isPlace x2 R1 (fun r2 R2 => (¬ r2 = 0 → w_witness_20 K x1 x2 0 R2) ∧ (r2 = 0 → w_witness_20 K x1 x2 1 R2))))
set_option maxHeartbeats 4000000 in
set_option maxRecDepth 100000 in
theorem ok_witness {G : RG} (hok : okG G) {x1 : Int32} {x2 : Int32} {R : RS} {K : Int32 → RS → Prop} (hw : wp_witness x1 x2 R K) : CF 3 yX12_witness cX12_witness 3 (some .int) [.ref G.2.2.1, .int x1, .int x2] G R K := by
  refine CF.of (by decide +kernel) hok (Nat.le_of_ble_eq_true rfl) (fun X hc hr => ?_)
  show MR G X 3 R 0 [(0, .ref G.2.2.1), (1, .int x1), (2, .int x2)] []
  unfold wp_witness at hw
  refine m_aload_n hc 0 dX12_witness_0 rfl rfl ?_
  refine m_iload_n hc 1 dX12_witness_1 rfl rfl ?_
  refine r_callSi hc hr mt_isPlace lm_X12_265 (ok_isPlace hok hw) (Nat.le_of_ble_eq_true rfl) dX12_witness_2 rfl (rest := [.ref G.2.2.1]) rfl (Nat.le_of_ble_eq_true rfl) (fun r1 R1 hw => ?_)
  refine m_if_eq hc 15 dX12_witness_5 rfl (fun cq => ?_) (fun cq => ?_)
  · have hw := hw.1 cq
    refine m_iconst hc 1 dX12_witness_15 (by decide) ?_
    refine m_goto hc 20 dX12_witness_16 rfl ?_
    exact b_witness_20 hok hc hr x1 x2 1 R1 hw
  · have hw := hw.2 cq
    refine m_iload_n hc 2 dX12_witness_8 rfl rfl ?_
    refine r_callSi hc hr mt_isPlace lm_X12_265 (ok_isPlace hok hw) (Nat.le_of_ble_eq_true rfl) dX12_witness_9 rfl (rest := [.ref G.2.2.1]) rfl (Nat.le_of_ble_eq_true rfl) (fun r2 R2 hw => ?_)
    refine m_if_ne hc 19 dX12_witness_12 rfl (fun cq => ?_) (fun cq => ?_)
    · have hw := hw.1 cq
      refine m_iconst hc 0 dX12_witness_19 (by decide) ?_
      exact b_witness_20 hok hc hr x1 x2 0 R2 hw
    · have hw := hw.2 cq
      refine m_iconst hc 1 dX12_witness_15 (by decide) ?_
      refine m_goto hc 20 dX12_witness_16 rfl ?_
      exact b_witness_20 hok hc hr x1 x2 1 R2 hw
def wp_writes (x1 : Int32) (R : RS) (K : Int32 → RS → Prop) : Prop := vp_in (R 0 28) 6000 ∧ K 0 (up (up R 27 (Int32.toNatClampNeg (R 0 28)) x1) 0 28 (((up R 27 (Int32.toNatClampNeg (R 0 28)) x1) 0 28) + 1))
set_option maxHeartbeats 4000000 in
set_option maxRecDepth 100000 in
theorem ok_writes {G : RG} (hok : okG G) {x1 : Int32} {R : RS} {K : Int32 → RS → Prop} (hw : wp_writes x1 R K) : CF 0 yX12_writes cX12_writes 2 none [.ref G.2.2.1, .int x1] G R K := by
  refine CF.of (by decide +kernel) hok (Nat.le_of_ble_eq_true rfl) (fun X hc hr => ?_)
  show MR G X 2 R 0 [(0, .ref G.2.2.1), (1, .int x1)] []
  unfold wp_writes at hw
  refine m_aload_n hc 0 dX12_writes_0 rfl rfl ?_
  refine r_geta hc hr 27 dX12_writes_1 lf_X12_74 (Nat.le_of_ble_eq_true rfl) rfl ?_
  refine m_aload_n hc 0 dX12_writes_4 rfl rfl ?_
  refine r_geti hc hr 28 dX12_writes_5 lf_X12_354 (Nat.le_of_ble_eq_true rfl) rfl ?_
  refine m_iload_n hc 1 dX12_writes_8 rfl rfl ?_
  obtain ⟨hi, hw⟩ := hw
  refine r_iast hc hr (i := 19) (f := 27) rfl hi dX12_writes_9 ?_
  refine m_aload_n hc 0 dX12_writes_10 rfl rfl ?_
  refine m_dup hc dX12_writes_11 rfl ?_
  refine r_geti hc hr 28 dX12_writes_12 lf_X12_354 (Nat.le_of_ble_eq_true rfl) rfl ?_
  refine m_iconst hc 1 dX12_writes_15 (by decide) ?_
  refine m_iadd hc dX12_writes_16 ?_
  refine r_put hc hr 28 dX12_writes_17 lf_X12_354 (Nat.le_of_ble_eq_true rfl) rfl rfl (by decide +kernel) ?_
  exact r_vret hc hr dX12_writes_20 hw
def w_writesNumber0_14 (K : Int32 → RS → Prop) (x1 : Int32) (R : RS) : Prop := wp_writes (48 + (iRem x1 10)) R (fun r1 R1 => K 0 R1)
set_option maxHeartbeats 4000000 in
set_option maxRecDepth 100000 in
theorem b_writesNumber0_14 {G : RG} {X : Fx} {K : Int32 → RS → Prop} (hok : okG G) (hc : Cx X RX12 cX12_writesNumber 2) (hr : Cr G 1 none K X) : ∀ (x1 : Int32) (R : RS), w_writesNumber0_14 K x1 R → MR G X 2 R 14 [(0, .ref G.2.2.1), (1, .int x1)] [] := by
  intro x1 R hw
  unfold w_writesNumber0_14 at hw
  refine m_aload_n hc 0 dX12_writesNumber_14 rfl rfl ?_
  refine m_bipush hc 48 dX12_writesNumber_15 (by decide) ?_
  refine m_iload_n hc 1 dX12_writesNumber_17 rfl rfl ?_
  refine m_bipush hc 10 dX12_writesNumber_18 (by decide) ?_
  refine m_irem hc dX12_writesNumber_20 (by decide) ?_
  refine m_iadd hc dX12_writesNumber_21 ?_
  refine r_callVv hc hr mt_writes rfl lm_X12_360 (ok_writes hok hw) (Nat.le_of_ble_eq_true rfl) dX12_writesNumber_22 rfl (rest := []) rfl (Nat.le_of_ble_eq_true rfl) (fun r1 R1 hw => ?_)
  exact r_vret hc hr dX12_writesNumber_25 hw
def wp_writesNumber0 (x1 : Int32) (R : RS) (K : Int32 → RS → Prop) : Prop := (x1 ≤ 9 → w_writesNumber0_14 K x1 R) ∧ (¬ (x1 ≤ 9) → False)
set_option maxHeartbeats 4000000 in
set_option maxRecDepth 100000 in
theorem ok_writesNumber0 {G : RG} (hok : okG G) {x1 : Int32} {R : RS} {K : Int32 → RS → Prop} (hw : wp_writesNumber0 x1 R K) : CF 1 yX12_writesNumber cX12_writesNumber 2 none [.ref G.2.2.1, .int x1] G R K := by
  refine CF.of (by decide +kernel) hok (Nat.le_of_ble_eq_true rfl) (fun X hc hr => ?_)
  show MR G X 2 R 0 [(0, .ref G.2.2.1), (1, .int x1)] []
  unfold wp_writesNumber0 at hw
  refine m_iload_n hc 1 dX12_writesNumber_0 rfl rfl ?_
  refine m_bipush hc 9 dX12_writesNumber_1 (by decide) ?_
  refine m_icmp_le hc 14 dX12_writesNumber_3 rfl (fun cq => ?_) (fun cq => ?_)
  · have hw := hw.1 cq
    exact b_writesNumber0_14 hok hc hr x1 R hw
  · have hw := hw.2 cq
    refine m_aload_n hc 0 dX12_writesNumber_6 rfl rfl ?_
    refine m_iload_n hc 1 dX12_writesNumber_7 rfl rfl ?_
    refine m_bipush hc 10 dX12_writesNumber_8 (by decide) ?_
    refine m_idiv hc dX12_writesNumber_10 (by decide) ?_
    exact False.elim hw
def w_writesNumber_14 (K : Int32 → RS → Prop) (x1 : Int32) (R : RS) : Prop := wp_writes (48 + (iRem x1 10)) R (fun r1 R1 => K 0 R1)
set_option maxHeartbeats 4000000 in
set_option maxRecDepth 100000 in
theorem b_writesNumber_14 {G : RG} {X : Fx} {K : Int32 → RS → Prop} (hok : okG G) (hc : Cx X RX12 cX12_writesNumber 2) (hr : Cr G 2 none K X) : ∀ (x1 : Int32) (R : RS), w_writesNumber_14 K x1 R → MR G X 2 R 14 [(0, .ref G.2.2.1), (1, .int x1)] [] := by
  intro x1 R hw
  unfold w_writesNumber_14 at hw
  refine m_aload_n hc 0 dX12_writesNumber_14 rfl rfl ?_
  refine m_bipush hc 48 dX12_writesNumber_15 (by decide) ?_
  refine m_iload_n hc 1 dX12_writesNumber_17 rfl rfl ?_
  refine m_bipush hc 10 dX12_writesNumber_18 (by decide) ?_
  refine m_irem hc dX12_writesNumber_20 (by decide) ?_
  refine m_iadd hc dX12_writesNumber_21 ?_
  refine r_callVv hc hr mt_writes rfl lm_X12_360 (ok_writes hok hw) (Nat.le_of_ble_eq_true rfl) dX12_writesNumber_22 rfl (rest := []) rfl (Nat.le_of_ble_eq_true rfl) (fun r1 R1 hw => ?_)
  exact r_vret hc hr dX12_writesNumber_25 hw
def wp_writesNumber (x1 : Int32) (R : RS) (K : Int32 → RS → Prop) : Prop := (x1 ≤ 9 → w_writesNumber_14 K x1 R) ∧ (¬ (x1 ≤ 9) → wp_writesNumber0 (x1 / 10) R (fun r1 R1 => w_writesNumber_14 K x1 R1))
set_option maxHeartbeats 4000000 in
set_option maxRecDepth 100000 in
theorem ok_writesNumber {G : RG} (hok : okG G) {x1 : Int32} {R : RS} {K : Int32 → RS → Prop} (hw : wp_writesNumber x1 R K) : CF 2 yX12_writesNumber cX12_writesNumber 2 none [.ref G.2.2.1, .int x1] G R K := by
  refine CF.of (by decide +kernel) hok (Nat.le_of_ble_eq_true rfl) (fun X hc hr => ?_)
  show MR G X 2 R 0 [(0, .ref G.2.2.1), (1, .int x1)] []
  unfold wp_writesNumber at hw
  refine m_iload_n hc 1 dX12_writesNumber_0 rfl rfl ?_
  refine m_bipush hc 9 dX12_writesNumber_1 (by decide) ?_
  refine m_icmp_le hc 14 dX12_writesNumber_3 rfl (fun cq => ?_) (fun cq => ?_)
  · have hw := hw.1 cq
    exact b_writesNumber_14 hok hc hr x1 R hw
  · have hw := hw.2 cq
    refine m_aload_n hc 0 dX12_writesNumber_6 rfl rfl ?_
    refine m_iload_n hc 1 dX12_writesNumber_7 rfl rfl ?_
    refine m_bipush hc 10 dX12_writesNumber_8 (by decide) ?_
    refine m_idiv hc dX12_writesNumber_10 (by decide) ?_
    refine r_callVv hc hr mt_writesNumber rfl lm_X12_357 (ok_writesNumber0 hok hw) (Nat.le_of_ble_eq_true rfl) dX12_writesNumber_11 rfl (rest := []) rfl (Nat.le_of_ble_eq_true rfl) (fun r1 R1 hw => ?_)
    exact b_writesNumber_14 hok hc hr x1 R1 hw
def w_writesTerm_53 (K21 : Int32 → Int32 → Int32 → RS → Prop) (K : Int32 → RS → Prop) (x1 x4 x5 : Int32) (R : RS) : Prop := wp_writes (120 + x4) R (fun r1 R1 => (¬ x5 = 1 → wp_writes 94 R1 (fun r2 R2 => wp_writesNumber x5 R2 (fun r3 R3 => K21 x1 0 (x4 + 1) R3))) ∧ (x5 = 1 → K21 x1 0 (x4 + 1) R1))
set_option maxHeartbeats 4000000 in
set_option maxRecDepth 100000 in
theorem b_writesTerm_53 {G : RG} {X : Fx} {K : Int32 → RS → Prop} (hok : okG G) (hc : Cx X RX12 cX12_writesTerm 6) (hr : Cr G 3 none K X) (K21 : Int32 → Int32 → Int32 → RS → Prop) (h21 : ∀ (x1 x3 x4 : Int32) (R : RS), K21 x1 x3 x4 R → MR G X 6 R 21 [(0, .ref G.2.2.1), (1, .int x1), (3, .int x3), (4, .int x4)] []) : ∀ (x1 x4 x5 : Int32) (R : RS), w_writesTerm_53 K21 K x1 x4 x5 R → MR G X 6 R 53 [(0, .ref G.2.2.1), (1, .int x1), (4, .int x4), (5, .int x5)] [] := by
  intro x1 x4 x5 R hw
  unfold w_writesTerm_53 at hw
  refine m_iconst hc 0 dX12_writesTerm_53 (by decide) ?_
  refine m_istore_n hc [(3, .int 0), (0, .ref G.2.2.1), (1, .int x1), (4, .int x4), (5, .int x5)] dX12_writesTerm_54 rfl (Nat.le_of_ble_eq_true rfl) rfl ?_
  refine m_aload_n hc 1 dX12_writesTerm_55 rfl rfl ?_
  refine m_bipush hc 120 dX12_writesTerm_56 (by decide) ?_
  refine m_iload hc 3 dX12_writesTerm_58 rfl ?_
  refine m_iadd hc dX12_writesTerm_60 ?_
  refine r_callVv hc hr mt_writes rfl lm_X12_360 (ok_writes hok hw) (Nat.le_of_ble_eq_true rfl) dX12_writesTerm_61 rfl (rest := []) rfl (Nat.le_of_ble_eq_true rfl) (fun r1 R1 hw => ?_)
  refine m_iload hc 4 dX12_writesTerm_64 rfl ?_
  refine m_iconst hc 1 dX12_writesTerm_66 (by decide) ?_
  refine m_icmp_ne hc 73 dX12_writesTerm_67 rfl (fun cq => ?_) (fun cq => ?_)
  · have hw := hw.1 cq
    refine m_aload_n hc 1 dX12_writesTerm_73 rfl rfl ?_
    refine m_bipush hc 94 dX12_writesTerm_74 (by decide) ?_
    refine r_callVv hc hr mt_writes rfl lm_X12_360 (ok_writes hok hw) (Nat.le_of_ble_eq_true rfl) dX12_writesTerm_76 rfl (rest := []) rfl (Nat.le_of_ble_eq_true rfl) (fun r2 R2 hw => ?_)
    refine m_aload_n hc 1 dX12_writesTerm_79 rfl rfl ?_
    refine m_iload hc 4 dX12_writesTerm_80 rfl ?_
    refine r_callVv hc hr mt_writesNumber rfl lm_X12_357 (ok_writesNumber hok hw) (Nat.le_of_ble_eq_true rfl) dX12_writesTerm_82 rfl (rest := []) rfl (Nat.le_of_ble_eq_true rfl) (fun r3 R3 hw => ?_)
    refine m_iinc hc 3 (x4 + 1) [(4, .int (x4 + 1)), (3, .int 0), (0, .ref G.2.2.1), (1, .int x1), (5, .int x5)] dX12_writesTerm_85 rfl rfl (Nat.le_of_ble_eq_true rfl) rfl ?_
    refine m_goto hc 21 dX12_writesTerm_88 rfl ?_
    refine m_sub [2, 3, 1, 0] rfl ?_
    exact h21 x1 0 (x4 + 1) R3 hw
  · have hw := hw.2 cq
    refine m_goto hc 85 dX12_writesTerm_70 rfl ?_
    refine m_iinc hc 3 (x4 + 1) [(4, .int (x4 + 1)), (3, .int 0), (0, .ref G.2.2.1), (1, .int x1), (5, .int x5)] dX12_writesTerm_85 rfl rfl (Nat.le_of_ble_eq_true rfl) rfl ?_
    refine m_goto hc 21 dX12_writesTerm_88 rfl ?_
    refine m_sub [2, 3, 1, 0] rfl ?_
    exact h21 x1 0 (x4 + 1) R1 hw
def wb_writesTerm_21 (K21 : Int32 → Int32 → Int32 → RS → Prop) (K : Int32 → RS → Prop) (x1 x3 x4 : Int32) (R : RS) : Prop := (3 ≤ x4 → K 0 R) ∧ (¬ (3 ≤ x4) → wp_ex x1 x4 R (fun r1 R1 => (¬ r1 = 0 → (¬ x3 = 0 → w_writesTerm_53 K21 K x1 x4 r1 R1) ∧ (x3 = 0 → wp_writes 42 R1 (fun r2 R2 => w_writesTerm_53 K21 K x1 x4 r1 R2))) ∧ (r1 = 0 → K21 x1 x3 (x4 + 1) R1)))
def wl_writesTerm_21 (K : Int32 → RS → Prop) : Nat → Int32 → Int32 → Int32 → RS → Prop
  | 0 => fun _ _ _ _ => False
  | nn + 1 => wb_writesTerm_21 (wl_writesTerm_21 K nn) K
set_option maxHeartbeats 4000000 in
set_option maxRecDepth 100000 in
theorem l_writesTerm_21 {G : RG} {X : Fx} {K : Int32 → RS → Prop} (hok : okG G) (hc : Cx X RX12 cX12_writesTerm 6) (hr : Cr G 3 none K X) : ∀ (nn : Nat) (x1 x3 x4 : Int32) (R : RS), wl_writesTerm_21 K nn x1 x3 x4 R → MR G X 6 R 21 [(0, .ref G.2.2.1), (1, .int x1), (3, .int x3), (4, .int x4)] [] := by
  intro nn
  induction nn with
  | zero => intro x1 x3 x4 R hw; exact False.elim hw
  | succ nn ih =>
    intro x1 x3 x4 R hw
    have hw : wb_writesTerm_21 (wl_writesTerm_21 K nn) K x1 x3 x4 R := hw
    have h21 := ih
    generalize wl_writesTerm_21 K nn = K21 at hw h21
    unfold wb_writesTerm_21 at hw
    refine m_iload hc 3 dX12_writesTerm_21 rfl ?_
    refine m_iconst hc 3 dX12_writesTerm_23 (by decide) ?_
    refine m_icmp_ge hc 91 dX12_writesTerm_24 rfl (fun cq => ?_) (fun cq => ?_)
    · have hw := hw.1 cq
      exact r_vret hc hr dX12_writesTerm_91 hw
    · have hw := hw.2 cq
      refine m_iload_n hc 1 dX12_writesTerm_27 rfl rfl ?_
      refine m_iload hc 3 dX12_writesTerm_28 rfl ?_
      refine r_callSi hc hr mt_ex lm_X12_119 (ok_ex hok hw) (Nat.le_of_ble_eq_true rfl) dX12_writesTerm_30 rfl (rest := []) rfl (Nat.le_of_ble_eq_true rfl) (fun r1 R1 hw => ?_)
      refine m_istore hc [(5, .int r1), (0, .ref G.2.2.1), (1, .int x1), (3, .int x3), (4, .int x4)] dX12_writesTerm_33 (Nat.le_of_ble_eq_true rfl) rfl ?_
      refine m_iload hc 0 dX12_writesTerm_35 rfl ?_
      refine m_if_ne hc 43 dX12_writesTerm_37 rfl (fun cq => ?_) (fun cq => ?_)
      · have hw := hw.1 cq
        refine m_iload_n hc 3 dX12_writesTerm_43 rfl rfl ?_
        refine m_if_ne hc 53 dX12_writesTerm_44 rfl (fun cq => ?_) (fun cq => ?_)
        · have hw := hw.1 cq
          refine m_sub [1, 2, 4, 0] rfl ?_
          exact b_writesTerm_53 hok hc hr K21 h21 x1 x4 r1 R1 hw
        · have hw := hw.2 cq
          refine m_aload_n hc 1 dX12_writesTerm_47 rfl rfl ?_
          refine m_bipush hc 42 dX12_writesTerm_48 (by decide) ?_
          refine r_callVv hc hr mt_writes rfl lm_X12_360 (ok_writes hok hw) (Nat.le_of_ble_eq_true rfl) dX12_writesTerm_50 rfl (rest := []) rfl (Nat.le_of_ble_eq_true rfl) (fun r2 R2 hw => ?_)
          refine m_sub [1, 2, 4, 0] rfl ?_
          exact b_writesTerm_53 hok hc hr K21 h21 x1 x4 r1 R2 hw
      · have hw := hw.2 cq
        refine m_goto hc 85 dX12_writesTerm_40 rfl ?_
        refine m_iinc hc 4 (x4 + 1) [(4, .int (x4 + 1)), (5, .int r1), (0, .ref G.2.2.1), (1, .int x1), (3, .int x3)] dX12_writesTerm_85 rfl rfl (Nat.le_of_ble_eq_true rfl) rfl ?_
        refine m_goto hc 21 dX12_writesTerm_88 rfl ?_
        refine m_sub [2, 3, 4, 0] rfl ?_
        exact h21 x1 x3 (x4 + 1) R1 hw
def w_writesTerm_11 (K : Int32 → RS → Prop) (x1 x2 : Int32) (R : RS) : Prop := wp_writesNumber x2 R (fun r1 R1 => ∃ nn : Nat, wl_writesTerm_21 K nn x1 0 0 R1)
set_option maxHeartbeats 4000000 in
set_option maxRecDepth 100000 in
theorem b_writesTerm_11 {G : RG} {X : Fx} {K : Int32 → RS → Prop} (hok : okG G) (hc : Cx X RX12 cX12_writesTerm 6) (hr : Cr G 3 none K X) : ∀ (x1 x2 : Int32) (R : RS), w_writesTerm_11 K x1 x2 R → MR G X 6 R 11 [(0, .ref G.2.2.1), (1, .int x1), (2, .int x2)] [] := by
  intro x1 x2 R hw
  unfold w_writesTerm_11 at hw
  refine m_aload_n hc 0 dX12_writesTerm_11 rfl rfl ?_
  refine m_iload_n hc 2 dX12_writesTerm_12 rfl rfl ?_
  refine r_callVv hc hr mt_writesNumber rfl lm_X12_357 (ok_writesNumber hok hw) (Nat.le_of_ble_eq_true rfl) dX12_writesTerm_13 rfl (rest := []) rfl (Nat.le_of_ble_eq_true rfl) (fun r1 R1 hw => ?_)
  refine m_iconst hc 0 dX12_writesTerm_16 (by decide) ?_
  refine m_istore_n hc [(3, .int 0), (0, .ref G.2.2.1), (1, .int x1), (2, .int x2)] dX12_writesTerm_17 rfl (Nat.le_of_ble_eq_true rfl) rfl ?_
  refine m_iconst hc 0 dX12_writesTerm_18 (by decide) ?_
  refine m_istore hc [(4, .int 0), (3, .int 0), (0, .ref G.2.2.1), (1, .int x1), (2, .int x2)] dX12_writesTerm_19 (Nat.le_of_ble_eq_true rfl) rfl ?_
  refine m_sub [2, 3, 1, 0] rfl ?_
  obtain ⟨nn, hw⟩ := hw
  exact l_writesTerm_21 hok hc hr nn x1 0 0 R1 hw
def wp_writesTerm (x1 x2 : Int32) (R : RS) (K : Int32 → RS → Prop) : Prop := (¬ x2 = 1 → w_writesTerm_11 K x1 x2 R) ∧ (x2 = 1 → (¬ x1 = 0 → ∃ nn : Nat, wl_writesTerm_21 K nn x1 1 0 R) ∧ (x1 = 0 → w_writesTerm_11 K x1 x2 R))
set_option maxHeartbeats 4000000 in
set_option maxRecDepth 100000 in
theorem ok_writesTerm {G : RG} (hok : okG G) {x1 : Int32} {x2 : Int32} {R : RS} {K : Int32 → RS → Prop} (hw : wp_writesTerm x1 x2 R K) : CF 3 yX12_writesTerm cX12_writesTerm 6 none [.ref G.2.2.1, .int x1, .int x2] G R K := by
  refine CF.of (by decide +kernel) hok (Nat.le_of_ble_eq_true rfl) (fun X hc hr => ?_)
  show MR G X 6 R 0 [(0, .ref G.2.2.1), (1, .int x1), (2, .int x2)] []
  unfold wp_writesTerm at hw
  refine m_iconst hc 1 dX12_writesTerm_0 (by decide) ?_
  refine m_istore_n hc [(3, .int 1), (0, .ref G.2.2.1), (1, .int x1), (2, .int x2)] dX12_writesTerm_1 rfl (Nat.le_of_ble_eq_true rfl) rfl ?_
  refine m_iload_n hc 3 dX12_writesTerm_2 rfl rfl ?_
  refine m_iconst hc 1 dX12_writesTerm_3 (by decide) ?_
  refine m_icmp_ne hc 11 dX12_writesTerm_4 rfl (fun cq => ?_) (fun cq => ?_)
  · have hw := hw.1 cq
    refine m_sub [1, 2, 3] rfl ?_
    exact b_writesTerm_11 hok hc hr x1 x2 R hw
  · have hw := hw.2 cq
    refine m_iload_n hc 2 dX12_writesTerm_7 rfl rfl ?_
    refine m_if_ne hc 18 dX12_writesTerm_8 rfl (fun cq => ?_) (fun cq => ?_)
    · have hw := hw.1 cq
      refine m_iconst hc 0 dX12_writesTerm_18 (by decide) ?_
      refine m_istore hc [(4, .int 0), (3, .int 1), (0, .ref G.2.2.1), (1, .int x1), (2, .int x2)] dX12_writesTerm_19 (Nat.le_of_ble_eq_true rfl) rfl ?_
      refine m_sub [2, 3, 1, 0] rfl ?_
      obtain ⟨nn, hw⟩ := hw
      exact l_writesTerm_21 hok hc hr nn x1 1 0 R hw
    · have hw := hw.2 cq
      refine m_sub [1, 2, 3] rfl ?_
      exact b_writesTerm_11 hok hc hr x1 x2 R hw
