def w_putsTerm_90 (K3 : Int32 → Int32 → Int32 → Int32 → RS → Prop) (K : Int32 → RS → Prop) (x1 x2 x3 x4 x6 x7 s0 s1 : Int32) (R : RS) : Prop := ∀ v1 : Int32, v1 = ((((x6 * 81) + x7) * 81) + (s1 + s0)) → vp_in v1 531441 ∧ wp_numAt 54 x4 R (fun r2 R2 => wp_mod ((R 26 (Int32.toNatClampNeg v1)) + (x2 * r2)) R2 (fun r3 R3 => vp_in v1 531441 ∧ K3 x1 x2 x3 (x4 + 1) (up R3 26 (Int32.toNatClampNeg v1) r3)))
set_option maxHeartbeats 4000000 in
set_option maxRecDepth 100000 in
theorem b_putsTerm_90 {G : RG} {X : Fx} {K : Int32 → RS → Prop} (hok : okG G) (hc : Cx X RX12 cX12_putsTerm 10) (hr : Cr G 1 none K X) (K3 : Int32 → Int32 → Int32 → Int32 → RS → Prop) (h3 : ∀ (x1 x2 x3 x4 : Int32) (R : RS), K3 x1 x2 x3 x4 R → MR G X 10 R 3 [(0, .ref G.2.2.1), (1, .int x1), (2, .int x2), (3, .int x3), (4, .int x4)] []) : ∀ (x1 x2 x3 x4 x6 x7 s0 s1 : Int32) (R : RS), w_putsTerm_90 K3 K x1 x2 x3 x4 x6 x7 s0 s1 R → MR G X 10 R 90 [(0, .ref G.2.2.1), (1, .int x1), (2, .int x2), (3, .int x3), (4, .int x4), (6, .int x6), (7, .int x7)] [.int s0, .int s1] := by
  intro x1 x2 x3 x4 x6 x7 s0 s1 R hw
  unfold w_putsTerm_90 at hw
  refine m_iadd hc dX12_putsTerm_90 ?_
  refine m_istore hc [(8, .int (s1 + s0)), (0, .ref G.2.2.1), (1, .int x1), (2, .int x2), (3, .int x3), (4, .int x4), (6, .int x6), (7, .int x7)] dX12_putsTerm_91 (Nat.le_of_ble_eq_true rfl) rfl ?_
  refine m_iload hc 6 dX12_putsTerm_93 rfl ?_
  refine m_bipush hc 81 dX12_putsTerm_95 (by decide) ?_
  refine m_imul hc dX12_putsTerm_97 ?_
  refine m_iload hc 7 dX12_putsTerm_98 rfl ?_
  refine m_iadd hc dX12_putsTerm_100 ?_
  refine m_bipush hc 81 dX12_putsTerm_101 (by decide) ?_
  refine m_imul hc dX12_putsTerm_103 ?_
  refine m_iload hc 0 dX12_putsTerm_104 rfl ?_
  refine m_iadd hc dX12_putsTerm_106 ?_
  refine m_topi (fun v1 e_v1 => ?_)
  have hw := hw v1 e_v1
  refine m_istore hc [(9, .int v1), (8, .int (s1 + s0)), (0, .ref G.2.2.1), (1, .int x1), (2, .int x2), (3, .int x3), (4, .int x4), (6, .int x6), (7, .int x7)] dX12_putsTerm_107 (Nat.le_of_ble_eq_true rfl) rfl ?_
  refine m_aload_n hc 2 dX12_putsTerm_109 rfl rfl ?_
  refine r_geta hc hr 26 dX12_putsTerm_110 lf_X12_71 (Nat.le_of_ble_eq_true rfl) rfl ?_
  refine m_iload hc 0 dX12_putsTerm_113 rfl ?_
  refine m_aload_n hc 2 dX12_putsTerm_115 rfl rfl ?_
  refine m_aload_n hc 2 dX12_putsTerm_116 rfl rfl ?_
  refine r_geta hc hr 26 dX12_putsTerm_117 lf_X12_71 (Nat.le_of_ble_eq_true rfl) rfl ?_
  refine m_iload hc 0 dX12_putsTerm_120 rfl ?_
  obtain ⟨hi, hw⟩ := hw
  refine r_iald hc hr (i := 18) (f := 26) rfl hi dX12_putsTerm_122 ?_
  refine m_iload_n hc 4 dX12_putsTerm_123 rfl rfl ?_
  refine m_aload_n hc 2 dX12_putsTerm_124 rfl rfl ?_
  refine m_bipush hc 54 dX12_putsTerm_125 (by decide) ?_
  refine m_iload hc 6 dX12_putsTerm_127 rfl ?_
  refine r_callVi hc hr mt_numAt rfl lm_X12_126 (ok_numAt hok hw) (Nat.le_of_ble_eq_true rfl) dX12_putsTerm_129 rfl (rest := [.int x2, .int (R 26 (Int32.toNatClampNeg v1)), .ref G.2.2.1, .int v1, .ref (G.2.2.2 26)]) rfl (Nat.le_of_ble_eq_true rfl) (fun r2 R2 hw => ?_)
  refine m_imul hc dX12_putsTerm_132 ?_
  refine m_iadd hc dX12_putsTerm_133 ?_
  refine r_callVi hc hr mt_mod rfl lm_X12_138 (ok_mod hok hw) (Nat.le_of_ble_eq_true rfl) dX12_putsTerm_134 rfl (rest := [.int v1, .ref (G.2.2.2 26)]) rfl (Nat.le_of_ble_eq_true rfl) (fun r3 R3 hw => ?_)
  obtain ⟨hi, hw⟩ := hw
  refine r_iast hc hr (i := 18) (f := 26) rfl hi dX12_putsTerm_137 ?_
  refine m_iinc hc 6 (x4 + 1) [(4, .int (x4 + 1)), (9, .int v1), (8, .int (s1 + s0)), (0, .ref G.2.2.1), (1, .int x1), (2, .int x2), (3, .int x3), (6, .int x6), (7, .int x7)] dX12_putsTerm_138 rfl rfl (Nat.le_of_ble_eq_true rfl) rfl ?_
  refine m_goto hc 3 dX12_putsTerm_141 rfl ?_
  refine m_sub [3, 4, 5, 6, 0] rfl ?_
  exact h3 x1 x2 x3 (x4 + 1) (up R3 26 (Int32.toNatClampNeg v1) r3) hw
def w_putsTerm_67 (K3 : Int32 → Int32 → Int32 → Int32 → RS → Prop) (K : Int32 → RS → Prop) (x1 x2 x3 x4 x5 x6 s0 s1 : Int32) (R : RS) : Prop := wp_ex x5 2 R (fun r1 R1 => (¬ x3 = 2 → wp_ex x1 2 R1 (fun r2 R2 => w_putsTerm_90 K3 K x1 x2 x3 x4 x6 (s1 + s0) r2 r1 R2)) ∧ (x3 = 2 → w_putsTerm_90 K3 K x1 x2 x3 x4 x6 (s1 + s0) 0 r1 R1))
set_option maxHeartbeats 4000000 in
set_option maxRecDepth 100000 in
theorem b_putsTerm_67 {G : RG} {X : Fx} {K : Int32 → RS → Prop} (hok : okG G) (hc : Cx X RX12 cX12_putsTerm 10) (hr : Cr G 1 none K X) (K3 : Int32 → Int32 → Int32 → Int32 → RS → Prop) (h3 : ∀ (x1 x2 x3 x4 : Int32) (R : RS), K3 x1 x2 x3 x4 R → MR G X 10 R 3 [(0, .ref G.2.2.1), (1, .int x1), (2, .int x2), (3, .int x3), (4, .int x4)] []) : ∀ (x1 x2 x3 x4 x5 x6 s0 s1 : Int32) (R : RS), w_putsTerm_67 K3 K x1 x2 x3 x4 x5 x6 s0 s1 R → MR G X 10 R 67 [(0, .ref G.2.2.1), (1, .int x1), (2, .int x2), (3, .int x3), (4, .int x4), (5, .int x5), (6, .int x6)] [.int s0, .int s1] := by
  intro x1 x2 x3 x4 x5 x6 s0 s1 R hw
  unfold w_putsTerm_67 at hw
  refine m_iadd hc dX12_putsTerm_67 ?_
  refine m_istore hc [(7, .int (s1 + s0)), (0, .ref G.2.2.1), (1, .int x1), (2, .int x2), (3, .int x3), (4, .int x4), (5, .int x5), (6, .int x6)] dX12_putsTerm_68 (Nat.le_of_ble_eq_true rfl) rfl ?_
  refine m_iload hc 6 dX12_putsTerm_70 rfl ?_
  refine m_iconst hc 2 dX12_putsTerm_72 (by decide) ?_
  refine r_callSi hc hr mt_ex lm_X12_119 (ok_ex hok hw) (Nat.le_of_ble_eq_true rfl) dX12_putsTerm_73 rfl (rest := []) rfl (Nat.le_of_ble_eq_true rfl) (fun r1 R1 hw => ?_)
  refine m_iload_n hc 4 dX12_putsTerm_76 rfl rfl ?_
  refine m_iconst hc 2 dX12_putsTerm_77 (by decide) ?_
  refine m_icmp_ne hc 85 dX12_putsTerm_78 rfl (fun cq => ?_) (fun cq => ?_)
  · have hw := hw.1 cq
    refine m_iload_n hc 2 dX12_putsTerm_85 rfl rfl ?_
    refine m_iconst hc 2 dX12_putsTerm_86 (by decide) ?_
    refine r_callSi hc hr mt_ex lm_X12_119 (ok_ex hok hw) (Nat.le_of_ble_eq_true rfl) dX12_putsTerm_87 rfl (rest := [.int r1]) rfl (Nat.le_of_ble_eq_true rfl) (fun r2 R2 hw => ?_)
    refine m_sub [1, 2, 3, 4, 5, 7, 0] rfl ?_
    exact b_putsTerm_90 hok hc hr K3 h3 x1 x2 x3 x4 x6 (s1 + s0) r2 r1 R2 hw
  · have hw := hw.2 cq
    refine m_iconst hc 0 dX12_putsTerm_81 (by decide) ?_
    refine m_goto hc 90 dX12_putsTerm_82 rfl ?_
    refine m_sub [1, 2, 3, 4, 5, 7, 0] rfl ?_
    exact b_putsTerm_90 hok hc hr K3 h3 x1 x2 x3 x4 x6 (s1 + s0) 0 r1 R1 hw
def w_putsTerm_44 (K3 : Int32 → Int32 → Int32 → Int32 → RS → Prop) (K : Int32 → RS → Prop) (x1 x2 x3 x4 x5 s0 s1 : Int32) (R : RS) : Prop := wp_ex x5 1 R (fun r1 R1 => (¬ x3 = 1 → wp_ex x1 1 R1 (fun r2 R2 => w_putsTerm_67 K3 K x1 x2 x3 x4 x5 (s1 + s0) r2 r1 R2)) ∧ (x3 = 1 → w_putsTerm_67 K3 K x1 x2 x3 x4 x5 (s1 + s0) 0 r1 R1))
set_option maxHeartbeats 4000000 in
set_option maxRecDepth 100000 in
theorem b_putsTerm_44 {G : RG} {X : Fx} {K : Int32 → RS → Prop} (hok : okG G) (hc : Cx X RX12 cX12_putsTerm 10) (hr : Cr G 1 none K X) (K3 : Int32 → Int32 → Int32 → Int32 → RS → Prop) (h3 : ∀ (x1 x2 x3 x4 : Int32) (R : RS), K3 x1 x2 x3 x4 R → MR G X 10 R 3 [(0, .ref G.2.2.1), (1, .int x1), (2, .int x2), (3, .int x3), (4, .int x4)] []) : ∀ (x1 x2 x3 x4 x5 s0 s1 : Int32) (R : RS), w_putsTerm_44 K3 K x1 x2 x3 x4 x5 s0 s1 R → MR G X 10 R 44 [(0, .ref G.2.2.1), (1, .int x1), (2, .int x2), (3, .int x3), (4, .int x4), (5, .int x5)] [.int s0, .int s1] := by
  intro x1 x2 x3 x4 x5 s0 s1 R hw
  unfold w_putsTerm_44 at hw
  refine m_iadd hc dX12_putsTerm_44 ?_
  refine m_istore hc [(6, .int (s1 + s0)), (0, .ref G.2.2.1), (1, .int x1), (2, .int x2), (3, .int x3), (4, .int x4), (5, .int x5)] dX12_putsTerm_45 (Nat.le_of_ble_eq_true rfl) rfl ?_
  refine m_iload hc 6 dX12_putsTerm_47 rfl ?_
  refine m_iconst hc 1 dX12_putsTerm_49 (by decide) ?_
  refine r_callSi hc hr mt_ex lm_X12_119 (ok_ex hok hw) (Nat.le_of_ble_eq_true rfl) dX12_putsTerm_50 rfl (rest := []) rfl (Nat.le_of_ble_eq_true rfl) (fun r1 R1 hw => ?_)
  refine m_iload_n hc 4 dX12_putsTerm_53 rfl rfl ?_
  refine m_iconst hc 1 dX12_putsTerm_54 (by decide) ?_
  refine m_icmp_ne hc 62 dX12_putsTerm_55 rfl (fun cq => ?_) (fun cq => ?_)
  · have hw := hw.1 cq
    refine m_iload_n hc 2 dX12_putsTerm_62 rfl rfl ?_
    refine m_iconst hc 1 dX12_putsTerm_63 (by decide) ?_
    refine r_callSi hc hr mt_ex lm_X12_119 (ok_ex hok hw) (Nat.le_of_ble_eq_true rfl) dX12_putsTerm_64 rfl (rest := [.int r1]) rfl (Nat.le_of_ble_eq_true rfl) (fun r2 R2 hw => ?_)
    refine m_sub [1, 2, 3, 4, 5, 6, 0] rfl ?_
    exact b_putsTerm_67 hok hc hr K3 h3 x1 x2 x3 x4 x5 (s1 + s0) r2 r1 R2 hw
  · have hw := hw.2 cq
    refine m_iconst hc 0 dX12_putsTerm_58 (by decide) ?_
    refine m_goto hc 67 dX12_putsTerm_59 rfl ?_
    refine m_sub [1, 2, 3, 4, 5, 6, 0] rfl ?_
    exact b_putsTerm_67 hok hc hr K3 h3 x1 x2 x3 x4 x5 (s1 + s0) 0 r1 R1 hw
def wb_putsTerm_3 (K3 : Int32 → Int32 → Int32 → Int32 → RS → Prop) (K : Int32 → RS → Prop) (x1 x2 x3 x4 : Int32) (R : RS) : Prop := vp_in 54 56 ∧ ((R 2 (Int32.toNatClampNeg 54)) ≤ x4 → K 0 R) ∧ (¬ ((R 2 (Int32.toNatClampNeg 54)) ≤ x4) → wp_keyAt 54 x4 R (fun r1 R1 => wp_ex r1 0 R1 (fun r2 R2 => (¬ x3 = 0 → wp_ex x1 0 R2 (fun r3 R3 => w_putsTerm_44 K3 K x1 x2 x3 x4 r1 r3 r2 R3)) ∧ (x3 = 0 → w_putsTerm_44 K3 K x1 x2 x3 x4 r1 0 r2 R2))))
def wl_putsTerm_3 (K : Int32 → RS → Prop) : Nat → Int32 → Int32 → Int32 → Int32 → RS → Prop
  | 0 => fun _ _ _ _ _ => False
  | nn + 1 => wb_putsTerm_3 (wl_putsTerm_3 K nn) K
set_option maxHeartbeats 4000000 in
set_option maxRecDepth 100000 in
theorem l_putsTerm_3 {G : RG} {X : Fx} {K : Int32 → RS → Prop} (hok : okG G) (hc : Cx X RX12 cX12_putsTerm 10) (hr : Cr G 1 none K X) : ∀ (nn : Nat) (x1 x2 x3 x4 : Int32) (R : RS), wl_putsTerm_3 K nn x1 x2 x3 x4 R → MR G X 10 R 3 [(0, .ref G.2.2.1), (1, .int x1), (2, .int x2), (3, .int x3), (4, .int x4)] [] := by
  intro nn
  induction nn with
  | zero => intro x1 x2 x3 x4 R hw; exact False.elim hw
  | succ nn ih =>
    intro x1 x2 x3 x4 R hw
    have hw : wb_putsTerm_3 (wl_putsTerm_3 K nn) K x1 x2 x3 x4 R := hw
    have h3 := ih
    generalize wl_putsTerm_3 K nn = K3 at hw h3
    unfold wb_putsTerm_3 at hw
    refine m_iload hc 4 dX12_putsTerm_3 rfl ?_
    refine m_aload_n hc 0 dX12_putsTerm_5 rfl rfl ?_
    refine r_geta hc hr 2 dX12_putsTerm_6 lf_X12_13 (Nat.le_of_ble_eq_true rfl) rfl ?_
    refine m_bipush hc 54 dX12_putsTerm_9 (by decide) ?_
    obtain ⟨hi, hw⟩ := hw
    refine r_iald hc hr (i := 0) (f := 2) rfl hi dX12_putsTerm_11 ?_
    refine m_icmp_ge hc 144 dX12_putsTerm_12 rfl (fun cq => ?_) (fun cq => ?_)
    · have hw := hw.1 cq
      exact r_vret hc hr dX12_putsTerm_144 hw
    · have hw := hw.2 cq
      refine m_aload_n hc 0 dX12_putsTerm_15 rfl rfl ?_
      refine m_bipush hc 54 dX12_putsTerm_16 (by decide) ?_
      refine m_iload hc 4 dX12_putsTerm_18 rfl ?_
      refine r_callVi hc hr mt_keyAt rfl lm_X12_123 (ok_keyAt hok hw) (Nat.le_of_ble_eq_true rfl) dX12_putsTerm_20 rfl (rest := []) rfl (Nat.le_of_ble_eq_true rfl) (fun r1 R1 hw => ?_)
      refine m_istore hc [(5, .int r1), (0, .ref G.2.2.1), (1, .int x1), (2, .int x2), (3, .int x3), (4, .int x4)] dX12_putsTerm_23 (Nat.le_of_ble_eq_true rfl) rfl ?_
      refine m_iload hc 0 dX12_putsTerm_25 rfl ?_
      refine m_iconst hc 0 dX12_putsTerm_27 (by decide) ?_
      refine r_callSi hc hr mt_ex lm_X12_119 (ok_ex hok hw) (Nat.le_of_ble_eq_true rfl) dX12_putsTerm_28 rfl (rest := []) rfl (Nat.le_of_ble_eq_true rfl) (fun r2 R2 hw => ?_)
      refine m_iload_n hc 4 dX12_putsTerm_31 rfl rfl ?_
      refine m_if_ne hc 39 dX12_putsTerm_32 rfl (fun cq => ?_) (fun cq => ?_)
      · have hw := hw.1 cq
        refine m_iload_n hc 2 dX12_putsTerm_39 rfl rfl ?_
        refine m_iconst hc 0 dX12_putsTerm_40 (by decide) ?_
        refine r_callSi hc hr mt_ex lm_X12_119 (ok_ex hok hw) (Nat.le_of_ble_eq_true rfl) dX12_putsTerm_41 rfl (rest := [.int r2]) rfl (Nat.le_of_ble_eq_true rfl) (fun r3 R3 hw => ?_)
        refine m_sub [1, 2, 3, 4, 5, 0] rfl ?_
        exact b_putsTerm_44 hok hc hr K3 h3 x1 x2 x3 x4 r1 r3 r2 R3 hw
      · have hw := hw.2 cq
        refine m_iconst hc 0 dX12_putsTerm_35 (by decide) ?_
        refine m_goto hc 44 dX12_putsTerm_36 rfl ?_
        refine m_sub [1, 2, 3, 4, 5, 0] rfl ?_
        exact b_putsTerm_44 hok hc hr K3 h3 x1 x2 x3 x4 r1 0 r2 R2 hw
def wp_putsTerm (x1 x2 x3 : Int32) (R : RS) (K : Int32 → RS → Prop) : Prop := ∃ nn : Nat, wl_putsTerm_3 K nn x1 x2 x3 0 R
set_option maxHeartbeats 4000000 in
set_option maxRecDepth 100000 in
theorem ok_putsTerm {G : RG} (hok : okG G) {x1 : Int32} {x2 : Int32} {x3 : Int32} {R : RS} {K : Int32 → RS → Prop} (hw : wp_putsTerm x1 x2 x3 R K) : CF 1 yX12_putsTerm cX12_putsTerm 10 none [.ref G.2.2.1, .int x1, .int x2, .int x3] G R K := by
  refine CF.of (by decide +kernel) hok (Nat.le_of_ble_eq_true rfl) (fun X hc hr => ?_)
  show MR G X 10 R 0 [(0, .ref G.2.2.1), (1, .int x1), (2, .int x2), (3, .int x3)] []
  unfold wp_putsTerm at hw
  refine m_iconst hc 0 dX12_putsTerm_0 (by decide) ?_
  refine m_istore hc [(4, .int 0), (0, .ref G.2.2.1), (1, .int x1), (2, .int x2), (3, .int x3)] dX12_putsTerm_1 (Nat.le_of_ble_eq_true rfl) rfl ?_
  refine m_sub [1, 2, 3, 4, 0] rfl ?_
  obtain ⟨nn, hw⟩ := hw
  exact l_putsTerm_3 hok hc hr nn x1 x2 x3 0 R hw
def wb_put_140 (K83 : Int32 → Int32 → Int32 → Int32 → Int32 → Int32 → RS → Prop) (K140 : Int32 → Int32 → Int32 → Int32 → Int32 → Int32 → Int32 → RS → Prop) (K : Int32 → RS → Prop) (x1 x2 x3 x4 x5 x6 x7 : Int32) (R : RS) : Prop := vp_in x2 56 ∧ ((R 2 (Int32.toNatClampNeg x2)) ≤ x7 → K83 x1 x2 x3 x4 x5 (x6 + 1) R) ∧ (¬ ((R 2 (Int32.toNatClampNeg x2)) ≤ x7) → wp_keyAt x2 x7 R (fun r1 R1 => wp_ex r1 x3 R1 (fun r2 R2 => (¬ r2 = x6 → K140 x1 x2 x3 x4 x5 x6 (x7 + 1) R2) ∧ (r2 = x6 → wp_keyAt x2 x7 R2 (fun r3 R3 => wp_numAt x2 x7 R3 (fun r4 R4 => wp_putsTerm r3 r4 x3 R4 (fun r5 R5 => K140 x1 x2 x3 x4 x5 x6 (x7 + 1) R5)))))))
def wl_put_140 (K83 : Int32 → Int32 → Int32 → Int32 → Int32 → Int32 → RS → Prop) (K : Int32 → RS → Prop) : Nat → Int32 → Int32 → Int32 → Int32 → Int32 → Int32 → Int32 → RS → Prop
  | 0 => fun _ _ _ _ _ _ _ _ => False
  | nn + 1 => wb_put_140 K83 (wl_put_140 K83 K nn) K
set_option maxHeartbeats 4000000 in
set_option maxRecDepth 100000 in
theorem l_put_140 {G : RG} {X : Fx} {K : Int32 → RS → Prop} (hok : okG G) (hc : Cx X RX12 cX12_put 8) (hr : Cr G 4 (some .int) K X) (K83 : Int32 → Int32 → Int32 → Int32 → Int32 → Int32 → RS → Prop) (h83 : ∀ (x1 x2 x3 x4 x5 x6 : Int32) (R : RS), K83 x1 x2 x3 x4 x5 x6 R → MR G X 8 R 83 [(0, .ref G.2.2.1), (1, .int x1), (2, .int x2), (3, .int x3), (4, .int x4), (5, .int x5), (6, .int x6)] []) : ∀ (nn : Nat) (x1 x2 x3 x4 x5 x6 x7 : Int32) (R : RS), wl_put_140 K83 K nn x1 x2 x3 x4 x5 x6 x7 R → MR G X 8 R 140 [(0, .ref G.2.2.1), (1, .int x1), (2, .int x2), (3, .int x3), (4, .int x4), (5, .int x5), (6, .int x6), (7, .int x7)] [] := by
  intro nn
  induction nn with
  | zero => intro x1 x2 x3 x4 x5 x6 x7 R hw; exact False.elim hw
  | succ nn ih =>
    intro x1 x2 x3 x4 x5 x6 x7 R hw
    have hw : wb_put_140 K83 (wl_put_140 K83 K nn) K x1 x2 x3 x4 x5 x6 x7 R := hw
    have h140 := ih
    generalize wl_put_140 K83 K nn = K140 at hw h140
    unfold wb_put_140 at hw
    refine m_iload hc 7 dX12_put_140 rfl ?_
    refine m_aload_n hc 0 dX12_put_142 rfl rfl ?_
    refine r_geta hc hr 2 dX12_put_143 lf_X12_13 (Nat.le_of_ble_eq_true rfl) rfl ?_
    refine m_iload_n hc 2 dX12_put_146 rfl rfl ?_
    obtain ⟨hi, hw⟩ := hw
    refine r_iald hc hr (i := 0) (f := 2) rfl hi dX12_put_147 ?_
    refine m_icmp_ge hc 192 dX12_put_148 rfl (fun cq => ?_) (fun cq => ?_)
    · have hw := hw.1 cq
      refine m_iinc hc 6 (x6 + 1) [(6, .int (x6 + 1)), (0, .ref G.2.2.1), (1, .int x1), (2, .int x2), (3, .int x3), (4, .int x4), (5, .int x5), (7, .int x7)] dX12_put_192 rfl rfl (Nat.le_of_ble_eq_true rfl) rfl ?_
      refine m_goto hc 83 dX12_put_195 rfl ?_
      refine m_sub [1, 2, 3, 4, 5, 6, 0] rfl ?_
      exact h83 x1 x2 x3 x4 x5 (x6 + 1) R hw
    · have hw := hw.2 cq
      refine m_aload_n hc 0 dX12_put_151 rfl rfl ?_
      refine m_iload_n hc 2 dX12_put_152 rfl rfl ?_
      refine m_iload hc 7 dX12_put_153 rfl ?_
      refine r_callVi hc hr mt_keyAt rfl lm_X12_123 (ok_keyAt hok hw) (Nat.le_of_ble_eq_true rfl) dX12_put_155 rfl (rest := []) rfl (Nat.le_of_ble_eq_true rfl) (fun r1 R1 hw => ?_)
      refine m_iload_n hc 3 dX12_put_158 rfl rfl ?_
      refine r_callSi hc hr mt_ex lm_X12_119 (ok_ex hok hw) (Nat.le_of_ble_eq_true rfl) dX12_put_159 rfl (rest := []) rfl (Nat.le_of_ble_eq_true rfl) (fun r2 R2 hw => ?_)
      refine m_iload hc 6 dX12_put_162 rfl ?_
      refine m_icmp_ne hc 186 dX12_put_164 rfl (fun cq => ?_) (fun cq => ?_)
      · have hw := hw.1 cq
        refine m_iinc hc 7 (x7 + 1) [(7, .int (x7 + 1)), (0, .ref G.2.2.1), (1, .int x1), (2, .int x2), (3, .int x3), (4, .int x4), (5, .int x5), (6, .int x6)] dX12_put_186 rfl rfl (Nat.le_of_ble_eq_true rfl) rfl ?_
        refine m_goto hc 140 dX12_put_189 rfl ?_
        refine m_sub [1, 2, 3, 4, 5, 6, 7, 0] rfl ?_
        exact h140 x1 x2 x3 x4 x5 x6 (x7 + 1) R2 hw
      · have hw := hw.2 cq
        refine m_aload_n hc 0 dX12_put_167 rfl rfl ?_
        refine m_aload_n hc 0 dX12_put_168 rfl rfl ?_
        refine m_iload_n hc 2 dX12_put_169 rfl rfl ?_
        refine m_iload hc 7 dX12_put_170 rfl ?_
        refine r_callVi hc hr mt_keyAt rfl lm_X12_123 (ok_keyAt hok hw) (Nat.le_of_ble_eq_true rfl) dX12_put_172 rfl (rest := [.ref G.2.2.1]) rfl (Nat.le_of_ble_eq_true rfl) (fun r3 R3 hw => ?_)
        refine m_aload_n hc 0 dX12_put_175 rfl rfl ?_
        refine m_iload_n hc 2 dX12_put_176 rfl rfl ?_
        refine m_iload hc 7 dX12_put_177 rfl ?_
        refine r_callVi hc hr mt_numAt rfl lm_X12_126 (ok_numAt hok hw) (Nat.le_of_ble_eq_true rfl) dX12_put_179 rfl (rest := [.int r3, .ref G.2.2.1]) rfl (Nat.le_of_ble_eq_true rfl) (fun r4 R4 hw => ?_)
        refine m_iload_n hc 3 dX12_put_182 rfl rfl ?_
        refine r_callVv hc hr mt_putsTerm rfl lm_X12_305 (ok_putsTerm hok hw) (Nat.le_of_ble_eq_true rfl) dX12_put_183 rfl (rest := []) rfl (Nat.le_of_ble_eq_true rfl) (fun r5 R5 hw => ?_)
        refine m_iinc hc 7 (x7 + 1) [(7, .int (x7 + 1)), (0, .ref G.2.2.1), (1, .int x1), (2, .int x2), (3, .int x3), (4, .int x4), (5, .int x5), (6, .int x6)] dX12_put_186 rfl rfl (Nat.le_of_ble_eq_true rfl) rfl ?_
        refine m_goto hc 140 dX12_put_189 rfl ?_
        refine m_sub [1, 2, 3, 4, 5, 6, 7, 0] rfl ?_
        exact h140 x1 x2 x3 x4 x5 x6 (x7 + 1) R5 hw
def wb_put_83 (K83 : Int32 → Int32 → Int32 → Int32 → Int32 → Int32 → RS → Prop) (K : Int32 → RS → Prop) (x1 x2 x3 x4 x5 x6 : Int32) (R : RS) : Prop := (x5 < x6 → wp_gathersPuts 54 R (fun r1 R1 => (r1 = 0 → K (-2) R1) ∧ (¬ (r1 = 0) → wp_become x1 54 R1 (fun r2 R2 => K r2 R2)))) ∧ (¬ (x5 < x6) → (¬ x6 = 1 → (x6 ≤ 1 → ∃ nn : Nat, wl_put_140 K83 K nn x1 x2 x3 x4 x5 x6 0 R) ∧ (¬ (x6 ≤ 1) → wp_copy 55 54 R (fun r3 R3 => wp_product 54 55 x4 R3 (fun r4 R4 => (¬ r4 = 0 → ∃ nn : Nat, wl_put_140 K83 K nn x1 x2 x3 x4 x5 x6 0 R4) ∧ (r4 = 0 → K (-2) R4))))) ∧ (x6 = 1 → wp_copy 54 x4 R (fun r5 R5 => ∃ nn : Nat, wl_put_140 K83 K nn x1 x2 x3 x4 x5 x6 0 R5)))
def wl_put_83 (K : Int32 → RS → Prop) : Nat → Int32 → Int32 → Int32 → Int32 → Int32 → Int32 → RS → Prop
  | 0 => fun _ _ _ _ _ _ _ => False
  | nn + 1 => wb_put_83 (wl_put_83 K nn) K
set_option maxHeartbeats 4000000 in
set_option maxRecDepth 100000 in
theorem l_put_83 {G : RG} {X : Fx} {K : Int32 → RS → Prop} (hok : okG G) (hc : Cx X RX12 cX12_put 8) (hr : Cr G 4 (some .int) K X) : ∀ (nn : Nat) (x1 x2 x3 x4 x5 x6 : Int32) (R : RS), wl_put_83 K nn x1 x2 x3 x4 x5 x6 R → MR G X 8 R 83 [(0, .ref G.2.2.1), (1, .int x1), (2, .int x2), (3, .int x3), (4, .int x4), (5, .int x5), (6, .int x6)] [] := by
  intro nn
  induction nn with
  | zero => intro x1 x2 x3 x4 x5 x6 R hw; exact False.elim hw
  | succ nn ih =>
    intro x1 x2 x3 x4 x5 x6 R hw
    have hw : wb_put_83 (wl_put_83 K nn) K x1 x2 x3 x4 x5 x6 R := hw
    have h83 := ih
    generalize wl_put_83 K nn = K83 at hw h83
    unfold wb_put_83 at hw
    refine m_iload hc 6 dX12_put_83 rfl ?_
    refine m_iload hc 5 dX12_put_85 rfl ?_
    refine m_icmp_gt hc 198 dX12_put_87 rfl (fun cq => ?_) (fun cq => ?_)
    · have hw := hw.1 cq
      refine m_aload_n hc 0 dX12_put_198 rfl rfl ?_
      refine m_bipush hc 54 dX12_put_199 (by decide) ?_
      refine r_callVi hc hr mt_gathersPuts rfl lm_X12_308 (ok_gathersPuts hok hw) (Nat.le_of_ble_eq_true rfl) dX12_put_201 rfl (rest := []) rfl (Nat.le_of_ble_eq_true rfl) (fun r1 R1 hw => ?_)
      refine m_if_eq hc 217 dX12_put_204 rfl (fun cq => ?_) (fun cq => ?_)
      · have hw := hw.1 cq
        refine m_bipush hc (-2) dX12_put_217 (by decide) ?_
        exact r_iret hc hr dX12_put_219 hw
      · have hw := hw.2 cq
        refine m_aload_n hc 0 dX12_put_207 rfl rfl ?_
        refine m_iload_n hc 1 dX12_put_208 rfl rfl ?_
        refine m_bipush hc 54 dX12_put_209 (by decide) ?_
        refine r_callVi hc hr mt_become rfl lm_X12_275 (ok_become hok hw) (Nat.le_of_ble_eq_true rfl) dX12_put_211 rfl (rest := []) rfl (Nat.le_of_ble_eq_true rfl) (fun r2 R2 hw => ?_)
        refine m_goto hc 219 dX12_put_214 rfl ?_
        exact r_iret hc hr dX12_put_219 hw
    · have hw := hw.2 cq
      refine m_iload hc 6 dX12_put_90 rfl ?_
      refine m_iconst hc 1 dX12_put_92 (by decide) ?_
      refine m_icmp_ne hc 107 dX12_put_93 rfl (fun cq => ?_) (fun cq => ?_)
      · have hw := hw.1 cq
        refine m_iload hc 6 dX12_put_107 rfl ?_
        refine m_iconst hc 1 dX12_put_109 (by decide) ?_
        refine m_icmp_le hc 137 dX12_put_110 rfl (fun cq => ?_) (fun cq => ?_)
        · have hw := hw.1 cq
          refine m_iconst hc 0 dX12_put_137 (by decide) ?_
          refine m_istore hc [(7, .int 0), (0, .ref G.2.2.1), (1, .int x1), (2, .int x2), (3, .int x3), (4, .int x4), (5, .int x5), (6, .int x6)] dX12_put_138 (Nat.le_of_ble_eq_true rfl) rfl ?_
          refine m_sub [1, 2, 3, 4, 5, 6, 7, 0] rfl ?_
          obtain ⟨nn, hw⟩ := hw
          exact l_put_140 hok hc hr K83 h83 nn x1 x2 x3 x4 x5 x6 0 R hw
        · have hw := hw.2 cq
          refine m_aload_n hc 0 dX12_put_113 rfl rfl ?_
          refine m_bipush hc 55 dX12_put_114 (by decide) ?_
          refine m_bipush hc 54 dX12_put_116 (by decide) ?_
          refine r_callVv hc hr mt_copy rfl lm_X12_168 (ok_copy hok hw) (Nat.le_of_ble_eq_true rfl) dX12_put_118 rfl (rest := []) rfl (Nat.le_of_ble_eq_true rfl) (fun r3 R3 hw => ?_)
          refine m_aload_n hc 0 dX12_put_121 rfl rfl ?_
          refine m_bipush hc 54 dX12_put_122 (by decide) ?_
          refine m_bipush hc 55 dX12_put_124 (by decide) ?_
          refine m_iload hc 4 dX12_put_126 rfl ?_
          refine r_callVi hc hr mt_product rfl lm_X12_174 (ok_product hok hw) (Nat.le_of_ble_eq_true rfl) dX12_put_128 rfl (rest := []) rfl (Nat.le_of_ble_eq_true rfl) (fun r4 R4 hw => ?_)
          refine m_if_ne hc 137 dX12_put_131 rfl (fun cq => ?_) (fun cq => ?_)
          · have hw := hw.1 cq
            refine m_iconst hc 0 dX12_put_137 (by decide) ?_
            refine m_istore hc [(7, .int 0), (0, .ref G.2.2.1), (1, .int x1), (2, .int x2), (3, .int x3), (4, .int x4), (5, .int x5), (6, .int x6)] dX12_put_138 (Nat.le_of_ble_eq_true rfl) rfl ?_
            refine m_sub [1, 2, 3, 4, 5, 6, 7, 0] rfl ?_
            obtain ⟨nn, hw⟩ := hw
            exact l_put_140 hok hc hr K83 h83 nn x1 x2 x3 x4 x5 x6 0 R4 hw
          · have hw := hw.2 cq
            refine m_bipush hc (-2) dX12_put_134 (by decide) ?_
            exact r_iret hc hr dX12_put_136 hw
      · have hw := hw.2 cq
        refine m_aload_n hc 0 dX12_put_96 rfl rfl ?_
        refine m_bipush hc 54 dX12_put_97 (by decide) ?_
        refine m_iload hc 4 dX12_put_99 rfl ?_
        refine r_callVv hc hr mt_copy rfl lm_X12_168 (ok_copy hok hw) (Nat.le_of_ble_eq_true rfl) dX12_put_101 rfl (rest := []) rfl (Nat.le_of_ble_eq_true rfl) (fun r5 R5 hw => ?_)
        refine m_goto hc 137 dX12_put_104 rfl ?_
        refine m_iconst hc 0 dX12_put_137 (by decide) ?_
        refine m_istore hc [(7, .int 0), (0, .ref G.2.2.1), (1, .int x1), (2, .int x2), (3, .int x3), (4, .int x4), (5, .int x5), (6, .int x6)] dX12_put_138 (Nat.le_of_ble_eq_true rfl) rfl ?_
        refine m_sub [1, 2, 3, 4, 5, 6, 7, 0] rfl ?_
        obtain ⟨nn, hw⟩ := hw
        exact l_put_140 hok hc hr K83 h83 nn x1 x2 x3 x4 x5 x6 0 R5 hw
def wb_put_41 (K41 : Int32 → Int32 → Int32 → Int32 → Int32 → RS → Prop) (K : Int32 → RS → Prop) (x1 x2 x3 x4 x5 : Int32) (R : RS) : Prop := (531441 ≤ x5 → wp_number 54 1 R (fun r1 R1 => wp_degreeIn x2 x3 R1 (fun r2 R2 => ∃ nn : Nat, wl_put_83 K nn x1 x2 x3 x4 r2 0 R2))) ∧ (¬ (531441 ≤ x5) → vp_in x5 531441 ∧ K41 x1 x2 x3 x4 (x5 + 1) (up R 26 (Int32.toNatClampNeg x5) 0))
def wl_put_41 (K : Int32 → RS → Prop) : Nat → Int32 → Int32 → Int32 → Int32 → Int32 → RS → Prop
  | 0 => fun _ _ _ _ _ _ => False
  | nn + 1 => wb_put_41 (wl_put_41 K nn) K
set_option maxHeartbeats 4000000 in
set_option maxRecDepth 100000 in
theorem l_put_41 {G : RG} {X : Fx} {K : Int32 → RS → Prop} (hok : okG G) (hc : Cx X RX12 cX12_put 8) (hr : Cr G 4 (some .int) K X) : ∀ (nn : Nat) (x1 x2 x3 x4 x5 : Int32) (R : RS), wl_put_41 K nn x1 x2 x3 x4 x5 R → MR G X 8 R 41 [(0, .ref G.2.2.1), (1, .int x1), (2, .int x2), (3, .int x3), (4, .int x4), (5, .int x5)] [] := by
  intro nn
  induction nn with
  | zero => intro x1 x2 x3 x4 x5 R hw; exact False.elim hw
  | succ nn ih =>
    intro x1 x2 x3 x4 x5 R hw
    have hw : wb_put_41 (wl_put_41 K nn) K x1 x2 x3 x4 x5 R := hw
    have h41 := ih
    generalize wl_put_41 K nn = K41 at hw h41
    unfold wb_put_41 at hw
    refine m_iload hc 5 dX12_put_41 rfl ?_
    refine m_aload_n hc 0 dX12_put_43 rfl rfl ?_
    refine r_geta hc hr 26 dX12_put_44 lf_X12_71 (Nat.le_of_ble_eq_true rfl) rfl ?_
    refine r_alen hc hr (i := 18) (f := 26) (v := 531441) rfl rfl dX12_put_47 ?_
    refine m_icmp_ge hc 65 dX12_put_48 rfl (fun cq => ?_) (fun cq => ?_)
    · have hw := hw.1 cq
      refine m_aload_n hc 0 dX12_put_65 rfl rfl ?_
      refine m_bipush hc 54 dX12_put_66 (by decide) ?_
      refine m_iconst hc 1 dX12_put_68 (by decide) ?_
      refine r_callVv hc hr mt_number rfl lm_X12_171 (ok_number hok hw) (Nat.le_of_ble_eq_true rfl) dX12_put_69 rfl (rest := []) rfl (Nat.le_of_ble_eq_true rfl) (fun r1 R1 hw => ?_)
      refine m_aload_n hc 0 dX12_put_72 rfl rfl ?_
      refine m_iload_n hc 2 dX12_put_73 rfl rfl ?_
      refine m_iload_n hc 3 dX12_put_74 rfl rfl ?_
      refine r_callVi hc hr mt_degreeIn rfl lm_X12_203 (ok_degreeIn hok hw) (Nat.le_of_ble_eq_true rfl) dX12_put_75 rfl (rest := []) rfl (Nat.le_of_ble_eq_true rfl) (fun r2 R2 hw => ?_)
      refine m_istore hc [(5, .int r2), (0, .ref G.2.2.1), (1, .int x1), (2, .int x2), (3, .int x3), (4, .int x4)] dX12_put_78 (Nat.le_of_ble_eq_true rfl) rfl ?_
      refine m_iconst hc 0 dX12_put_80 (by decide) ?_
      refine m_istore hc [(6, .int 0), (5, .int r2), (0, .ref G.2.2.1), (1, .int x1), (2, .int x2), (3, .int x3), (4, .int x4)] dX12_put_81 (Nat.le_of_ble_eq_true rfl) rfl ?_
      refine m_sub [2, 3, 4, 5, 6, 1, 0] rfl ?_
      obtain ⟨nn, hw⟩ := hw
      exact l_put_83 hok hc hr nn x1 x2 x3 x4 r2 0 R2 hw
    · have hw := hw.2 cq
      refine m_aload_n hc 0 dX12_put_51 rfl rfl ?_
      refine r_geta hc hr 26 dX12_put_52 lf_X12_71 (Nat.le_of_ble_eq_true rfl) rfl ?_
      refine m_iload hc 5 dX12_put_55 rfl ?_
      refine m_iconst hc 0 dX12_put_57 (by decide) ?_
      obtain ⟨hi, hw⟩ := hw
      refine r_iast hc hr (i := 18) (f := 26) rfl hi dX12_put_58 ?_
      refine m_iinc hc 5 (x5 + 1) [(5, .int (x5 + 1)), (0, .ref G.2.2.1), (1, .int x1), (2, .int x2), (3, .int x3), (4, .int x4)] dX12_put_59 rfl rfl (Nat.le_of_ble_eq_true rfl) rfl ?_
      refine m_goto hc 41 dX12_put_62 rfl ?_
      refine m_sub [1, 2, 3, 4, 5, 0] rfl ?_
      exact h41 x1 x2 x3 x4 (x5 + 1) (up R 26 (Int32.toNatClampNeg x5) 0) hw
def wp_put (x1 x2 x3 x4 : Int32) (R : RS) (K : Int32 → RS → Prop) : Prop := wp_isPlace x1 (up R 0 0 0) (fun r1 R1 => (r1 = 0 → K (-1) R1) ∧ (¬ (r1 = 0) → wp_isPlace x2 R1 (fun r2 R2 => (r2 = 0 → K (-1) R2) ∧ (¬ (r2 = 0) → wp_isPlace x4 R2 (fun r3 R3 => (r3 = 0 → K (-1) R3) ∧ (¬ (r3 = 0) → wp_isIn x3 0 2 R3 (fun r4 R4 => (¬ r4 = 0 → ∃ nn : Nat, wl_put_41 K nn x1 x2 x3 x4 0 R4) ∧ (r4 = 0 → K (-1) R4))))))))
set_option maxHeartbeats 4000000 in
set_option maxRecDepth 100000 in
theorem ok_put {G : RG} (hok : okG G) {x1 : Int32} {x2 : Int32} {x3 : Int32} {x4 : Int32} {R : RS} {K : Int32 → RS → Prop} (hw : wp_put x1 x2 x3 x4 R K) : CF 4 yX12_put cX12_put 8 (some .int) [.ref G.2.2.1, .int x1, .int x2, .int x3, .int x4] G R K := by
  refine CF.of (by decide +kernel) hok (Nat.le_of_ble_eq_true rfl) (fun X hc hr => ?_)
  show MR G X 8 R 0 [(0, .ref G.2.2.1), (1, .int x1), (2, .int x2), (3, .int x3), (4, .int x4)] []
  unfold wp_put at hw
  refine m_aload_n hc 0 dX12_put_0 rfl rfl ?_
  refine m_iconst hc 0 dX12_put_1 (by decide) ?_
  refine r_put hc hr 0 dX12_put_2 lf_X12_116 (Nat.le_of_ble_eq_true rfl) rfl rfl (by decide +kernel) ?_
  refine m_iload_n hc 1 dX12_put_5 rfl rfl ?_
  refine r_callSi hc hr mt_isPlace lm_X12_265 (ok_isPlace hok hw) (Nat.le_of_ble_eq_true rfl) dX12_put_6 rfl (rest := []) rfl (Nat.le_of_ble_eq_true rfl) (fun r1 R1 hw => ?_)
  refine m_if_eq hc 36 dX12_put_9 rfl (fun cq => ?_) (fun cq => ?_)
  · have hw := hw.1 cq
    refine m_iconst hc (-1) dX12_put_36 (by decide) ?_
    exact r_iret hc hr dX12_put_37 hw
  · have hw := hw.2 cq
    refine m_iload_n hc 2 dX12_put_12 rfl rfl ?_
    refine r_callSi hc hr mt_isPlace lm_X12_265 (ok_isPlace hok hw) (Nat.le_of_ble_eq_true rfl) dX12_put_13 rfl (rest := []) rfl (Nat.le_of_ble_eq_true rfl) (fun r2 R2 hw => ?_)
    refine m_if_eq hc 36 dX12_put_16 rfl (fun cq => ?_) (fun cq => ?_)
    · have hw := hw.1 cq
      refine m_iconst hc (-1) dX12_put_36 (by decide) ?_
      exact r_iret hc hr dX12_put_37 hw
    · have hw := hw.2 cq
      refine m_iload hc 4 dX12_put_19 rfl ?_
      refine r_callSi hc hr mt_isPlace lm_X12_265 (ok_isPlace hok hw) (Nat.le_of_ble_eq_true rfl) dX12_put_21 rfl (rest := []) rfl (Nat.le_of_ble_eq_true rfl) (fun r3 R3 hw => ?_)
      refine m_if_eq hc 36 dX12_put_24 rfl (fun cq => ?_) (fun cq => ?_)
      · have hw := hw.1 cq
        refine m_iconst hc (-1) dX12_put_36 (by decide) ?_
        exact r_iret hc hr dX12_put_37 hw
      · have hw := hw.2 cq
        refine m_iload_n hc 3 dX12_put_27 rfl rfl ?_
        refine m_iconst hc 0 dX12_put_28 (by decide) ?_
        refine m_iconst hc 2 dX12_put_29 (by decide) ?_
        refine r_callSi hc hr mt_isIn lm_X12_181 (ok_isIn hok hw) (Nat.le_of_ble_eq_true rfl) dX12_put_30 rfl (rest := []) rfl (Nat.le_of_ble_eq_true rfl) (fun r4 R4 hw => ?_)
        refine m_if_ne hc 38 dX12_put_33 rfl (fun cq => ?_) (fun cq => ?_)
        · have hw := hw.1 cq
          refine m_iconst hc 0 dX12_put_38 (by decide) ?_
          refine m_istore hc [(5, .int 0), (0, .ref G.2.2.1), (1, .int x1), (2, .int x2), (3, .int x3), (4, .int x4)] dX12_put_39 (Nat.le_of_ble_eq_true rfl) rfl ?_
          refine m_sub [1, 2, 3, 4, 5, 0] rfl ?_
          obtain ⟨nn, hw⟩ := hw
          exact l_put_41 hok hc hr nn x1 x2 x3 x4 0 R4 hw
        · have hw := hw.2 cq
          refine m_iconst hc (-1) dX12_put_36 (by decide) ?_
          exact r_iret hc hr dX12_put_37 hw
def wb_fit_105 (K74 : Int32 → Int32 → RS → Prop) (K105 : Int32 → Int32 → Int32 → Int32 → RS → Prop) (K : Int32 → RS → Prop) (x1 x2 x3 x4 : Int32) (R : RS) : Prop := (x4 < 0 → K74 x1 (x2 + 1) R) ∧ (¬ (x4 < 0) → vp_in x2 200 ∧ ¬ (R 0 1) = 0 ∧ (wp_mod (-x2) R (fun r1 R1 => wp_powerOf r1 (((R1 0 1) - 1) - x4) R1 (fun r2 R2 => wp_gathers x4 0 0 ((iRem ((-(R 42 (Int32.toNatClampNeg x2))) * x3) (R 0 1)) * r2) R2 (fun r3 R3 => ¬ ((R3 0 1) - x4) = 0 ∧ (∀ v4 : Int32, v4 = ((x3 * x4) / ((R3 0 1) - x4)) → K105 x1 x2 v4 (x4 + (-1)) R3))))))
def wl_fit_105 (K74 : Int32 → Int32 → RS → Prop) (K : Int32 → RS → Prop) : Nat → Int32 → Int32 → Int32 → Int32 → RS → Prop
  | 0 => fun _ _ _ _ _ => False
  | nn + 1 => wb_fit_105 K74 (wl_fit_105 K74 K nn) K
set_option maxHeartbeats 4000000 in
set_option maxRecDepth 100000 in
theorem l_fit_105 {G : RG} {X : Fx} {K : Int32 → RS → Prop} (hok : okG G) (hc : Cx X RX12 cX12_fit 5) (hr : Cr G 3 (some .int) K X) (K74 : Int32 → Int32 → RS → Prop) (h74 : ∀ (x1 x2 : Int32) (R : RS), K74 x1 x2 R → MR G X 5 R 74 [(0, .ref G.2.2.1), (1, .int x1), (2, .int x2)] []) : ∀ (nn : Nat) (x1 x2 x3 x4 : Int32) (R : RS), wl_fit_105 K74 K nn x1 x2 x3 x4 R → MR G X 5 R 105 [(0, .ref G.2.2.1), (1, .int x1), (2, .int x2), (3, .int x3), (4, .int x4)] [] := by
  intro nn
  induction nn with
  | zero => intro x1 x2 x3 x4 R hw; exact False.elim hw
  | succ nn ih =>
    intro x1 x2 x3 x4 R hw
    have hw : wb_fit_105 K74 (wl_fit_105 K74 K nn) K x1 x2 x3 x4 R := hw
    have h105 := ih
    generalize wl_fit_105 K74 K nn = K105 at hw h105
    unfold wb_fit_105 at hw
    refine m_iload hc 4 dX12_fit_105 rfl ?_
    refine m_if_lt hc 171 dX12_fit_107 rfl (fun cq => ?_) (fun cq => ?_)
    · have hw := hw.1 cq
      refine m_iinc hc 2 (x2 + 1) [(2, .int (x2 + 1)), (0, .ref G.2.2.1), (1, .int x1), (3, .int x3), (4, .int x4)] dX12_fit_171 rfl rfl (Nat.le_of_ble_eq_true rfl) rfl ?_
      refine m_goto hc 74 dX12_fit_174 rfl ?_
      refine m_sub [1, 2, 0] rfl ?_
      exact h74 x1 (x2 + 1) R hw
    · have hw := hw.2 cq
      refine m_aload_n hc 0 dX12_fit_110 rfl rfl ?_
      refine m_iload hc 4 dX12_fit_111 rfl ?_
      refine m_iconst hc 0 dX12_fit_113 (by decide) ?_
      refine m_iconst hc 0 dX12_fit_114 (by decide) ?_
      refine m_aload_n hc 0 dX12_fit_115 rfl rfl ?_
      refine r_geta hc hr 42 dX12_fit_116 lf_X12_110 (Nat.le_of_ble_eq_true rfl) rfl ?_
      refine m_iload_n hc 2 dX12_fit_119 rfl rfl ?_
      obtain ⟨hi, hw⟩ := hw
      refine r_iald hc hr (i := 31) (f := 42) rfl hi dX12_fit_120 ?_
      refine m_ineg hc dX12_fit_121 ?_
      refine m_iload_n hc 3 dX12_fit_122 rfl rfl ?_
      refine m_imul hc dX12_fit_123 ?_
      refine m_aload_n hc 0 dX12_fit_124 rfl rfl ?_
      refine r_geti hc hr 1 dX12_fit_125 lf_X12_9 (Nat.le_of_ble_eq_true rfl) rfl ?_
      obtain ⟨hq, hw⟩ := hw
      refine m_irem hc dX12_fit_128 hq ?_
      refine m_aload_n hc 0 dX12_fit_129 rfl rfl ?_
      refine m_aload_n hc 0 dX12_fit_130 rfl rfl ?_
      refine m_iload_n hc 2 dX12_fit_131 rfl rfl ?_
      refine m_ineg hc dX12_fit_132 ?_
      refine r_callVi hc hr mt_mod rfl lm_X12_138 (ok_mod hok hw) (Nat.le_of_ble_eq_true rfl) dX12_fit_133 rfl (rest := [.ref G.2.2.1, .int (iRem ((-(R 42 (Int32.toNatClampNeg x2))) * x3) (R 0 1)), .int 0, .int 0, .int x4, .ref G.2.2.1]) rfl (Nat.le_of_ble_eq_true rfl) (fun r1 R1 hw => ?_)
      refine m_aload_n hc 0 dX12_fit_136 rfl rfl ?_
      refine r_geti hc hr 1 dX12_fit_137 lf_X12_9 (Nat.le_of_ble_eq_true rfl) rfl ?_
      refine m_iconst hc 1 dX12_fit_140 (by decide) ?_
      refine m_isub hc dX12_fit_141 ?_
      refine m_iload hc 4 dX12_fit_142 rfl ?_
      refine m_isub hc dX12_fit_144 ?_
      refine r_callVi hc hr mt_powerOf rfl lm_X12_314 (ok_powerOf hok hw) (Nat.le_of_ble_eq_true rfl) dX12_fit_145 rfl (rest := [.int (iRem ((-(R 42 (Int32.toNatClampNeg x2))) * x3) (R 0 1)), .int 0, .int 0, .int x4, .ref G.2.2.1]) rfl (Nat.le_of_ble_eq_true rfl) (fun r2 R2 hw => ?_)
      refine m_imul hc dX12_fit_148 ?_
      refine r_callVv hc hr mt_gathers rfl lm_X12_152 (ok_gathers hok hw) (Nat.le_of_ble_eq_true rfl) dX12_fit_149 rfl (rest := []) rfl (Nat.le_of_ble_eq_true rfl) (fun r3 R3 hw => ?_)
      refine m_iload_n hc 3 dX12_fit_152 rfl rfl ?_
      refine m_iload hc 4 dX12_fit_153 rfl ?_
      refine m_imul hc dX12_fit_155 ?_
      refine m_aload_n hc 0 dX12_fit_156 rfl rfl ?_
      refine r_geti hc hr 1 dX12_fit_157 lf_X12_9 (Nat.le_of_ble_eq_true rfl) rfl ?_
      refine m_iload hc 4 dX12_fit_160 rfl ?_
      refine m_isub hc dX12_fit_162 ?_
      obtain ⟨hq, hw⟩ := hw
      refine m_idiv hc dX12_fit_163 hq ?_
      refine m_topi (fun v4 e_v4 => ?_)
      have hw := hw v4 e_v4
      refine m_istore_n hc [(3, .int v4), (0, .ref G.2.2.1), (1, .int x1), (2, .int x2), (4, .int x4)] dX12_fit_164 rfl (Nat.le_of_ble_eq_true rfl) rfl ?_
      refine m_iinc hc 4 (x4 + (-1)) [(4, .int (x4 + (-1))), (3, .int v4), (0, .ref G.2.2.1), (1, .int x1), (2, .int x2)] dX12_fit_165 rfl rfl (Nat.le_of_ble_eq_true rfl) rfl ?_
      refine m_goto hc 105 dX12_fit_168 rfl ?_
      refine m_sub [2, 3, 4, 1, 0] rfl ?_
      exact h105 x1 x2 v4 (x4 + (-1)) R3 hw
def wb_fit_74 (K74 : Int32 → Int32 → RS → Prop) (K : Int32 → RS → Prop) (x1 x2 : Int32) (R : RS) : Prop := ((R 0 1) ≤ x2 → wp_gathered 54 R (fun r1 R1 => wp_become x1 54 R1 (fun r2 R2 => K r2 R2))) ∧ (¬ ((R 0 1) ≤ x2) → vp_in x2 200 ∧ wp_gathers 0 0 0 (R 42 (Int32.toNatClampNeg x2)) R (fun r3 R3 => ∃ nn : Nat, wl_fit_105 K74 K nn x1 x2 1 ((R3 0 1) - 1) R3))
def wl_fit_74 (K : Int32 → RS → Prop) : Nat → Int32 → Int32 → RS → Prop
  | 0 => fun _ _ _ => False
  | nn + 1 => wb_fit_74 (wl_fit_74 K nn) K
set_option maxHeartbeats 4000000 in
set_option maxRecDepth 100000 in
theorem l_fit_74 {G : RG} {X : Fx} {K : Int32 → RS → Prop} (hok : okG G) (hc : Cx X RX12 cX12_fit 5) (hr : Cr G 3 (some .int) K X) : ∀ (nn : Nat) (x1 x2 : Int32) (R : RS), wl_fit_74 K nn x1 x2 R → MR G X 5 R 74 [(0, .ref G.2.2.1), (1, .int x1), (2, .int x2)] [] := by
  intro nn
  induction nn with
  | zero => intro x1 x2 R hw; exact False.elim hw
  | succ nn ih =>
    intro x1 x2 R hw
    have hw : wb_fit_74 (wl_fit_74 K nn) K x1 x2 R := hw
    have h74 := ih
    generalize wl_fit_74 K nn = K74 at hw h74
    unfold wb_fit_74 at hw
    refine m_iload_n hc 2 dX12_fit_74 rfl rfl ?_
    refine m_aload_n hc 0 dX12_fit_75 rfl rfl ?_
    refine r_geti hc hr 1 dX12_fit_76 lf_X12_9 (Nat.le_of_ble_eq_true rfl) rfl ?_
    refine m_icmp_ge hc 177 dX12_fit_79 rfl (fun cq => ?_) (fun cq => ?_)
    · have hw := hw.1 cq
      refine m_aload_n hc 0 dX12_fit_177 rfl rfl ?_
      refine m_bipush hc 54 dX12_fit_178 (by decide) ?_
      refine r_callVi hc hr mt_gathered rfl lm_X12_160 (ok_gathered hok hw) (Nat.le_of_ble_eq_true rfl) dX12_fit_180 rfl (rest := []) rfl (Nat.le_of_ble_eq_true rfl) (fun r1 R1 hw => ?_)
      refine m_istore_n hc [(2, .int r1), (0, .ref G.2.2.1), (1, .int x1)] dX12_fit_183 rfl (Nat.le_of_ble_eq_true rfl) rfl ?_
      refine m_aload_n hc 1 dX12_fit_184 rfl rfl ?_
      refine m_iload_n hc 2 dX12_fit_185 rfl rfl ?_
      refine m_bipush hc 54 dX12_fit_186 (by decide) ?_
      refine r_callVi hc hr mt_become rfl lm_X12_275 (ok_become hok hw) (Nat.le_of_ble_eq_true rfl) dX12_fit_188 rfl (rest := []) rfl (Nat.le_of_ble_eq_true rfl) (fun r2 R2 hw => ?_)
      exact r_iret hc hr dX12_fit_191 hw
    · have hw := hw.2 cq
      refine m_aload_n hc 0 dX12_fit_82 rfl rfl ?_
      refine m_iconst hc 0 dX12_fit_83 (by decide) ?_
      refine m_iconst hc 0 dX12_fit_84 (by decide) ?_
      refine m_iconst hc 0 dX12_fit_85 (by decide) ?_
      refine m_aload_n hc 0 dX12_fit_86 rfl rfl ?_
      refine r_geta hc hr 42 dX12_fit_87 lf_X12_110 (Nat.le_of_ble_eq_true rfl) rfl ?_
      refine m_iload_n hc 2 dX12_fit_90 rfl rfl ?_
      obtain ⟨hi, hw⟩ := hw
      refine r_iald hc hr (i := 31) (f := 42) rfl hi dX12_fit_91 ?_
      refine r_callVv hc hr mt_gathers rfl lm_X12_152 (ok_gathers hok hw) (Nat.le_of_ble_eq_true rfl) dX12_fit_92 rfl (rest := []) rfl (Nat.le_of_ble_eq_true rfl) (fun r3 R3 hw => ?_)
      refine m_iconst hc 1 dX12_fit_95 (by decide) ?_
      refine m_istore_n hc [(3, .int 1), (0, .ref G.2.2.1), (1, .int x1), (2, .int x2)] dX12_fit_96 rfl (Nat.le_of_ble_eq_true rfl) rfl ?_
      refine m_aload_n hc 1 dX12_fit_97 rfl rfl ?_
      refine r_geti hc hr 1 dX12_fit_98 lf_X12_9 (Nat.le_of_ble_eq_true rfl) rfl ?_
      refine m_iconst hc 1 dX12_fit_101 (by decide) ?_
      refine m_isub hc dX12_fit_102 ?_
      refine m_istore hc [(4, .int ((R3 0 1) - 1)), (3, .int 1), (0, .ref G.2.2.1), (1, .int x1), (2, .int x2)] dX12_fit_103 (Nat.le_of_ble_eq_true rfl) rfl ?_
      refine m_sub [2, 3, 4, 1, 0] rfl ?_
      obtain ⟨nn, hw⟩ := hw
      exact l_fit_105 hok hc hr K74 h74 nn x1 x2 1 ((R3 0 1) - 1) R3 hw
def wb_fit_43 (K43 : Int32 → Int32 → RS → Prop) (K : Int32 → RS → Prop) (x1 x2 : Int32) (R : RS) : Prop := ((R 0 1) ≤ x2 → ∃ nn : Nat, wl_fit_74 K nn x1 0 R) ∧ (¬ ((R 0 1) ≤ x2) → vp_in x2 200 ∧ ((R 42 (Int32.toNatClampNeg x2)) < (R 0 1) → K43 x1 (x2 + 1) R) ∧ (¬ ((R 42 (Int32.toNatClampNeg x2)) < (R 0 1)) → K (-1) R))
def wl_fit_43 (K : Int32 → RS → Prop) : Nat → Int32 → Int32 → RS → Prop
  | 0 => fun _ _ _ => False
  | nn + 1 => wb_fit_43 (wl_fit_43 K nn) K
set_option maxHeartbeats 4000000 in
set_option maxRecDepth 100000 in
theorem l_fit_43 {G : RG} {X : Fx} {K : Int32 → RS → Prop} (hok : okG G) (hc : Cx X RX12 cX12_fit 5) (hr : Cr G 3 (some .int) K X) : ∀ (nn : Nat) (x1 x2 : Int32) (R : RS), wl_fit_43 K nn x1 x2 R → MR G X 5 R 43 [(0, .ref G.2.2.1), (1, .int x1), (2, .int x2)] [] := by
  intro nn
  induction nn with
  | zero => intro x1 x2 R hw; exact False.elim hw
  | succ nn ih =>
    intro x1 x2 R hw
    have hw : wb_fit_43 (wl_fit_43 K nn) K x1 x2 R := hw
    have h43 := ih
    generalize wl_fit_43 K nn = K43 at hw h43
    unfold wb_fit_43 at hw
    refine m_iload_n hc 2 dX12_fit_43 rfl rfl ?_
    refine m_aload_n hc 0 dX12_fit_44 rfl rfl ?_
    refine r_geti hc hr 1 dX12_fit_45 lf_X12_9 (Nat.le_of_ble_eq_true rfl) rfl ?_
    refine m_icmp_ge hc 72 dX12_fit_48 rfl (fun cq => ?_) (fun cq => ?_)
    · have hw := hw.1 cq
      refine m_iconst hc 0 dX12_fit_72 (by decide) ?_
      refine m_istore_n hc [(2, .int 0), (0, .ref G.2.2.1), (1, .int x1)] dX12_fit_73 rfl (Nat.le_of_ble_eq_true rfl) rfl ?_
      refine m_sub [1, 2, 0] rfl ?_
      obtain ⟨nn, hw⟩ := hw
      exact l_fit_74 hok hc hr nn x1 0 R hw
    · have hw := hw.2 cq
      refine m_aload_n hc 0 dX12_fit_51 rfl rfl ?_
      refine r_geta hc hr 42 dX12_fit_52 lf_X12_110 (Nat.le_of_ble_eq_true rfl) rfl ?_
      refine m_iload_n hc 2 dX12_fit_55 rfl rfl ?_
      obtain ⟨hi, hw⟩ := hw
      refine r_iald hc hr (i := 31) (f := 42) rfl hi dX12_fit_56 ?_
      refine m_aload_n hc 0 dX12_fit_57 rfl rfl ?_
      refine r_geti hc hr 1 dX12_fit_58 lf_X12_9 (Nat.le_of_ble_eq_true rfl) rfl ?_
      refine m_icmp_lt hc 66 dX12_fit_61 rfl (fun cq => ?_) (fun cq => ?_)
      · have hw := hw.1 cq
        refine m_iinc hc 2 (x2 + 1) [(2, .int (x2 + 1)), (0, .ref G.2.2.1), (1, .int x1)] dX12_fit_66 rfl rfl (Nat.le_of_ble_eq_true rfl) rfl ?_
        refine m_goto hc 43 dX12_fit_69 rfl ?_
        refine m_sub [1, 2, 0] rfl ?_
        exact h43 x1 (x2 + 1) R hw
      · have hw := hw.2 cq
        refine m_iconst hc (-1) dX12_fit_64 (by decide) ?_
        exact r_iret hc hr dX12_fit_65 hw
def w_fit_24 (K : Int32 → RS → Prop) (x1 s0 : Int32) (R : RS) : Prop := (((up R 0 0 s0) 0 0) ≤ 0 → ∃ nn : Nat, wl_fit_43 K nn x1 0 (up (up R 0 0 s0) 0 43 0)) ∧ (¬ (((up R 0 0 s0) 0 0) ≤ 0) → K 0 (up R 0 0 s0))
set_option maxHeartbeats 4000000 in
set_option maxRecDepth 100000 in
theorem b_fit_24 {G : RG} {X : Fx} {K : Int32 → RS → Prop} (hok : okG G) (hc : Cx X RX12 cX12_fit 5) (hr : Cr G 3 (some .int) K X) : ∀ (x1 s0 : Int32) (R : RS), w_fit_24 K x1 s0 R → MR G X 5 R 24 [(0, .ref G.2.2.1), (1, .int x1)] [.int s0, .ref G.2.2.1] := by
  intro x1 s0 R hw
  unfold w_fit_24 at hw
  refine r_put hc hr 0 dX12_fit_24 lf_X12_116 (Nat.le_of_ble_eq_true rfl) rfl rfl (by decide +kernel) ?_
  refine m_aload_n hc 0 dX12_fit_27 rfl rfl ?_
  refine r_geti hc hr 0 dX12_fit_28 lf_X12_116 (Nat.le_of_ble_eq_true rfl) rfl ?_
  refine m_if_le hc 36 dX12_fit_31 rfl (fun cq => ?_) (fun cq => ?_)
  · have hw := hw.1 cq
    refine m_aload_n hc 0 dX12_fit_36 rfl rfl ?_
    refine m_iconst hc 0 dX12_fit_37 (by decide) ?_
    refine r_put hc hr 43 dX12_fit_38 lf_X12_311 (Nat.le_of_ble_eq_true rfl) rfl rfl (by decide +kernel) ?_
    refine m_iconst hc 0 dX12_fit_41 (by decide) ?_
    refine m_istore_n hc [(2, .int 0), (0, .ref G.2.2.1), (1, .int x1)] dX12_fit_42 rfl (Nat.le_of_ble_eq_true rfl) rfl ?_
    refine m_sub [1, 2, 0] rfl ?_
    obtain ⟨nn, hw⟩ := hw
    exact l_fit_43 hok hc hr nn x1 0 (up (up R 0 0 s0) 0 43 0) hw
  · have hw := hw.2 cq
    refine m_iconst hc 0 dX12_fit_34 (by decide) ?_
    exact r_iret hc hr dX12_fit_35 hw
def wp_fit (x1 : Int32) (R : RS) (K : Int32 → RS → Prop) : Prop := wp_isPlace x1 R (fun r1 R1 => (r1 = 0 → w_fit_24 K x1 1 R1) ∧ (¬ (r1 = 0) → ((R1 0 1) ≤ (R1 0 43) → w_fit_24 K x1 0 R1) ∧ (¬ ((R1 0 1) ≤ (R1 0 43)) → w_fit_24 K x1 1 R1)))
set_option maxHeartbeats 4000000 in
set_option maxRecDepth 100000 in
theorem ok_fit {G : RG} (hok : okG G) {x1 : Int32} {R : RS} {K : Int32 → RS → Prop} (hw : wp_fit x1 R K) : CF 3 yX12_fit cX12_fit 5 (some .int) [.ref G.2.2.1, .int x1] G R K := by
  refine CF.of (by decide +kernel) hok (Nat.le_of_ble_eq_true rfl) (fun X hc hr => ?_)
  show MR G X 5 R 0 [(0, .ref G.2.2.1), (1, .int x1)] []
  unfold wp_fit at hw
  refine m_aload_n hc 0 dX12_fit_0 rfl rfl ?_
  refine m_iload_n hc 1 dX12_fit_1 rfl rfl ?_
  refine r_callSi hc hr mt_isPlace lm_X12_265 (ok_isPlace hok hw) (Nat.le_of_ble_eq_true rfl) dX12_fit_2 rfl (rest := [.ref G.2.2.1]) rfl (Nat.le_of_ble_eq_true rfl) (fun r1 R1 hw => ?_)
  refine m_if_eq hc 19 dX12_fit_5 rfl (fun cq => ?_) (fun cq => ?_)
  · have hw := hw.1 cq
    refine m_iconst hc 1 dX12_fit_19 (by decide) ?_
    refine m_goto hc 24 dX12_fit_20 rfl ?_
    exact b_fit_24 hok hc hr x1 1 R1 hw
  · have hw := hw.2 cq
    refine m_aload_n hc 0 dX12_fit_8 rfl rfl ?_
    refine r_geti hc hr 43 dX12_fit_9 lf_X12_311 (Nat.le_of_ble_eq_true rfl) rfl ?_
    refine m_aload_n hc 0 dX12_fit_12 rfl rfl ?_
    refine r_geti hc hr 1 dX12_fit_13 lf_X12_9 (Nat.le_of_ble_eq_true rfl) rfl ?_
    refine m_icmp_ge hc 23 dX12_fit_16 rfl (fun cq => ?_) (fun cq => ?_)
    · have hw := hw.1 cq
      refine m_iconst hc 0 dX12_fit_23 (by decide) ?_
      exact b_fit_24 hok hc hr x1 0 R1 hw
    · have hw := hw.2 cq
      refine m_iconst hc 1 dX12_fit_19 (by decide) ?_
      refine m_goto hc 24 dX12_fit_20 rfl ?_
      exact b_fit_24 hok hc hr x1 1 R1 hw
def wb_factors_27 (K27 : Int32 → Int32 → Int32 → Int32 → Int32 → RS → Prop) (K : Int32 → RS → Prop) (x1 x2 x3 x4 x5 : Int32) (R : RS) : Prop := (x4 ≤ x5 → K x3 R) ∧ (¬ (x4 ≤ x5) → wp_layLine x5 R (fun r1 R1 => wp_oftenOf x1 R1 (fun r2 R2 => (x2 = 0 → ∀ v3 : Int32, v3 = (x3 + (if r2 < 1 then r2 else 1)) → K27 x1 x2 v3 x4 (x5 + 1) R2) ∧ (¬ (x2 = 0) → K27 x1 x2 (x3 + r2) x4 (x5 + 1) R2))))
def wl_factors_27 (K : Int32 → RS → Prop) : Nat → Int32 → Int32 → Int32 → Int32 → Int32 → RS → Prop
  | 0 => fun _ _ _ _ _ _ => False
  | nn + 1 => wb_factors_27 (wl_factors_27 K nn) K
set_option maxHeartbeats 4000000 in
set_option maxRecDepth 100000 in
theorem l_factors_27 {G : RG} {X : Fx} {K : Int32 → RS → Prop} (hok : okG G) (hc : Cx X RX12 cX12_factors 7) (hr : Cr G 5 (some .int) K X) : ∀ (nn : Nat) (x1 x2 x3 x4 x5 : Int32) (R : RS), wl_factors_27 K nn x1 x2 x3 x4 x5 R → MR G X 7 R 27 [(0, .ref G.2.2.1), (1, .int x1), (2, .int x2), (3, .int x3), (4, .int x4), (5, .int x5)] [] := by
  intro nn
  induction nn with
  | zero => intro x1 x2 x3 x4 x5 R hw; exact False.elim hw
  | succ nn ih =>
    intro x1 x2 x3 x4 x5 R hw
    have hw : wb_factors_27 (wl_factors_27 K nn) K x1 x2 x3 x4 x5 R := hw
    have h27 := ih
    generalize wl_factors_27 K nn = K27 at hw h27
    unfold wb_factors_27 at hw
    refine m_iload hc 5 dX12_factors_27 rfl ?_
    refine m_iload hc 4 dX12_factors_29 rfl ?_
    refine m_icmp_ge hc 71 dX12_factors_31 rfl (fun cq => ?_) (fun cq => ?_)
    · have hw := hw.1 cq
      refine m_iload_n hc 3 dX12_factors_71 rfl rfl ?_
      exact r_iret hc hr dX12_factors_72 hw
    · have hw := hw.2 cq
      refine m_aload_n hc 0 dX12_factors_34 rfl rfl ?_
      refine m_iload hc 5 dX12_factors_35 rfl ?_
      refine r_callVv hc hr mt_layLine rfl lm_X12_262 (ok_layLine hok hw) (Nat.le_of_ble_eq_true rfl) dX12_factors_37 rfl (rest := []) rfl (Nat.le_of_ble_eq_true rfl) (fun r1 R1 hw => ?_)
      refine m_aload_n hc 0 dX12_factors_40 rfl rfl ?_
      refine m_iload_n hc 1 dX12_factors_41 rfl rfl ?_
      refine r_callVi hc hr mt_oftenOf rfl lm_X12_333 (ok_oftenOf hok hw) (Nat.le_of_ble_eq_true rfl) dX12_factors_42 rfl (rest := []) rfl (Nat.le_of_ble_eq_true rfl) (fun r2 R2 hw => ?_)
      refine m_istore hc [(6, .int r2), (0, .ref G.2.2.1), (1, .int x1), (2, .int x2), (3, .int x3), (4, .int x4), (5, .int x5)] dX12_factors_45 (Nat.le_of_ble_eq_true rfl) rfl ?_
      refine m_iload_n hc 4 dX12_factors_47 rfl rfl ?_
      refine m_iload_n hc 3 dX12_factors_48 rfl rfl ?_
      refine m_if_eq hc 57 dX12_factors_49 rfl (fun cq => ?_) (fun cq => ?_)
      · have hw := hw.1 cq
        refine m_iconst hc 1 dX12_factors_57 (by decide) ?_
        refine m_iload hc 0 dX12_factors_58 rfl ?_
        refine m_mmin hc dX12_factors_60 lm_X12_336 lM_min (r_room hr) (Nat.le_of_ble_eq_true rfl) ?_
        refine m_iadd hc dX12_factors_63 ?_
        refine m_topi (fun v3 e_v3 => ?_)
        have hw := hw v3 e_v3
        refine m_istore_n hc [(3, .int v3), (6, .int r2), (0, .ref G.2.2.1), (1, .int x1), (2, .int x2), (4, .int x4), (5, .int x5)] dX12_factors_64 rfl (Nat.le_of_ble_eq_true rfl) rfl ?_
        refine m_iinc hc 6 (x5 + 1) [(5, .int (x5 + 1)), (3, .int v3), (6, .int r2), (0, .ref G.2.2.1), (1, .int x1), (2, .int x2), (4, .int x4)] dX12_factors_65 rfl rfl (Nat.le_of_ble_eq_true rfl) rfl ?_
        refine m_goto hc 27 dX12_factors_68 rfl ?_
        refine m_sub [3, 4, 5, 1, 6, 0] rfl ?_
        exact h27 x1 x2 v3 x4 (x5 + 1) R2 hw
      · have hw := hw.2 cq
        refine m_iload hc 0 dX12_factors_52 rfl ?_
        refine m_goto hc 63 dX12_factors_54 rfl ?_
        refine m_iadd hc dX12_factors_63 ?_
        refine m_istore_n hc [(3, .int (x3 + r2)), (6, .int r2), (0, .ref G.2.2.1), (1, .int x1), (2, .int x2), (4, .int x4), (5, .int x5)] dX12_factors_64 rfl (Nat.le_of_ble_eq_true rfl) rfl ?_
        refine m_iinc hc 6 (x5 + 1) [(5, .int (x5 + 1)), (3, .int (x3 + r2)), (6, .int r2), (0, .ref G.2.2.1), (1, .int x1), (2, .int x2), (4, .int x4)] dX12_factors_65 rfl rfl (Nat.le_of_ble_eq_true rfl) rfl ?_
        refine m_goto hc 27 dX12_factors_68 rfl ?_
        refine m_sub [3, 4, 5, 1, 6, 0] rfl ?_
        exact h27 x1 x2 (x3 + r2) x4 (x5 + 1) R2 hw
def wp_factors (x1 x2 : Int32) (R : RS) (K : Int32 → RS → Prop) : Prop := vp_in x1 56 ∧ (¬ (R 2 (Int32.toNatClampNeg x1)) = 0 → wp_layValues x1 R (fun r1 R1 => wp_lines R1 (fun r2 R2 => ∃ nn : Nat, wl_factors_27 K nn x1 x2 0 r2 0 R2))) ∧ ((R 2 (Int32.toNatClampNeg x1)) = 0 → K 0 R)
set_option maxHeartbeats 4000000 in
set_option maxRecDepth 100000 in
theorem ok_factors {G : RG} (hok : okG G) {x1 : Int32} {x2 : Int32} {R : RS} {K : Int32 → RS → Prop} (hw : wp_factors x1 x2 R K) : CF 5 yX12_factors cX12_factors 7 (some .int) [.ref G.2.2.1, .int x1, .int x2] G R K := by
  refine CF.of (by decide +kernel) hok (Nat.le_of_ble_eq_true rfl) (fun X hc hr => ?_)
  show MR G X 7 R 0 [(0, .ref G.2.2.1), (1, .int x1), (2, .int x2)] []
  unfold wp_factors at hw
  refine m_aload_n hc 0 dX12_factors_0 rfl rfl ?_
  refine r_geta hc hr 2 dX12_factors_1 lf_X12_13 (Nat.le_of_ble_eq_true rfl) rfl ?_
  refine m_iload_n hc 1 dX12_factors_4 rfl rfl ?_
  obtain ⟨hi, hw⟩ := hw
  refine r_iald hc hr (i := 0) (f := 2) rfl hi dX12_factors_5 ?_
  refine m_if_ne hc 11 dX12_factors_6 rfl (fun cq => ?_) (fun cq => ?_)
  · have hw := hw.1 cq
    refine m_aload_n hc 0 dX12_factors_11 rfl rfl ?_
    refine m_iload_n hc 1 dX12_factors_12 rfl rfl ?_
    refine r_callVv hc hr mt_layValues rfl lm_X12_256 (ok_layValues hok hw) (Nat.le_of_ble_eq_true rfl) dX12_factors_13 rfl (rest := []) rfl (Nat.le_of_ble_eq_true rfl) (fun r1 R1 hw => ?_)
    refine m_iconst hc 0 dX12_factors_16 (by decide) ?_
    refine m_istore_n hc [(3, .int 0), (0, .ref G.2.2.1), (1, .int x1), (2, .int x2)] dX12_factors_17 rfl (Nat.le_of_ble_eq_true rfl) rfl ?_
    refine m_aload_n hc 1 dX12_factors_18 rfl rfl ?_
    refine r_callVi hc hr mt_lines rfl lm_X12_259 (ok_lines hok hw) (Nat.le_of_ble_eq_true rfl) dX12_factors_19 rfl (rest := []) rfl (Nat.le_of_ble_eq_true rfl) (fun r2 R2 hw => ?_)
    refine m_istore hc [(4, .int r2), (3, .int 0), (0, .ref G.2.2.1), (1, .int x1), (2, .int x2)] dX12_factors_22 (Nat.le_of_ble_eq_true rfl) rfl ?_
    refine m_iconst hc 0 dX12_factors_24 (by decide) ?_
    refine m_istore hc [(5, .int 0), (4, .int r2), (3, .int 0), (0, .ref G.2.2.1), (1, .int x1), (2, .int x2)] dX12_factors_25 (Nat.le_of_ble_eq_true rfl) rfl ?_
    refine m_sub [3, 4, 5, 2, 1, 0] rfl ?_
    obtain ⟨nn, hw⟩ := hw
    exact l_factors_27 hok hc hr nn x1 x2 0 r2 0 R2 hw
  · have hw := hw.2 cq
    refine m_iconst hc 0 dX12_factors_9 (by decide) ?_
    exact r_iret hc hr dX12_factors_10 hw
def wb_isOfOneDegree_2 (K2 : Int32 → Int32 → RS → Prop) (K : Int32 → RS → Prop) (x1 x2 : Int32) (R : RS) : Prop := vp_in x1 56 ∧ ((R 2 (Int32.toNatClampNeg x1)) ≤ x2 → K 1 R) ∧ (¬ ((R 2 (Int32.toNatClampNeg x1)) ≤ x2) → wp_keyAt x1 x2 R (fun r1 R1 => wp_degreeOfKey r1 R1 (fun r2 R2 => wp_keyAt x1 0 R2 (fun r3 R3 => wp_degreeOfKey r3 R3 (fun r4 R4 => (r2 = r4 → K2 x1 (x2 + 1) R4) ∧ (¬ (r2 = r4) → K 0 R4))))))
def wl_isOfOneDegree_2 (K : Int32 → RS → Prop) : Nat → Int32 → Int32 → RS → Prop
  | 0 => fun _ _ _ => False
  | nn + 1 => wb_isOfOneDegree_2 (wl_isOfOneDegree_2 K nn) K
set_option maxHeartbeats 4000000 in
set_option maxRecDepth 100000 in
theorem l_isOfOneDegree_2 {G : RG} {X : Fx} {K : Int32 → RS → Prop} (hok : okG G) (hc : Cx X RX12 cX12_isOfOneDegree 3) (hr : Cr G 2 (some .boolean) K X) : ∀ (nn : Nat) (x1 x2 : Int32) (R : RS), wl_isOfOneDegree_2 K nn x1 x2 R → MR G X 3 R 2 [(0, .ref G.2.2.1), (1, .int x1), (2, .int x2)] [] := by
  intro nn
  induction nn with
  | zero => intro x1 x2 R hw; exact False.elim hw
  | succ nn ih =>
    intro x1 x2 R hw
    have hw : wb_isOfOneDegree_2 (wl_isOfOneDegree_2 K nn) K x1 x2 R := hw
    have h2 := ih
    generalize wl_isOfOneDegree_2 K nn = K2 at hw h2
    unfold wb_isOfOneDegree_2 at hw
    refine m_iload_n hc 2 dX12_isOfOneDegree_2 rfl rfl ?_
    refine m_aload_n hc 0 dX12_isOfOneDegree_3 rfl rfl ?_
    refine r_geta hc hr 2 dX12_isOfOneDegree_4 lf_X12_13 (Nat.le_of_ble_eq_true rfl) rfl ?_
    refine m_iload_n hc 1 dX12_isOfOneDegree_7 rfl rfl ?_
    obtain ⟨hi, hw⟩ := hw
    refine r_iald hc hr (i := 0) (f := 2) rfl hi dX12_isOfOneDegree_8 ?_
    refine m_icmp_ge hc 41 dX12_isOfOneDegree_9 rfl (fun cq => ?_) (fun cq => ?_)
    · have hw := hw.1 cq
      refine m_iconst hc 1 dX12_isOfOneDegree_41 (by decide) ?_
      exact r_zret hc hr dX12_isOfOneDegree_42 (by decide) hw
    · have hw := hw.2 cq
      refine m_aload_n hc 0 dX12_isOfOneDegree_12 rfl rfl ?_
      refine m_iload_n hc 1 dX12_isOfOneDegree_13 rfl rfl ?_
      refine m_iload_n hc 2 dX12_isOfOneDegree_14 rfl rfl ?_
      refine r_callVi hc hr mt_keyAt rfl lm_X12_123 (ok_keyAt hok hw) (Nat.le_of_ble_eq_true rfl) dX12_isOfOneDegree_15 rfl (rest := []) rfl (Nat.le_of_ble_eq_true rfl) (fun r1 R1 hw => ?_)
      refine r_callSi hc hr mt_degreeOfKey lm_X12_129 (ok_degreeOfKey hok hw) (Nat.le_of_ble_eq_true rfl) dX12_isOfOneDegree_18 rfl (rest := []) rfl (Nat.le_of_ble_eq_true rfl) (fun r2 R2 hw => ?_)
      refine m_aload_n hc 0 dX12_isOfOneDegree_21 rfl rfl ?_
      refine m_iload_n hc 1 dX12_isOfOneDegree_22 rfl rfl ?_
      refine m_iconst hc 0 dX12_isOfOneDegree_23 (by decide) ?_
      refine r_callVi hc hr mt_keyAt rfl lm_X12_123 (ok_keyAt hok hw) (Nat.le_of_ble_eq_true rfl) dX12_isOfOneDegree_24 rfl (rest := [.int r2]) rfl (Nat.le_of_ble_eq_true rfl) (fun r3 R3 hw => ?_)
      refine r_callSi hc hr mt_degreeOfKey lm_X12_129 (ok_degreeOfKey hok hw) (Nat.le_of_ble_eq_true rfl) dX12_isOfOneDegree_27 rfl (rest := [.int r2]) rfl (Nat.le_of_ble_eq_true rfl) (fun r4 R4 hw => ?_)
      refine m_icmp_eq hc 35 dX12_isOfOneDegree_30 rfl (fun cq => ?_) (fun cq => ?_)
      · have hw := hw.1 cq
        refine m_iinc hc 2 (x2 + 1) [(2, .int (x2 + 1)), (0, .ref G.2.2.1), (1, .int x1)] dX12_isOfOneDegree_35 rfl rfl (Nat.le_of_ble_eq_true rfl) rfl ?_
        refine m_goto hc 2 dX12_isOfOneDegree_38 rfl ?_
        refine m_sub [1, 2, 0] rfl ?_
        exact h2 x1 (x2 + 1) R4 hw
      · have hw := hw.2 cq
        refine m_iconst hc 0 dX12_isOfOneDegree_33 (by decide) ?_
        exact r_zret hc hr dX12_isOfOneDegree_34 (by decide) hw
def wp_isOfOneDegree (x1 : Int32) (R : RS) (K : Int32 → RS → Prop) : Prop := ∃ nn : Nat, wl_isOfOneDegree_2 K nn x1 1 R
set_option maxHeartbeats 4000000 in
set_option maxRecDepth 100000 in
theorem ok_isOfOneDegree {G : RG} (hok : okG G) {x1 : Int32} {R : RS} {K : Int32 → RS → Prop} (hw : wp_isOfOneDegree x1 R K) : CF 2 yX12_isOfOneDegree cX12_isOfOneDegree 3 (some .boolean) [.ref G.2.2.1, .int x1] G R K := by
  refine CF.of (by decide +kernel) hok (Nat.le_of_ble_eq_true rfl) (fun X hc hr => ?_)
  show MR G X 3 R 0 [(0, .ref G.2.2.1), (1, .int x1)] []
  unfold wp_isOfOneDegree at hw
  refine m_iconst hc 1 dX12_isOfOneDegree_0 (by decide) ?_
  refine m_istore_n hc [(2, .int 1), (0, .ref G.2.2.1), (1, .int x1)] dX12_isOfOneDegree_1 rfl (Nat.le_of_ble_eq_true rfl) rfl ?_
  refine m_sub [1, 2, 0] rfl ?_
  obtain ⟨nn, hw⟩ := hw
  exact l_isOfOneDegree_2 hok hc hr nn x1 1 R hw
def w_of_109 (K : Int32 → RS → Prop) (s0 s1 : Int32) (R : RS) : Prop := wp_factors s1 s0 R (fun r1 R1 => K r1 R1)
set_option maxHeartbeats 4000000 in
set_option maxRecDepth 100000 in
theorem b_of_109 {G : RG} {X : Fx} {K : Int32 → RS → Prop} (hok : okG G) (hc : Cx X RX12 cX12_of 3) (hr : Cr G 6 (some .int) K X) : ∀ (s0 s1 : Int32) (R : RS), w_of_109 K s0 s1 R → MR G X 3 R 109 [] [.int s0, .int s1, .ref G.2.2.1] := by
  intro s0 s1 R hw
  unfold w_of_109 at hw
  refine r_callVi hc hr mt_factors rfl lm_X12_326 (ok_factors hok hw) (Nat.le_of_ble_eq_true rfl) dX12_of_109 rfl (rest := []) rfl (Nat.le_of_ble_eq_true rfl) (fun r1 R1 hw => ?_)
  exact r_iret hc hr dX12_of_112 hw
def wp_of (x1 x2 : Int32) (R : RS) (K : Int32 → RS → Prop) : Prop := wp_isPlace x1 (up R 0 0 0) (fun r1 R1 => (¬ r1 = 0 → ((Int32.toInt x2 < 0 ∨ 8 < Int32.toInt x2) → wp_fail 1 R1 (fun r2 R2 => K r2 R2)) ∧ (x2 = 0 → vp_in x1 56 ∧ K (R1 2 (Int32.toNatClampNeg x1)) R1) ∧ (x2 = 1 → wp_degreeOf x1 R1 (fun r3 R3 => K r3 R3)) ∧ (x2 = 2 → wp_degreeIn x1 (x2 - 2) R1 (fun r4 R4 => K r4 R4)) ∧ (x2 = 3 → wp_degreeIn x1 (x2 - 2) R1 (fun r5 R5 => K r5 R5)) ∧ (x2 = 4 → wp_degreeIn x1 (x2 - 2) R1 (fun r6 R6 => K r6 R6)) ∧ (x2 = 5 → wp_zeros x1 R1 (fun r7 R7 => K r7 R7)) ∧ (x2 = 6 → (¬ x2 = 7 → w_of_109 K 0 x1 R1) ∧ (x2 = 7 → w_of_109 K 1 x1 R1)) ∧ (x2 = 7 → (¬ x2 = 7 → w_of_109 K 0 x1 R1) ∧ (x2 = 7 → w_of_109 K 1 x1 R1)) ∧ (x2 = 8 → wp_isOfOneDegree x1 R1 (fun r8 R8 => (r8 = 0 → K 0 R8) ∧ (¬ (r8 = 0) → K 1 R8)))) ∧ (r1 = 0 → wp_fail 1 R1 (fun r9 R9 => K r9 R9)))
set_option maxHeartbeats 4000000 in
set_option maxRecDepth 100000 in
theorem ok_of {G : RG} (hok : okG G) {x1 : Int32} {x2 : Int32} {R : RS} {K : Int32 → RS → Prop} (hw : wp_of x1 x2 R K) : CF 6 yX12_of cX12_of 3 (some .int) [.ref G.2.2.1, .int x1, .int x2] G R K := by
  refine CF.of (by decide +kernel) hok (Nat.le_of_ble_eq_true rfl) (fun X hc hr => ?_)
  show MR G X 3 R 0 [(0, .ref G.2.2.1), (1, .int x1), (2, .int x2)] []
  unfold wp_of at hw
  refine m_aload_n hc 0 dX12_of_0 rfl rfl ?_
  refine m_iconst hc 0 dX12_of_1 (by decide) ?_
  refine r_put hc hr 0 dX12_of_2 lf_X12_116 (Nat.le_of_ble_eq_true rfl) rfl rfl (by decide +kernel) ?_
  refine m_iload_n hc 1 dX12_of_5 rfl rfl ?_
  refine r_callSi hc hr mt_isPlace lm_X12_265 (ok_isPlace hok hw) (Nat.le_of_ble_eq_true rfl) dX12_of_6 rfl (rest := []) rfl (Nat.le_of_ble_eq_true rfl) (fun r1 R1 hw => ?_)
  refine m_if_ne hc 18 dX12_of_9 rfl (fun cq => ?_) (fun cq => ?_)
  · have hw := hw.1 cq
    refine m_iload_n hc 2 dX12_of_18 rfl rfl ?_
    rcases sw_in 8 (x := x2) (Nat.le_of_ble_eq_true rfl) with cq | ⟨cn, cl, cq⟩
    · have hw := hw.1 cq
      refine m_tout hc 127 dX12_of_19 cq rfl ?_
      refine m_aload_n hc 0 dX12_of_127 rfl rfl ?_
      refine m_iconst hc 1 dX12_of_128 (by decide) ?_
      refine r_callVi hc hr mt_fail rfl lm_X12_317 (ok_fail hok hw) (Nat.le_of_ble_eq_true rfl) dX12_of_129 rfl (rest := []) rfl (Nat.le_of_ble_eq_true rfl) (fun r2 R2 hw => ?_)
      exact r_iret hc hr dX12_of_132 hw
    · have hw := hw.2
      match cn, cl, cq with
      | 0, _, cq =>
        have cq : x2 = 0 := cq
        have hw := hw.1 cq
        refine m_tin hc (off := 49) 68 dX12_of_19 (by rw [cq]; decide) (by rw [cq]; decide) (by rw [cq]; rfl) rfl ?_
        refine m_aload_n hc 0 dX12_of_68 rfl rfl ?_
        refine r_geta hc hr 2 dX12_of_69 lf_X12_13 (Nat.le_of_ble_eq_true rfl) rfl ?_
        refine m_iload_n hc 1 dX12_of_72 rfl rfl ?_
        obtain ⟨hi, hw⟩ := hw
        refine r_iald hc hr (i := 0) (f := 2) rfl hi dX12_of_73 ?_
        exact r_iret hc hr dX12_of_74 hw
      | 1, _, cq =>
        have cq : x2 = 1 := cq
        have hw := hw.2.1 cq
        refine m_tin hc (off := 56) 75 dX12_of_19 (by rw [cq]; decide) (by rw [cq]; decide) (by rw [cq]; rfl) rfl ?_
        refine m_aload_n hc 0 dX12_of_75 rfl rfl ?_
        refine m_iload_n hc 1 dX12_of_76 rfl rfl ?_
        refine r_callVi hc hr mt_degreeOf rfl lm_X12_320 (ok_degreeOf hok hw) (Nat.le_of_ble_eq_true rfl) dX12_of_77 rfl (rest := []) rfl (Nat.le_of_ble_eq_true rfl) (fun r3 R3 hw => ?_)
        exact r_iret hc hr dX12_of_80 hw
      | 2, _, cq =>
        have cq : x2 = 2 := cq
        have hw := hw.2.2.1 cq
        refine m_tin hc (off := 62) 81 dX12_of_19 (by rw [cq]; decide) (by rw [cq]; decide) (by rw [cq]; rfl) rfl ?_
        refine m_aload_n hc 0 dX12_of_81 rfl rfl ?_
        refine m_iload_n hc 1 dX12_of_82 rfl rfl ?_
        refine m_iload_n hc 2 dX12_of_83 rfl rfl ?_
        refine m_iconst hc 2 dX12_of_84 (by decide) ?_
        refine m_isub hc dX12_of_85 ?_
        refine r_callVi hc hr mt_degreeIn rfl lm_X12_203 (ok_degreeIn hok hw) (Nat.le_of_ble_eq_true rfl) dX12_of_86 rfl (rest := []) rfl (Nat.le_of_ble_eq_true rfl) (fun r4 R4 hw => ?_)
        exact r_iret hc hr dX12_of_89 hw
      | 3, _, cq =>
        have cq : x2 = 3 := cq
        have hw := hw.2.2.2.1 cq
        refine m_tin hc (off := 62) 81 dX12_of_19 (by rw [cq]; decide) (by rw [cq]; decide) (by rw [cq]; rfl) rfl ?_
        refine m_aload_n hc 0 dX12_of_81 rfl rfl ?_
        refine m_iload_n hc 1 dX12_of_82 rfl rfl ?_
        refine m_iload_n hc 2 dX12_of_83 rfl rfl ?_
        refine m_iconst hc 2 dX12_of_84 (by decide) ?_
        refine m_isub hc dX12_of_85 ?_
        refine r_callVi hc hr mt_degreeIn rfl lm_X12_203 (ok_degreeIn hok hw) (Nat.le_of_ble_eq_true rfl) dX12_of_86 rfl (rest := []) rfl (Nat.le_of_ble_eq_true rfl) (fun r5 R5 hw => ?_)
        exact r_iret hc hr dX12_of_89 hw
      | 4, _, cq =>
        have cq : x2 = 4 := cq
        have hw := hw.2.2.2.2.1 cq
        refine m_tin hc (off := 62) 81 dX12_of_19 (by rw [cq]; decide) (by rw [cq]; decide) (by rw [cq]; rfl) rfl ?_
        refine m_aload_n hc 0 dX12_of_81 rfl rfl ?_
        refine m_iload_n hc 1 dX12_of_82 rfl rfl ?_
        refine m_iload_n hc 2 dX12_of_83 rfl rfl ?_
        refine m_iconst hc 2 dX12_of_84 (by decide) ?_
        refine m_isub hc dX12_of_85 ?_
        refine r_callVi hc hr mt_degreeIn rfl lm_X12_203 (ok_degreeIn hok hw) (Nat.le_of_ble_eq_true rfl) dX12_of_86 rfl (rest := []) rfl (Nat.le_of_ble_eq_true rfl) (fun r6 R6 hw => ?_)
        exact r_iret hc hr dX12_of_89 hw
      | 5, _, cq =>
        have cq : x2 = 5 := cq
        have hw := hw.2.2.2.2.2.1 cq
        refine m_tin hc (off := 71) 90 dX12_of_19 (by rw [cq]; decide) (by rw [cq]; decide) (by rw [cq]; rfl) rfl ?_
        refine m_aload_n hc 0 dX12_of_90 rfl rfl ?_
        refine m_iload_n hc 1 dX12_of_91 rfl rfl ?_
        refine r_callVi hc hr mt_zeros rfl lm_X12_323 (ok_zeros hok hw) (Nat.le_of_ble_eq_true rfl) dX12_of_92 rfl (rest := []) rfl (Nat.le_of_ble_eq_true rfl) (fun r7 R7 hw => ?_)
        exact r_iret hc hr dX12_of_95 hw
      | 6, _, cq =>
        have cq : x2 = 6 := cq
        have hw := hw.2.2.2.2.2.2.1 cq
        refine m_tin hc (off := 77) 96 dX12_of_19 (by rw [cq]; decide) (by rw [cq]; decide) (by rw [cq]; rfl) rfl ?_
        refine m_aload_n hc 0 dX12_of_96 rfl rfl ?_
        refine m_iload_n hc 1 dX12_of_97 rfl rfl ?_
        refine m_iload_n hc 2 dX12_of_98 rfl rfl ?_
        refine m_bipush hc 7 dX12_of_99 (by decide) ?_
        refine m_icmp_ne hc 108 dX12_of_101 rfl (fun cq => ?_) (fun cq => ?_)
        · have hw := hw.1 cq
          refine m_iconst hc 0 dX12_of_108 (by decide) ?_
          refine m_sub [] rfl ?_
          exact b_of_109 hok hc hr 0 x1 R1 hw
        · have hw := hw.2 cq
          refine m_iconst hc 1 dX12_of_104 (by decide) ?_
          refine m_goto hc 109 dX12_of_105 rfl ?_
          refine m_sub [] rfl ?_
          exact b_of_109 hok hc hr 1 x1 R1 hw
      | 7, _, cq =>
        have cq : x2 = 7 := cq
        have hw := hw.2.2.2.2.2.2.2.1 cq
        refine m_tin hc (off := 77) 96 dX12_of_19 (by rw [cq]; decide) (by rw [cq]; decide) (by rw [cq]; rfl) rfl ?_
        refine m_aload_n hc 0 dX12_of_96 rfl rfl ?_
        refine m_iload_n hc 1 dX12_of_97 rfl rfl ?_
        refine m_iload_n hc 2 dX12_of_98 rfl rfl ?_
        refine m_bipush hc 7 dX12_of_99 (by decide) ?_
        refine m_icmp_ne hc 108 dX12_of_101 rfl (fun cq => ?_) (fun cq => ?_)
        · have hw := hw.1 cq
          refine m_iconst hc 0 dX12_of_108 (by decide) ?_
          refine m_sub [] rfl ?_
          exact b_of_109 hok hc hr 0 x1 R1 hw
        · have hw := hw.2 cq
          refine m_iconst hc 1 dX12_of_104 (by decide) ?_
          refine m_goto hc 109 dX12_of_105 rfl ?_
          refine m_sub [] rfl ?_
          exact b_of_109 hok hc hr 1 x1 R1 hw
      | 8, _, cq =>
        have cq : x2 = 8 := cq
        have hw := hw.2.2.2.2.2.2.2.2 cq
        refine m_tin hc (off := 94) 113 dX12_of_19 (by rw [cq]; decide) (by rw [cq]; decide) (by rw [cq]; rfl) rfl ?_
        refine m_aload_n hc 0 dX12_of_113 rfl rfl ?_
        refine m_iload_n hc 1 dX12_of_114 rfl rfl ?_
        refine r_callVi hc hr mt_isOfOneDegree rfl lm_X12_330 (ok_isOfOneDegree hok hw) (Nat.le_of_ble_eq_true rfl) dX12_of_115 rfl (rest := []) rfl (Nat.le_of_ble_eq_true rfl) (fun r8 R8 hw => ?_)
        refine m_if_eq hc 125 dX12_of_118 rfl (fun cq => ?_) (fun cq => ?_)
        · have hw := hw.1 cq
          refine m_iconst hc 0 dX12_of_125 (by decide) ?_
          exact r_iret hc hr dX12_of_126 hw
        · have hw := hw.2 cq
          refine m_iconst hc 1 dX12_of_121 (by decide) ?_
          refine m_goto hc 126 dX12_of_122 rfl ?_
          exact r_iret hc hr dX12_of_126 hw
      | nn + 9, cl, _ => exact absurd cl (by omega)
  · have hw := hw.2 cq
    refine m_aload_n hc 0 dX12_of_12 rfl rfl ?_
    refine m_iconst hc 1 dX12_of_13 (by decide) ?_
    refine r_callVi hc hr mt_fail rfl lm_X12_317 (ok_fail hok hw) (Nat.le_of_ble_eq_true rfl) dX12_of_14 rfl (rest := []) rfl (Nat.le_of_ble_eq_true rfl) (fun r9 R9 hw => ?_)
    exact r_iret hc hr dX12_of_17 hw
def wb_factor_57 (K57 : Int32 → Int32 → Int32 → Int32 → Int32 → RS → Prop) (K : Int32 → RS → Prop) (x1 x3 x4 x5 x6 : Int32) (R : RS) : Prop := (x5 ≤ x6 → wp_fail 1 R (fun r1 R1 => K r1 R1)) ∧ (¬ (x5 ≤ x6) → wp_layLine x6 R (fun r2 R2 => wp_oftenOf x1 R2 (fun r3 R3 => (¬ r3 = 0 → (¬ x4 = 0 → K57 x1 x3 (x4 + (-1)) x5 (x6 + 1) R3) ∧ (x4 = 0 → (¬ x3 = 0 → (¬ x3 = 1 → (¬ x3 = 2 → (¬ x3 = 3 → K r3 R3) ∧ (x3 = 3 → K (R3 0 25) R3)) ∧ (x3 = 2 → K (R3 0 24) R3)) ∧ (x3 = 1 → K (R3 0 23) R3)) ∧ (x3 = 0 → K (R3 0 22) R3))) ∧ (r3 = 0 → K57 x1 x3 x4 x5 (x6 + 1) R3))))
def wl_factor_57 (K : Int32 → RS → Prop) : Nat → Int32 → Int32 → Int32 → Int32 → Int32 → RS → Prop
  | 0 => fun _ _ _ _ _ _ => False
  | nn + 1 => wb_factor_57 (wl_factor_57 K nn) K
set_option maxHeartbeats 4000000 in
set_option maxRecDepth 100000 in
theorem l_factor_57 {G : RG} {X : Fx} {K : Int32 → RS → Prop} (hok : okG G) (hc : Cx X RX12 cX12_factor 8) (hr : Cr G 5 (some .int) K X) : ∀ (nn : Nat) (x1 x3 x4 x5 x6 : Int32) (R : RS), wl_factor_57 K nn x1 x3 x4 x5 x6 R → MR G X 8 R 57 [(0, .ref G.2.2.1), (1, .int x1), (3, .int x3), (4, .int x4), (5, .int x5), (6, .int x6)] [] := by
  intro nn
  induction nn with
  | zero => intro x1 x3 x4 x5 x6 R hw; exact False.elim hw
  | succ nn ih =>
    intro x1 x3 x4 x5 x6 R hw
    have hw : wb_factor_57 (wl_factor_57 K nn) K x1 x3 x4 x5 x6 R := hw
    have h57 := ih
    generalize wl_factor_57 K nn = K57 at hw h57
    unfold wb_factor_57 at hw
    refine m_iload hc 5 dX12_factor_57 rfl ?_
    refine m_iload hc 4 dX12_factor_59 rfl ?_
    refine m_icmp_ge hc 149 dX12_factor_61 rfl (fun cq => ?_) (fun cq => ?_)
    · have hw := hw.1 cq
      refine m_aload_n hc 0 dX12_factor_149 rfl rfl ?_
      refine m_iconst hc 1 dX12_factor_150 (by decide) ?_
      refine r_callVi hc hr mt_fail rfl lm_X12_317 (ok_fail hok hw) (Nat.le_of_ble_eq_true rfl) dX12_factor_151 rfl (rest := []) rfl (Nat.le_of_ble_eq_true rfl) (fun r1 R1 hw => ?_)
      exact r_iret hc hr dX12_factor_154 hw
    · have hw := hw.2 cq
      refine m_aload_n hc 0 dX12_factor_64 rfl rfl ?_
      refine m_iload hc 5 dX12_factor_65 rfl ?_
      refine r_callVv hc hr mt_layLine rfl lm_X12_262 (ok_layLine hok hw) (Nat.le_of_ble_eq_true rfl) dX12_factor_67 rfl (rest := []) rfl (Nat.le_of_ble_eq_true rfl) (fun r2 R2 hw => ?_)
      refine m_aload_n hc 0 dX12_factor_70 rfl rfl ?_
      refine m_iload_n hc 1 dX12_factor_71 rfl rfl ?_
      refine r_callVi hc hr mt_oftenOf rfl lm_X12_333 (ok_oftenOf hok hw) (Nat.le_of_ble_eq_true rfl) dX12_factor_72 rfl (rest := []) rfl (Nat.le_of_ble_eq_true rfl) (fun r3 R3 hw => ?_)
      refine m_istore hc [(7, .int r3), (0, .ref G.2.2.1), (1, .int x1), (3, .int x3), (4, .int x4), (5, .int x5), (6, .int x6)] dX12_factor_75 (Nat.le_of_ble_eq_true rfl) rfl ?_
      refine m_iload hc 0 dX12_factor_77 rfl ?_
      refine m_if_ne hc 85 dX12_factor_79 rfl (fun cq => ?_) (fun cq => ?_)
      · have hw := hw.1 cq
        refine m_iload hc 4 dX12_factor_85 rfl ?_
        refine m_if_ne hc 140 dX12_factor_87 rfl (fun cq => ?_) (fun cq => ?_)
        · have hw := hw.1 cq
          refine m_iinc hc 4 (x4 + (-1)) [(4, .int (x4 + (-1))), (7, .int r3), (0, .ref G.2.2.1), (1, .int x1), (3, .int x3), (5, .int x5), (6, .int x6)] dX12_factor_140 rfl rfl (Nat.le_of_ble_eq_true rfl) rfl ?_
          refine m_iinc hc 6 (x6 + 1) [(6, .int (x6 + 1)), (4, .int (x4 + (-1))), (7, .int r3), (0, .ref G.2.2.1), (1, .int x1), (3, .int x3), (5, .int x5)] dX12_factor_143 rfl rfl (Nat.le_of_ble_eq_true rfl) rfl ?_
          refine m_goto hc 57 dX12_factor_146 rfl ?_
          refine m_sub [3, 4, 5, 1, 6, 0] rfl ?_
          exact h57 x1 x3 (x4 + (-1)) x5 (x6 + 1) R3 hw
        · have hw := hw.2 cq
          refine m_iload_n hc 3 dX12_factor_90 rfl rfl ?_
          refine m_if_ne hc 101 dX12_factor_91 rfl (fun cq => ?_) (fun cq => ?_)
          · have hw := hw.1 cq
            refine m_iload_n hc 3 dX12_factor_101 rfl rfl ?_
            refine m_iconst hc 1 dX12_factor_102 (by decide) ?_
            refine m_icmp_ne hc 113 dX12_factor_103 rfl (fun cq => ?_) (fun cq => ?_)
            · have hw := hw.1 cq
              refine m_iload_n hc 3 dX12_factor_113 rfl rfl ?_
              refine m_iconst hc 2 dX12_factor_114 (by decide) ?_
              refine m_icmp_ne hc 125 dX12_factor_115 rfl (fun cq => ?_) (fun cq => ?_)
              · have hw := hw.1 cq
                refine m_iload_n hc 3 dX12_factor_125 rfl rfl ?_
                refine m_iconst hc 3 dX12_factor_126 (by decide) ?_
                refine m_icmp_ne hc 137 dX12_factor_127 rfl (fun cq => ?_) (fun cq => ?_)
                · have hw := hw.1 cq
                  refine m_iload hc 0 dX12_factor_137 rfl ?_
                  exact r_iret hc hr dX12_factor_139 hw
                · have hw := hw.2 cq
                  refine m_aload_n hc 1 dX12_factor_130 rfl rfl ?_
                  refine r_geti hc hr 25 dX12_factor_131 lf_X12_230 (Nat.le_of_ble_eq_true rfl) rfl ?_
                  refine m_goto hc 139 dX12_factor_134 rfl ?_
                  exact r_iret hc hr dX12_factor_139 hw
              · have hw := hw.2 cq
                refine m_aload_n hc 1 dX12_factor_118 rfl rfl ?_
                refine r_geti hc hr 24 dX12_factor_119 lf_X12_227 (Nat.le_of_ble_eq_true rfl) rfl ?_
                refine m_goto hc 139 dX12_factor_122 rfl ?_
                exact r_iret hc hr dX12_factor_139 hw
            · have hw := hw.2 cq
              refine m_aload_n hc 1 dX12_factor_106 rfl rfl ?_
              refine r_geti hc hr 23 dX12_factor_107 lf_X12_224 (Nat.le_of_ble_eq_true rfl) rfl ?_
              refine m_goto hc 139 dX12_factor_110 rfl ?_
              exact r_iret hc hr dX12_factor_139 hw
          · have hw := hw.2 cq
            refine m_aload_n hc 1 dX12_factor_94 rfl rfl ?_
            refine r_geti hc hr 22 dX12_factor_95 lf_X12_221 (Nat.le_of_ble_eq_true rfl) rfl ?_
            refine m_goto hc 139 dX12_factor_98 rfl ?_
            exact r_iret hc hr dX12_factor_139 hw
      · have hw := hw.2 cq
        refine m_goto hc 143 dX12_factor_82 rfl ?_
        refine m_iinc hc 6 (x6 + 1) [(6, .int (x6 + 1)), (7, .int r3), (0, .ref G.2.2.1), (1, .int x1), (3, .int x3), (4, .int x4), (5, .int x5)] dX12_factor_143 rfl rfl (Nat.le_of_ble_eq_true rfl) rfl ?_
        refine m_goto hc 57 dX12_factor_146 rfl ?_
        refine m_sub [2, 3, 4, 5, 6, 0] rfl ?_
        exact h57 x1 x3 x4 x5 (x6 + 1) R3 hw
def w_factor_34 (K : Int32 → RS → Prop) (R : RS) : Prop := wp_fail 1 R (fun r1 R1 => K r1 R1)
set_option maxHeartbeats 4000000 in
set_option maxRecDepth 100000 in
theorem b_factor_34 {G : RG} {X : Fx} {K : Int32 → RS → Prop} (hok : okG G) (hc : Cx X RX12 cX12_factor 8) (hr : Cr G 5 (some .int) K X) : ∀ (R : RS), w_factor_34 K R → MR G X 8 R 34 [(0, .ref G.2.2.1)] [] := by
  intro R hw
  unfold w_factor_34 at hw
  refine m_aload_n hc 0 dX12_factor_34 rfl rfl ?_
  refine m_iconst hc 1 dX12_factor_35 (by decide) ?_
  refine r_callVi hc hr mt_fail rfl lm_X12_317 (ok_fail hok hw) (Nat.le_of_ble_eq_true rfl) dX12_factor_36 rfl (rest := []) rfl (Nat.le_of_ble_eq_true rfl) (fun r1 R1 hw => ?_)
  exact r_iret hc hr dX12_factor_39 hw
def wp_factor (x1 x2 x3 : Int32) (R : RS) (K : Int32 → RS → Prop) : Prop := wp_isPlace x1 (up R 0 0 0) (fun r1 R1 => (r1 = 0 → w_factor_34 K R1) ∧ (¬ (r1 = 0) → (x2 < 0 → w_factor_34 K R1) ∧ (¬ (x2 < 0) → wp_isIn x3 0 4 R1 (fun r2 R2 => (r2 = 0 → w_factor_34 K R2) ∧ (¬ (r2 = 0) → vp_in x1 56 ∧ (¬ (R2 2 (Int32.toNatClampNeg x1)) = 0 → wp_layValues x1 R2 (fun r3 R3 => wp_lines R3 (fun r4 R4 => ∃ nn : Nat, wl_factor_57 K nn x1 x3 x2 r4 0 R4))) ∧ ((R2 2 (Int32.toNatClampNeg x1)) = 0 → w_factor_34 K R2))))))
set_option maxHeartbeats 4000000 in
set_option maxRecDepth 100000 in
theorem ok_factor {G : RG} (hok : okG G) {x1 : Int32} {x2 : Int32} {x3 : Int32} {R : RS} {K : Int32 → RS → Prop} (hw : wp_factor x1 x2 x3 R K) : CF 5 yX12_factor cX12_factor 8 (some .int) [.ref G.2.2.1, .int x1, .int x2, .int x3] G R K := by
  refine CF.of (by decide +kernel) hok (Nat.le_of_ble_eq_true rfl) (fun X hc hr => ?_)
  show MR G X 8 R 0 [(0, .ref G.2.2.1), (1, .int x1), (2, .int x2), (3, .int x3)] []
  unfold wp_factor at hw
  refine m_aload_n hc 0 dX12_factor_0 rfl rfl ?_
  refine m_iconst hc 0 dX12_factor_1 (by decide) ?_
  refine r_put hc hr 0 dX12_factor_2 lf_X12_116 (Nat.le_of_ble_eq_true rfl) rfl rfl (by decide +kernel) ?_
  refine m_iload_n hc 1 dX12_factor_5 rfl rfl ?_
  refine r_callSi hc hr mt_isPlace lm_X12_265 (ok_isPlace hok hw) (Nat.le_of_ble_eq_true rfl) dX12_factor_6 rfl (rest := []) rfl (Nat.le_of_ble_eq_true rfl) (fun r1 R1 hw => ?_)
  refine m_if_eq hc 34 dX12_factor_9 rfl (fun cq => ?_) (fun cq => ?_)
  · have hw := hw.1 cq
    refine m_sub [0] rfl ?_
    exact b_factor_34 hok hc hr R1 hw
  · have hw := hw.2 cq
    refine m_iload_n hc 2 dX12_factor_12 rfl rfl ?_
    refine m_if_lt hc 34 dX12_factor_13 rfl (fun cq => ?_) (fun cq => ?_)
    · have hw := hw.1 cq
      refine m_sub [0] rfl ?_
      exact b_factor_34 hok hc hr R1 hw
    · have hw := hw.2 cq
      refine m_iload_n hc 3 dX12_factor_16 rfl rfl ?_
      refine m_iconst hc 0 dX12_factor_17 (by decide) ?_
      refine m_iconst hc 4 dX12_factor_18 (by decide) ?_
      refine r_callSi hc hr mt_isIn lm_X12_181 (ok_isIn hok hw) (Nat.le_of_ble_eq_true rfl) dX12_factor_19 rfl (rest := []) rfl (Nat.le_of_ble_eq_true rfl) (fun r2 R2 hw => ?_)
      refine m_if_eq hc 34 dX12_factor_22 rfl (fun cq => ?_) (fun cq => ?_)
      · have hw := hw.1 cq
        refine m_sub [0] rfl ?_
        exact b_factor_34 hok hc hr R2 hw
      · have hw := hw.2 cq
        refine m_aload_n hc 0 dX12_factor_25 rfl rfl ?_
        refine r_geta hc hr 2 dX12_factor_26 lf_X12_13 (Nat.le_of_ble_eq_true rfl) rfl ?_
        refine m_iload_n hc 1 dX12_factor_29 rfl rfl ?_
        obtain ⟨hi, hw⟩ := hw
        refine r_iald hc hr (i := 0) (f := 2) rfl hi dX12_factor_30 ?_
        refine m_if_ne hc 40 dX12_factor_31 rfl (fun cq => ?_) (fun cq => ?_)
        · have hw := hw.1 cq
          refine m_aload_n hc 0 dX12_factor_40 rfl rfl ?_
          refine m_iload_n hc 1 dX12_factor_41 rfl rfl ?_
          refine r_callVv hc hr mt_layValues rfl lm_X12_256 (ok_layValues hok hw) (Nat.le_of_ble_eq_true rfl) dX12_factor_42 rfl (rest := []) rfl (Nat.le_of_ble_eq_true rfl) (fun r3 R3 hw => ?_)
          refine m_iload_n hc 2 dX12_factor_45 rfl rfl ?_
          refine m_istore hc [(4, .int x2), (0, .ref G.2.2.1), (1, .int x1), (2, .int x2), (3, .int x3)] dX12_factor_46 (Nat.le_of_ble_eq_true rfl) rfl ?_
          refine m_aload_n hc 1 dX12_factor_48 rfl rfl ?_
          refine r_callVi hc hr mt_lines rfl lm_X12_259 (ok_lines hok hw) (Nat.le_of_ble_eq_true rfl) dX12_factor_49 rfl (rest := []) rfl (Nat.le_of_ble_eq_true rfl) (fun r4 R4 hw => ?_)
          refine m_istore hc [(5, .int r4), (4, .int x2), (0, .ref G.2.2.1), (1, .int x1), (2, .int x2), (3, .int x3)] dX12_factor_52 (Nat.le_of_ble_eq_true rfl) rfl ?_
          refine m_iconst hc 0 dX12_factor_54 (by decide) ?_
          refine m_istore hc [(6, .int 0), (5, .int r4), (4, .int x2), (0, .ref G.2.2.1), (1, .int x1), (2, .int x2), (3, .int x3)] dX12_factor_55 (Nat.le_of_ble_eq_true rfl) rfl ?_
          refine m_sub [3, 4, 6, 2, 1, 0] rfl ?_
          obtain ⟨nn, hw⟩ := hw
          exact l_factor_57 hok hc hr nn x1 x3 x2 r4 0 R4 hw
        · have hw := hw.2 cq
          refine m_sub [0] rfl ?_
          exact b_factor_34 hok hc hr R2 hw
