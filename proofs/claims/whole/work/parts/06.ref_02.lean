def wp_become (x1 x2 : Int32) (R : RS) (K : Int32 → RS → Prop) : Prop := wp_keep x1 R (fun r1 R1 => wp_copy x1 x2 R1 (fun r2 R2 => vp_in x1 56 ∧ K (R2 2 (Int32.toNatClampNeg x1)) R2))
set_option maxHeartbeats 4000000 in
set_option maxRecDepth 100000 in
theorem ok_become {G : RG} (hok : okG G) {x1 : Int32} {x2 : Int32} {R : RS} {K : Int32 → RS → Prop} (hw : wp_become x1 x2 R K) : CF 2 yX12_become cX12_become 3 (some .int) [.ref G.2.2.1, .int x1, .int x2] G R K := by
  refine CF.of (by decide +kernel) hok (Nat.le_of_ble_eq_true rfl) (fun X hc hr => ?_)
  show MR G X 3 R 0 [(0, .ref G.2.2.1), (1, .int x1), (2, .int x2)] []
  unfold wp_become at hw
  refine m_aload_n hc 0 dX12_become_0 rfl rfl ?_
  refine m_iload_n hc 1 dX12_become_1 rfl rfl ?_
  refine r_callVv hc hr mt_keep rfl lm_X12_191 (ok_keep hok hw) (Nat.le_of_ble_eq_true rfl) dX12_become_2 rfl (rest := []) rfl (Nat.le_of_ble_eq_true rfl) (fun r1 R1 hw => ?_)
  refine m_aload_n hc 0 dX12_become_5 rfl rfl ?_
  refine m_iload_n hc 1 dX12_become_6 rfl rfl ?_
  refine m_iload_n hc 2 dX12_become_7 rfl rfl ?_
  refine r_callVv hc hr mt_copy rfl lm_X12_168 (ok_copy hok hw) (Nat.le_of_ble_eq_true rfl) dX12_become_8 rfl (rest := []) rfl (Nat.le_of_ble_eq_true rfl) (fun r2 R2 hw => ?_)
  refine m_aload_n hc 0 dX12_become_11 rfl rfl ?_
  refine r_geta hc hr 2 dX12_become_12 lf_X12_13 (Nat.le_of_ble_eq_true rfl) rfl ?_
  refine m_iload_n hc 1 dX12_become_15 rfl rfl ?_
  obtain ⟨hi, hw⟩ := hw
  refine r_iald hc hr (i := 0) (f := 2) rfl hi dX12_become_16 ?_
  exact r_iret hc hr dX12_become_17 hw
def wb_undo_51 (K51 : Int32 → Int32 → RS → Prop) (K : Int32 → RS → Prop) (x1 x2 : Int32) (R : RS) : Prop := vp_in x1 56 ∧ ((R 2 (Int32.toNatClampNeg x1)) ≤ x2 → K (R 0 13) R) ∧ (¬ ((R 2 (Int32.toNatClampNeg x1)) ≤ x2) → vp_in ((300 * (R 0 13)) + x2) 6000 ∧ vp_in ((300 * x1) + x2) 16800 ∧ vp_in ((300 * ((up R 3 (Int32.toNatClampNeg ((300 * x1) + x2)) (R 11 (Int32.toNatClampNeg ((300 * (R 0 13)) + x2)))) 0 13)) + x2) 6000 ∧ vp_in ((300 * x1) + x2) 16800 ∧ K51 x1 (x2 + 1) (up (up R 3 (Int32.toNatClampNeg ((300 * x1) + x2)) (R 11 (Int32.toNatClampNeg ((300 * (R 0 13)) + x2)))) 4 (Int32.toNatClampNeg ((300 * x1) + x2)) ((up R 3 (Int32.toNatClampNeg ((300 * x1) + x2)) (R 11 (Int32.toNatClampNeg ((300 * (R 0 13)) + x2)))) 12 (Int32.toNatClampNeg ((300 * ((up R 3 (Int32.toNatClampNeg ((300 * x1) + x2)) (R 11 (Int32.toNatClampNeg ((300 * (R 0 13)) + x2)))) 0 13)) + x2)))))
def wl_undo_51 (K : Int32 → RS → Prop) : Nat → Int32 → Int32 → RS → Prop
  | 0 => fun _ _ _ => False
  | nn + 1 => wb_undo_51 (wl_undo_51 K nn) K
set_option maxHeartbeats 4000000 in
set_option maxRecDepth 100000 in
theorem l_undo_51 {G : RG} {X : Fx} {K : Int32 → RS → Prop} (hok : okG G) (hc : Cx X RX12 cX12_undo 3) (hr : Cr G 0 (some .int) K X) : ∀ (nn : Nat) (x1 x2 : Int32) (R : RS), wl_undo_51 K nn x1 x2 R → MR G X 3 R 51 [(0, .ref G.2.2.1), (1, .int x1), (2, .int x2)] [] := by
  intro nn
  induction nn with
  | zero => intro x1 x2 R hw; exact False.elim hw
  | succ nn ih =>
    intro x1 x2 R hw
    have hw : wb_undo_51 (wl_undo_51 K nn) K x1 x2 R := hw
    have h51 := ih
    generalize wl_undo_51 K nn = K51 at hw h51
    unfold wb_undo_51 at hw
    refine m_iload_n hc 2 dX12_undo_51 rfl rfl ?_
    refine m_aload_n hc 0 dX12_undo_52 rfl rfl ?_
    refine r_geta hc hr 2 dX12_undo_53 lf_X12_13 (Nat.le_of_ble_eq_true rfl) rfl ?_
    refine m_iload_n hc 1 dX12_undo_56 rfl rfl ?_
    obtain ⟨hi, hw⟩ := hw
    refine r_iald hc hr (i := 0) (f := 2) rfl hi dX12_undo_57 ?_
    refine m_icmp_ge hc 121 dX12_undo_58 rfl (fun cq => ?_) (fun cq => ?_)
    · have hw := hw.1 cq
      refine m_aload_n hc 0 dX12_undo_121 rfl rfl ?_
      refine r_geti hc hr 13 dX12_undo_122 lf_X12_188 (Nat.le_of_ble_eq_true rfl) rfl ?_
      exact r_iret hc hr dX12_undo_125 hw
    · have hw := hw.2 cq
      refine m_aload_n hc 0 dX12_undo_61 rfl rfl ?_
      refine r_geta hc hr 3 dX12_undo_62 lf_X12_17 (Nat.le_of_ble_eq_true rfl) rfl ?_
      refine m_sipush hc 300 dX12_undo_65 (by decide) ?_
      refine m_iload_n hc 1 dX12_undo_68 rfl rfl ?_
      refine m_imul hc dX12_undo_69 ?_
      refine m_iload_n hc 2 dX12_undo_70 rfl rfl ?_
      refine m_iadd hc dX12_undo_71 ?_
      refine m_aload_n hc 0 dX12_undo_72 rfl rfl ?_
      refine r_geta hc hr 11 dX12_undo_73 lf_X12_40 (Nat.le_of_ble_eq_true rfl) rfl ?_
      refine m_sipush hc 300 dX12_undo_76 (by decide) ?_
      refine m_aload_n hc 0 dX12_undo_79 rfl rfl ?_
      refine r_geti hc hr 13 dX12_undo_80 lf_X12_188 (Nat.le_of_ble_eq_true rfl) rfl ?_
      refine m_imul hc dX12_undo_83 ?_
      refine m_iload_n hc 2 dX12_undo_84 rfl rfl ?_
      refine m_iadd hc dX12_undo_85 ?_
      obtain ⟨hi, hw⟩ := hw
      refine r_iald hc hr (i := 8) (f := 11) rfl hi dX12_undo_86 ?_
      obtain ⟨hi, hw⟩ := hw
      refine r_iast hc hr (i := 1) (f := 3) rfl hi dX12_undo_87 ?_
      refine m_aload_n hc 0 dX12_undo_88 rfl rfl ?_
      refine r_geta hc hr 4 dX12_undo_89 lf_X12_20 (Nat.le_of_ble_eq_true rfl) rfl ?_
      refine m_sipush hc 300 dX12_undo_92 (by decide) ?_
      refine m_iload_n hc 1 dX12_undo_95 rfl rfl ?_
      refine m_imul hc dX12_undo_96 ?_
      refine m_iload_n hc 2 dX12_undo_97 rfl rfl ?_
      refine m_iadd hc dX12_undo_98 ?_
      refine m_aload_n hc 0 dX12_undo_99 rfl rfl ?_
      refine r_geta hc hr 12 dX12_undo_100 lf_X12_43 (Nat.le_of_ble_eq_true rfl) rfl ?_
      refine m_sipush hc 300 dX12_undo_103 (by decide) ?_
      refine m_aload_n hc 0 dX12_undo_106 rfl rfl ?_
      refine r_geti hc hr 13 dX12_undo_107 lf_X12_188 (Nat.le_of_ble_eq_true rfl) rfl ?_
      refine m_imul hc dX12_undo_110 ?_
      refine m_iload_n hc 2 dX12_undo_111 rfl rfl ?_
      refine m_iadd hc dX12_undo_112 ?_
      obtain ⟨hi, hw⟩ := hw
      refine r_iald hc hr (i := 9) (f := 12) rfl hi dX12_undo_113 ?_
      obtain ⟨hi, hw⟩ := hw
      refine r_iast hc hr (i := 2) (f := 4) rfl hi dX12_undo_114 ?_
      refine m_iinc hc 2 (x2 + 1) [(2, .int (x2 + 1)), (0, .ref G.2.2.1), (1, .int x1)] dX12_undo_115 rfl rfl (Nat.le_of_ble_eq_true rfl) rfl ?_
      refine m_goto hc 51 dX12_undo_118 rfl ?_
      refine m_sub [1, 2, 0] rfl ?_
      exact h51 x1 (x2 + 1) (up (up R 3 (Int32.toNatClampNeg ((300 * x1) + x2)) (R 11 (Int32.toNatClampNeg ((300 * (R 0 13)) + x2)))) 4 (Int32.toNatClampNeg ((300 * x1) + x2)) ((up R 3 (Int32.toNatClampNeg ((300 * x1) + x2)) (R 11 (Int32.toNatClampNeg ((300 * (R 0 13)) + x2)))) 12 (Int32.toNatClampNeg ((300 * ((up R 3 (Int32.toNatClampNeg ((300 * x1) + x2)) (R 11 (Int32.toNatClampNeg ((300 * (R 0 13)) + x2)))) 0 13)) + x2)))) hw
def wp_undo (R : RS) (K : Int32 → RS → Prop) : Prop := (¬ ((up R 0 0 0) 0 13) = 0 → vp_in ((up (up R 0 0 0) 0 13 (((up R 0 0 0) 0 13) - 1)) 0 13) 20 ∧ ∀ v1 : Int32, v1 = ((up (up R 0 0 0) 0 13 (((up R 0 0 0) 0 13) - 1)) 9 (Int32.toNatClampNeg ((up (up R 0 0 0) 0 13 (((up R 0 0 0) 0 13) - 1)) 0 13))) → vp_in ((up (up R 0 0 0) 0 13 (((up R 0 0 0) 0 13) - 1)) 0 13) 20 ∧ vp_in v1 56 ∧ ∃ nn : Nat, wl_undo_51 K nn v1 0 (up (up (up R 0 0 0) 0 13 (((up R 0 0 0) 0 13) - 1)) 2 (Int32.toNatClampNeg v1) ((up (up R 0 0 0) 0 13 (((up R 0 0 0) 0 13) - 1)) 10 (Int32.toNatClampNeg ((up (up R 0 0 0) 0 13 (((up R 0 0 0) 0 13) - 1)) 0 13))))) ∧ (((up R 0 0 0) 0 13) = 0 → K (-1) (up R 0 0 0))
set_option maxHeartbeats 4000000 in
set_option maxRecDepth 100000 in
theorem ok_undo {G : RG} (hok : okG G) {R : RS} {K : Int32 → RS → Prop} (hw : wp_undo R K) : CF 0 yX12_undo cX12_undo 3 (some .int) [.ref G.2.2.1] G R K := by
  refine CF.of (by decide +kernel) hok (Nat.le_of_ble_eq_true rfl) (fun X hc hr => ?_)
  show MR G X 3 R 0 [(0, .ref G.2.2.1)] []
  unfold wp_undo at hw
  refine m_aload_n hc 0 dX12_undo_0 rfl rfl ?_
  refine m_iconst hc 0 dX12_undo_1 (by decide) ?_
  refine r_put hc hr 0 dX12_undo_2 lf_X12_116 (Nat.le_of_ble_eq_true rfl) rfl rfl (by decide +kernel) ?_
  refine m_aload_n hc 0 dX12_undo_5 rfl rfl ?_
  refine r_geti hc hr 13 dX12_undo_6 lf_X12_188 (Nat.le_of_ble_eq_true rfl) rfl ?_
  refine m_if_ne hc 14 dX12_undo_9 rfl (fun cq => ?_) (fun cq => ?_)
  · have hw := hw.1 cq
    refine m_aload_n hc 0 dX12_undo_14 rfl rfl ?_
    refine m_dup hc dX12_undo_15 rfl ?_
    refine r_geti hc hr 13 dX12_undo_16 lf_X12_188 (Nat.le_of_ble_eq_true rfl) rfl ?_
    refine m_iconst hc 1 dX12_undo_19 (by decide) ?_
    refine m_isub hc dX12_undo_20 ?_
    refine r_put hc hr 13 dX12_undo_21 lf_X12_188 (Nat.le_of_ble_eq_true rfl) rfl rfl (by decide +kernel) ?_
    refine m_aload_n hc 0 dX12_undo_24 rfl rfl ?_
    refine r_geta hc hr 9 dX12_undo_25 lf_X12_34 (Nat.le_of_ble_eq_true rfl) rfl ?_
    refine m_aload_n hc 0 dX12_undo_28 rfl rfl ?_
    refine r_geti hc hr 13 dX12_undo_29 lf_X12_188 (Nat.le_of_ble_eq_true rfl) rfl ?_
    obtain ⟨hi, hw⟩ := hw
    refine r_iald hc hr (i := 6) (f := 9) rfl hi dX12_undo_32 ?_
    refine m_topi (fun v1 e_v1 => ?_)
    have hw := hw v1 e_v1
    refine m_istore_n hc [(1, .int v1), (0, .ref G.2.2.1)] dX12_undo_33 rfl (Nat.le_of_ble_eq_true rfl) rfl ?_
    refine m_aload_n hc 1 dX12_undo_34 rfl rfl ?_
    refine r_geta hc hr 2 dX12_undo_35 lf_X12_13 (Nat.le_of_ble_eq_true rfl) rfl ?_
    refine m_iload_n hc 0 dX12_undo_38 rfl rfl ?_
    refine m_aload_n hc 1 dX12_undo_39 rfl rfl ?_
    refine r_geta hc hr 10 dX12_undo_40 lf_X12_37 (Nat.le_of_ble_eq_true rfl) rfl ?_
    refine m_aload_n hc 1 dX12_undo_43 rfl rfl ?_
    refine r_geti hc hr 13 dX12_undo_44 lf_X12_188 (Nat.le_of_ble_eq_true rfl) rfl ?_
    obtain ⟨hi, hw⟩ := hw
    refine r_iald hc hr (i := 7) (f := 10) rfl hi dX12_undo_47 ?_
    obtain ⟨hi, hw⟩ := hw
    refine r_iast hc hr (i := 0) (f := 2) rfl hi dX12_undo_48 ?_
    refine m_iconst hc 0 dX12_undo_49 (by decide) ?_
    refine m_istore_n hc [(2, .int 0), (1, .int v1), (0, .ref G.2.2.1)] dX12_undo_50 rfl (Nat.le_of_ble_eq_true rfl) rfl ?_
    refine m_sub [2, 1, 0] rfl ?_
    obtain ⟨nn, hw⟩ := hw
    exact l_undo_51 hok hc hr nn v1 0 (up (up (up R 0 0 0) 0 13 (((up R 0 0 0) 0 13) - 1)) 2 (Int32.toNatClampNeg v1) ((up (up R 0 0 0) 0 13 (((up R 0 0 0) 0 13) - 1)) 10 (Int32.toNatClampNeg ((up (up R 0 0 0) 0 13 (((up R 0 0 0) 0 13) - 1)) 0 13)))) hw
  · have hw := hw.2 cq
    refine m_iconst hc (-1) dX12_undo_12 (by decide) ?_
    exact r_iret hc hr dX12_undo_13 hw
def wb_field_63 (K63 : Int32 → Int32 → RS → Prop) (K : Int32 → RS → Prop) (x3 x4 : Int32) (R : RS) : Prop := (6 ≤ x4 → K x3 (up (up R 0 37 0) 0 13 0)) ∧ (¬ (6 ≤ x4) → vp_in x4 56 ∧ K63 x3 (x4 + 1) (up R 2 (Int32.toNatClampNeg x4) 0))
def wl_field_63 (K : Int32 → RS → Prop) : Nat → Int32 → Int32 → RS → Prop
  | 0 => fun _ _ _ => False
  | nn + 1 => wb_field_63 (wl_field_63 K nn) K
set_option maxHeartbeats 4000000 in
set_option maxRecDepth 100000 in
theorem l_field_63 {G : RG} {X : Fx} {K : Int32 → RS → Prop} (hok : okG G) (hc : Cx X RX12 cX12_field 5) (hr : Cr G 0 (some .int) K X) : ∀ (nn : Nat) (x3 x4 : Int32) (R : RS), wl_field_63 K nn x3 x4 R → MR G X 5 R 63 [(0, .ref G.2.2.1), (3, .int x3), (4, .int x4)] [] := by
  intro nn
  induction nn with
  | zero => intro x3 x4 R hw; exact False.elim hw
  | succ nn ih =>
    intro x3 x4 R hw
    have hw : wb_field_63 (wl_field_63 K nn) K x3 x4 R := hw
    have h63 := ih
    generalize wl_field_63 K nn = K63 at hw h63
    unfold wb_field_63 at hw
    refine m_iload hc 2 dX12_field_63 rfl ?_
    refine m_bipush hc 6 dX12_field_65 (by decide) ?_
    refine m_icmp_ge hc 84 dX12_field_67 rfl (fun cq => ?_) (fun cq => ?_)
    · have hw := hw.1 cq
      refine m_aload_n hc 0 dX12_field_84 rfl rfl ?_
      refine m_iconst hc 0 dX12_field_85 (by decide) ?_
      refine r_put hc hr 37 dX12_field_86 lf_X12_194 (Nat.le_of_ble_eq_true rfl) rfl rfl (by decide +kernel) ?_
      refine m_aload_n hc 0 dX12_field_89 rfl rfl ?_
      refine m_iconst hc 0 dX12_field_90 (by decide) ?_
      refine r_put hc hr 13 dX12_field_91 lf_X12_188 (Nat.le_of_ble_eq_true rfl) rfl rfl (by decide +kernel) ?_
      refine m_iload_n hc 1 dX12_field_94 rfl rfl ?_
      exact r_iret hc hr dX12_field_95 hw
    · have hw := hw.2 cq
      refine m_aload_n hc 0 dX12_field_70 rfl rfl ?_
      refine r_geta hc hr 2 dX12_field_71 lf_X12_13 (Nat.le_of_ble_eq_true rfl) rfl ?_
      refine m_iload hc 2 dX12_field_74 rfl ?_
      refine m_iconst hc 0 dX12_field_76 (by decide) ?_
      obtain ⟨hi, hw⟩ := hw
      refine r_iast hc hr (i := 0) (f := 2) rfl hi dX12_field_77 ?_
      refine m_iinc hc 2 (x4 + 1) [(4, .int (x4 + 1)), (0, .ref G.2.2.1), (3, .int x3)] dX12_field_78 rfl rfl (Nat.le_of_ble_eq_true rfl) rfl ?_
      refine m_goto hc 63 dX12_field_81 rfl ?_
      refine m_sub [1, 2, 0] rfl ?_
      exact h63 x3 (x4 + 1) (up R 2 (Int32.toNatClampNeg x4) 0) hw
def w_field_43 (K : Int32 → RS → Prop) (x1 s0 : Int32) (R : RS) : Prop := (¬ s0 = 0 → ∃ nn : Nat, wl_field_63 K nn (R 0 1) 0 (up R 0 1 x1)) ∧ (s0 = 0 → K (-1) R)
set_option maxHeartbeats 4000000 in
set_option maxRecDepth 100000 in
theorem b_field_43 {G : RG} {X : Fx} {K : Int32 → RS → Prop} (hok : okG G) (hc : Cx X RX12 cX12_field 5) (hr : Cr G 0 (some .int) K X) : ∀ (x1 s0 : Int32) (R : RS), w_field_43 K x1 s0 R → MR G X 5 R 43 [(0, .ref G.2.2.1), (1, .int x1)] [.int s0] := by
  intro x1 s0 R hw
  unfold w_field_43 at hw
  refine m_istore_n hc [(2, .int s0), (0, .ref G.2.2.1), (1, .int x1)] dX12_field_43 rfl (Nat.le_of_ble_eq_true rfl) rfl ?_
  refine m_iload_n hc 0 dX12_field_44 rfl rfl ?_
  refine m_if_ne hc 50 dX12_field_45 rfl (fun cq => ?_) (fun cq => ?_)
  · have hw := hw.1 cq
    refine m_aload_n hc 1 dX12_field_50 rfl rfl ?_
    refine r_geti hc hr 1 dX12_field_51 lf_X12_9 (Nat.le_of_ble_eq_true rfl) rfl ?_
    refine m_istore_n hc [(3, .int (R 0 1)), (2, .int s0), (0, .ref G.2.2.1), (1, .int x1)] dX12_field_54 rfl (Nat.le_of_ble_eq_true rfl) rfl ?_
    refine m_aload_n hc 2 dX12_field_55 rfl rfl ?_
    refine m_iload_n hc 3 dX12_field_56 rfl rfl ?_
    refine r_put hc hr 1 dX12_field_57 lf_X12_9 (Nat.le_of_ble_eq_true rfl) rfl rfl (by decide +kernel) ?_
    refine m_iconst hc 0 dX12_field_60 (by decide) ?_
    refine m_istore hc [(4, .int 0), (3, .int (R 0 1)), (2, .int s0), (0, .ref G.2.2.1), (1, .int x1)] dX12_field_61 (Nat.le_of_ble_eq_true rfl) rfl ?_
    refine m_sub [3, 1, 0] rfl ?_
    obtain ⟨nn, hw⟩ := hw
    exact l_field_63 hok hc hr nn (R 0 1) 0 (up R 0 1 x1) hw
  · have hw := hw.2 cq
    refine m_iconst hc (-1) dX12_field_48 (by decide) ?_
    exact r_iret hc hr dX12_field_49 hw
def wp_field (x1 : Int32) (R : RS) (K : Int32 → RS → Prop) : Prop := (x1 = 2 → w_field_43 K x1 1 (up R 0 0 0)) ∧ (¬ (x1 = 2) → (x1 = 3 → w_field_43 K x1 1 (up R 0 0 0)) ∧ (¬ (x1 = 3) → (x1 = 5 → w_field_43 K x1 1 (up R 0 0 0)) ∧ (¬ (x1 = 5) → (x1 = 7 → w_field_43 K x1 1 (up R 0 0 0)) ∧ (¬ (x1 = 7) → (x1 = 11 → w_field_43 K x1 1 (up R 0 0 0)) ∧ (¬ (x1 = 11) → (¬ x1 = 13 → w_field_43 K x1 0 (up R 0 0 0)) ∧ (x1 = 13 → w_field_43 K x1 1 (up R 0 0 0)))))))
set_option maxHeartbeats 4000000 in
set_option maxRecDepth 100000 in
theorem ok_field {G : RG} (hok : okG G) {x1 : Int32} {R : RS} {K : Int32 → RS → Prop} (hw : wp_field x1 R K) : CF 0 yX12_field cX12_field 5 (some .int) [.ref G.2.2.1, .int x1] G R K := by
  refine CF.of (by decide +kernel) hok (Nat.le_of_ble_eq_true rfl) (fun X hc hr => ?_)
  show MR G X 5 R 0 [(0, .ref G.2.2.1), (1, .int x1)] []
  unfold wp_field at hw
  refine m_aload_n hc 0 dX12_field_0 rfl rfl ?_
  refine m_iconst hc 0 dX12_field_1 (by decide) ?_
  refine r_put hc hr 0 dX12_field_2 lf_X12_116 (Nat.le_of_ble_eq_true rfl) rfl rfl (by decide +kernel) ?_
  refine m_iload_n hc 1 dX12_field_5 rfl rfl ?_
  refine m_iconst hc 2 dX12_field_6 (by decide) ?_
  refine m_icmp_eq hc 38 dX12_field_7 rfl (fun cq => ?_) (fun cq => ?_)
  · have hw := hw.1 cq
    refine m_iconst hc 1 dX12_field_38 (by decide) ?_
    refine m_goto hc 43 dX12_field_39 rfl ?_
    exact b_field_43 hok hc hr x1 1 (up R 0 0 0) hw
  · have hw := hw.2 cq
    refine m_iload_n hc 1 dX12_field_10 rfl rfl ?_
    refine m_iconst hc 3 dX12_field_11 (by decide) ?_
    refine m_icmp_eq hc 38 dX12_field_12 rfl (fun cq => ?_) (fun cq => ?_)
    · have hw := hw.1 cq
      refine m_iconst hc 1 dX12_field_38 (by decide) ?_
      refine m_goto hc 43 dX12_field_39 rfl ?_
      exact b_field_43 hok hc hr x1 1 (up R 0 0 0) hw
    · have hw := hw.2 cq
      refine m_iload_n hc 1 dX12_field_15 rfl rfl ?_
      refine m_iconst hc 5 dX12_field_16 (by decide) ?_
      refine m_icmp_eq hc 38 dX12_field_17 rfl (fun cq => ?_) (fun cq => ?_)
      · have hw := hw.1 cq
        refine m_iconst hc 1 dX12_field_38 (by decide) ?_
        refine m_goto hc 43 dX12_field_39 rfl ?_
        exact b_field_43 hok hc hr x1 1 (up R 0 0 0) hw
      · have hw := hw.2 cq
        refine m_iload_n hc 1 dX12_field_20 rfl rfl ?_
        refine m_bipush hc 7 dX12_field_21 (by decide) ?_
        refine m_icmp_eq hc 38 dX12_field_23 rfl (fun cq => ?_) (fun cq => ?_)
        · have hw := hw.1 cq
          refine m_iconst hc 1 dX12_field_38 (by decide) ?_
          refine m_goto hc 43 dX12_field_39 rfl ?_
          exact b_field_43 hok hc hr x1 1 (up R 0 0 0) hw
        · have hw := hw.2 cq
          refine m_iload_n hc 1 dX12_field_26 rfl rfl ?_
          refine m_bipush hc 11 dX12_field_27 (by decide) ?_
          refine m_icmp_eq hc 38 dX12_field_29 rfl (fun cq => ?_) (fun cq => ?_)
          · have hw := hw.1 cq
            refine m_iconst hc 1 dX12_field_38 (by decide) ?_
            refine m_goto hc 43 dX12_field_39 rfl ?_
            exact b_field_43 hok hc hr x1 1 (up R 0 0 0) hw
          · have hw := hw.2 cq
            refine m_iload_n hc 1 dX12_field_32 rfl rfl ?_
            refine m_bipush hc 13 dX12_field_33 (by decide) ?_
            refine m_icmp_ne hc 42 dX12_field_35 rfl (fun cq => ?_) (fun cq => ?_)
            · have hw := hw.1 cq
              refine m_iconst hc 0 dX12_field_42 (by decide) ?_
              exact b_field_43 hok hc hr x1 0 (up R 0 0 0) hw
            · have hw := hw.2 cq
              refine m_iconst hc 1 dX12_field_38 (by decide) ?_
              refine m_goto hc 43 dX12_field_39 rfl ?_
              exact b_field_43 hok hc hr x1 1 (up R 0 0 0) hw
def w_derivative_89 (K3 : Int32 → Int32 → Int32 → Int32 → RS → Prop) (K : Int32 → RS → Prop) (x1 x2 x3 x4 x6 s0 s1 s2 s3 : Int32) (R : RS) : Prop := wp_numAt x2 x4 R (fun r1 R1 => wp_gathers s3 s2 (s1 - s0) (x6 * r1) R1 (fun r2 R2 => K3 x1 x2 x3 (x4 + 1) R2))
set_option maxHeartbeats 4000000 in
set_option maxRecDepth 100000 in
theorem b_derivative_89 {G : RG} {X : Fx} {K : Int32 → RS → Prop} (hok : okG G) (hc : Cx X RX12 cX12_derivative 7) (hr : Cr G 3 (some .boolean) K X) (K3 : Int32 → Int32 → Int32 → Int32 → RS → Prop) (h3 : ∀ (x1 x2 x3 x4 : Int32) (R : RS), K3 x1 x2 x3 x4 R → MR G X 7 R 3 [(0, .ref G.2.2.1), (1, .int x1), (2, .int x2), (3, .int x3), (4, .int x4)] []) : ∀ (x1 x2 x3 x4 x6 s0 s1 s2 s3 : Int32) (R : RS), w_derivative_89 K3 K x1 x2 x3 x4 x6 s0 s1 s2 s3 R → MR G X 7 R 89 [(0, .ref G.2.2.1), (1, .int x1), (2, .int x2), (3, .int x3), (4, .int x4), (6, .int x6)] [.int s0, .int s1, .int s2, .int s3, .ref G.2.2.1] := by
  intro x1 x2 x3 x4 x6 s0 s1 s2 s3 R hw
  unfold w_derivative_89 at hw
  refine m_isub hc dX12_derivative_89 ?_
  refine m_iload hc 5 dX12_derivative_90 rfl ?_
  refine m_aload_n hc 0 dX12_derivative_92 rfl rfl ?_
  refine m_iload_n hc 2 dX12_derivative_93 rfl rfl ?_
  refine m_iload hc 4 dX12_derivative_94 rfl ?_
  refine r_callVi hc hr mt_numAt rfl lm_X12_126 (ok_numAt hok hw) (Nat.le_of_ble_eq_true rfl) dX12_derivative_96 rfl (rest := [.int x6, .int (s1 - s0), .int s2, .int s3, .ref G.2.2.1]) rfl (Nat.le_of_ble_eq_true rfl) (fun r1 R1 hw => ?_)
  refine m_imul hc dX12_derivative_99 ?_
  refine r_callVv hc hr mt_gathers rfl lm_X12_152 (ok_gathers hok hw) (Nat.le_of_ble_eq_true rfl) dX12_derivative_100 rfl (rest := []) rfl (Nat.le_of_ble_eq_true rfl) (fun r2 R2 hw => ?_)
  refine m_iinc hc 4 (x4 + 1) [(4, .int (x4 + 1)), (0, .ref G.2.2.1), (1, .int x1), (2, .int x2), (3, .int x3), (6, .int x6)] dX12_derivative_103 rfl rfl (Nat.le_of_ble_eq_true rfl) rfl ?_
  refine m_goto hc 3 dX12_derivative_106 rfl ?_
  refine m_sub [1, 2, 3, 4, 0] rfl ?_
  exact h3 x1 x2 x3 (x4 + 1) R2 hw
def w_derivative_72 (K3 : Int32 → Int32 → Int32 → Int32 → RS → Prop) (K : Int32 → RS → Prop) (x1 x2 x3 x4 x5 x6 s0 s1 s2 : Int32) (R : RS) : Prop := wp_ex x5 2 R (fun r1 R1 => (¬ x3 = 2 → w_derivative_89 K3 K x1 x2 x3 x4 x6 0 r1 (s1 - s0) s2 R1) ∧ (x3 = 2 → w_derivative_89 K3 K x1 x2 x3 x4 x6 1 r1 (s1 - s0) s2 R1))
set_option maxHeartbeats 4000000 in
set_option maxRecDepth 100000 in
theorem b_derivative_72 {G : RG} {X : Fx} {K : Int32 → RS → Prop} (hok : okG G) (hc : Cx X RX12 cX12_derivative 7) (hr : Cr G 3 (some .boolean) K X) (K3 : Int32 → Int32 → Int32 → Int32 → RS → Prop) (h3 : ∀ (x1 x2 x3 x4 : Int32) (R : RS), K3 x1 x2 x3 x4 R → MR G X 7 R 3 [(0, .ref G.2.2.1), (1, .int x1), (2, .int x2), (3, .int x3), (4, .int x4)] []) : ∀ (x1 x2 x3 x4 x5 x6 s0 s1 s2 : Int32) (R : RS), w_derivative_72 K3 K x1 x2 x3 x4 x5 x6 s0 s1 s2 R → MR G X 7 R 72 [(0, .ref G.2.2.1), (1, .int x1), (2, .int x2), (3, .int x3), (4, .int x4), (5, .int x5), (6, .int x6)] [.int s0, .int s1, .int s2, .ref G.2.2.1] := by
  intro x1 x2 x3 x4 x5 x6 s0 s1 s2 R hw
  unfold w_derivative_72 at hw
  refine m_isub hc dX12_derivative_72 ?_
  refine m_iload hc 5 dX12_derivative_73 rfl ?_
  refine m_iconst hc 2 dX12_derivative_75 (by decide) ?_
  refine r_callSi hc hr mt_ex lm_X12_119 (ok_ex hok hw) (Nat.le_of_ble_eq_true rfl) dX12_derivative_76 rfl (rest := [.int (s1 - s0), .int s2, .ref G.2.2.1]) rfl (Nat.le_of_ble_eq_true rfl) (fun r1 R1 hw => ?_)
  refine m_iload_n hc 3 dX12_derivative_79 rfl rfl ?_
  refine m_iconst hc 2 dX12_derivative_80 (by decide) ?_
  refine m_icmp_ne hc 88 dX12_derivative_81 rfl (fun cq => ?_) (fun cq => ?_)
  · have hw := hw.1 cq
    refine m_iconst hc 0 dX12_derivative_88 (by decide) ?_
    refine m_sub [0, 1, 2, 3, 4, 6] rfl ?_
    exact b_derivative_89 hok hc hr K3 h3 x1 x2 x3 x4 x6 0 r1 (s1 - s0) s2 R1 hw
  · have hw := hw.2 cq
    refine m_iconst hc 1 dX12_derivative_84 (by decide) ?_
    refine m_goto hc 89 dX12_derivative_85 rfl ?_
    refine m_sub [0, 1, 2, 3, 4, 6] rfl ?_
    exact b_derivative_89 hok hc hr K3 h3 x1 x2 x3 x4 x6 1 r1 (s1 - s0) s2 R1 hw
def w_derivative_55 (K3 : Int32 → Int32 → Int32 → Int32 → RS → Prop) (K : Int32 → RS → Prop) (x1 x2 x3 x4 x5 x6 s0 s1 : Int32) (R : RS) : Prop := wp_ex x5 1 R (fun r1 R1 => (¬ x3 = 1 → w_derivative_72 K3 K x1 x2 x3 x4 x5 x6 0 r1 (s1 - s0) R1) ∧ (x3 = 1 → w_derivative_72 K3 K x1 x2 x3 x4 x5 x6 1 r1 (s1 - s0) R1))
set_option maxHeartbeats 4000000 in
set_option maxRecDepth 100000 in
theorem b_derivative_55 {G : RG} {X : Fx} {K : Int32 → RS → Prop} (hok : okG G) (hc : Cx X RX12 cX12_derivative 7) (hr : Cr G 3 (some .boolean) K X) (K3 : Int32 → Int32 → Int32 → Int32 → RS → Prop) (h3 : ∀ (x1 x2 x3 x4 : Int32) (R : RS), K3 x1 x2 x3 x4 R → MR G X 7 R 3 [(0, .ref G.2.2.1), (1, .int x1), (2, .int x2), (3, .int x3), (4, .int x4)] []) : ∀ (x1 x2 x3 x4 x5 x6 s0 s1 : Int32) (R : RS), w_derivative_55 K3 K x1 x2 x3 x4 x5 x6 s0 s1 R → MR G X 7 R 55 [(0, .ref G.2.2.1), (1, .int x1), (2, .int x2), (3, .int x3), (4, .int x4), (5, .int x5), (6, .int x6)] [.int s0, .int s1, .ref G.2.2.1] := by
  intro x1 x2 x3 x4 x5 x6 s0 s1 R hw
  unfold w_derivative_55 at hw
  refine m_isub hc dX12_derivative_55 ?_
  refine m_iload hc 5 dX12_derivative_56 rfl ?_
  refine m_iconst hc 1 dX12_derivative_58 (by decide) ?_
  refine r_callSi hc hr mt_ex lm_X12_119 (ok_ex hok hw) (Nat.le_of_ble_eq_true rfl) dX12_derivative_59 rfl (rest := [.int (s1 - s0), .ref G.2.2.1]) rfl (Nat.le_of_ble_eq_true rfl) (fun r1 R1 hw => ?_)
  refine m_iload_n hc 3 dX12_derivative_62 rfl rfl ?_
  refine m_iconst hc 1 dX12_derivative_63 (by decide) ?_
  refine m_icmp_ne hc 71 dX12_derivative_64 rfl (fun cq => ?_) (fun cq => ?_)
  · have hw := hw.1 cq
    refine m_iconst hc 0 dX12_derivative_71 (by decide) ?_
    exact b_derivative_72 hok hc hr K3 h3 x1 x2 x3 x4 x5 x6 0 r1 (s1 - s0) R1 hw
  · have hw := hw.2 cq
    refine m_iconst hc 1 dX12_derivative_67 (by decide) ?_
    refine m_goto hc 72 dX12_derivative_68 rfl ?_
    exact b_derivative_72 hok hc hr K3 h3 x1 x2 x3 x4 x5 x6 1 r1 (s1 - s0) R1 hw
def wb_derivative_3 (K3 : Int32 → Int32 → Int32 → Int32 → RS → Prop) (K : Int32 → RS → Prop) (x1 x2 x3 x4 : Int32) (R : RS) : Prop := vp_in x2 56 ∧ ((R 2 (Int32.toNatClampNeg x2)) ≤ x4 → wp_gathered x1 R (fun r1 R1 => (r1 = 0 ∨ r1 = 1) ∧ K r1 R1)) ∧ (¬ ((R 2 (Int32.toNatClampNeg x2)) ≤ x4) → wp_keyAt x2 x4 R (fun r2 R2 => wp_ex r2 x3 R2 (fun r3 R3 => (¬ r3 = 0 → wp_ex r2 0 R3 (fun r4 R4 => (¬ x3 = 0 → w_derivative_55 K3 K x1 x2 x3 x4 r2 r3 0 r4 R4) ∧ (x3 = 0 → w_derivative_55 K3 K x1 x2 x3 x4 r2 r3 1 r4 R4))) ∧ (r3 = 0 → K3 x1 x2 x3 (x4 + 1) R3))))
def wl_derivative_3 (K : Int32 → RS → Prop) : Nat → Int32 → Int32 → Int32 → Int32 → RS → Prop
  | 0 => fun _ _ _ _ _ => False
  | nn + 1 => wb_derivative_3 (wl_derivative_3 K nn) K
set_option maxHeartbeats 4000000 in
set_option maxRecDepth 100000 in
theorem l_derivative_3 {G : RG} {X : Fx} {K : Int32 → RS → Prop} (hok : okG G) (hc : Cx X RX12 cX12_derivative 7) (hr : Cr G 3 (some .boolean) K X) : ∀ (nn : Nat) (x1 x2 x3 x4 : Int32) (R : RS), wl_derivative_3 K nn x1 x2 x3 x4 R → MR G X 7 R 3 [(0, .ref G.2.2.1), (1, .int x1), (2, .int x2), (3, .int x3), (4, .int x4)] [] := by
  intro nn
  induction nn with
  | zero => intro x1 x2 x3 x4 R hw; exact False.elim hw
  | succ nn ih =>
    intro x1 x2 x3 x4 R hw
    have hw : wb_derivative_3 (wl_derivative_3 K nn) K x1 x2 x3 x4 R := hw
    have h3 := ih
    generalize wl_derivative_3 K nn = K3 at hw h3
    unfold wb_derivative_3 at hw
    refine m_iload hc 4 dX12_derivative_3 rfl ?_
    refine m_aload_n hc 0 dX12_derivative_5 rfl rfl ?_
    refine r_geta hc hr 2 dX12_derivative_6 lf_X12_13 (Nat.le_of_ble_eq_true rfl) rfl ?_
    refine m_iload_n hc 2 dX12_derivative_9 rfl rfl ?_
    obtain ⟨hi, hw⟩ := hw
    refine r_iald hc hr (i := 0) (f := 2) rfl hi dX12_derivative_10 ?_
    refine m_icmp_ge hc 109 dX12_derivative_11 rfl (fun cq => ?_) (fun cq => ?_)
    · have hw := hw.1 cq
      refine m_aload_n hc 0 dX12_derivative_109 rfl rfl ?_
      refine m_iload_n hc 1 dX12_derivative_110 rfl rfl ?_
      refine r_callVi hc hr mt_gathered rfl lm_X12_160 (ok_gathered hok hw) (Nat.le_of_ble_eq_true rfl) dX12_derivative_111 rfl (rest := []) rfl (Nat.le_of_ble_eq_true rfl) (fun r1 R1 hw => ?_)
      exact r_zret hc hr dX12_derivative_114 hw.1 hw.2
    · have hw := hw.2 cq
      refine m_aload_n hc 0 dX12_derivative_14 rfl rfl ?_
      refine m_iload_n hc 2 dX12_derivative_15 rfl rfl ?_
      refine m_iload hc 4 dX12_derivative_16 rfl ?_
      refine r_callVi hc hr mt_keyAt rfl lm_X12_123 (ok_keyAt hok hw) (Nat.le_of_ble_eq_true rfl) dX12_derivative_18 rfl (rest := []) rfl (Nat.le_of_ble_eq_true rfl) (fun r2 R2 hw => ?_)
      refine m_istore hc [(5, .int r2), (0, .ref G.2.2.1), (1, .int x1), (2, .int x2), (3, .int x3), (4, .int x4)] dX12_derivative_21 (Nat.le_of_ble_eq_true rfl) rfl ?_
      refine m_iload hc 0 dX12_derivative_23 rfl ?_
      refine m_iload_n hc 4 dX12_derivative_25 rfl rfl ?_
      refine r_callSi hc hr mt_ex lm_X12_119 (ok_ex hok hw) (Nat.le_of_ble_eq_true rfl) dX12_derivative_26 rfl (rest := []) rfl (Nat.le_of_ble_eq_true rfl) (fun r3 R3 hw => ?_)
      refine m_istore hc [(6, .int r3), (5, .int r2), (0, .ref G.2.2.1), (1, .int x1), (2, .int x2), (3, .int x3), (4, .int x4)] dX12_derivative_29 (Nat.le_of_ble_eq_true rfl) rfl ?_
      refine m_iload hc 0 dX12_derivative_31 rfl ?_
      refine m_if_ne hc 39 dX12_derivative_33 rfl (fun cq => ?_) (fun cq => ?_)
      · have hw := hw.1 cq
        refine m_aload_n hc 2 dX12_derivative_39 rfl rfl ?_
        refine m_iload hc 1 dX12_derivative_40 rfl ?_
        refine m_iconst hc 0 dX12_derivative_42 (by decide) ?_
        refine r_callSi hc hr mt_ex lm_X12_119 (ok_ex hok hw) (Nat.le_of_ble_eq_true rfl) dX12_derivative_43 rfl (rest := [.ref G.2.2.1]) rfl (Nat.le_of_ble_eq_true rfl) (fun r4 R4 hw => ?_)
        refine m_iload_n hc 5 dX12_derivative_46 rfl rfl ?_
        refine m_if_ne hc 54 dX12_derivative_47 rfl (fun cq => ?_) (fun cq => ?_)
        · have hw := hw.1 cq
          refine m_iconst hc 0 dX12_derivative_54 (by decide) ?_
          refine m_sub [2, 3, 4, 5, 6, 1, 0] rfl ?_
          exact b_derivative_55 hok hc hr K3 h3 x1 x2 x3 x4 r2 r3 0 r4 R4 hw
        · have hw := hw.2 cq
          refine m_iconst hc 1 dX12_derivative_50 (by decide) ?_
          refine m_goto hc 55 dX12_derivative_51 rfl ?_
          refine m_sub [2, 3, 4, 5, 6, 1, 0] rfl ?_
          exact b_derivative_55 hok hc hr K3 h3 x1 x2 x3 x4 r2 r3 1 r4 R4 hw
      · have hw := hw.2 cq
        refine m_goto hc 103 dX12_derivative_36 rfl ?_
        refine m_iinc hc 6 (x4 + 1) [(4, .int (x4 + 1)), (6, .int r3), (5, .int r2), (0, .ref G.2.2.1), (1, .int x1), (2, .int x2), (3, .int x3)] dX12_derivative_103 rfl rfl (Nat.le_of_ble_eq_true rfl) rfl ?_
        refine m_goto hc 3 dX12_derivative_106 rfl ?_
        refine m_sub [3, 4, 5, 6, 0] rfl ?_
        exact h3 x1 x2 x3 (x4 + 1) R3 hw
def wp_derivative (x1 x2 x3 : Int32) (R : RS) (K : Int32 → RS → Prop) : Prop := ∃ nn : Nat, wl_derivative_3 K nn x1 x2 x3 0 R
set_option maxHeartbeats 4000000 in
set_option maxRecDepth 100000 in
theorem ok_derivative {G : RG} (hok : okG G) {x1 : Int32} {x2 : Int32} {x3 : Int32} {R : RS} {K : Int32 → RS → Prop} (hw : wp_derivative x1 x2 x3 R K) : CF 3 yX12_derivative cX12_derivative 7 (some .boolean) [.ref G.2.2.1, .int x1, .int x2, .int x3] G R K := by
  refine CF.of (by decide +kernel) hok (Nat.le_of_ble_eq_true rfl) (fun X hc hr => ?_)
  show MR G X 7 R 0 [(0, .ref G.2.2.1), (1, .int x1), (2, .int x2), (3, .int x3)] []
  unfold wp_derivative at hw
  refine m_iconst hc 0 dX12_derivative_0 (by decide) ?_
  refine m_istore hc [(4, .int 0), (0, .ref G.2.2.1), (1, .int x1), (2, .int x2), (3, .int x3)] dX12_derivative_1 (Nat.le_of_ble_eq_true rfl) rfl ?_
  refine m_sub [1, 2, 3, 4, 0] rfl ?_
  obtain ⟨nn, hw⟩ := hw
  exact l_derivative_3 hok hc hr nn x1 x2 x3 0 R hw
def wb_part_3 (K3 : Int32 → Int32 → Int32 → Int32 → RS → Prop) (K : Int32 → RS → Prop) (x1 x2 x3 x4 : Int32) (R : RS) : Prop := vp_in x2 56 ∧ ((R 2 (Int32.toNatClampNeg x2)) ≤ x4 → wp_gathered x1 R (fun r1 R1 => (r1 = 0 ∨ r1 = 1) ∧ K r1 R1)) ∧ (¬ ((R 2 (Int32.toNatClampNeg x2)) ≤ x4) → wp_keyAt x2 x4 R (fun r2 R2 => wp_degreeOfKey r2 R2 (fun r3 R3 => (¬ r3 = x3 → K3 x1 x2 x3 (x4 + 1) R3) ∧ (r3 = x3 → wp_keyAt x2 x4 R3 (fun r4 R4 => wp_ex r4 0 R4 (fun r5 R5 => wp_keyAt x2 x4 R5 (fun r6 R6 => wp_ex r6 1 R6 (fun r7 R7 => wp_keyAt x2 x4 R7 (fun r8 R8 => wp_ex r8 2 R8 (fun r9 R9 => wp_numAt x2 x4 R9 (fun r10 R10 => wp_gathers r5 r7 r9 r10 R10 (fun r11 R11 => K3 x1 x2 x3 (x4 + 1) R11))))))))))))
def wl_part_3 (K : Int32 → RS → Prop) : Nat → Int32 → Int32 → Int32 → Int32 → RS → Prop
  | 0 => fun _ _ _ _ _ => False
  | nn + 1 => wb_part_3 (wl_part_3 K nn) K
set_option maxHeartbeats 4000000 in
set_option maxRecDepth 100000 in
theorem l_part_3 {G : RG} {X : Fx} {K : Int32 → RS → Prop} (hok : okG G) (hc : Cx X RX12 cX12_part 5) (hr : Cr G 3 (some .boolean) K X) : ∀ (nn : Nat) (x1 x2 x3 x4 : Int32) (R : RS), wl_part_3 K nn x1 x2 x3 x4 R → MR G X 5 R 3 [(0, .ref G.2.2.1), (1, .int x1), (2, .int x2), (3, .int x3), (4, .int x4)] [] := by
  intro nn
  induction nn with
  | zero => intro x1 x2 x3 x4 R hw; exact False.elim hw
  | succ nn ih =>
    intro x1 x2 x3 x4 R hw
    have hw : wb_part_3 (wl_part_3 K nn) K x1 x2 x3 x4 R := hw
    have h3 := ih
    generalize wl_part_3 K nn = K3 at hw h3
    unfold wb_part_3 at hw
    refine m_iload hc 4 dX12_part_3 rfl ?_
    refine m_aload_n hc 0 dX12_part_5 rfl rfl ?_
    refine r_geta hc hr 2 dX12_part_6 lf_X12_13 (Nat.le_of_ble_eq_true rfl) rfl ?_
    refine m_iload_n hc 2 dX12_part_9 rfl rfl ?_
    obtain ⟨hi, hw⟩ := hw
    refine r_iald hc hr (i := 0) (f := 2) rfl hi dX12_part_10 ?_
    refine m_icmp_ge hc 78 dX12_part_11 rfl (fun cq => ?_) (fun cq => ?_)
    · have hw := hw.1 cq
      refine m_aload_n hc 0 dX12_part_78 rfl rfl ?_
      refine m_iload_n hc 1 dX12_part_79 rfl rfl ?_
      refine r_callVi hc hr mt_gathered rfl lm_X12_160 (ok_gathered hok hw) (Nat.le_of_ble_eq_true rfl) dX12_part_80 rfl (rest := []) rfl (Nat.le_of_ble_eq_true rfl) (fun r1 R1 hw => ?_)
      exact r_zret hc hr dX12_part_83 hw.1 hw.2
    · have hw := hw.2 cq
      refine m_aload_n hc 0 dX12_part_14 rfl rfl ?_
      refine m_iload_n hc 2 dX12_part_15 rfl rfl ?_
      refine m_iload hc 4 dX12_part_16 rfl ?_
      refine r_callVi hc hr mt_keyAt rfl lm_X12_123 (ok_keyAt hok hw) (Nat.le_of_ble_eq_true rfl) dX12_part_18 rfl (rest := []) rfl (Nat.le_of_ble_eq_true rfl) (fun r2 R2 hw => ?_)
      refine r_callSi hc hr mt_degreeOfKey lm_X12_129 (ok_degreeOfKey hok hw) (Nat.le_of_ble_eq_true rfl) dX12_part_21 rfl (rest := []) rfl (Nat.le_of_ble_eq_true rfl) (fun r3 R3 hw => ?_)
      refine m_iload_n hc 3 dX12_part_24 rfl rfl ?_
      refine m_icmp_ne hc 72 dX12_part_25 rfl (fun cq => ?_) (fun cq => ?_)
      · have hw := hw.1 cq
        refine m_iinc hc 4 (x4 + 1) [(4, .int (x4 + 1)), (0, .ref G.2.2.1), (1, .int x1), (2, .int x2), (3, .int x3)] dX12_part_72 rfl rfl (Nat.le_of_ble_eq_true rfl) rfl ?_
        refine m_goto hc 3 dX12_part_75 rfl ?_
        refine m_sub [1, 2, 3, 4, 0] rfl ?_
        exact h3 x1 x2 x3 (x4 + 1) R3 hw
      · have hw := hw.2 cq
        refine m_aload_n hc 0 dX12_part_28 rfl rfl ?_
        refine m_aload_n hc 0 dX12_part_29 rfl rfl ?_
        refine m_iload_n hc 2 dX12_part_30 rfl rfl ?_
        refine m_iload hc 4 dX12_part_31 rfl ?_
        refine r_callVi hc hr mt_keyAt rfl lm_X12_123 (ok_keyAt hok hw) (Nat.le_of_ble_eq_true rfl) dX12_part_33 rfl (rest := [.ref G.2.2.1]) rfl (Nat.le_of_ble_eq_true rfl) (fun r4 R4 hw => ?_)
        refine m_iconst hc 0 dX12_part_36 (by decide) ?_
        refine r_callSi hc hr mt_ex lm_X12_119 (ok_ex hok hw) (Nat.le_of_ble_eq_true rfl) dX12_part_37 rfl (rest := [.ref G.2.2.1]) rfl (Nat.le_of_ble_eq_true rfl) (fun r5 R5 hw => ?_)
        refine m_aload_n hc 0 dX12_part_40 rfl rfl ?_
        refine m_iload_n hc 2 dX12_part_41 rfl rfl ?_
        refine m_iload hc 4 dX12_part_42 rfl ?_
        refine r_callVi hc hr mt_keyAt rfl lm_X12_123 (ok_keyAt hok hw) (Nat.le_of_ble_eq_true rfl) dX12_part_44 rfl (rest := [.int r5, .ref G.2.2.1]) rfl (Nat.le_of_ble_eq_true rfl) (fun r6 R6 hw => ?_)
        refine m_iconst hc 1 dX12_part_47 (by decide) ?_
        refine r_callSi hc hr mt_ex lm_X12_119 (ok_ex hok hw) (Nat.le_of_ble_eq_true rfl) dX12_part_48 rfl (rest := [.int r5, .ref G.2.2.1]) rfl (Nat.le_of_ble_eq_true rfl) (fun r7 R7 hw => ?_)
        refine m_aload_n hc 0 dX12_part_51 rfl rfl ?_
        refine m_iload_n hc 2 dX12_part_52 rfl rfl ?_
        refine m_iload hc 4 dX12_part_53 rfl ?_
        refine r_callVi hc hr mt_keyAt rfl lm_X12_123 (ok_keyAt hok hw) (Nat.le_of_ble_eq_true rfl) dX12_part_55 rfl (rest := [.int r7, .int r5, .ref G.2.2.1]) rfl (Nat.le_of_ble_eq_true rfl) (fun r8 R8 hw => ?_)
        refine m_iconst hc 2 dX12_part_58 (by decide) ?_
        refine r_callSi hc hr mt_ex lm_X12_119 (ok_ex hok hw) (Nat.le_of_ble_eq_true rfl) dX12_part_59 rfl (rest := [.int r7, .int r5, .ref G.2.2.1]) rfl (Nat.le_of_ble_eq_true rfl) (fun r9 R9 hw => ?_)
        refine m_aload_n hc 0 dX12_part_62 rfl rfl ?_
        refine m_iload_n hc 2 dX12_part_63 rfl rfl ?_
        refine m_iload hc 4 dX12_part_64 rfl ?_
        refine r_callVi hc hr mt_numAt rfl lm_X12_126 (ok_numAt hok hw) (Nat.le_of_ble_eq_true rfl) dX12_part_66 rfl (rest := [.int r9, .int r7, .int r5, .ref G.2.2.1]) rfl (Nat.le_of_ble_eq_true rfl) (fun r10 R10 hw => ?_)
        refine r_callVv hc hr mt_gathers rfl lm_X12_152 (ok_gathers hok hw) (Nat.le_of_ble_eq_true rfl) dX12_part_69 rfl (rest := []) rfl (Nat.le_of_ble_eq_true rfl) (fun r11 R11 hw => ?_)
        refine m_iinc hc 4 (x4 + 1) [(4, .int (x4 + 1)), (0, .ref G.2.2.1), (1, .int x1), (2, .int x2), (3, .int x3)] dX12_part_72 rfl rfl (Nat.le_of_ble_eq_true rfl) rfl ?_
        refine m_goto hc 3 dX12_part_75 rfl ?_
        refine m_sub [1, 2, 3, 4, 0] rfl ?_
        exact h3 x1 x2 x3 (x4 + 1) R11 hw
def wp_part (x1 x2 x3 : Int32) (R : RS) (K : Int32 → RS → Prop) : Prop := ∃ nn : Nat, wl_part_3 K nn x1 x2 x3 0 R
set_option maxHeartbeats 4000000 in
set_option maxRecDepth 100000 in
theorem ok_part {G : RG} (hok : okG G) {x1 : Int32} {x2 : Int32} {x3 : Int32} {R : RS} {K : Int32 → RS → Prop} (hw : wp_part x1 x2 x3 R K) : CF 3 yX12_part cX12_part 5 (some .boolean) [.ref G.2.2.1, .int x1, .int x2, .int x3] G R K := by
  refine CF.of (by decide +kernel) hok (Nat.le_of_ble_eq_true rfl) (fun X hc hr => ?_)
  show MR G X 5 R 0 [(0, .ref G.2.2.1), (1, .int x1), (2, .int x2), (3, .int x3)] []
  unfold wp_part at hw
  refine m_iconst hc 0 dX12_part_0 (by decide) ?_
  refine m_istore hc [(4, .int 0), (0, .ref G.2.2.1), (1, .int x1), (2, .int x2), (3, .int x3)] dX12_part_1 (Nat.le_of_ble_eq_true rfl) rfl ?_
  refine m_sub [1, 2, 3, 4, 0] rfl ?_
  obtain ⟨nn, hw⟩ := hw
  exact l_part_3 hok hc hr nn x1 x2 x3 0 R hw
def wb_reducedExponent_2 (K2 : Int32 → RS → Prop) (K : Int32 → RS → Prop) (x2 : Int32) (R : RS) : Prop := (x2 < (R 0 1) → K x2 R) ∧ (¬ (x2 < (R 0 1)) → K2 (x2 - ((R 0 1) - 1)) R)
def wl_reducedExponent_2 (K : Int32 → RS → Prop) : Nat → Int32 → RS → Prop
  | 0 => fun _ _ => False
  | nn + 1 => wb_reducedExponent_2 (wl_reducedExponent_2 K nn) K
set_option maxHeartbeats 4000000 in
set_option maxRecDepth 100000 in
theorem l_reducedExponent_2 {G : RG} {X : Fx} {K : Int32 → RS → Prop} (hok : okG G) (hc : Cx X RX12 cX12_reducedExponent 3) (hr : Cr G 0 (some .int) K X) : ∀ (nn : Nat) (x2 : Int32) (R : RS), wl_reducedExponent_2 K nn x2 R → MR G X 3 R 2 [(0, .ref G.2.2.1), (2, .int x2)] [] := by
  intro nn
  induction nn with
  | zero => intro x2 R hw; exact False.elim hw
  | succ nn ih =>
    intro x2 R hw
    have hw : wb_reducedExponent_2 (wl_reducedExponent_2 K nn) K x2 R := hw
    have h2 := ih
    generalize wl_reducedExponent_2 K nn = K2 at hw h2
    unfold wb_reducedExponent_2 at hw
    refine m_iload_n hc 1 dX12_reducedExponent_2 rfl rfl ?_
    refine m_aload_n hc 0 dX12_reducedExponent_3 rfl rfl ?_
    refine r_geti hc hr 1 dX12_reducedExponent_4 lf_X12_9 (Nat.le_of_ble_eq_true rfl) rfl ?_
    refine m_icmp_lt hc 22 dX12_reducedExponent_7 rfl (fun cq => ?_) (fun cq => ?_)
    · have hw := hw.1 cq
      refine m_iload_n hc 1 dX12_reducedExponent_22 rfl rfl ?_
      exact r_iret hc hr dX12_reducedExponent_23 hw
    · have hw := hw.2 cq
      refine m_iload_n hc 1 dX12_reducedExponent_10 rfl rfl ?_
      refine m_aload_n hc 0 dX12_reducedExponent_11 rfl rfl ?_
      refine r_geti hc hr 1 dX12_reducedExponent_12 lf_X12_9 (Nat.le_of_ble_eq_true rfl) rfl ?_
      refine m_iconst hc 1 dX12_reducedExponent_15 (by decide) ?_
      refine m_isub hc dX12_reducedExponent_16 ?_
      refine m_isub hc dX12_reducedExponent_17 ?_
      refine m_istore_n hc [(2, .int (x2 - ((R 0 1) - 1))), (0, .ref G.2.2.1)] dX12_reducedExponent_18 rfl (Nat.le_of_ble_eq_true rfl) rfl ?_
      refine m_goto hc 2 dX12_reducedExponent_19 rfl ?_
      refine m_sub [1, 0] rfl ?_
      exact h2 (x2 - ((R 0 1) - 1)) R hw
def wp_reducedExponent (x1 : Int32) (R : RS) (K : Int32 → RS → Prop) : Prop := ∃ nn : Nat, wl_reducedExponent_2 K nn x1 R
set_option maxHeartbeats 4000000 in
set_option maxRecDepth 100000 in
theorem ok_reducedExponent {G : RG} (hok : okG G) {x1 : Int32} {R : RS} {K : Int32 → RS → Prop} (hw : wp_reducedExponent x1 R K) : CF 0 yX12_reducedExponent cX12_reducedExponent 3 (some .int) [.ref G.2.2.1, .int x1] G R K := by
  refine CF.of (by decide +kernel) hok (Nat.le_of_ble_eq_true rfl) (fun X hc hr => ?_)
  show MR G X 3 R 0 [(0, .ref G.2.2.1), (1, .int x1)] []
  unfold wp_reducedExponent at hw
  refine m_iload_n hc 1 dX12_reducedExponent_0 rfl rfl ?_
  refine m_istore_n hc [(2, .int x1), (0, .ref G.2.2.1), (1, .int x1)] dX12_reducedExponent_1 rfl (Nat.le_of_ble_eq_true rfl) rfl ?_
  refine m_sub [1, 0] rfl ?_
  obtain ⟨nn, hw⟩ := hw
  exact l_reducedExponent_2 hok hc hr nn x1 R hw
def wb_reduced_2 (K2 : Int32 → Int32 → Int32 → RS → Prop) (K : Int32 → RS → Prop) (x1 x2 x3 : Int32) (R : RS) : Prop := vp_in x2 56 ∧ ((R 2 (Int32.toNatClampNeg x2)) ≤ x3 → wp_gathered x1 R (fun r1 R1 => (r1 = 0 ∨ r1 = 1) ∧ K r1 R1)) ∧ (¬ ((R 2 (Int32.toNatClampNeg x2)) ≤ x3) → wp_keyAt x2 x3 R (fun r2 R2 => wp_ex r2 0 R2 (fun r3 R3 => wp_reducedExponent r3 R3 (fun r4 R4 => wp_ex r2 1 R4 (fun r5 R5 => wp_reducedExponent r5 R5 (fun r6 R6 => wp_ex r2 2 R6 (fun r7 R7 => wp_reducedExponent r7 R7 (fun r8 R8 => wp_numAt x2 x3 R8 (fun r9 R9 => wp_gathers r4 r6 r8 r9 R9 (fun r10 R10 => K2 x1 x2 (x3 + 1) R10))))))))))
def wl_reduced_2 (K : Int32 → RS → Prop) : Nat → Int32 → Int32 → Int32 → RS → Prop
  | 0 => fun _ _ _ _ => False
  | nn + 1 => wb_reduced_2 (wl_reduced_2 K nn) K
set_option maxHeartbeats 4000000 in
set_option maxRecDepth 100000 in
theorem l_reduced_2 {G : RG} {X : Fx} {K : Int32 → RS → Prop} (hok : okG G) (hc : Cx X RX12 cX12_reduced 5) (hr : Cr G 3 (some .boolean) K X) : ∀ (nn : Nat) (x1 x2 x3 : Int32) (R : RS), wl_reduced_2 K nn x1 x2 x3 R → MR G X 5 R 2 [(0, .ref G.2.2.1), (1, .int x1), (2, .int x2), (3, .int x3)] [] := by
  intro nn
  induction nn with
  | zero => intro x1 x2 x3 R hw; exact False.elim hw
  | succ nn ih =>
    intro x1 x2 x3 R hw
    have hw : wb_reduced_2 (wl_reduced_2 K nn) K x1 x2 x3 R := hw
    have h2 := ih
    generalize wl_reduced_2 K nn = K2 at hw h2
    unfold wb_reduced_2 at hw
    refine m_iload_n hc 3 dX12_reduced_2 rfl rfl ?_
    refine m_aload_n hc 0 dX12_reduced_3 rfl rfl ?_
    refine r_geta hc hr 2 dX12_reduced_4 lf_X12_13 (Nat.le_of_ble_eq_true rfl) rfl ?_
    refine m_iload_n hc 2 dX12_reduced_7 rfl rfl ?_
    obtain ⟨hi, hw⟩ := hw
    refine r_iald hc hr (i := 0) (f := 2) rfl hi dX12_reduced_8 ?_
    refine m_icmp_ge hc 66 dX12_reduced_9 rfl (fun cq => ?_) (fun cq => ?_)
    · have hw := hw.1 cq
      refine m_aload_n hc 0 dX12_reduced_66 rfl rfl ?_
      refine m_iload_n hc 1 dX12_reduced_67 rfl rfl ?_
      refine r_callVi hc hr mt_gathered rfl lm_X12_160 (ok_gathered hok hw) (Nat.le_of_ble_eq_true rfl) dX12_reduced_68 rfl (rest := []) rfl (Nat.le_of_ble_eq_true rfl) (fun r1 R1 hw => ?_)
      exact r_zret hc hr dX12_reduced_71 hw.1 hw.2
    · have hw := hw.2 cq
      refine m_aload_n hc 0 dX12_reduced_12 rfl rfl ?_
      refine m_iload_n hc 2 dX12_reduced_13 rfl rfl ?_
      refine m_iload_n hc 3 dX12_reduced_14 rfl rfl ?_
      refine r_callVi hc hr mt_keyAt rfl lm_X12_123 (ok_keyAt hok hw) (Nat.le_of_ble_eq_true rfl) dX12_reduced_15 rfl (rest := []) rfl (Nat.le_of_ble_eq_true rfl) (fun r2 R2 hw => ?_)
      refine m_istore hc [(4, .int r2), (0, .ref G.2.2.1), (1, .int x1), (2, .int x2), (3, .int x3)] dX12_reduced_18 (Nat.le_of_ble_eq_true rfl) rfl ?_
      refine m_aload_n hc 1 dX12_reduced_20 rfl rfl ?_
      refine m_aload_n hc 1 dX12_reduced_21 rfl rfl ?_
      refine m_iload hc 0 dX12_reduced_22 rfl ?_
      refine m_iconst hc 0 dX12_reduced_24 (by decide) ?_
      refine r_callSi hc hr mt_ex lm_X12_119 (ok_ex hok hw) (Nat.le_of_ble_eq_true rfl) dX12_reduced_25 rfl (rest := [.ref G.2.2.1, .ref G.2.2.1]) rfl (Nat.le_of_ble_eq_true rfl) (fun r3 R3 hw => ?_)
      refine r_callVi hc hr mt_reducedExponent rfl lm_X12_197 (ok_reducedExponent hok hw) (Nat.le_of_ble_eq_true rfl) dX12_reduced_28 rfl (rest := [.ref G.2.2.1]) rfl (Nat.le_of_ble_eq_true rfl) (fun r4 R4 hw => ?_)
      refine m_aload_n hc 1 dX12_reduced_31 rfl rfl ?_
      refine m_iload hc 0 dX12_reduced_32 rfl ?_
      refine m_iconst hc 1 dX12_reduced_34 (by decide) ?_
      refine r_callSi hc hr mt_ex lm_X12_119 (ok_ex hok hw) (Nat.le_of_ble_eq_true rfl) dX12_reduced_35 rfl (rest := [.ref G.2.2.1, .int r4, .ref G.2.2.1]) rfl (Nat.le_of_ble_eq_true rfl) (fun r5 R5 hw => ?_)
      refine r_callVi hc hr mt_reducedExponent rfl lm_X12_197 (ok_reducedExponent hok hw) (Nat.le_of_ble_eq_true rfl) dX12_reduced_38 rfl (rest := [.int r4, .ref G.2.2.1]) rfl (Nat.le_of_ble_eq_true rfl) (fun r6 R6 hw => ?_)
      refine m_aload_n hc 1 dX12_reduced_41 rfl rfl ?_
      refine m_iload hc 0 dX12_reduced_42 rfl ?_
      refine m_iconst hc 2 dX12_reduced_44 (by decide) ?_
      refine r_callSi hc hr mt_ex lm_X12_119 (ok_ex hok hw) (Nat.le_of_ble_eq_true rfl) dX12_reduced_45 rfl (rest := [.ref G.2.2.1, .int r6, .int r4, .ref G.2.2.1]) rfl (Nat.le_of_ble_eq_true rfl) (fun r7 R7 hw => ?_)
      refine r_callVi hc hr mt_reducedExponent rfl lm_X12_197 (ok_reducedExponent hok hw) (Nat.le_of_ble_eq_true rfl) dX12_reduced_48 rfl (rest := [.int r6, .int r4, .ref G.2.2.1]) rfl (Nat.le_of_ble_eq_true rfl) (fun r8 R8 hw => ?_)
      refine m_aload_n hc 1 dX12_reduced_51 rfl rfl ?_
      refine m_iload_n hc 3 dX12_reduced_52 rfl rfl ?_
      refine m_iload_n hc 4 dX12_reduced_53 rfl rfl ?_
      refine r_callVi hc hr mt_numAt rfl lm_X12_126 (ok_numAt hok hw) (Nat.le_of_ble_eq_true rfl) dX12_reduced_54 rfl (rest := [.int r8, .int r6, .int r4, .ref G.2.2.1]) rfl (Nat.le_of_ble_eq_true rfl) (fun r9 R9 hw => ?_)
      refine r_callVv hc hr mt_gathers rfl lm_X12_152 (ok_gathers hok hw) (Nat.le_of_ble_eq_true rfl) dX12_reduced_57 rfl (rest := []) rfl (Nat.le_of_ble_eq_true rfl) (fun r10 R10 hw => ?_)
      refine m_iinc hc 4 (x3 + 1) [(3, .int (x3 + 1)), (4, .int r2), (0, .ref G.2.2.1), (1, .int x1), (2, .int x2)] dX12_reduced_60 rfl rfl (Nat.le_of_ble_eq_true rfl) rfl ?_
      refine m_goto hc 2 dX12_reduced_63 rfl ?_
      refine m_sub [2, 3, 4, 0] rfl ?_
      exact h2 x1 x2 (x3 + 1) R10 hw
def wp_reduced (x1 x2 : Int32) (R : RS) (K : Int32 → RS → Prop) : Prop := ∃ nn : Nat, wl_reduced_2 K nn x1 x2 0 R
set_option maxHeartbeats 4000000 in
set_option maxRecDepth 100000 in
theorem ok_reduced {G : RG} (hok : okG G) {x1 : Int32} {x2 : Int32} {R : RS} {K : Int32 → RS → Prop} (hw : wp_reduced x1 x2 R K) : CF 3 yX12_reduced cX12_reduced 5 (some .boolean) [.ref G.2.2.1, .int x1, .int x2] G R K := by
  refine CF.of (by decide +kernel) hok (Nat.le_of_ble_eq_true rfl) (fun X hc hr => ?_)
  show MR G X 5 R 0 [(0, .ref G.2.2.1), (1, .int x1), (2, .int x2)] []
  unfold wp_reduced at hw
  refine m_iconst hc 0 dX12_reduced_0 (by decide) ?_
  refine m_istore_n hc [(3, .int 0), (0, .ref G.2.2.1), (1, .int x1), (2, .int x2)] dX12_reduced_1 rfl (Nat.le_of_ble_eq_true rfl) rfl ?_
  refine m_sub [1, 2, 3, 0] rfl ?_
  obtain ⟨nn, hw⟩ := hw
  exact l_reduced_2 hok hc hr nn x1 x2 0 R hw
def wp_becomes (x0 x1 : Int32) (R : RS) (K : Int32 → RS → Prop) : Prop := ((Int32.toInt x1 < 0 ∨ 4 < Int32.toInt x1) → K (2 - x0) R) ∧ (x1 = 0 → K x0 R) ∧ (x1 = 1 → (¬ x0 = 0 → K (3 - x0) R) ∧ (x0 = 0 → K 0 R)) ∧ (x1 = 2 → (¬ x0 = 2 → K (1 - x0) R) ∧ (x0 = 2 → K 2 R)) ∧ (x1 = 3 → K (iRem (x0 + 1) 3) R) ∧ (x1 = 4 → K (iRem (x0 + 2) 3) R)
set_option maxHeartbeats 4000000 in
set_option maxRecDepth 100000 in
theorem ok_becomes {G : RG} (hok : okG G) {x0 : Int32} {x1 : Int32} {R : RS} {K : Int32 → RS → Prop} (hw : wp_becomes x0 x1 R K) : CF 0 yX12_becomes cX12_becomes 2 (some .int) [.int x0, .int x1] G R K := by
  refine CF.of (by decide +kernel) hok (Nat.le_of_ble_eq_true rfl) (fun X hc hr => ?_)
  show MR G X 2 R 0 [(0, .int x0), (1, .int x1)] []
  unfold wp_becomes at hw
  refine m_iload_n hc 1 dX12_becomes_0 rfl rfl ?_
  rcases sw_in 4 (x := x1) (Nat.le_of_ble_eq_true rfl) with cq | ⟨cn, cl, cq⟩
  · have hw := hw.1 cq
    refine m_tout hc 75 dX12_becomes_1 cq rfl ?_
    refine m_iconst hc 2 dX12_becomes_75 (by decide) ?_
    refine m_iload_n hc 0 dX12_becomes_76 rfl rfl ?_
    refine m_isub hc dX12_becomes_77 ?_
    exact r_iret hc hr dX12_becomes_78 hw
  · have hw := hw.2
    match cn, cl, cq with
    | 0, _, cq =>
      have cq : x1 = 0 := cq
      have hw := hw.1 cq
      refine m_tin hc (off := 35) 36 dX12_becomes_1 (by rw [cq]; decide) (by rw [cq]; decide) (by rw [cq]; rfl) rfl ?_
      refine m_iload_n hc 0 dX12_becomes_36 rfl rfl ?_
      exact r_iret hc hr dX12_becomes_37 hw
    | 1, _, cq =>
      have cq : x1 = 1 := cq
      have hw := hw.2.1 cq
      refine m_tin hc (off := 37) 38 dX12_becomes_1 (by rw [cq]; decide) (by rw [cq]; decide) (by rw [cq]; rfl) rfl ?_
      refine m_iload_n hc 0 dX12_becomes_38 rfl rfl ?_
      refine m_if_ne hc 46 dX12_becomes_39 rfl (fun cq => ?_) (fun cq => ?_)
      · have hw := hw.1 cq
        refine m_iconst hc 3 dX12_becomes_46 (by decide) ?_
        refine m_iload_n hc 0 dX12_becomes_47 rfl rfl ?_
        refine m_isub hc dX12_becomes_48 ?_
        exact r_iret hc hr dX12_becomes_49 hw
      · have hw := hw.2 cq
        refine m_iconst hc 0 dX12_becomes_42 (by decide) ?_
        refine m_goto hc 49 dX12_becomes_43 rfl ?_
        exact r_iret hc hr dX12_becomes_49 hw
    | 2, _, cq =>
      have cq : x1 = 2 := cq
      have hw := hw.2.2.1 cq
      refine m_tin hc (off := 49) 50 dX12_becomes_1 (by rw [cq]; decide) (by rw [cq]; decide) (by rw [cq]; rfl) rfl ?_
      refine m_iload_n hc 0 dX12_becomes_50 rfl rfl ?_
      refine m_iconst hc 2 dX12_becomes_51 (by decide) ?_
      refine m_icmp_ne hc 59 dX12_becomes_52 rfl (fun cq => ?_) (fun cq => ?_)
      · have hw := hw.1 cq
        refine m_iconst hc 1 dX12_becomes_59 (by decide) ?_
        refine m_iload_n hc 0 dX12_becomes_60 rfl rfl ?_
        refine m_isub hc dX12_becomes_61 ?_
        exact r_iret hc hr dX12_becomes_62 hw
      · have hw := hw.2 cq
        refine m_iconst hc 2 dX12_becomes_55 (by decide) ?_
        refine m_goto hc 62 dX12_becomes_56 rfl ?_
        exact r_iret hc hr dX12_becomes_62 hw
    | 3, _, cq =>
      have cq : x1 = 3 := cq
      have hw := hw.2.2.2.1 cq
      refine m_tin hc (off := 62) 63 dX12_becomes_1 (by rw [cq]; decide) (by rw [cq]; decide) (by rw [cq]; rfl) rfl ?_
      refine m_iload_n hc 0 dX12_becomes_63 rfl rfl ?_
      refine m_iconst hc 1 dX12_becomes_64 (by decide) ?_
      refine m_iadd hc dX12_becomes_65 ?_
      refine m_iconst hc 3 dX12_becomes_66 (by decide) ?_
      refine m_irem hc dX12_becomes_67 (by decide) ?_
      exact r_iret hc hr dX12_becomes_68 hw
    | 4, _, cq =>
      have cq : x1 = 4 := cq
      have hw := hw.2.2.2.2 cq
      refine m_tin hc (off := 68) 69 dX12_becomes_1 (by rw [cq]; decide) (by rw [cq]; decide) (by rw [cq]; rfl) rfl ?_
      refine m_iload_n hc 0 dX12_becomes_69 rfl rfl ?_
      refine m_iconst hc 2 dX12_becomes_70 (by decide) ?_
      refine m_iadd hc dX12_becomes_71 ?_
      refine m_iconst hc 3 dX12_becomes_72 (by decide) ?_
      refine m_irem hc dX12_becomes_73 (by decide) ?_
      exact r_iret hc hr dX12_becomes_74 hw
    | nn + 5, cl, _ => exact absurd cl (by omega)
def wb_turned_17 (K3 : Int32 → Int32 → Int32 → Int32 → RS → Prop) (K17 : Int32 → Int32 → Int32 → Int32 → Int32 → RS → Prop) (K : Int32 → RS → Prop) (x1 x2 x3 x4 x5 : Int32) (R : RS) : Prop := (3 ≤ x5 → vp_in 0 3 ∧ vp_in 1 3 ∧ vp_in 2 3 ∧ wp_numAt x2 x4 R (fun r1 R1 => wp_gathers (R 14 (Int32.toNatClampNeg 0)) (R 14 (Int32.toNatClampNeg 1)) (R 14 (Int32.toNatClampNeg 2)) r1 R1 (fun r2 R2 => K3 x1 x2 x3 (x4 + 1) R2))) ∧ (¬ (3 ≤ x5) → wp_becomes x5 x3 R (fun r3 R3 => wp_keyAt x2 x4 R3 (fun r4 R4 => wp_ex r4 x5 R4 (fun r5 R5 => vp_in r3 3 ∧ K17 x1 x2 x3 x4 (x5 + 1) (up R5 14 (Int32.toNatClampNeg r3) r5)))))
def wl_turned_17 (K3 : Int32 → Int32 → Int32 → Int32 → RS → Prop) (K : Int32 → RS → Prop) : Nat → Int32 → Int32 → Int32 → Int32 → Int32 → RS → Prop
  | 0 => fun _ _ _ _ _ _ => False
  | nn + 1 => wb_turned_17 K3 (wl_turned_17 K3 K nn) K
set_option maxHeartbeats 4000000 in
set_option maxRecDepth 100000 in
theorem l_turned_17 {G : RG} {X : Fx} {K : Int32 → RS → Prop} (hok : okG G) (hc : Cx X RX12 cX12_turned 6) (hr : Cr G 3 (some .boolean) K X) (K3 : Int32 → Int32 → Int32 → Int32 → RS → Prop) (h3 : ∀ (x1 x2 x3 x4 : Int32) (R : RS), K3 x1 x2 x3 x4 R → MR G X 6 R 3 [(0, .ref G.2.2.1), (1, .int x1), (2, .int x2), (3, .int x3), (4, .int x4)] []) : ∀ (nn : Nat) (x1 x2 x3 x4 x5 : Int32) (R : RS), wl_turned_17 K3 K nn x1 x2 x3 x4 x5 R → MR G X 6 R 17 [(0, .ref G.2.2.1), (1, .int x1), (2, .int x2), (3, .int x3), (4, .int x4), (5, .int x5)] [] := by
  intro nn
  induction nn with
  | zero => intro x1 x2 x3 x4 x5 R hw; exact False.elim hw
  | succ nn ih =>
    intro x1 x2 x3 x4 x5 R hw
    have hw : wb_turned_17 K3 (wl_turned_17 K3 K nn) K x1 x2 x3 x4 x5 R := hw
    have h17 := ih
    generalize wl_turned_17 K3 K nn = K17 at hw h17
    unfold wb_turned_17 at hw
    refine m_iload hc 5 dX12_turned_17 rfl ?_
    refine m_iconst hc 3 dX12_turned_19 (by decide) ?_
    refine m_icmp_ge hc 52 dX12_turned_20 rfl (fun cq => ?_) (fun cq => ?_)
    · have hw := hw.1 cq
      refine m_aload_n hc 0 dX12_turned_52 rfl rfl ?_
      refine m_aload_n hc 0 dX12_turned_53 rfl rfl ?_
      refine r_geta hc hr 14 dX12_turned_54 lf_X12_46 (Nat.le_of_ble_eq_true rfl) rfl ?_
      refine m_iconst hc 0 dX12_turned_57 (by decide) ?_
      obtain ⟨hi, hw⟩ := hw
      refine r_iald hc hr (i := 10) (f := 14) rfl hi dX12_turned_58 ?_
      refine m_aload_n hc 0 dX12_turned_59 rfl rfl ?_
      refine r_geta hc hr 14 dX12_turned_60 lf_X12_46 (Nat.le_of_ble_eq_true rfl) rfl ?_
      refine m_iconst hc 1 dX12_turned_63 (by decide) ?_
      obtain ⟨hi, hw⟩ := hw
      refine r_iald hc hr (i := 10) (f := 14) rfl hi dX12_turned_64 ?_
      refine m_aload_n hc 0 dX12_turned_65 rfl rfl ?_
      refine r_geta hc hr 14 dX12_turned_66 lf_X12_46 (Nat.le_of_ble_eq_true rfl) rfl ?_
      refine m_iconst hc 2 dX12_turned_69 (by decide) ?_
      obtain ⟨hi, hw⟩ := hw
      refine r_iald hc hr (i := 10) (f := 14) rfl hi dX12_turned_70 ?_
      refine m_aload_n hc 0 dX12_turned_71 rfl rfl ?_
      refine m_iload_n hc 2 dX12_turned_72 rfl rfl ?_
      refine m_iload hc 4 dX12_turned_73 rfl ?_
      refine r_callVi hc hr mt_numAt rfl lm_X12_126 (ok_numAt hok hw) (Nat.le_of_ble_eq_true rfl) dX12_turned_75 rfl (rest := [.int (R 14 (Int32.toNatClampNeg 2)), .int (R 14 (Int32.toNatClampNeg 1)), .int (R 14 (Int32.toNatClampNeg 0)), .ref G.2.2.1]) rfl (Nat.le_of_ble_eq_true rfl) (fun r1 R1 hw => ?_)
      refine r_callVv hc hr mt_gathers rfl lm_X12_152 (ok_gathers hok hw) (Nat.le_of_ble_eq_true rfl) dX12_turned_78 rfl (rest := []) rfl (Nat.le_of_ble_eq_true rfl) (fun r2 R2 hw => ?_)
      refine m_iinc hc 4 (x4 + 1) [(4, .int (x4 + 1)), (0, .ref G.2.2.1), (1, .int x1), (2, .int x2), (3, .int x3), (5, .int x5)] dX12_turned_81 rfl rfl (Nat.le_of_ble_eq_true rfl) rfl ?_
      refine m_goto hc 3 dX12_turned_84 rfl ?_
      refine m_sub [1, 2, 3, 4, 0] rfl ?_
      exact h3 x1 x2 x3 (x4 + 1) R2 hw
    · have hw := hw.2 cq
      refine m_aload_n hc 0 dX12_turned_23 rfl rfl ?_
      refine r_geta hc hr 14 dX12_turned_24 lf_X12_46 (Nat.le_of_ble_eq_true rfl) rfl ?_
      refine m_iload hc 5 dX12_turned_27 rfl ?_
      refine m_iload_n hc 3 dX12_turned_29 rfl rfl ?_
      refine r_callSi hc hr mt_becomes lm_X12_200 (ok_becomes hok hw) (Nat.le_of_ble_eq_true rfl) dX12_turned_30 rfl (rest := [.ref (G.2.2.2 14)]) rfl (Nat.le_of_ble_eq_true rfl) (fun r3 R3 hw => ?_)
      refine m_aload_n hc 0 dX12_turned_33 rfl rfl ?_
      refine m_iload_n hc 2 dX12_turned_34 rfl rfl ?_
      refine m_iload hc 4 dX12_turned_35 rfl ?_
      refine r_callVi hc hr mt_keyAt rfl lm_X12_123 (ok_keyAt hok hw) (Nat.le_of_ble_eq_true rfl) dX12_turned_37 rfl (rest := [.int r3, .ref (G.2.2.2 14)]) rfl (Nat.le_of_ble_eq_true rfl) (fun r4 R4 hw => ?_)
      refine m_iload hc 5 dX12_turned_40 rfl ?_
      refine r_callSi hc hr mt_ex lm_X12_119 (ok_ex hok hw) (Nat.le_of_ble_eq_true rfl) dX12_turned_42 rfl (rest := [.int r3, .ref (G.2.2.2 14)]) rfl (Nat.le_of_ble_eq_true rfl) (fun r5 R5 hw => ?_)
      obtain ⟨hi, hw⟩ := hw
      refine r_iast hc hr (i := 10) (f := 14) rfl hi dX12_turned_45 ?_
      refine m_iinc hc 5 (x5 + 1) [(5, .int (x5 + 1)), (0, .ref G.2.2.1), (1, .int x1), (2, .int x2), (3, .int x3), (4, .int x4)] dX12_turned_46 rfl rfl (Nat.le_of_ble_eq_true rfl) rfl ?_
      refine m_goto hc 17 dX12_turned_49 rfl ?_
      refine m_sub [1, 2, 3, 4, 5, 0] rfl ?_
      exact h17 x1 x2 x3 x4 (x5 + 1) (up R5 14 (Int32.toNatClampNeg r3) r5) hw
def wb_turned_3 (K3 : Int32 → Int32 → Int32 → Int32 → RS → Prop) (K : Int32 → RS → Prop) (x1 x2 x3 x4 : Int32) (R : RS) : Prop := vp_in x2 56 ∧ ((R 2 (Int32.toNatClampNeg x2)) ≤ x4 → wp_gathered x1 R (fun r1 R1 => (r1 = 0 ∨ r1 = 1) ∧ K r1 R1)) ∧ (¬ ((R 2 (Int32.toNatClampNeg x2)) ≤ x4) → ∃ nn : Nat, wl_turned_17 K3 K nn x1 x2 x3 x4 0 R)
def wl_turned_3 (K : Int32 → RS → Prop) : Nat → Int32 → Int32 → Int32 → Int32 → RS → Prop
  | 0 => fun _ _ _ _ _ => False
  | nn + 1 => wb_turned_3 (wl_turned_3 K nn) K
set_option maxHeartbeats 4000000 in
set_option maxRecDepth 100000 in
theorem l_turned_3 {G : RG} {X : Fx} {K : Int32 → RS → Prop} (hok : okG G) (hc : Cx X RX12 cX12_turned 6) (hr : Cr G 3 (some .boolean) K X) : ∀ (nn : Nat) (x1 x2 x3 x4 : Int32) (R : RS), wl_turned_3 K nn x1 x2 x3 x4 R → MR G X 6 R 3 [(0, .ref G.2.2.1), (1, .int x1), (2, .int x2), (3, .int x3), (4, .int x4)] [] := by
  intro nn
  induction nn with
  | zero => intro x1 x2 x3 x4 R hw; exact False.elim hw
  | succ nn ih =>
    intro x1 x2 x3 x4 R hw
    have hw : wb_turned_3 (wl_turned_3 K nn) K x1 x2 x3 x4 R := hw
    have h3 := ih
    generalize wl_turned_3 K nn = K3 at hw h3
    unfold wb_turned_3 at hw
    refine m_iload hc 4 dX12_turned_3 rfl ?_
    refine m_aload_n hc 0 dX12_turned_5 rfl rfl ?_
    refine r_geta hc hr 2 dX12_turned_6 lf_X12_13 (Nat.le_of_ble_eq_true rfl) rfl ?_
    refine m_iload_n hc 2 dX12_turned_9 rfl rfl ?_
    obtain ⟨hi, hw⟩ := hw
    refine r_iald hc hr (i := 0) (f := 2) rfl hi dX12_turned_10 ?_
    refine m_icmp_ge hc 87 dX12_turned_11 rfl (fun cq => ?_) (fun cq => ?_)
    · have hw := hw.1 cq
      refine m_aload_n hc 0 dX12_turned_87 rfl rfl ?_
      refine m_iload_n hc 1 dX12_turned_88 rfl rfl ?_
      refine r_callVi hc hr mt_gathered rfl lm_X12_160 (ok_gathered hok hw) (Nat.le_of_ble_eq_true rfl) dX12_turned_89 rfl (rest := []) rfl (Nat.le_of_ble_eq_true rfl) (fun r1 R1 hw => ?_)
      exact r_zret hc hr dX12_turned_92 hw.1 hw.2
    · have hw := hw.2 cq
      refine m_iconst hc 0 dX12_turned_14 (by decide) ?_
      refine m_istore hc [(5, .int 0), (0, .ref G.2.2.1), (1, .int x1), (2, .int x2), (3, .int x3), (4, .int x4)] dX12_turned_15 (Nat.le_of_ble_eq_true rfl) rfl ?_
      refine m_sub [1, 2, 3, 4, 5, 0] rfl ?_
      obtain ⟨nn, hw⟩ := hw
      exact l_turned_17 hok hc hr K3 h3 nn x1 x2 x3 x4 0 R hw
def wp_turned (x1 x2 x3 : Int32) (R : RS) (K : Int32 → RS → Prop) : Prop := ∃ nn : Nat, wl_turned_3 K nn x1 x2 x3 0 R
set_option maxHeartbeats 4000000 in
set_option maxRecDepth 100000 in
theorem ok_turned {G : RG} (hok : okG G) {x1 : Int32} {x2 : Int32} {x3 : Int32} {R : RS} {K : Int32 → RS → Prop} (hw : wp_turned x1 x2 x3 R K) : CF 3 yX12_turned cX12_turned 6 (some .boolean) [.ref G.2.2.1, .int x1, .int x2, .int x3] G R K := by
  refine CF.of (by decide +kernel) hok (Nat.le_of_ble_eq_true rfl) (fun X hc hr => ?_)
  show MR G X 6 R 0 [(0, .ref G.2.2.1), (1, .int x1), (2, .int x2), (3, .int x3)] []
  unfold wp_turned at hw
  refine m_iconst hc 0 dX12_turned_0 (by decide) ?_
  refine m_istore hc [(4, .int 0), (0, .ref G.2.2.1), (1, .int x1), (2, .int x2), (3, .int x3)] dX12_turned_1 (Nat.le_of_ble_eq_true rfl) rfl ?_
  refine m_sub [1, 2, 3, 4, 0] rfl ?_
  obtain ⟨nn, hw⟩ := hw
  exact l_turned_3 hok hc hr nn x1 x2 x3 0 R hw
def wp_isInX (x1 : Int32) (R : RS) (K : Int32 → RS → Prop) : Prop := wp_degreeIn x1 1 R (fun r1 R1 => (1 ≤ r1 → K 0 R1) ∧ (¬ (1 ≤ r1) → wp_degreeIn x1 2 R1 (fun r2 R2 => (1 ≤ r2 → K 0 R2) ∧ (¬ (1 ≤ r2) → K 1 R2))))
set_option maxHeartbeats 4000000 in
set_option maxRecDepth 100000 in
theorem ok_isInX {G : RG} (hok : okG G) {x1 : Int32} {R : RS} {K : Int32 → RS → Prop} (hw : wp_isInX x1 R K) : CF 2 yX12_isInX cX12_isInX 2 (some .boolean) [.ref G.2.2.1, .int x1] G R K := by
  refine CF.of (by decide +kernel) hok (Nat.le_of_ble_eq_true rfl) (fun X hc hr => ?_)
  show MR G X 2 R 0 [(0, .ref G.2.2.1), (1, .int x1)] []
  unfold wp_isInX at hw
  refine m_aload_n hc 0 dX12_isInX_0 rfl rfl ?_
  refine m_iload_n hc 1 dX12_isInX_1 rfl rfl ?_
  refine m_iconst hc 1 dX12_isInX_2 (by decide) ?_
  refine r_callVi hc hr mt_degreeIn rfl lm_X12_203 (ok_degreeIn hok hw) (Nat.le_of_ble_eq_true rfl) dX12_isInX_3 rfl (rest := []) rfl (Nat.le_of_ble_eq_true rfl) (fun r1 R1 hw => ?_)
  refine m_iconst hc 1 dX12_isInX_6 (by decide) ?_
  refine m_icmp_ge hc 24 dX12_isInX_7 rfl (fun cq => ?_) (fun cq => ?_)
  · have hw := hw.1 cq
    refine m_iconst hc 0 dX12_isInX_24 (by decide) ?_
    exact r_zret hc hr dX12_isInX_25 (by decide) hw
  · have hw := hw.2 cq
    refine m_aload_n hc 0 dX12_isInX_10 rfl rfl ?_
    refine m_iload_n hc 1 dX12_isInX_11 rfl rfl ?_
    refine m_iconst hc 2 dX12_isInX_12 (by decide) ?_
    refine r_callVi hc hr mt_degreeIn rfl lm_X12_203 (ok_degreeIn hok hw) (Nat.le_of_ble_eq_true rfl) dX12_isInX_13 rfl (rest := []) rfl (Nat.le_of_ble_eq_true rfl) (fun r2 R2 hw => ?_)
    refine m_iconst hc 1 dX12_isInX_16 (by decide) ?_
    refine m_icmp_ge hc 24 dX12_isInX_17 rfl (fun cq => ?_) (fun cq => ?_)
    · have hw := hw.1 cq
      refine m_iconst hc 0 dX12_isInX_24 (by decide) ?_
      exact r_zret hc hr dX12_isInX_25 (by decide) hw
    · have hw := hw.2 cq
      refine m_iconst hc 1 dX12_isInX_20 (by decide) ?_
      refine m_goto hc 25 dX12_isInX_21 rfl ?_
      exact r_zret hc hr dX12_isInX_25 (by decide) hw
def wb_spread_20 (K20 : Int32 → Nat → Int32 → RS → Prop) (K : Int32 → RS → Prop) (x1 : Int32) (x2 : Nat) (x3 : Int32) (R : RS) : Prop := vp_in x1 56 ∧ ((R 2 (Int32.toNatClampNeg x1)) ≤ x3 → K 0 R) ∧ (¬ ((R 2 (Int32.toNatClampNeg x1)) ≤ x3) → wp_keyAt x1 x3 R (fun r1 R1 => wp_ex r1 0 R1 (fun r2 R2 => wp_numAt x1 x3 R2 (fun r3 R3 => rP x2 ∧ vp_in r2 (rlen x2) ∧ K20 x1 x2 (x3 + 1) (up R3 x2 (Int32.toNatClampNeg r2) r3)))))
def wl_spread_20 (K : Int32 → RS → Prop) : Nat → Int32 → Nat → Int32 → RS → Prop
  | 0 => fun _ _ _ _ => False
  | nn + 1 => wb_spread_20 (wl_spread_20 K nn) K
set_option maxHeartbeats 4000000 in
set_option maxRecDepth 100000 in
theorem l_spread_20 {G : RG} {X : Fx} {K : Int32 → RS → Prop} (hok : okG G) (hc : Cx X RX12 cX12_spread 4) (hr : Cr G 1 none K X) : ∀ (nn : Nat) (x1 : Int32) (x2 : Nat) (x3 : Int32) (R : RS), wl_spread_20 K nn x1 x2 x3 R → MR G X 4 R 20 [(0, .ref G.2.2.1), (1, .int x1), (2, .ref (G.2.2.2 x2)), (3, .int x3)] [] := by
  intro nn
  induction nn with
  | zero => intro x1 x2 x3 R hw; exact False.elim hw
  | succ nn ih =>
    intro x1 x2 x3 R hw
    have hw : wb_spread_20 (wl_spread_20 K nn) K x1 x2 x3 R := hw
    have h20 := ih
    generalize wl_spread_20 K nn = K20 at hw h20
    unfold wb_spread_20 at hw
    refine m_iload_n hc 3 dX12_spread_20 rfl rfl ?_
    refine m_aload_n hc 0 dX12_spread_21 rfl rfl ?_
    refine r_geta hc hr 2 dX12_spread_22 lf_X12_13 (Nat.le_of_ble_eq_true rfl) rfl ?_
    refine m_iload_n hc 1 dX12_spread_25 rfl rfl ?_
    obtain ⟨hi, hw⟩ := hw
    refine r_iald hc hr (i := 0) (f := 2) rfl hi dX12_spread_26 ?_
    refine m_icmp_ge hc 54 dX12_spread_27 rfl (fun cq => ?_) (fun cq => ?_)
    · have hw := hw.1 cq
      exact r_vret hc hr dX12_spread_54 hw
    · have hw := hw.2 cq
      refine m_aload_n hc 2 dX12_spread_30 rfl rfl ?_
      refine m_aload_n hc 0 dX12_spread_31 rfl rfl ?_
      refine m_iload_n hc 1 dX12_spread_32 rfl rfl ?_
      refine m_iload_n hc 3 dX12_spread_33 rfl rfl ?_
      refine r_callVi hc hr mt_keyAt rfl lm_X12_123 (ok_keyAt hok hw) (Nat.le_of_ble_eq_true rfl) dX12_spread_34 rfl (rest := [.ref (G.2.2.2 x2)]) rfl (Nat.le_of_ble_eq_true rfl) (fun r1 R1 hw => ?_)
      refine m_iconst hc 0 dX12_spread_37 (by decide) ?_
      refine r_callSi hc hr mt_ex lm_X12_119 (ok_ex hok hw) (Nat.le_of_ble_eq_true rfl) dX12_spread_38 rfl (rest := [.ref (G.2.2.2 x2)]) rfl (Nat.le_of_ble_eq_true rfl) (fun r2 R2 hw => ?_)
      refine m_aload_n hc 0 dX12_spread_41 rfl rfl ?_
      refine m_iload_n hc 1 dX12_spread_42 rfl rfl ?_
      refine m_iload_n hc 3 dX12_spread_43 rfl rfl ?_
      refine r_callVi hc hr mt_numAt rfl lm_X12_126 (ok_numAt hok hw) (Nat.le_of_ble_eq_true rfl) dX12_spread_44 rfl (rest := [.int r2, .ref (G.2.2.2 x2)]) rfl (Nat.le_of_ble_eq_true rfl) (fun r3 R3 hw => ?_)
      obtain ⟨⟨ii, hii⟩, hi, hw⟩ := hw
      refine r_iast hc hr hii hi dX12_spread_47 ?_
      refine m_iinc hc 3 (x3 + 1) [(3, .int (x3 + 1)), (0, .ref G.2.2.1), (1, .int x1), (2, .ref (G.2.2.2 x2))] dX12_spread_48 rfl rfl (Nat.le_of_ble_eq_true rfl) rfl ?_
      refine m_goto hc 20 dX12_spread_51 rfl ?_
      refine m_sub [1, 2, 3, 0] rfl ?_
      exact h20 x1 x2 (x3 + 1) (up R3 x2 (Int32.toNatClampNeg r2) r3) hw
def wb_spread_2 (K2 : Int32 → Nat → Int32 → RS → Prop) (K : Int32 → RS → Prop) (x1 : Int32) (x2 : Nat) (x3 : Int32) (R : RS) : Prop := (41 ≤ x3 → ∃ nn : Nat, wl_spread_20 K nn x1 x2 0 R) ∧ (¬ (41 ≤ x3) → rP x2 ∧ vp_in x3 (rlen x2) ∧ K2 x1 x2 (x3 + 1) (up R x2 (Int32.toNatClampNeg x3) 0))
def wl_spread_2 (K : Int32 → RS → Prop) : Nat → Int32 → Nat → Int32 → RS → Prop
  | 0 => fun _ _ _ _ => False
  | nn + 1 => wb_spread_2 (wl_spread_2 K nn) K
set_option maxHeartbeats 4000000 in
set_option maxRecDepth 100000 in
theorem l_spread_2 {G : RG} {X : Fx} {K : Int32 → RS → Prop} (hok : okG G) (hc : Cx X RX12 cX12_spread 4) (hr : Cr G 1 none K X) : ∀ (nn : Nat) (x1 : Int32) (x2 : Nat) (x3 : Int32) (R : RS), wl_spread_2 K nn x1 x2 x3 R → MR G X 4 R 2 [(0, .ref G.2.2.1), (1, .int x1), (2, .ref (G.2.2.2 x2)), (3, .int x3)] [] := by
  intro nn
  induction nn with
  | zero => intro x1 x2 x3 R hw; exact False.elim hw
  | succ nn ih =>
    intro x1 x2 x3 R hw
    have hw : wb_spread_2 (wl_spread_2 K nn) K x1 x2 x3 R := hw
    have h2 := ih
    generalize wl_spread_2 K nn = K2 at hw h2
    unfold wb_spread_2 at hw
    refine m_iload_n hc 3 dX12_spread_2 rfl rfl ?_
    refine m_bipush hc 41 dX12_spread_3 (by decide) ?_
    refine m_icmp_ge hc 18 dX12_spread_5 rfl (fun cq => ?_) (fun cq => ?_)
    · have hw := hw.1 cq
      refine m_iconst hc 0 dX12_spread_18 (by decide) ?_
      refine m_istore_n hc [(3, .int 0), (0, .ref G.2.2.1), (1, .int x1), (2, .ref (G.2.2.2 x2))] dX12_spread_19 rfl (Nat.le_of_ble_eq_true rfl) rfl ?_
      refine m_sub [1, 2, 3, 0] rfl ?_
      obtain ⟨nn, hw⟩ := hw
      exact l_spread_20 hok hc hr nn x1 x2 0 R hw
    · have hw := hw.2 cq
      refine m_aload_n hc 2 dX12_spread_8 rfl rfl ?_
      refine m_iload_n hc 3 dX12_spread_9 rfl rfl ?_
      refine m_iconst hc 0 dX12_spread_10 (by decide) ?_
      obtain ⟨⟨ii, hii⟩, hi, hw⟩ := hw
      refine r_iast hc hr hii hi dX12_spread_11 ?_
      refine m_iinc hc 3 (x3 + 1) [(3, .int (x3 + 1)), (0, .ref G.2.2.1), (1, .int x1), (2, .ref (G.2.2.2 x2))] dX12_spread_12 rfl rfl (Nat.le_of_ble_eq_true rfl) rfl ?_
      refine m_goto hc 2 dX12_spread_15 rfl ?_
      refine m_sub [1, 2, 3, 0] rfl ?_
      exact h2 x1 x2 (x3 + 1) (up R x2 (Int32.toNatClampNeg x3) 0) hw
def wp_spread (x1 : Int32) (x2 : Nat) (R : RS) (K : Int32 → RS → Prop) : Prop := ∃ nn : Nat, wl_spread_2 K nn x1 x2 0 R
set_option maxHeartbeats 4000000 in
set_option maxRecDepth 100000 in
theorem ok_spread {G : RG} (hok : okG G) {x1 : Int32} {x2 : Nat} {R : RS} {K : Int32 → RS → Prop} (hw : wp_spread x1 x2 R K) : CF 1 yX12_spread cX12_spread 4 none [.ref G.2.2.1, .int x1, .ref (G.2.2.2 x2)] G R K := by
  refine CF.of (by decide +kernel) hok (Nat.le_of_ble_eq_true rfl) (fun X hc hr => ?_)
  show MR G X 4 R 0 [(0, .ref G.2.2.1), (1, .int x1), (2, .ref (G.2.2.2 x2))] []
  unfold wp_spread at hw
  refine m_iconst hc 0 dX12_spread_0 (by decide) ?_
  refine m_istore_n hc [(3, .int 0), (0, .ref G.2.2.1), (1, .int x1), (2, .ref (G.2.2.2 x2))] dX12_spread_1 rfl (Nat.le_of_ble_eq_true rfl) rfl ?_
  refine m_sub [1, 2, 3, 0] rfl ?_
  obtain ⟨nn, hw⟩ := hw
  exact l_spread_2 hok hc hr nn x1 x2 0 R hw
def wb_topOf_3 (K3 : Nat → Int32 → RS → Prop) (K : Int32 → RS → Prop) (x0 : Nat) (x1 : Int32) (R : RS) : Prop := (x1 < 0 → K x1 R) ∧ (¬ (x1 < 0) → rP x0 ∧ vp_in x1 (rlen x0) ∧ (¬ (R x0 (Int32.toNatClampNeg x1)) = 0 → K x1 R) ∧ ((R x0 (Int32.toNatClampNeg x1)) = 0 → K3 x0 (x1 + (-1)) R))
def wl_topOf_3 (K : Int32 → RS → Prop) : Nat → Nat → Int32 → RS → Prop
  | 0 => fun _ _ _ => False
  | nn + 1 => wb_topOf_3 (wl_topOf_3 K nn) K
set_option maxHeartbeats 4000000 in
set_option maxRecDepth 100000 in
theorem l_topOf_3 {G : RG} {X : Fx} {K : Int32 → RS → Prop} (hok : okG G) (hc : Cx X RX12 cX12_topOf 2) (hr : Cr G 0 (some .int) K X) : ∀ (nn : Nat) (x0 : Nat) (x1 : Int32) (R : RS), wl_topOf_3 K nn x0 x1 R → MR G X 2 R 3 [(0, .ref (G.2.2.2 x0)), (1, .int x1)] [] := by
  intro nn
  induction nn with
  | zero => intro x0 x1 R hw; exact False.elim hw
  | succ nn ih =>
    intro x0 x1 R hw
    have hw : wb_topOf_3 (wl_topOf_3 K nn) K x0 x1 R := hw
    have h3 := ih
    generalize wl_topOf_3 K nn = K3 at hw h3
    unfold wb_topOf_3 at hw
    refine m_iload_n hc 1 dX12_topOf_3 rfl rfl ?_
    refine m_if_lt hc 19 dX12_topOf_4 rfl (fun cq => ?_) (fun cq => ?_)
    · have hw := hw.1 cq
      refine m_iload_n hc 1 dX12_topOf_19 rfl rfl ?_
      exact r_iret hc hr dX12_topOf_20 hw
    · have hw := hw.2 cq
      refine m_aload_n hc 0 dX12_topOf_7 rfl rfl ?_
      refine m_iload_n hc 1 dX12_topOf_8 rfl rfl ?_
      obtain ⟨⟨ii, hii⟩, hi, hw⟩ := hw
      refine r_iald hc hr hii hi dX12_topOf_9 ?_
      refine m_if_ne hc 19 dX12_topOf_10 rfl (fun cq => ?_) (fun cq => ?_)
      · have hw := hw.1 cq
        refine m_iload_n hc 1 dX12_topOf_19 rfl rfl ?_
        exact r_iret hc hr dX12_topOf_20 hw
      · have hw := hw.2 cq
        refine m_iinc hc 1 (x1 + (-1)) [(1, .int (x1 + (-1))), (0, .ref (G.2.2.2 x0))] dX12_topOf_13 rfl rfl (Nat.le_of_ble_eq_true rfl) rfl ?_
        refine m_goto hc 3 dX12_topOf_16 rfl ?_
        refine m_sub [1, 0] rfl ?_
        exact h3 x0 (x1 + (-1)) R hw
def wp_topOf (x0 : Nat) (R : RS) (K : Int32 → RS → Prop) : Prop := ∃ nn : Nat, wl_topOf_3 K nn x0 40 R
set_option maxHeartbeats 4000000 in
set_option maxRecDepth 100000 in
theorem ok_topOf {G : RG} (hok : okG G) {x0 : Nat} {R : RS} {K : Int32 → RS → Prop} (hw : wp_topOf x0 R K) : CF 0 yX12_topOf cX12_topOf 2 (some .int) [.ref (G.2.2.2 x0)] G R K := by
  refine CF.of (by decide +kernel) hok (Nat.le_of_ble_eq_true rfl) (fun X hc hr => ?_)
  show MR G X 2 R 0 [(0, .ref (G.2.2.2 x0))] []
  unfold wp_topOf at hw
  refine m_bipush hc 40 dX12_topOf_0 (by decide) ?_
  refine m_istore_n hc [(1, .int 40), (0, .ref (G.2.2.2 x0))] dX12_topOf_2 rfl (Nat.le_of_ble_eq_true rfl) rfl ?_
  refine m_sub [1, 0] rfl ?_
  obtain ⟨nn, hw⟩ := hw
  exact l_topOf_3 hok hc hr nn x0 40 R hw
