def wb_X2_takeQuotient_132 (M : Nat × Nat) (K43 : Nat → Nat → Int32 → Int32 → Int32 → Int32 → HS → Prop) (K81 : Nat → Nat → Int32 → Int32 → Int32 → Int32 → Int32 → Int32 → HS → Prop) (K132 : Nat → Nat → Int32 → Int32 → Int32 → Int32 → Int32 → Int32 → Int32 → Int32 → HS → Prop) (K : Int32 → HS → Prop) (x0 x1 : Nat) (x2 x3 x4 x5 x6 x7 x8 x9 : Int32) (S : HS) : Prop := (x8 < x9 → K81 x0 x1 x2 x3 x4 x5 x6 (x7 + 1) S) ∧ (¬ (x8 < x9) → ∀ v1 : Int32, v1 = (((x5 * x2) + (x7 * x3)) + (x9 * x4)) → hT S x0 = 3 ∧ ∃ b2 : Nat, hP S x0 6 = some b2 ∧ hT S b2 = 2 ∧ ∃ b3 : Nat, hP S b2 0 = some b3 ∧ (x6 = 0 → hT S x0 = 3 ∧ ∃ b4 : Nat, hP S x0 7 = some b4 ∧ hT S b4 = 2 ∧ ∃ b5 : Nat, hP S b4 0 = some b5 ∧ hT S b5 = 21 ∧ vp_in (v1 + x2) (hN S b5) ∧ hT S b3 = 21 ∧ vp_in v1 (hN S b3) ∧ K132 x0 x1 x2 x3 x4 x5 x6 x7 x8 (x9 + 1) (sI S b3 (Int32.toNatClampNeg v1) (hI S b5 (Int32.toNatClampNeg (v1 + x2))))) ∧ (¬ (x6 = 0) → hT S b3 = 21 ∧ vp_in v1 (hN S b3) ∧ K132 x0 x1 x2 x3 x4 x5 x6 x7 x8 (x9 + 1) (sI S b3 (Int32.toNatClampNeg v1) 0)))
def wl_X2_takeQuotient_132 (M : Nat × Nat) (K43 : Nat → Nat → Int32 → Int32 → Int32 → Int32 → HS → Prop) (K81 : Nat → Nat → Int32 → Int32 → Int32 → Int32 → Int32 → Int32 → HS → Prop) (K : Int32 → HS → Prop) : Nat → Nat → Nat → Int32 → Int32 → Int32 → Int32 → Int32 → Int32 → Int32 → Int32 → HS → Prop
  | 0 => fun _ _ _ _ _ _ _ _ _ _ _ => False
  | nn + 1 => wb_X2_takeQuotient_132 M K43 K81 (wl_X2_takeQuotient_132 M K43 K81 K nn) K
set_option maxHeartbeats 4000000 in
set_option maxRecDepth 100000 in
theorem l_X2_takeQuotient_132 {G : CG} {S0 : HS} {X : Fx} {K : Int32 → HS → Prop} (hc : Cx X RX2 cX2_takeQuotient 11) (hr : Cc G S0 1 none (kV K) X) (K43 : Nat → Nat → Int32 → Int32 → Int32 → Int32 → HS → Prop) (K81 : Nat → Nat → Int32 → Int32 → Int32 → Int32 → Int32 → Int32 → HS → Prop) (h43 : ∀ (x0 x1 : Nat) (x2 x3 x4 x5 : Int32) (S : HS), K43 x0 x1 x2 x3 x4 x5 S → MC G S0 X 11 S 43 [(0, .ref x0), (1, .ref x1), (2, .int x2), (3, .int x3), (4, .int x4), (5, .int x5)] []) (h81 : ∀ (x0 x1 : Nat) (x2 x3 x4 x5 x6 x7 : Int32) (S : HS), K81 x0 x1 x2 x3 x4 x5 x6 x7 S → MC G S0 X 11 S 81 [(0, .ref x0), (1, .ref x1), (2, .int x2), (3, .int x3), (4, .int x4), (5, .int x5), (6, .int x6), (7, .int x7)] []) : ∀ (nn : Nat) (x0 x1 : Nat) (x2 x3 x4 x5 x6 x7 x8 x9 : Int32) (S : HS), wl_X2_takeQuotient_132 (gC G, gS G) K43 K81 K nn x0 x1 x2 x3 x4 x5 x6 x7 x8 x9 S → MC G S0 X 11 S 132 [(0, .ref x0), (1, .ref x1), (2, .int x2), (3, .int x3), (4, .int x4), (5, .int x5), (6, .int x6), (7, .int x7), (8, .int x8), (9, .int x9)] [] := by
  intro nn
  induction nn with
  | zero => intro x0 x1 x2 x3 x4 x5 x6 x7 x8 x9 S hw; exact False.elim hw
  | succ nn ih =>
    intro x0 x1 x2 x3 x4 x5 x6 x7 x8 x9 S hw
    have hw : wb_X2_takeQuotient_132 (gC G, gS G) K43 K81 (wl_X2_takeQuotient_132 (gC G, gS G) K43 K81 K nn) K x0 x1 x2 x3 x4 x5 x6 x7 x8 x9 S := hw
    have h132 := ih
    generalize wl_X2_takeQuotient_132 (gC G, gS G) K43 K81 K nn = K132 at hw h132
    unfold wb_X2_takeQuotient_132 at hw
    refine m_iload hc 9 dX2_takeQuotient_132 rfl ?_
    refine m_iload hc 8 dX2_takeQuotient_134 rfl ?_
    refine m_icmp_gt hc 193 dX2_takeQuotient_136 rfl (fun cq => ?_) (fun cq => ?_)
    · have hw := hw.1 cq
      refine m_iinc hc 7 (x7 + 1) [(7, .int (x7 + 1)), (0, .ref x0), (1, .ref x1), (2, .int x2), (3, .int x3), (4, .int x4), (5, .int x5), (6, .int x6), (8, .int x8), (9, .int x9)] dX2_takeQuotient_193 rfl rfl (Nat.le_of_ble_eq_true rfl) rfl ?_
      refine m_goto hc 81 dX2_takeQuotient_196 rfl ?_
      refine m_sub [1, 2, 3, 4, 5, 6, 7, 0] rfl ?_
      exact h81 x0 x1 x2 x3 x4 x5 x6 (x7 + 1) S hw
    · have hw := hw.2 cq
      refine m_iload hc 5 dX2_takeQuotient_139 rfl ?_
      refine m_iload_n hc 2 dX2_takeQuotient_141 rfl rfl ?_
      refine m_imul hc dX2_takeQuotient_142 ?_
      refine m_iload hc 7 dX2_takeQuotient_143 rfl ?_
      refine m_iload_n hc 3 dX2_takeQuotient_145 rfl rfl ?_
      refine m_imul hc dX2_takeQuotient_146 ?_
      refine m_iadd hc dX2_takeQuotient_147 ?_
      refine m_iload hc 9 dX2_takeQuotient_148 rfl ?_
      refine m_iload hc 4 dX2_takeQuotient_150 rfl ?_
      refine m_imul hc dX2_takeQuotient_152 ?_
      refine m_iadd hc dX2_takeQuotient_153 ?_
      refine m_topi (fun v1 e_v1 => ?_)
      have hw := hw v1 e_v1
      refine m_istore hc [(10, .int v1), (0, .ref x0), (1, .ref x1), (2, .int x2), (3, .int x3), (4, .int x4), (5, .int x5), (6, .int x6), (7, .int x7), (8, .int x8), (9, .int x9)] dX2_takeQuotient_154 (Nat.le_of_ble_eq_true rfl) rfl ?_
      refine m_aload_n hc 1 dX2_takeQuotient_156 rfl rfl ?_
      obtain ⟨ht, b2, e_b2, hw⟩ := hw
      refine c_getr hc hr ciX2 (Nat.le_of_ble_eq_true rfl) 6 (Nat.le_of_ble_eq_true rfl) rfl dX2_takeQuotient_157 lf_X2_44 ht e_b2 ?_
      obtain ⟨ht, b3, e_b3, hw⟩ := hw
      refine c_getr hc hr ciX1 (Nat.le_of_ble_eq_true rfl) 0 (Nat.le_of_ble_eq_true rfl) rfl dX2_takeQuotient_160 lf_X2_122 ht e_b3 ?_
      refine m_iload hc 0 dX2_takeQuotient_163 rfl ?_
      refine m_iload hc 7 dX2_takeQuotient_165 rfl ?_
      refine m_if_eq hc 174 dX2_takeQuotient_167 rfl (fun cq => ?_) (fun cq => ?_)
      · have hw := hw.1 cq
        refine m_aload_n hc 1 dX2_takeQuotient_174 rfl rfl ?_
        obtain ⟨ht, b4, e_b4, hw⟩ := hw
        refine c_getr hc hr ciX2 (Nat.le_of_ble_eq_true rfl) 7 (Nat.le_of_ble_eq_true rfl) rfl dX2_takeQuotient_175 lf_X2_48 ht e_b4 ?_
        obtain ⟨ht, b5, e_b5, hw⟩ := hw
        refine c_getr hc hr ciX1 (Nat.le_of_ble_eq_true rfl) 0 (Nat.le_of_ble_eq_true rfl) rfl dX2_takeQuotient_178 lf_X2_122 ht e_b5 ?_
        refine m_iload hc 0 dX2_takeQuotient_181 rfl ?_
        refine m_iload_n hc 3 dX2_takeQuotient_183 rfl rfl ?_
        refine m_iadd hc dX2_takeQuotient_184 ?_
        obtain ⟨ht, hi, hw⟩ := hw
        refine c_iald hc hr ht hi dX2_takeQuotient_185 ?_
        obtain ⟨ht, hi, hw⟩ := hw
        refine c_iast hc hr ht hi dX2_takeQuotient_186 ?_
        refine m_iinc hc 10 (x9 + 1) [(9, .int (x9 + 1)), (10, .int v1), (0, .ref x0), (1, .ref x1), (2, .int x2), (3, .int x3), (4, .int x4), (5, .int x5), (6, .int x6), (7, .int x7), (8, .int x8)] dX2_takeQuotient_187 rfl rfl (Nat.le_of_ble_eq_true rfl) rfl ?_
        refine m_goto hc 132 dX2_takeQuotient_190 rfl ?_
        refine m_sub [2, 3, 4, 5, 6, 7, 8, 9, 10, 0] rfl ?_
        exact h132 x0 x1 x2 x3 x4 x5 x6 x7 x8 (x9 + 1) (sI S b3 (Int32.toNatClampNeg v1) (hI S b5 (Int32.toNatClampNeg (v1 + x2)))) hw
      · have hw := hw.2 cq
        refine m_iconst hc 0 dX2_takeQuotient_170 (by decide) ?_
        refine m_goto hc 186 dX2_takeQuotient_171 rfl ?_
        obtain ⟨ht, hi, hw⟩ := hw
        refine c_iast hc hr ht hi dX2_takeQuotient_186 ?_
        refine m_iinc hc 10 (x9 + 1) [(9, .int (x9 + 1)), (10, .int v1), (0, .ref x0), (1, .ref x1), (2, .int x2), (3, .int x3), (4, .int x4), (5, .int x5), (6, .int x6), (7, .int x7), (8, .int x8)] dX2_takeQuotient_187 rfl rfl (Nat.le_of_ble_eq_true rfl) rfl ?_
        refine m_goto hc 132 dX2_takeQuotient_190 rfl ?_
        refine m_sub [2, 3, 4, 5, 6, 7, 8, 9, 10, 0] rfl ?_
        exact h132 x0 x1 x2 x3 x4 x5 x6 x7 x8 (x9 + 1) (sI S b3 (Int32.toNatClampNeg v1) 0) hw
def wb_X2_takeQuotient_81 (M : Nat × Nat) (K43 : Nat → Nat → Int32 → Int32 → Int32 → Int32 → HS → Prop) (K81 : Nat → Nat → Int32 → Int32 → Int32 → Int32 → Int32 → Int32 → HS → Prop) (K : Int32 → HS → Prop) (x0 x1 : Nat) (x2 x3 x4 x5 x6 x7 : Int32) (S : HS) : Prop := hT S x0 = 3 ∧ ∃ b1 : Nat, hP S x0 8 = some b1 ∧ hT S x1 = 4 ∧ hT S b1 = 21 ∧ vp_in (hI S x1 1) (hN S b1) ∧ hT S x0 = 3 ∧ ((if (hI S x0 9) - x5 < hI S b1 (Int32.toNatClampNeg (hI S x1 1)) then (hI S x0 9) - x5 else hI S b1 (Int32.toNatClampNeg (hI S x1 1))) < x7 → K43 x0 x1 x2 x3 x4 (x5 + 1) S) ∧ (¬ ((if (hI S x0 9) - x5 < hI S b1 (Int32.toNatClampNeg (hI S x1 1)) then (hI S x0 9) - x5 else hI S b1 (Int32.toNatClampNeg (hI S x1 1))) < x7) → hT S x0 = 3 ∧ ∃ b2 : Nat, hP S x0 8 = some b2 ∧ hT S x1 = 4 ∧ hT S b2 = 21 ∧ vp_in (hI S x1 2) (hN S b2) ∧ hT S x0 = 3 ∧ ∀ v3 : Int32, v3 = (if ((hI S x0 9) - x5) - x7 < hI S b2 (Int32.toNatClampNeg (hI S x1 2)) then ((hI S x0 9) - x5) - x7 else hI S b2 (Int32.toNatClampNeg (hI S x1 2))) → ∃ nn : Nat, wl_X2_takeQuotient_132 M K43 K81 K nn x0 x1 x2 x3 x4 x5 x6 x7 v3 0 S)
def wl_X2_takeQuotient_81 (M : Nat × Nat) (K43 : Nat → Nat → Int32 → Int32 → Int32 → Int32 → HS → Prop) (K : Int32 → HS → Prop) : Nat → Nat → Nat → Int32 → Int32 → Int32 → Int32 → Int32 → Int32 → HS → Prop
  | 0 => fun _ _ _ _ _ _ _ _ _ => False
  | nn + 1 => wb_X2_takeQuotient_81 M K43 (wl_X2_takeQuotient_81 M K43 K nn) K
set_option maxHeartbeats 4000000 in
set_option maxRecDepth 100000 in
theorem l_X2_takeQuotient_81 {G : CG} {S0 : HS} {X : Fx} {K : Int32 → HS → Prop} (hc : Cx X RX2 cX2_takeQuotient 11) (hr : Cc G S0 1 none (kV K) X) (K43 : Nat → Nat → Int32 → Int32 → Int32 → Int32 → HS → Prop) (h43 : ∀ (x0 x1 : Nat) (x2 x3 x4 x5 : Int32) (S : HS), K43 x0 x1 x2 x3 x4 x5 S → MC G S0 X 11 S 43 [(0, .ref x0), (1, .ref x1), (2, .int x2), (3, .int x3), (4, .int x4), (5, .int x5)] []) : ∀ (nn : Nat) (x0 x1 : Nat) (x2 x3 x4 x5 x6 x7 : Int32) (S : HS), wl_X2_takeQuotient_81 (gC G, gS G) K43 K nn x0 x1 x2 x3 x4 x5 x6 x7 S → MC G S0 X 11 S 81 [(0, .ref x0), (1, .ref x1), (2, .int x2), (3, .int x3), (4, .int x4), (5, .int x5), (6, .int x6), (7, .int x7)] [] := by
  intro nn
  induction nn with
  | zero => intro x0 x1 x2 x3 x4 x5 x6 x7 S hw; exact False.elim hw
  | succ nn ih =>
    intro x0 x1 x2 x3 x4 x5 x6 x7 S hw
    have hw : wb_X2_takeQuotient_81 (gC G, gS G) K43 (wl_X2_takeQuotient_81 (gC G, gS G) K43 K nn) K x0 x1 x2 x3 x4 x5 x6 x7 S := hw
    have h81 := ih
    generalize wl_X2_takeQuotient_81 (gC G, gS G) K43 K nn = K81 at hw h81
    unfold wb_X2_takeQuotient_81 at hw
    refine m_iload hc 7 dX2_takeQuotient_81 rfl ?_
    refine m_aload_n hc 0 dX2_takeQuotient_83 rfl rfl ?_
    obtain ⟨ht, b1, e_b1, hw⟩ := hw
    refine c_getr hc hr ciX2 (Nat.le_of_ble_eq_true rfl) 8 (Nat.le_of_ble_eq_true rfl) rfl dX2_takeQuotient_84 lf_X2_51 ht e_b1 ?_
    refine m_aload_n hc 1 dX2_takeQuotient_87 rfl rfl ?_
    obtain ⟨ht, hw⟩ := hw
    refine c_geti hc hr ciX3 (Nat.le_of_ble_eq_true rfl) 1 (Nat.le_of_ble_eq_true rfl) rfl dX2_takeQuotient_88 lf_X2_165 ht ?_
    obtain ⟨ht, hi, hw⟩ := hw
    refine c_iald hc hr ht hi dX2_takeQuotient_91 ?_
    refine m_aload_n hc 0 dX2_takeQuotient_92 rfl rfl ?_
    obtain ⟨ht, hw⟩ := hw
    refine c_geti hc hr ciX2 (Nat.le_of_ble_eq_true rfl) 9 (Nat.le_of_ble_eq_true rfl) rfl dX2_takeQuotient_93 lf_X2_54 ht ?_
    refine m_iload hc 5 dX2_takeQuotient_96 rfl ?_
    refine m_isub hc dX2_takeQuotient_98 ?_
    refine c_bnd (fun g1 g2 => ?_)
    refine m_mmin hc dX2_takeQuotient_99 lm_X2_201 lM_min (c_room hr g1 g2) (Nat.le_of_ble_eq_true rfl) ?_
    refine m_icmp_gt hc 199 dX2_takeQuotient_102 rfl (fun cq => ?_) (fun cq => ?_)
    · have hw := hw.1 cq
      refine m_iinc hc 5 (x5 + 1) [(5, .int (x5 + 1)), (0, .ref x0), (1, .ref x1), (2, .int x2), (3, .int x3), (4, .int x4), (6, .int x6), (7, .int x7)] dX2_takeQuotient_199 rfl rfl (Nat.le_of_ble_eq_true rfl) rfl ?_
      refine m_goto hc 43 dX2_takeQuotient_202 rfl ?_
      refine m_sub [1, 2, 3, 4, 5, 0] rfl ?_
      exact h43 x0 x1 x2 x3 x4 (x5 + 1) S hw
    · have hw := hw.2 cq
      refine m_aload_n hc 0 dX2_takeQuotient_105 rfl rfl ?_
      obtain ⟨ht, b2, e_b2, hw⟩ := hw
      refine c_getr hc hr ciX2 (Nat.le_of_ble_eq_true rfl) 8 (Nat.le_of_ble_eq_true rfl) rfl dX2_takeQuotient_106 lf_X2_51 ht e_b2 ?_
      refine m_aload_n hc 1 dX2_takeQuotient_109 rfl rfl ?_
      obtain ⟨ht, hw⟩ := hw
      refine c_geti hc hr ciX3 (Nat.le_of_ble_eq_true rfl) 2 (Nat.le_of_ble_eq_true rfl) rfl dX2_takeQuotient_110 lf_X2_171 ht ?_
      obtain ⟨ht, hi, hw⟩ := hw
      refine c_iald hc hr ht hi dX2_takeQuotient_113 ?_
      refine m_aload_n hc 0 dX2_takeQuotient_114 rfl rfl ?_
      obtain ⟨ht, hw⟩ := hw
      refine c_geti hc hr ciX2 (Nat.le_of_ble_eq_true rfl) 9 (Nat.le_of_ble_eq_true rfl) rfl dX2_takeQuotient_115 lf_X2_54 ht ?_
      refine m_iload hc 5 dX2_takeQuotient_118 rfl ?_
      refine m_isub hc dX2_takeQuotient_120 ?_
      refine m_iload hc 7 dX2_takeQuotient_121 rfl ?_
      refine m_isub hc dX2_takeQuotient_123 ?_
      refine c_bnd (fun g1 g2 => ?_)
      refine m_mmin hc dX2_takeQuotient_124 lm_X2_201 lM_min (c_room hr g1 g2) (Nat.le_of_ble_eq_true rfl) ?_
      refine m_topi (fun v3 e_v3 => ?_)
      have hw := hw v3 e_v3
      refine m_istore hc [(8, .int v3), (0, .ref x0), (1, .ref x1), (2, .int x2), (3, .int x3), (4, .int x4), (5, .int x5), (6, .int x6), (7, .int x7)] dX2_takeQuotient_127 (Nat.le_of_ble_eq_true rfl) rfl ?_
      refine m_iconst hc 0 dX2_takeQuotient_129 (by decide) ?_
      refine m_istore hc [(9, .int 0), (8, .int v3), (0, .ref x0), (1, .ref x1), (2, .int x2), (3, .int x3), (4, .int x4), (5, .int x5), (6, .int x6), (7, .int x7)] dX2_takeQuotient_130 (Nat.le_of_ble_eq_true rfl) rfl ?_
      refine m_sub [2, 3, 4, 5, 6, 7, 8, 9, 1, 0] rfl ?_
      obtain ⟨nn, hw⟩ := hw
      exact l_X2_takeQuotient_132 hc hr K43 K81 h43 h81 nn x0 x1 x2 x3 x4 x5 x6 x7 v3 0 S hw
def wb_X2_takeQuotient_43 (M : Nat × Nat) (K43 : Nat → Nat → Int32 → Int32 → Int32 → Int32 → HS → Prop) (K : Int32 → HS → Prop) (x0 x1 : Nat) (x2 x3 x4 x5 : Int32) (S : HS) : Prop := hT S x0 = 3 ∧ ∃ b1 : Nat, hP S x0 8 = some b1 ∧ hT S x1 = 4 ∧ hT S b1 = 21 ∧ vp_in (hI S x1 0) (hN S b1) ∧ ((hI S b1 (Int32.toNatClampNeg (hI S x1 0))) < x5 → K 0 S) ∧ (¬ ((hI S b1 (Int32.toNatClampNeg (hI S x1 0))) < x5) → hT S x0 = 3 ∧ ∃ b2 : Nat, hP S x0 8 = some b2 ∧ hT S x1 = 4 ∧ hT S b2 = 21 ∧ vp_in (hI S x1 0) (hN S b2) ∧ (¬ x5 = (hI S b2 (Int32.toNatClampNeg (hI S x1 0))) → ∃ nn : Nat, wl_X2_takeQuotient_81 M K43 K nn x0 x1 x2 x3 x4 x5 0 0 S) ∧ (x5 = (hI S b2 (Int32.toNatClampNeg (hI S x1 0))) → ∃ nn : Nat, wl_X2_takeQuotient_81 M K43 K nn x0 x1 x2 x3 x4 x5 1 0 S))
def wl_X2_takeQuotient_43 (M : Nat × Nat) (K : Int32 → HS → Prop) : Nat → Nat → Nat → Int32 → Int32 → Int32 → Int32 → HS → Prop
  | 0 => fun _ _ _ _ _ _ _ => False
  | nn + 1 => wb_X2_takeQuotient_43 M (wl_X2_takeQuotient_43 M K nn) K
set_option maxHeartbeats 4000000 in
set_option maxRecDepth 100000 in
theorem l_X2_takeQuotient_43 {G : CG} {S0 : HS} {X : Fx} {K : Int32 → HS → Prop} (hc : Cx X RX2 cX2_takeQuotient 11) (hr : Cc G S0 1 none (kV K) X) : ∀ (nn : Nat) (x0 x1 : Nat) (x2 x3 x4 x5 : Int32) (S : HS), wl_X2_takeQuotient_43 (gC G, gS G) K nn x0 x1 x2 x3 x4 x5 S → MC G S0 X 11 S 43 [(0, .ref x0), (1, .ref x1), (2, .int x2), (3, .int x3), (4, .int x4), (5, .int x5)] [] := by
  intro nn
  induction nn with
  | zero => intro x0 x1 x2 x3 x4 x5 S hw; exact False.elim hw
  | succ nn ih =>
    intro x0 x1 x2 x3 x4 x5 S hw
    have hw : wb_X2_takeQuotient_43 (gC G, gS G) (wl_X2_takeQuotient_43 (gC G, gS G) K nn) K x0 x1 x2 x3 x4 x5 S := hw
    have h43 := ih
    generalize wl_X2_takeQuotient_43 (gC G, gS G) K nn = K43 at hw h43
    unfold wb_X2_takeQuotient_43 at hw
    refine m_iload hc 5 dX2_takeQuotient_43 rfl ?_
    refine m_aload_n hc 0 dX2_takeQuotient_45 rfl rfl ?_
    obtain ⟨ht, b1, e_b1, hw⟩ := hw
    refine c_getr hc hr ciX2 (Nat.le_of_ble_eq_true rfl) 8 (Nat.le_of_ble_eq_true rfl) rfl dX2_takeQuotient_46 lf_X2_51 ht e_b1 ?_
    refine m_aload_n hc 1 dX2_takeQuotient_49 rfl rfl ?_
    obtain ⟨ht, hw⟩ := hw
    refine c_geti hc hr ciX3 (Nat.le_of_ble_eq_true rfl) 0 (Nat.le_of_ble_eq_true rfl) rfl dX2_takeQuotient_50 lf_X2_156 ht ?_
    obtain ⟨ht, hi, hw⟩ := hw
    refine c_iald hc hr ht hi dX2_takeQuotient_53 ?_
    refine m_icmp_gt hc 205 dX2_takeQuotient_54 rfl (fun cq => ?_) (fun cq => ?_)
    · have hw := hw.1 cq
      exact c_vret hc hr dX2_takeQuotient_205 hw
    · have hw := hw.2 cq
      refine m_iload hc 5 dX2_takeQuotient_57 rfl ?_
      refine m_aload_n hc 0 dX2_takeQuotient_59 rfl rfl ?_
      obtain ⟨ht, b2, e_b2, hw⟩ := hw
      refine c_getr hc hr ciX2 (Nat.le_of_ble_eq_true rfl) 8 (Nat.le_of_ble_eq_true rfl) rfl dX2_takeQuotient_60 lf_X2_51 ht e_b2 ?_
      refine m_aload_n hc 1 dX2_takeQuotient_63 rfl rfl ?_
      obtain ⟨ht, hw⟩ := hw
      refine c_geti hc hr ciX3 (Nat.le_of_ble_eq_true rfl) 0 (Nat.le_of_ble_eq_true rfl) rfl dX2_takeQuotient_64 lf_X2_156 ht ?_
      obtain ⟨ht, hi, hw⟩ := hw
      refine c_iald hc hr ht hi dX2_takeQuotient_67 ?_
      refine m_icmp_ne hc 75 dX2_takeQuotient_68 rfl (fun cq => ?_) (fun cq => ?_)
      · have hw := hw.1 cq
        refine m_iconst hc 0 dX2_takeQuotient_75 (by decide) ?_
        refine m_istore hc [(6, .int 0), (0, .ref x0), (1, .ref x1), (2, .int x2), (3, .int x3), (4, .int x4), (5, .int x5)] dX2_takeQuotient_76 (Nat.le_of_ble_eq_true rfl) rfl ?_
        refine m_iconst hc 0 dX2_takeQuotient_78 (by decide) ?_
        refine m_istore hc [(7, .int 0), (6, .int 0), (0, .ref x0), (1, .ref x1), (2, .int x2), (3, .int x3), (4, .int x4), (5, .int x5)] dX2_takeQuotient_79 (Nat.le_of_ble_eq_true rfl) rfl ?_
        refine m_sub [2, 3, 4, 5, 6, 7, 1, 0] rfl ?_
        obtain ⟨nn, hw⟩ := hw
        exact l_X2_takeQuotient_81 hc hr K43 h43 nn x0 x1 x2 x3 x4 x5 0 0 S hw
      · have hw := hw.2 cq
        refine m_iconst hc 1 dX2_takeQuotient_71 (by decide) ?_
        refine m_goto hc 76 dX2_takeQuotient_72 rfl ?_
        refine m_istore hc [(6, .int 1), (0, .ref x0), (1, .ref x1), (2, .int x2), (3, .int x3), (4, .int x4), (5, .int x5)] dX2_takeQuotient_76 (Nat.le_of_ble_eq_true rfl) rfl ?_
        refine m_iconst hc 0 dX2_takeQuotient_78 (by decide) ?_
        refine m_istore hc [(7, .int 0), (6, .int 1), (0, .ref x0), (1, .ref x1), (2, .int x2), (3, .int x3), (4, .int x4), (5, .int x5)] dX2_takeQuotient_79 (Nat.le_of_ble_eq_true rfl) rfl ?_
        refine m_sub [2, 3, 4, 5, 6, 7, 1, 0] rfl ?_
        obtain ⟨nn, hw⟩ := hw
        exact l_X2_takeQuotient_81 hc hr K43 h43 nn x0 x1 x2 x3 x4 x5 1 0 S hw
def wp_X2_takeQuotient (M : Nat × Nat) (x0 x1 : Nat) (S : HS) (K : Int32 → HS → Prop) : Prop := hT S x0 = 3 ∧ ∃ b1 : Nat, hP S x0 7 = some b1 ∧ hT S b1 = 2 ∧ ∃ b2 : Nat, hP S b1 2 = some b2 ∧ hT S x1 = 4 ∧ hT S b2 = 21 ∧ vp_in (hI S x1 0) (hN S b2) ∧ ∀ v3 : Int32, v3 = (hI S b2 (Int32.toNatClampNeg (hI S x1 0))) → hT S x0 = 3 ∧ ∃ b4 : Nat, hP S x0 7 = some b4 ∧ hT S b4 = 2 ∧ ∃ b5 : Nat, hP S b4 2 = some b5 ∧ hT S x1 = 4 ∧ hT S b5 = 21 ∧ vp_in (hI S x1 1) (hN S b5) ∧ ∀ v6 : Int32, v6 = (hI S b5 (Int32.toNatClampNeg (hI S x1 1))) → hT S x0 = 3 ∧ ∃ b7 : Nat, hP S x0 7 = some b7 ∧ hT S b7 = 2 ∧ ∃ b8 : Nat, hP S b7 2 = some b8 ∧ hT S x1 = 4 ∧ hT S b8 = 21 ∧ vp_in (hI S x1 2) (hN S b8) ∧ ∀ v9 : Int32, v9 = (hI S b8 (Int32.toNatClampNeg (hI S x1 2))) → ∃ nn : Nat, wl_X2_takeQuotient_43 M K nn x0 x1 v3 v6 v9 0 S
set_option maxHeartbeats 4000000 in
set_option maxRecDepth 100000 in
theorem ok_X2_takeQuotient {G : CG} {x0 : Nat} {x1 : Nat} {S : HS} {K : Int32 → HS → Prop} (hw : wp_X2_takeQuotient (gC G, gS G) x0 x1 S K) : CC 1 yX2_takeQuotient cX2_takeQuotient 11 none [.ref x0, .ref x1] G S (kV K) := by
  refine CC.of (by decide +kernel) (Nat.le_of_ble_eq_true rfl) (fun X hc hr hname => ?_)
  show MC G S X 11 S 0 [(0, .ref x0), (1, .ref x1)] []
  unfold wp_X2_takeQuotient at hw
  refine m_aload_n hc 0 dX2_takeQuotient_0 rfl rfl ?_
  obtain ⟨ht, b1, e_b1, hw⟩ := hw
  refine c_getr hc hr ciX2 (Nat.le_of_ble_eq_true rfl) 7 (Nat.le_of_ble_eq_true rfl) rfl dX2_takeQuotient_1 lf_X2_48 ht e_b1 ?_
  obtain ⟨ht, b2, e_b2, hw⟩ := hw
  refine c_getr hc hr ciX1 (Nat.le_of_ble_eq_true rfl) 2 (Nat.le_of_ble_eq_true rfl) rfl dX2_takeQuotient_4 lf_X2_195 ht e_b2 ?_
  refine m_aload_n hc 1 dX2_takeQuotient_7 rfl rfl ?_
  obtain ⟨ht, hw⟩ := hw
  refine c_geti hc hr ciX3 (Nat.le_of_ble_eq_true rfl) 0 (Nat.le_of_ble_eq_true rfl) rfl dX2_takeQuotient_8 lf_X2_156 ht ?_
  obtain ⟨ht, hi, hw⟩ := hw
  refine c_iald hc hr ht hi dX2_takeQuotient_11 ?_
  refine m_topi (fun v3 e_v3 => ?_)
  have hw := hw v3 e_v3
  refine m_istore_n hc [(2, .int v3), (0, .ref x0), (1, .ref x1)] dX2_takeQuotient_12 rfl (Nat.le_of_ble_eq_true rfl) rfl ?_
  refine m_aload_n hc 1 dX2_takeQuotient_13 rfl rfl ?_
  obtain ⟨ht, b4, e_b4, hw⟩ := hw
  refine c_getr hc hr ciX2 (Nat.le_of_ble_eq_true rfl) 7 (Nat.le_of_ble_eq_true rfl) rfl dX2_takeQuotient_14 lf_X2_48 ht e_b4 ?_
  obtain ⟨ht, b5, e_b5, hw⟩ := hw
  refine c_getr hc hr ciX1 (Nat.le_of_ble_eq_true rfl) 2 (Nat.le_of_ble_eq_true rfl) rfl dX2_takeQuotient_17 lf_X2_195 ht e_b5 ?_
  refine m_aload_n hc 2 dX2_takeQuotient_20 rfl rfl ?_
  obtain ⟨ht, hw⟩ := hw
  refine c_geti hc hr ciX3 (Nat.le_of_ble_eq_true rfl) 1 (Nat.le_of_ble_eq_true rfl) rfl dX2_takeQuotient_21 lf_X2_165 ht ?_
  obtain ⟨ht, hi, hw⟩ := hw
  refine c_iald hc hr ht hi dX2_takeQuotient_24 ?_
  refine m_topi (fun v6 e_v6 => ?_)
  have hw := hw v6 e_v6
  refine m_istore_n hc [(3, .int v6), (2, .int v3), (0, .ref x0), (1, .ref x1)] dX2_takeQuotient_25 rfl (Nat.le_of_ble_eq_true rfl) rfl ?_
  refine m_aload_n hc 2 dX2_takeQuotient_26 rfl rfl ?_
  obtain ⟨ht, b7, e_b7, hw⟩ := hw
  refine c_getr hc hr ciX2 (Nat.le_of_ble_eq_true rfl) 7 (Nat.le_of_ble_eq_true rfl) rfl dX2_takeQuotient_27 lf_X2_48 ht e_b7 ?_
  obtain ⟨ht, b8, e_b8, hw⟩ := hw
  refine c_getr hc hr ciX1 (Nat.le_of_ble_eq_true rfl) 2 (Nat.le_of_ble_eq_true rfl) rfl dX2_takeQuotient_30 lf_X2_195 ht e_b8 ?_
  refine m_aload_n hc 3 dX2_takeQuotient_33 rfl rfl ?_
  obtain ⟨ht, hw⟩ := hw
  refine c_geti hc hr ciX3 (Nat.le_of_ble_eq_true rfl) 2 (Nat.le_of_ble_eq_true rfl) rfl dX2_takeQuotient_34 lf_X2_171 ht ?_
  obtain ⟨ht, hi, hw⟩ := hw
  refine c_iald hc hr ht hi dX2_takeQuotient_37 ?_
  refine m_topi (fun v9 e_v9 => ?_)
  have hw := hw v9 e_v9
  refine m_istore hc [(4, .int v9), (3, .int v6), (2, .int v3), (0, .ref x0), (1, .ref x1)] dX2_takeQuotient_38 (Nat.le_of_ble_eq_true rfl) rfl ?_
  refine m_iconst hc 0 dX2_takeQuotient_40 (by decide) ?_
  refine m_istore hc [(5, .int 0), (4, .int v9), (3, .int v6), (2, .int v3), (0, .ref x0), (1, .ref x1)] dX2_takeQuotient_41 (Nat.le_of_ble_eq_true rfl) rfl ?_
  refine m_sub [4, 5, 3, 2, 1, 0] rfl ?_
  obtain ⟨nn, hw⟩ := hw
  exact l_X2_takeQuotient_43 hc hr nn x0 x1 v3 v6 v9 0 S hw
def w_X2_divide_136 (M : Nat × Nat) (K : Int32 → HS → Prop) (x0 : Nat) (s0 s1 s2 : Int32) (s3 : Nat) (S : HS) : Prop := hT S s3 = 21 ∧ vp_in s2 (hN S s3) ∧ hT (sI S s3 (Int32.toNatClampNeg s2) (s1 - s0)) x0 = 3 ∧ ∃ b1 : Nat, hP (sI S s3 (Int32.toNatClampNeg s2) (s1 - s0)) x0 6 = some b1 ∧ hT (sI S s3 (Int32.toNatClampNeg s2) (s1 - s0)) x0 = 3 ∧ ∃ b2 : Nat, hP (sI S s3 (Int32.toNatClampNeg s2) (s1 - s0)) x0 8 = some b2 ∧ hT (sI S s3 (Int32.toNatClampNeg s2) (s1 - s0)) b2 = 21 ∧ vp_in 0 (hN (sI S s3 (Int32.toNatClampNeg s2) (s1 - s0)) b2) ∧ hT (sI S s3 (Int32.toNatClampNeg s2) (s1 - s0)) x0 = 3 ∧ ∃ b3 : Nat, hP (sI S s3 (Int32.toNatClampNeg s2) (s1 - s0)) x0 8 = some b3 ∧ hT (sI S s3 (Int32.toNatClampNeg s2) (s1 - s0)) b3 = 21 ∧ vp_in 1 (hN (sI S s3 (Int32.toNatClampNeg s2) (s1 - s0)) b3) ∧ hT (sI S s3 (Int32.toNatClampNeg s2) (s1 - s0)) x0 = 3 ∧ ∃ b4 : Nat, hP (sI S s3 (Int32.toNatClampNeg s2) (s1 - s0)) x0 8 = some b4 ∧ hT (sI S s3 (Int32.toNatClampNeg s2) (s1 - s0)) b4 = 21 ∧ vp_in 2 (hN (sI S s3 (Int32.toNatClampNeg s2) (s1 - s0)) b4) ∧ hT (sI S s3 (Int32.toNatClampNeg s2) (s1 - s0)) b1 = 2 ∧ wp_X1_narrow M b1 (hI (sI S s3 (Int32.toNatClampNeg s2) (s1 - s0)) b2 (Int32.toNatClampNeg 0)) (hI (sI S s3 (Int32.toNatClampNeg s2) (s1 - s0)) b3 (Int32.toNatClampNeg 1)) (hI (sI S s3 (Int32.toNatClampNeg s2) (s1 - s0)) b4 (Int32.toNatClampNeg 2)) (sI S s3 (Int32.toNatClampNeg s2) (s1 - s0)) (fun r5 S5 => K 1 S5)
set_option maxHeartbeats 4000000 in
set_option maxRecDepth 100000 in
theorem b_X2_divide_136 {G : CG} {S0 : HS} {X : Fx} {K : Int32 → HS → Prop} (hc : Cx X RX2 cX2_divide 3) (hr : Cc G S0 2 (some .boolean) (kI K) X) : ∀ (x0 : Nat) (s0 s1 s2 : Int32) (s3 : Nat) (S : HS), w_X2_divide_136 (gC G, gS G) K x0 s0 s1 s2 s3 S → MC G S0 X 3 S 136 [(0, .ref x0)] [.int s0, .int s1, .int s2, .ref s3] := by
  intro x0 s0 s1 s2 s3 S hw
  unfold w_X2_divide_136 at hw
  refine m_isub hc dX2_divide_136 ?_
  obtain ⟨ht, hi, hw⟩ := hw
  refine c_iast hc hr ht hi dX2_divide_137 ?_
  refine m_aload_n hc 0 dX2_divide_138 rfl rfl ?_
  obtain ⟨ht, b1, e_b1, hw⟩ := hw
  refine c_getr hc hr ciX2 (Nat.le_of_ble_eq_true rfl) 6 (Nat.le_of_ble_eq_true rfl) rfl dX2_divide_139 lf_X2_44 ht e_b1 ?_
  refine m_aload_n hc 0 dX2_divide_142 rfl rfl ?_
  obtain ⟨ht, b2, e_b2, hw⟩ := hw
  refine c_getr hc hr ciX2 (Nat.le_of_ble_eq_true rfl) 8 (Nat.le_of_ble_eq_true rfl) rfl dX2_divide_143 lf_X2_51 ht e_b2 ?_
  refine m_iconst hc 0 dX2_divide_146 (by decide) ?_
  obtain ⟨ht, hi, hw⟩ := hw
  refine c_iald hc hr ht hi dX2_divide_147 ?_
  refine m_aload_n hc 0 dX2_divide_148 rfl rfl ?_
  obtain ⟨ht, b3, e_b3, hw⟩ := hw
  refine c_getr hc hr ciX2 (Nat.le_of_ble_eq_true rfl) 8 (Nat.le_of_ble_eq_true rfl) rfl dX2_divide_149 lf_X2_51 ht e_b3 ?_
  refine m_iconst hc 1 dX2_divide_152 (by decide) ?_
  obtain ⟨ht, hi, hw⟩ := hw
  refine c_iald hc hr ht hi dX2_divide_153 ?_
  refine m_aload_n hc 0 dX2_divide_154 rfl rfl ?_
  obtain ⟨ht, b4, e_b4, hw⟩ := hw
  refine c_getr hc hr ciX2 (Nat.le_of_ble_eq_true rfl) 8 (Nat.le_of_ble_eq_true rfl) rfl dX2_divide_155 lf_X2_51 ht e_b4 ?_
  refine m_iconst hc 2 dX2_divide_158 (by decide) ?_
  obtain ⟨ht, hi, hw⟩ := hw
  refine c_iald hc hr ht hi dX2_divide_159 ?_
  obtain ⟨ht, hw⟩ := hw
  refine c_callVv hc hr ciX1 (Nat.le_of_ble_eq_true rfl) ht mt_X1_narrow rfl lm_X2_192 (ok_X1_narrow hw) (Nat.le_of_ble_eq_true rfl) dX2_divide_160 rfl (rest := []) rfl (Nat.le_of_ble_eq_true rfl) (fun S5 hw => ?_)
  refine m_iconst hc 1 dX2_divide_163 (by decide) ?_
  exact c_zret hc hr dX2_divide_164 (by decide) hw
def w_X2_divide_112 (M : Nat × Nat) (K : Int32 → HS → Prop) (x0 x1 : Nat) (s0 s1 s2 : Int32) (s3 : Nat) (S : HS) : Prop := hT S s3 = 21 ∧ vp_in s2 (hN S s3) ∧ hT (sI S s3 (Int32.toNatClampNeg s2) (s1 - s0)) x0 = 3 ∧ ∃ b1 : Nat, hP (sI S s3 (Int32.toNatClampNeg s2) (s1 - s0)) x0 8 = some b1 ∧ hT (sI S s3 (Int32.toNatClampNeg s2) (s1 - s0)) x1 = 4 ∧ hT (sI S s3 (Int32.toNatClampNeg s2) (s1 - s0)) b1 = 21 ∧ vp_in (hI (sI S s3 (Int32.toNatClampNeg s2) (s1 - s0)) x1 2) (hN (sI S s3 (Int32.toNatClampNeg s2) (s1 - s0)) b1) ∧ hT (sI S s3 (Int32.toNatClampNeg s2) (s1 - s0)) x1 = 4 ∧ (¬ (hI (sI S s3 (Int32.toNatClampNeg s2) (s1 - s0)) x1 4) = 0 → w_X2_divide_136 M K x0 1 (hI (sI S s3 (Int32.toNatClampNeg s2) (s1 - s0)) b1 (Int32.toNatClampNeg (hI (sI S s3 (Int32.toNatClampNeg s2) (s1 - s0)) x1 2))) (hI (sI S s3 (Int32.toNatClampNeg s2) (s1 - s0)) x1 2) b1 (sI S s3 (Int32.toNatClampNeg s2) (s1 - s0))) ∧ ((hI (sI S s3 (Int32.toNatClampNeg s2) (s1 - s0)) x1 4) = 0 → w_X2_divide_136 M K x0 0 (hI (sI S s3 (Int32.toNatClampNeg s2) (s1 - s0)) b1 (Int32.toNatClampNeg (hI (sI S s3 (Int32.toNatClampNeg s2) (s1 - s0)) x1 2))) (hI (sI S s3 (Int32.toNatClampNeg s2) (s1 - s0)) x1 2) b1 (sI S s3 (Int32.toNatClampNeg s2) (s1 - s0)))
set_option maxHeartbeats 4000000 in
set_option maxRecDepth 100000 in
theorem b_X2_divide_112 {G : CG} {S0 : HS} {X : Fx} {K : Int32 → HS → Prop} (hc : Cx X RX2 cX2_divide 3) (hr : Cc G S0 2 (some .boolean) (kI K) X) : ∀ (x0 x1 : Nat) (s0 s1 s2 : Int32) (s3 : Nat) (S : HS), w_X2_divide_112 (gC G, gS G) K x0 x1 s0 s1 s2 s3 S → MC G S0 X 3 S 112 [(0, .ref x0), (1, .ref x1)] [.int s0, .int s1, .int s2, .ref s3] := by
  intro x0 x1 s0 s1 s2 s3 S hw
  unfold w_X2_divide_112 at hw
  refine m_isub hc dX2_divide_112 ?_
  obtain ⟨ht, hi, hw⟩ := hw
  refine c_iast hc hr ht hi dX2_divide_113 ?_
  refine m_aload_n hc 0 dX2_divide_114 rfl rfl ?_
  obtain ⟨ht, b1, e_b1, hw⟩ := hw
  refine c_getr hc hr ciX2 (Nat.le_of_ble_eq_true rfl) 8 (Nat.le_of_ble_eq_true rfl) rfl dX2_divide_115 lf_X2_51 ht e_b1 ?_
  refine m_aload_n hc 1 dX2_divide_118 rfl rfl ?_
  obtain ⟨ht, hw⟩ := hw
  refine c_geti hc hr ciX3 (Nat.le_of_ble_eq_true rfl) 2 (Nat.le_of_ble_eq_true rfl) rfl dX2_divide_119 lf_X2_171 ht ?_
  refine m_dup2 hc dX2_divide_122 rfl rfl ?_
  obtain ⟨ht, hi, hw⟩ := hw
  refine c_iald hc hr ht hi dX2_divide_123 ?_
  refine m_aload_n hc 1 dX2_divide_124 rfl rfl ?_
  obtain ⟨ht, hw⟩ := hw
  refine c_geti hc hr ciX3 (Nat.le_of_ble_eq_true rfl) 4 (Nat.le_of_ble_eq_true rfl) rfl dX2_divide_125 lf_X2_168 ht ?_
  refine m_if_ne hc 135 dX2_divide_128 rfl (fun cq => ?_) (fun cq => ?_)
  · have hw := hw.1 cq
    refine m_iconst hc 1 dX2_divide_135 (by decide) ?_
    refine m_sub [0] rfl ?_
    exact b_X2_divide_136 hc hr x0 1 (hI (sI S s3 (Int32.toNatClampNeg s2) (s1 - s0)) b1 (Int32.toNatClampNeg (hI (sI S s3 (Int32.toNatClampNeg s2) (s1 - s0)) x1 2))) (hI (sI S s3 (Int32.toNatClampNeg s2) (s1 - s0)) x1 2) b1 (sI S s3 (Int32.toNatClampNeg s2) (s1 - s0)) hw
  · have hw := hw.2 cq
    refine m_iconst hc 0 dX2_divide_131 (by decide) ?_
    refine m_goto hc 136 dX2_divide_132 rfl ?_
    refine m_sub [0] rfl ?_
    exact b_X2_divide_136 hc hr x0 0 (hI (sI S s3 (Int32.toNatClampNeg s2) (s1 - s0)) b1 (Int32.toNatClampNeg (hI (sI S s3 (Int32.toNatClampNeg s2) (s1 - s0)) x1 2))) (hI (sI S s3 (Int32.toNatClampNeg s2) (s1 - s0)) x1 2) b1 (sI S s3 (Int32.toNatClampNeg s2) (s1 - s0)) hw
def wb_X2_divide_31 (M : Nat × Nat) (K31 : Nat → Nat → Int32 → HS → Prop) (K : Int32 → HS → Prop) (x0 x1 : Nat) (x2 : Int32) (S : HS) : Prop := (x2 ≤ 0 → hT S x0 = 3 ∧ wp_X2_isSliceZero M x0 x1 S (fun r1 S1 => (¬ r1 = 0 → hT S1 x0 = 3 ∧ wp_X2_takeQuotient M x0 x1 S1 (fun r2 S2 => hT S2 x0 = 3 ∧ hT S2 x0 = 3 ∧ hT (sI S2 x0 9 ((hI S2 x0 9) - 1)) x0 = 3 ∧ ∃ b3 : Nat, hP (sI S2 x0 9 ((hI S2 x0 9) - 1)) x0 8 = some b3 ∧ hT (sI S2 x0 9 ((hI S2 x0 9) - 1)) x1 = 4 ∧ hT (sI S2 x0 9 ((hI S2 x0 9) - 1)) b3 = 21 ∧ vp_in (hI (sI S2 x0 9 ((hI S2 x0 9) - 1)) x1 0) (hN (sI S2 x0 9 ((hI S2 x0 9) - 1)) b3) ∧ hT (sI S2 x0 9 ((hI S2 x0 9) - 1)) b3 = 21 ∧ vp_in (hI (sI S2 x0 9 ((hI S2 x0 9) - 1)) x1 0) (hN (sI S2 x0 9 ((hI S2 x0 9) - 1)) b3) ∧ hT (sI (sI S2 x0 9 ((hI S2 x0 9) - 1)) b3 (Int32.toNatClampNeg (hI (sI S2 x0 9 ((hI S2 x0 9) - 1)) x1 0)) ((hI (sI S2 x0 9 ((hI S2 x0 9) - 1)) b3 (Int32.toNatClampNeg (hI (sI S2 x0 9 ((hI S2 x0 9) - 1)) x1 0))) - 1)) x0 = 3 ∧ ∃ b4 : Nat, hP (sI (sI S2 x0 9 ((hI S2 x0 9) - 1)) b3 (Int32.toNatClampNeg (hI (sI S2 x0 9 ((hI S2 x0 9) - 1)) x1 0)) ((hI (sI S2 x0 9 ((hI S2 x0 9) - 1)) b3 (Int32.toNatClampNeg (hI (sI S2 x0 9 ((hI S2 x0 9) - 1)) x1 0))) - 1)) x0 8 = some b4 ∧ hT (sI (sI S2 x0 9 ((hI S2 x0 9) - 1)) b3 (Int32.toNatClampNeg (hI (sI S2 x0 9 ((hI S2 x0 9) - 1)) x1 0)) ((hI (sI S2 x0 9 ((hI S2 x0 9) - 1)) b3 (Int32.toNatClampNeg (hI (sI S2 x0 9 ((hI S2 x0 9) - 1)) x1 0))) - 1)) x1 = 4 ∧ hT (sI (sI S2 x0 9 ((hI S2 x0 9) - 1)) b3 (Int32.toNatClampNeg (hI (sI S2 x0 9 ((hI S2 x0 9) - 1)) x1 0)) ((hI (sI S2 x0 9 ((hI S2 x0 9) - 1)) b3 (Int32.toNatClampNeg (hI (sI S2 x0 9 ((hI S2 x0 9) - 1)) x1 0))) - 1)) b4 = 21 ∧ vp_in (hI (sI (sI S2 x0 9 ((hI S2 x0 9) - 1)) b3 (Int32.toNatClampNeg (hI (sI S2 x0 9 ((hI S2 x0 9) - 1)) x1 0)) ((hI (sI S2 x0 9 ((hI S2 x0 9) - 1)) b3 (Int32.toNatClampNeg (hI (sI S2 x0 9 ((hI S2 x0 9) - 1)) x1 0))) - 1)) x1 1) (hN (sI (sI S2 x0 9 ((hI S2 x0 9) - 1)) b3 (Int32.toNatClampNeg (hI (sI S2 x0 9 ((hI S2 x0 9) - 1)) x1 0)) ((hI (sI S2 x0 9 ((hI S2 x0 9) - 1)) b3 (Int32.toNatClampNeg (hI (sI S2 x0 9 ((hI S2 x0 9) - 1)) x1 0))) - 1)) b4) ∧ hT (sI (sI S2 x0 9 ((hI S2 x0 9) - 1)) b3 (Int32.toNatClampNeg (hI (sI S2 x0 9 ((hI S2 x0 9) - 1)) x1 0)) ((hI (sI S2 x0 9 ((hI S2 x0 9) - 1)) b3 (Int32.toNatClampNeg (hI (sI S2 x0 9 ((hI S2 x0 9) - 1)) x1 0))) - 1)) x1 = 4 ∧ (¬ (hI (sI (sI S2 x0 9 ((hI S2 x0 9) - 1)) b3 (Int32.toNatClampNeg (hI (sI S2 x0 9 ((hI S2 x0 9) - 1)) x1 0)) ((hI (sI S2 x0 9 ((hI S2 x0 9) - 1)) b3 (Int32.toNatClampNeg (hI (sI S2 x0 9 ((hI S2 x0 9) - 1)) x1 0))) - 1)) x1 3) = 0 → w_X2_divide_112 M K x0 x1 1 (hI (sI (sI S2 x0 9 ((hI S2 x0 9) - 1)) b3 (Int32.toNatClampNeg (hI (sI S2 x0 9 ((hI S2 x0 9) - 1)) x1 0)) ((hI (sI S2 x0 9 ((hI S2 x0 9) - 1)) b3 (Int32.toNatClampNeg (hI (sI S2 x0 9 ((hI S2 x0 9) - 1)) x1 0))) - 1)) b4 (Int32.toNatClampNeg (hI (sI (sI S2 x0 9 ((hI S2 x0 9) - 1)) b3 (Int32.toNatClampNeg (hI (sI S2 x0 9 ((hI S2 x0 9) - 1)) x1 0)) ((hI (sI S2 x0 9 ((hI S2 x0 9) - 1)) b3 (Int32.toNatClampNeg (hI (sI S2 x0 9 ((hI S2 x0 9) - 1)) x1 0))) - 1)) x1 1))) (hI (sI (sI S2 x0 9 ((hI S2 x0 9) - 1)) b3 (Int32.toNatClampNeg (hI (sI S2 x0 9 ((hI S2 x0 9) - 1)) x1 0)) ((hI (sI S2 x0 9 ((hI S2 x0 9) - 1)) b3 (Int32.toNatClampNeg (hI (sI S2 x0 9 ((hI S2 x0 9) - 1)) x1 0))) - 1)) x1 1) b4 (sI (sI S2 x0 9 ((hI S2 x0 9) - 1)) b3 (Int32.toNatClampNeg (hI (sI S2 x0 9 ((hI S2 x0 9) - 1)) x1 0)) ((hI (sI S2 x0 9 ((hI S2 x0 9) - 1)) b3 (Int32.toNatClampNeg (hI (sI S2 x0 9 ((hI S2 x0 9) - 1)) x1 0))) - 1))) ∧ ((hI (sI (sI S2 x0 9 ((hI S2 x0 9) - 1)) b3 (Int32.toNatClampNeg (hI (sI S2 x0 9 ((hI S2 x0 9) - 1)) x1 0)) ((hI (sI S2 x0 9 ((hI S2 x0 9) - 1)) b3 (Int32.toNatClampNeg (hI (sI S2 x0 9 ((hI S2 x0 9) - 1)) x1 0))) - 1)) x1 3) = 0 → w_X2_divide_112 M K x0 x1 0 (hI (sI (sI S2 x0 9 ((hI S2 x0 9) - 1)) b3 (Int32.toNatClampNeg (hI (sI S2 x0 9 ((hI S2 x0 9) - 1)) x1 0)) ((hI (sI S2 x0 9 ((hI S2 x0 9) - 1)) b3 (Int32.toNatClampNeg (hI (sI S2 x0 9 ((hI S2 x0 9) - 1)) x1 0))) - 1)) b4 (Int32.toNatClampNeg (hI (sI (sI S2 x0 9 ((hI S2 x0 9) - 1)) b3 (Int32.toNatClampNeg (hI (sI S2 x0 9 ((hI S2 x0 9) - 1)) x1 0)) ((hI (sI S2 x0 9 ((hI S2 x0 9) - 1)) b3 (Int32.toNatClampNeg (hI (sI S2 x0 9 ((hI S2 x0 9) - 1)) x1 0))) - 1)) x1 1))) (hI (sI (sI S2 x0 9 ((hI S2 x0 9) - 1)) b3 (Int32.toNatClampNeg (hI (sI S2 x0 9 ((hI S2 x0 9) - 1)) x1 0)) ((hI (sI S2 x0 9 ((hI S2 x0 9) - 1)) b3 (Int32.toNatClampNeg (hI (sI S2 x0 9 ((hI S2 x0 9) - 1)) x1 0))) - 1)) x1 1) b4 (sI (sI S2 x0 9 ((hI S2 x0 9) - 1)) b3 (Int32.toNatClampNeg (hI (sI S2 x0 9 ((hI S2 x0 9) - 1)) x1 0)) ((hI (sI S2 x0 9 ((hI S2 x0 9) - 1)) b3 (Int32.toNatClampNeg (hI (sI S2 x0 9 ((hI S2 x0 9) - 1)) x1 0))) - 1))))) ∧ (r1 = 0 → K 0 S1))) ∧ (¬ (x2 ≤ 0) → hT S x0 = 3 ∧ wp_X2_divideSlice M x0 x1 x2 S (fun r5 S5 => (¬ r5 = 0 → K31 x0 x1 (x2 + (-1)) S5) ∧ (r5 = 0 → K 0 S5)))
def wl_X2_divide_31 (M : Nat × Nat) (K : Int32 → HS → Prop) : Nat → Nat → Nat → Int32 → HS → Prop
  | 0 => fun _ _ _ _ => False
  | nn + 1 => wb_X2_divide_31 M (wl_X2_divide_31 M K nn) K
set_option maxHeartbeats 4000000 in
set_option maxRecDepth 100000 in
theorem l_X2_divide_31 {G : CG} {S0 : HS} {X : Fx} {K : Int32 → HS → Prop} (hc : Cx X RX2 cX2_divide 3) (hr : Cc G S0 2 (some .boolean) (kI K) X) : ∀ (nn : Nat) (x0 x1 : Nat) (x2 : Int32) (S : HS), wl_X2_divide_31 (gC G, gS G) K nn x0 x1 x2 S → MC G S0 X 3 S 31 [(0, .ref x0), (1, .ref x1), (2, .int x2)] [] := by
  intro nn
  induction nn with
  | zero => intro x0 x1 x2 S hw; exact False.elim hw
  | succ nn ih =>
    intro x0 x1 x2 S hw
    have hw : wb_X2_divide_31 (gC G, gS G) (wl_X2_divide_31 (gC G, gS G) K nn) K x0 x1 x2 S := hw
    have h31 := ih
    generalize wl_X2_divide_31 (gC G, gS G) K nn = K31 at hw h31
    unfold wb_X2_divide_31 at hw
    refine m_iload_n hc 2 dX2_divide_31 rfl rfl ?_
    refine m_if_le hc 52 dX2_divide_32 rfl (fun cq => ?_) (fun cq => ?_)
    · have hw := hw.1 cq
      refine m_aload_n hc 0 dX2_divide_52 rfl rfl ?_
      refine m_aload_n hc 1 dX2_divide_53 rfl rfl ?_
      obtain ⟨ht, hw⟩ := hw
      refine c_callVi hc hr ciX2 (Nat.le_of_ble_eq_true rfl) ht mt_X2_isSliceZero rfl lm_X2_185 (ok_X2_isSliceZero hw) (Nat.le_of_ble_eq_true rfl) dX2_divide_54 rfl (rest := []) rfl (Nat.le_of_ble_eq_true rfl) (fun r1 S1 hw => ?_)
      refine m_if_ne hc 62 dX2_divide_57 rfl (fun cq => ?_) (fun cq => ?_)
      · have hw := hw.1 cq
        refine m_aload_n hc 0 dX2_divide_62 rfl rfl ?_
        refine m_aload_n hc 1 dX2_divide_63 rfl rfl ?_
        obtain ⟨ht, hw⟩ := hw
        refine c_callVv hc hr ciX2 (Nat.le_of_ble_eq_true rfl) ht mt_X2_takeQuotient rfl lm_X2_188 (ok_X2_takeQuotient hw) (Nat.le_of_ble_eq_true rfl) dX2_divide_64 rfl (rest := []) rfl (Nat.le_of_ble_eq_true rfl) (fun S2 hw => ?_)
        refine m_aload_n hc 0 dX2_divide_67 rfl rfl ?_
        refine m_dup hc dX2_divide_68 rfl ?_
        obtain ⟨ht, hw⟩ := hw
        refine c_geti hc hr ciX2 (Nat.le_of_ble_eq_true rfl) 9 (Nat.le_of_ble_eq_true rfl) rfl dX2_divide_69 lf_X2_54 ht ?_
        refine m_iconst hc 1 dX2_divide_72 (by decide) ?_
        refine m_isub hc dX2_divide_73 ?_
        obtain ⟨ht, hw⟩ := hw
        refine c_puti hc hr ciX2 (Nat.le_of_ble_eq_true rfl) 9 (Nat.le_of_ble_eq_true rfl) rfl dX2_divide_74 lf_X2_54 ht (Or.inl rfl) ⟨rfl, rfl⟩ ?_
        refine m_aload_n hc 0 dX2_divide_77 rfl rfl ?_
        obtain ⟨ht, b3, e_b3, hw⟩ := hw
        refine c_getr hc hr ciX2 (Nat.le_of_ble_eq_true rfl) 8 (Nat.le_of_ble_eq_true rfl) rfl dX2_divide_78 lf_X2_51 ht e_b3 ?_
        refine m_aload_n hc 1 dX2_divide_81 rfl rfl ?_
        obtain ⟨ht, hw⟩ := hw
        refine c_geti hc hr ciX3 (Nat.le_of_ble_eq_true rfl) 0 (Nat.le_of_ble_eq_true rfl) rfl dX2_divide_82 lf_X2_156 ht ?_
        refine m_dup2 hc dX2_divide_85 rfl rfl ?_
        obtain ⟨ht, hi, hw⟩ := hw
        refine c_iald hc hr ht hi dX2_divide_86 ?_
        refine m_iconst hc 1 dX2_divide_87 (by decide) ?_
        refine m_isub hc dX2_divide_88 ?_
        obtain ⟨ht, hi, hw⟩ := hw
        refine c_iast hc hr ht hi dX2_divide_89 ?_
        refine m_aload_n hc 0 dX2_divide_90 rfl rfl ?_
        obtain ⟨ht, b4, e_b4, hw⟩ := hw
        refine c_getr hc hr ciX2 (Nat.le_of_ble_eq_true rfl) 8 (Nat.le_of_ble_eq_true rfl) rfl dX2_divide_91 lf_X2_51 ht e_b4 ?_
        refine m_aload_n hc 1 dX2_divide_94 rfl rfl ?_
        obtain ⟨ht, hw⟩ := hw
        refine c_geti hc hr ciX3 (Nat.le_of_ble_eq_true rfl) 1 (Nat.le_of_ble_eq_true rfl) rfl dX2_divide_95 lf_X2_165 ht ?_
        refine m_dup2 hc dX2_divide_98 rfl rfl ?_
        obtain ⟨ht, hi, hw⟩ := hw
        refine c_iald hc hr ht hi dX2_divide_99 ?_
        refine m_aload_n hc 1 dX2_divide_100 rfl rfl ?_
        obtain ⟨ht, hw⟩ := hw
        refine c_geti hc hr ciX3 (Nat.le_of_ble_eq_true rfl) 3 (Nat.le_of_ble_eq_true rfl) rfl dX2_divide_101 lf_X2_162 ht ?_
        refine m_if_ne hc 111 dX2_divide_104 rfl (fun cq => ?_) (fun cq => ?_)
        · have hw := hw.1 cq
          refine m_iconst hc 1 dX2_divide_111 (by decide) ?_
          refine m_sub [0, 1] rfl ?_
          exact b_X2_divide_112 hc hr x0 x1 1 (hI (sI (sI S2 x0 9 ((hI S2 x0 9) - 1)) b3 (Int32.toNatClampNeg (hI (sI S2 x0 9 ((hI S2 x0 9) - 1)) x1 0)) ((hI (sI S2 x0 9 ((hI S2 x0 9) - 1)) b3 (Int32.toNatClampNeg (hI (sI S2 x0 9 ((hI S2 x0 9) - 1)) x1 0))) - 1)) b4 (Int32.toNatClampNeg (hI (sI (sI S2 x0 9 ((hI S2 x0 9) - 1)) b3 (Int32.toNatClampNeg (hI (sI S2 x0 9 ((hI S2 x0 9) - 1)) x1 0)) ((hI (sI S2 x0 9 ((hI S2 x0 9) - 1)) b3 (Int32.toNatClampNeg (hI (sI S2 x0 9 ((hI S2 x0 9) - 1)) x1 0))) - 1)) x1 1))) (hI (sI (sI S2 x0 9 ((hI S2 x0 9) - 1)) b3 (Int32.toNatClampNeg (hI (sI S2 x0 9 ((hI S2 x0 9) - 1)) x1 0)) ((hI (sI S2 x0 9 ((hI S2 x0 9) - 1)) b3 (Int32.toNatClampNeg (hI (sI S2 x0 9 ((hI S2 x0 9) - 1)) x1 0))) - 1)) x1 1) b4 (sI (sI S2 x0 9 ((hI S2 x0 9) - 1)) b3 (Int32.toNatClampNeg (hI (sI S2 x0 9 ((hI S2 x0 9) - 1)) x1 0)) ((hI (sI S2 x0 9 ((hI S2 x0 9) - 1)) b3 (Int32.toNatClampNeg (hI (sI S2 x0 9 ((hI S2 x0 9) - 1)) x1 0))) - 1)) hw
        · have hw := hw.2 cq
          refine m_iconst hc 0 dX2_divide_107 (by decide) ?_
          refine m_goto hc 112 dX2_divide_108 rfl ?_
          refine m_sub [0, 1] rfl ?_
          exact b_X2_divide_112 hc hr x0 x1 0 (hI (sI (sI S2 x0 9 ((hI S2 x0 9) - 1)) b3 (Int32.toNatClampNeg (hI (sI S2 x0 9 ((hI S2 x0 9) - 1)) x1 0)) ((hI (sI S2 x0 9 ((hI S2 x0 9) - 1)) b3 (Int32.toNatClampNeg (hI (sI S2 x0 9 ((hI S2 x0 9) - 1)) x1 0))) - 1)) b4 (Int32.toNatClampNeg (hI (sI (sI S2 x0 9 ((hI S2 x0 9) - 1)) b3 (Int32.toNatClampNeg (hI (sI S2 x0 9 ((hI S2 x0 9) - 1)) x1 0)) ((hI (sI S2 x0 9 ((hI S2 x0 9) - 1)) b3 (Int32.toNatClampNeg (hI (sI S2 x0 9 ((hI S2 x0 9) - 1)) x1 0))) - 1)) x1 1))) (hI (sI (sI S2 x0 9 ((hI S2 x0 9) - 1)) b3 (Int32.toNatClampNeg (hI (sI S2 x0 9 ((hI S2 x0 9) - 1)) x1 0)) ((hI (sI S2 x0 9 ((hI S2 x0 9) - 1)) b3 (Int32.toNatClampNeg (hI (sI S2 x0 9 ((hI S2 x0 9) - 1)) x1 0))) - 1)) x1 1) b4 (sI (sI S2 x0 9 ((hI S2 x0 9) - 1)) b3 (Int32.toNatClampNeg (hI (sI S2 x0 9 ((hI S2 x0 9) - 1)) x1 0)) ((hI (sI S2 x0 9 ((hI S2 x0 9) - 1)) b3 (Int32.toNatClampNeg (hI (sI S2 x0 9 ((hI S2 x0 9) - 1)) x1 0))) - 1)) hw
      · have hw := hw.2 cq
        refine m_iconst hc 0 dX2_divide_60 (by decide) ?_
        exact c_zret hc hr dX2_divide_61 (by decide) hw
    · have hw := hw.2 cq
      refine m_aload_n hc 0 dX2_divide_35 rfl rfl ?_
      refine m_aload_n hc 1 dX2_divide_36 rfl rfl ?_
      refine m_iload_n hc 2 dX2_divide_37 rfl rfl ?_
      obtain ⟨ht, hw⟩ := hw
      refine c_callVi hc hr ciX2 (Nat.le_of_ble_eq_true rfl) ht mt_X2_divideSlice rfl lm_X2_181 (ok_X2_divideSlice hw) (Nat.le_of_ble_eq_true rfl) dX2_divide_38 rfl (rest := []) rfl (Nat.le_of_ble_eq_true rfl) (fun r5 S5 hw => ?_)
      refine m_if_ne hc 46 dX2_divide_41 rfl (fun cq => ?_) (fun cq => ?_)
      · have hw := hw.1 cq
        refine m_iinc hc 2 (x2 + (-1)) [(2, .int (x2 + (-1))), (0, .ref x0), (1, .ref x1)] dX2_divide_46 rfl rfl (Nat.le_of_ble_eq_true rfl) rfl ?_
        refine m_goto hc 31 dX2_divide_49 rfl ?_
        refine m_sub [1, 2, 0] rfl ?_
        exact h31 x0 x1 (x2 + (-1)) S5 hw
      · have hw := hw.2 cq
        refine m_iconst hc 0 dX2_divide_44 (by decide) ?_
        exact c_zret hc hr dX2_divide_45 (by decide) hw
def wp_X2_divide (M : Nat × Nat) (x0 x1 : Nat) (S : HS) (K : Int32 → HS → Prop) : Prop := hT S x0 = 3 ∧ wp_X2_canGoIn M x0 x1 S (fun r1 S1 => (¬ r1 = 0 → hT S1 x0 = 3 ∧ ∃ b2 : Nat, hP S1 x0 7 = some b2 ∧ hT S1 x0 = 3 ∧ ∃ b3 : Nat, hP S1 x0 6 = some b3 ∧ hT S1 b2 = 2 ∧ wp_X1_copyFrom M b2 b3 S1 (fun r4 S4 => hT S4 x0 = 3 ∧ ∃ b5 : Nat, hP S4 x0 8 = some b5 ∧ hT S4 x1 = 4 ∧ hT S4 b5 = 21 ∧ vp_in (hI S4 x1 0) (hN S4 b5) ∧ ∀ v6 : Int32, v6 = (hI S4 b5 (Int32.toNatClampNeg (hI S4 x1 0))) → ∃ nn : Nat, wl_X2_divide_31 M K nn x0 x1 v6 S4)) ∧ (r1 = 0 → K 0 S1))
set_option maxHeartbeats 4000000 in
set_option maxRecDepth 100000 in
theorem ok_X2_divide {G : CG} {x0 : Nat} {x1 : Nat} {S : HS} {K : Int32 → HS → Prop} (hw : wp_X2_divide (gC G, gS G) x0 x1 S K) : CC 2 yX2_divide cX2_divide 3 (some .boolean) [.ref x0, .ref x1] G S (kI K) := by
  refine CC.of (by decide +kernel) (Nat.le_of_ble_eq_true rfl) (fun X hc hr hname => ?_)
  show MC G S X 3 S 0 [(0, .ref x0), (1, .ref x1)] []
  unfold wp_X2_divide at hw
  refine m_aload_n hc 0 dX2_divide_0 rfl rfl ?_
  refine m_aload_n hc 1 dX2_divide_1 rfl rfl ?_
  obtain ⟨ht, hw⟩ := hw
  refine c_callVi hc hr ciX2 (Nat.le_of_ble_eq_true rfl) ht mt_X2_canGoIn rfl lm_X2_174 (ok_X2_canGoIn hw) (Nat.le_of_ble_eq_true rfl) dX2_divide_2 rfl (rest := []) rfl (Nat.le_of_ble_eq_true rfl) (fun r1 S1 hw => ?_)
  refine m_if_ne hc 10 dX2_divide_5 rfl (fun cq => ?_) (fun cq => ?_)
  · have hw := hw.1 cq
    refine m_aload_n hc 0 dX2_divide_10 rfl rfl ?_
    obtain ⟨ht, b2, e_b2, hw⟩ := hw
    refine c_getr hc hr ciX2 (Nat.le_of_ble_eq_true rfl) 7 (Nat.le_of_ble_eq_true rfl) rfl dX2_divide_11 lf_X2_48 ht e_b2 ?_
    refine m_aload_n hc 0 dX2_divide_14 rfl rfl ?_
    obtain ⟨ht, b3, e_b3, hw⟩ := hw
    refine c_getr hc hr ciX2 (Nat.le_of_ble_eq_true rfl) 6 (Nat.le_of_ble_eq_true rfl) rfl dX2_divide_15 lf_X2_44 ht e_b3 ?_
    obtain ⟨ht, hw⟩ := hw
    refine c_callVv hc hr ciX1 (Nat.le_of_ble_eq_true rfl) ht mt_X1_copyFrom rfl lm_X2_177 (ok_X1_copyFrom hw) (Nat.le_of_ble_eq_true rfl) dX2_divide_18 rfl (rest := []) rfl (Nat.le_of_ble_eq_true rfl) (fun S4 hw => ?_)
    refine m_aload_n hc 0 dX2_divide_21 rfl rfl ?_
    obtain ⟨ht, b5, e_b5, hw⟩ := hw
    refine c_getr hc hr ciX2 (Nat.le_of_ble_eq_true rfl) 8 (Nat.le_of_ble_eq_true rfl) rfl dX2_divide_22 lf_X2_51 ht e_b5 ?_
    refine m_aload_n hc 1 dX2_divide_25 rfl rfl ?_
    obtain ⟨ht, hw⟩ := hw
    refine c_geti hc hr ciX3 (Nat.le_of_ble_eq_true rfl) 0 (Nat.le_of_ble_eq_true rfl) rfl dX2_divide_26 lf_X2_156 ht ?_
    obtain ⟨ht, hi, hw⟩ := hw
    refine c_iald hc hr ht hi dX2_divide_29 ?_
    refine m_topi (fun v6 e_v6 => ?_)
    have hw := hw v6 e_v6
    refine m_istore_n hc [(2, .int v6), (0, .ref x0), (1, .ref x1)] dX2_divide_30 rfl (Nat.le_of_ble_eq_true rfl) rfl ?_
    refine m_sub [1, 2, 0] rfl ?_
    obtain ⟨nn, hw⟩ := hw
    exact l_X2_divide_31 hc hr nn x0 x1 v6 S4 hw
  · have hw := hw.2 cq
    refine m_iconst hc 0 dX2_divide_8 (by decide) ?_
    exact c_zret hc hr dX2_divide_9 (by decide) hw
def wp_X3_isVariable (M : Nat × Nat) (x0 : Nat) (S : HS) (K : Int32 → HS → Prop) : Prop := hT S x0 = 4 ∧ (¬ (hI S x0 3) = 0 → K 0 S) ∧ ((hI S x0 3) = 0 → hT S x0 = 4 ∧ (¬ (hI S x0 4) = 0 → K 0 S) ∧ ((hI S x0 4) = 0 → hT S x0 = 4 ∧ (¬ (hI S x0 5) = 0 → K 0 S) ∧ ((hI S x0 5) = 0 → K 1 S)))
set_option maxHeartbeats 4000000 in
set_option maxRecDepth 100000 in
theorem ok_X3_isVariable {G : CG} {x0 : Nat} {S : HS} {K : Int32 → HS → Prop} (hw : wp_X3_isVariable (gC G, gS G) x0 S K) : CC 0 yX3_isVariable cX3_isVariable 1 (some .boolean) [.ref x0] G S (kI K) := by
  refine CC.of (by decide +kernel) (Nat.le_of_ble_eq_true rfl) (fun X hc hr hname => ?_)
  show MC G S X 1 S 0 [(0, .ref x0)] []
  unfold wp_X3_isVariable at hw
  refine m_aload_n hc 0 dX3_isVariable_0 rfl rfl ?_
  obtain ⟨ht, hw⟩ := hw
  refine c_geti hc hr ciX3 (Nat.le_of_ble_eq_true rfl) 3 (Nat.le_of_ble_eq_true rfl) rfl dX3_isVariable_1 lf_X3_23 ht ?_
  refine m_if_ne hc 25 dX3_isVariable_4 rfl (fun cq => ?_) (fun cq => ?_)
  · have hw := hw.1 cq
    refine m_iconst hc 0 dX3_isVariable_25 (by decide) ?_
    exact c_zret hc hr dX3_isVariable_26 (by decide) hw
  · have hw := hw.2 cq
    refine m_aload_n hc 0 dX3_isVariable_7 rfl rfl ?_
    obtain ⟨ht, hw⟩ := hw
    refine c_geti hc hr ciX3 (Nat.le_of_ble_eq_true rfl) 4 (Nat.le_of_ble_eq_true rfl) rfl dX3_isVariable_8 lf_X3_26 ht ?_
    refine m_if_ne hc 25 dX3_isVariable_11 rfl (fun cq => ?_) (fun cq => ?_)
    · have hw := hw.1 cq
      refine m_iconst hc 0 dX3_isVariable_25 (by decide) ?_
      exact c_zret hc hr dX3_isVariable_26 (by decide) hw
    · have hw := hw.2 cq
      refine m_aload_n hc 0 dX3_isVariable_14 rfl rfl ?_
      obtain ⟨ht, hw⟩ := hw
      refine c_geti hc hr ciX3 (Nat.le_of_ble_eq_true rfl) 5 (Nat.le_of_ble_eq_true rfl) rfl dX3_isVariable_15 lf_X3_29 ht ?_
      refine m_if_ne hc 25 dX3_isVariable_18 rfl (fun cq => ?_) (fun cq => ?_)
      · have hw := hw.1 cq
        refine m_iconst hc 0 dX3_isVariable_25 (by decide) ?_
        exact c_zret hc hr dX3_isVariable_26 (by decide) hw
      · have hw := hw.2 cq
        refine m_iconst hc 1 dX3_isVariable_21 (by decide) ?_
        refine m_goto hc 26 dX3_isVariable_22 rfl ?_
        exact c_zret hc hr dX3_isVariable_26 (by decide) hw
def wb_X2_takeOut_19 (M : Nat × Nat) (K19 : Nat → Nat → Int32 → HS → Prop) (K : Int32 → HS → Prop) (x0 x1 : Nat) (x2 : Int32) (S : HS) : Prop := (40 < x2 → K x2 S) ∧ (¬ (40 < x2) → hT S x0 = 3 ∧ wp_X2_divide M x0 x1 S (fun r1 S1 => (r1 = 0 → K x2 S1) ∧ (¬ (r1 = 0) → K19 x0 x1 (x2 + 1) S1)))
def wl_X2_takeOut_19 (M : Nat × Nat) (K : Int32 → HS → Prop) : Nat → Nat → Nat → Int32 → HS → Prop
  | 0 => fun _ _ _ _ => False
  | nn + 1 => wb_X2_takeOut_19 M (wl_X2_takeOut_19 M K nn) K
set_option maxHeartbeats 4000000 in
set_option maxRecDepth 100000 in
theorem l_X2_takeOut_19 {G : CG} {S0 : HS} {X : Fx} {K : Int32 → HS → Prop} (hc : Cx X RX2 cX2_takeOut 3) (hr : Cc G S0 3 (some .int) (kI K) X) : ∀ (nn : Nat) (x0 x1 : Nat) (x2 : Int32) (S : HS), wl_X2_takeOut_19 (gC G, gS G) K nn x0 x1 x2 S → MC G S0 X 3 S 19 [(0, .ref x0), (1, .ref x1), (2, .int x2)] [] := by
  intro nn
  induction nn with
  | zero => intro x0 x1 x2 S hw; exact False.elim hw
  | succ nn ih =>
    intro x0 x1 x2 S hw
    have hw : wb_X2_takeOut_19 (gC G, gS G) (wl_X2_takeOut_19 (gC G, gS G) K nn) K x0 x1 x2 S := hw
    have h19 := ih
    generalize wl_X2_takeOut_19 (gC G, gS G) K nn = K19 at hw h19
    unfold wb_X2_takeOut_19 at hw
    refine m_iload_n hc 2 dX2_takeOut_19 rfl rfl ?_
    refine m_bipush hc 40 dX2_takeOut_20 (by decide) ?_
    refine m_icmp_gt hc 39 dX2_takeOut_22 rfl (fun cq => ?_) (fun cq => ?_)
    · have hw := hw.1 cq
      refine m_iload_n hc 2 dX2_takeOut_39 rfl rfl ?_
      exact c_iret hc hr dX2_takeOut_40 hw
    · have hw := hw.2 cq
      refine m_aload_n hc 0 dX2_takeOut_25 rfl rfl ?_
      refine m_aload_n hc 1 dX2_takeOut_26 rfl rfl ?_
      obtain ⟨ht, hw⟩ := hw
      refine c_callVi hc hr ciX2 (Nat.le_of_ble_eq_true rfl) ht mt_X2_divide rfl lm_X2_159 (ok_X2_divide hw) (Nat.le_of_ble_eq_true rfl) dX2_takeOut_27 rfl (rest := []) rfl (Nat.le_of_ble_eq_true rfl) (fun r1 S1 hw => ?_)
      refine m_if_eq hc 39 dX2_takeOut_30 rfl (fun cq => ?_) (fun cq => ?_)
      · have hw := hw.1 cq
        refine m_iload_n hc 2 dX2_takeOut_39 rfl rfl ?_
        exact c_iret hc hr dX2_takeOut_40 hw
      · have hw := hw.2 cq
        refine m_iinc hc 2 (x2 + 1) [(2, .int (x2 + 1)), (0, .ref x0), (1, .ref x1)] dX2_takeOut_33 rfl rfl (Nat.le_of_ble_eq_true rfl) rfl ?_
        refine m_goto hc 19 dX2_takeOut_36 rfl ?_
        refine m_sub [1, 2, 0] rfl ?_
        exact h19 x0 x1 (x2 + 1) S1 hw
def wp_X2_takeOut (M : Nat × Nat) (x0 x1 : Nat) (S : HS) (K : Int32 → HS → Prop) : Prop := hT S x1 = 4 ∧ wp_X3_isVariable M x1 S (fun r1 S1 => (r1 = 0 → ∃ nn : Nat, wl_X2_takeOut_19 M K nn x0 x1 0 S1) ∧ (¬ (r1 = 0) → hT S1 x0 = 3 ∧ ∃ b2 : Nat, hP S1 x0 10 = some b2 ∧ hT S1 x1 = 4 ∧ hT S1 b2 = 21 ∧ vp_in (hI S1 x1 0) (hN S1 b2) ∧ K (hI S1 b2 (Int32.toNatClampNeg (hI S1 x1 0))) S1))
set_option maxHeartbeats 4000000 in
set_option maxRecDepth 100000 in
theorem ok_X2_takeOut {G : CG} {x0 : Nat} {x1 : Nat} {S : HS} {K : Int32 → HS → Prop} (hw : wp_X2_takeOut (gC G, gS G) x0 x1 S K) : CC 3 yX2_takeOut cX2_takeOut 3 (some .int) [.ref x0, .ref x1] G S (kI K) := by
  refine CC.of (by decide +kernel) (Nat.le_of_ble_eq_true rfl) (fun X hc hr hname => ?_)
  show MC G S X 3 S 0 [(0, .ref x0), (1, .ref x1)] []
  unfold wp_X2_takeOut at hw
  refine m_aload_n hc 1 dX2_takeOut_0 rfl rfl ?_
  obtain ⟨ht, hw⟩ := hw
  refine c_callVi hc hr ciX3 (Nat.le_of_ble_eq_true rfl) ht mt_X3_isVariable rfl lm_X2_152 (ok_X3_isVariable hw) (Nat.le_of_ble_eq_true rfl) dX2_takeOut_1 rfl (rest := []) rfl (Nat.le_of_ble_eq_true rfl) (fun r1 S1 hw => ?_)
  refine m_if_eq hc 17 dX2_takeOut_4 rfl (fun cq => ?_) (fun cq => ?_)
  · have hw := hw.1 cq
    refine m_iconst hc 0 dX2_takeOut_17 (by decide) ?_
    refine m_istore_n hc [(2, .int 0), (0, .ref x0), (1, .ref x1)] dX2_takeOut_18 rfl (Nat.le_of_ble_eq_true rfl) rfl ?_
    refine m_sub [1, 2, 0] rfl ?_
    obtain ⟨nn, hw⟩ := hw
    exact l_X2_takeOut_19 hc hr nn x0 x1 0 S1 hw
  · have hw := hw.2 cq
    refine m_aload_n hc 0 dX2_takeOut_7 rfl rfl ?_
    obtain ⟨ht, b2, e_b2, hw⟩ := hw
    refine c_getr hc hr ciX2 (Nat.le_of_ble_eq_true rfl) 10 (Nat.le_of_ble_eq_true rfl) rfl dX2_takeOut_8 lf_X2_57 ht e_b2 ?_
    refine m_aload_n hc 1 dX2_takeOut_11 rfl rfl ?_
    obtain ⟨ht, hw⟩ := hw
    refine c_geti hc hr ciX3 (Nat.le_of_ble_eq_true rfl) 0 (Nat.le_of_ble_eq_true rfl) rfl dX2_takeOut_12 lf_X2_156 ht ?_
    obtain ⟨ht, hi, hw⟩ := hw
    refine c_iald hc hr ht hi dX2_takeOut_15 ?_
    exact c_iret hc hr dX2_takeOut_16 hw
def wp_X5_stride (M : Nat × Nat) (x0 : Nat) (x1 : Int32) (S : HS) (K : Int32 → HS → Prop) : Prop := (¬ x1 = 0 → (¬ x1 = 1 → K 1 S) ∧ (x1 = 1 → hT S x0 = 6 ∧ K (hI S x0 2) S)) ∧ (x1 = 0 → hT S x0 = 6 ∧ hT S x0 = 6 ∧ K ((hI S x0 2) * (hI S x0 2)) S)
set_option maxHeartbeats 4000000 in
set_option maxRecDepth 100000 in
theorem ok_X5_stride {G : CG} {x0 : Nat} {x1 : Int32} {S : HS} {K : Int32 → HS → Prop} (hw : wp_X5_stride (gC G, gS G) x0 x1 S K) : CC 0 yX5_stride cX5_stride 2 (some .int) [.ref x0, .int x1] G S (kI K) := by
  refine CC.of (by decide +kernel) (Nat.le_of_ble_eq_true rfl) (fun X hc hr hname => ?_)
  show MC G S X 2 S 0 [(0, .ref x0), (1, .int x1)] []
  unfold wp_X5_stride at hw
  refine m_iload_n hc 1 dX5_stride_0 rfl rfl ?_
  refine m_if_ne hc 16 dX5_stride_1 rfl (fun cq => ?_) (fun cq => ?_)
  · have hw := hw.1 cq
    refine m_iload_n hc 1 dX5_stride_16 rfl rfl ?_
    refine m_iconst hc 1 dX5_stride_17 (by decide) ?_
    refine m_icmp_ne hc 28 dX5_stride_18 rfl (fun cq => ?_) (fun cq => ?_)
    · have hw := hw.1 cq
      refine m_iconst hc 1 dX5_stride_28 (by decide) ?_
      exact c_iret hc hr dX5_stride_29 hw
    · have hw := hw.2 cq
      refine m_aload_n hc 0 dX5_stride_21 rfl rfl ?_
      obtain ⟨ht, hw⟩ := hw
      refine c_geti hc hr ciX5 (Nat.le_of_ble_eq_true rfl) 2 (Nat.le_of_ble_eq_true rfl) rfl dX5_stride_22 lf_X5_18 ht ?_
      refine m_goto hc 29 dX5_stride_25 rfl ?_
      exact c_iret hc hr dX5_stride_29 hw
  · have hw := hw.2 cq
    refine m_aload_n hc 0 dX5_stride_4 rfl rfl ?_
    obtain ⟨ht, hw⟩ := hw
    refine c_geti hc hr ciX5 (Nat.le_of_ble_eq_true rfl) 2 (Nat.le_of_ble_eq_true rfl) rfl dX5_stride_5 lf_X5_18 ht ?_
    refine m_aload_n hc 0 dX5_stride_8 rfl rfl ?_
    obtain ⟨ht, hw⟩ := hw
    refine c_geti hc hr ciX5 (Nat.le_of_ble_eq_true rfl) 2 (Nat.le_of_ble_eq_true rfl) rfl dX5_stride_9 lf_X5_18 ht ?_
    refine m_imul hc dX5_stride_12 ?_
    refine m_goto hc 29 dX5_stride_13 rfl ?_
    exact c_iret hc hr dX5_stride_29 hw
def w_X5_isZeroOn_95 (M : Nat × Nat) (K31 : Nat → Nat → Int32 → Int32 → Int32 → Int32 → HS → Prop) (K43 : Nat → Nat → Int32 → Int32 → Int32 → Int32 → Int32 → HS → Prop) (K : Int32 → HS → Prop) (x0 x1 : Nat) (x2 x3 x4 x5 x6 s0 : Int32) (S : HS) : Prop := hT S x0 = 6 ∧ ∃ b1 : Nat, hP S x0 0 = some b1 ∧ hT S b1 = 21 ∧ vp_in (((s0 * x2) + (x5 * x3)) + (x6 * x4)) (hN S b1) ∧ ((hI S b1 (Int32.toNatClampNeg (((s0 * x2) + (x5 * x3)) + (x6 * x4)))) = 0 → K43 x0 x1 x2 x3 x4 x5 (x6 + 1) S) ∧ (¬ ((hI S b1 (Int32.toNatClampNeg (((s0 * x2) + (x5 * x3)) + (x6 * x4)))) = 0) → K 0 S)
set_option maxHeartbeats 4000000 in
set_option maxRecDepth 100000 in
theorem b_X5_isZeroOn_95 {G : CG} {S0 : HS} {X : Fx} {K : Int32 → HS → Prop} (hc : Cx X RX5 cX5_isZeroOn 9) (hr : Cc G S0 1 (some .boolean) (kI K) X) (K31 : Nat → Nat → Int32 → Int32 → Int32 → Int32 → HS → Prop) (K43 : Nat → Nat → Int32 → Int32 → Int32 → Int32 → Int32 → HS → Prop) (h31 : ∀ (x0 x1 : Nat) (x2 x3 x4 x5 : Int32) (S : HS), K31 x0 x1 x2 x3 x4 x5 S → MC G S0 X 9 S 31 [(0, .ref x0), (1, .ref x1), (2, .int x2), (3, .int x3), (4, .int x4), (5, .int x5)] []) (h43 : ∀ (x0 x1 : Nat) (x2 x3 x4 x5 x6 : Int32) (S : HS), K43 x0 x1 x2 x3 x4 x5 x6 S → MC G S0 X 9 S 43 [(0, .ref x0), (1, .ref x1), (2, .int x2), (3, .int x3), (4, .int x4), (5, .int x5), (6, .int x6)] []) : ∀ (x0 x1 : Nat) (x2 x3 x4 x5 x6 s0 : Int32) (S : HS), w_X5_isZeroOn_95 (gC G, gS G) K31 K43 K x0 x1 x2 x3 x4 x5 x6 s0 S → MC G S0 X 9 S 95 [(0, .ref x0), (1, .ref x1), (2, .int x2), (3, .int x3), (4, .int x4), (5, .int x5), (6, .int x6)] [.int s0] := by
  intro x0 x1 x2 x3 x4 x5 x6 s0 S hw
  unfold w_X5_isZeroOn_95 at hw
  refine m_istore hc [(8, .int s0), (0, .ref x0), (1, .ref x1), (2, .int x2), (3, .int x3), (4, .int x4), (5, .int x5), (6, .int x6)] dX5_isZeroOn_95 (Nat.le_of_ble_eq_true rfl) rfl ?_
  refine m_aload_n hc 1 dX5_isZeroOn_97 rfl rfl ?_
  obtain ⟨ht, b1, e_b1, hw⟩ := hw
  refine c_getr hc hr ciX5 (Nat.le_of_ble_eq_true rfl) 0 (Nat.le_of_ble_eq_true rfl) rfl dX5_isZeroOn_98 lf_X5_9 ht e_b1 ?_
  refine m_iload hc 0 dX5_isZeroOn_101 rfl ?_
  refine m_iload_n hc 3 dX5_isZeroOn_103 rfl rfl ?_
  refine m_imul hc dX5_isZeroOn_104 ?_
  refine m_iload hc 6 dX5_isZeroOn_105 rfl ?_
  refine m_iload_n hc 4 dX5_isZeroOn_107 rfl rfl ?_
  refine m_imul hc dX5_isZeroOn_108 ?_
  refine m_iadd hc dX5_isZeroOn_109 ?_
  refine m_iload hc 7 dX5_isZeroOn_110 rfl ?_
  refine m_iload hc 5 dX5_isZeroOn_112 rfl ?_
  refine m_imul hc dX5_isZeroOn_114 ?_
  refine m_iadd hc dX5_isZeroOn_115 ?_
  obtain ⟨ht, hi, hw⟩ := hw
  refine c_iald hc hr ht hi dX5_isZeroOn_116 ?_
  refine m_if_eq hc 122 dX5_isZeroOn_117 rfl (fun cq => ?_) (fun cq => ?_)
  · have hw := hw.1 cq
    refine m_iinc hc 7 (x6 + 1) [(6, .int (x6 + 1)), (8, .int s0), (0, .ref x0), (1, .ref x1), (2, .int x2), (3, .int x3), (4, .int x4), (5, .int x5)] dX5_isZeroOn_122 rfl rfl (Nat.le_of_ble_eq_true rfl) rfl ?_
    refine m_goto hc 43 dX5_isZeroOn_125 rfl ?_
    refine m_sub [2, 3, 4, 5, 6, 7, 0] rfl ?_
    exact h43 x0 x1 x2 x3 x4 x5 (x6 + 1) S hw
  · have hw := hw.2 cq
    refine m_iconst hc 0 dX5_isZeroOn_120 (by decide) ?_
    exact c_zret hc hr dX5_isZeroOn_121 (by decide) hw
def wb_X5_isZeroOn_43 (M : Nat × Nat) (K31 : Nat → Nat → Int32 → Int32 → Int32 → Int32 → HS → Prop) (K43 : Nat → Nat → Int32 → Int32 → Int32 → Int32 → Int32 → HS → Prop) (K : Int32 → HS → Prop) (x0 x1 : Nat) (x2 x3 x4 x5 x6 : Int32) (S : HS) : Prop := hT S x0 = 6 ∧ ((hI S x0 2) ≤ x6 → K31 x0 x1 x2 x3 x4 (x5 + 1) S) ∧ (¬ ((hI S x0 2) ≤ x6) → hT S x1 = 4 ∧ hT S x1 = 4 ∧ hT S x1 = 4 ∧ hT S x0 = 6 ∧ ¬ (hI S x0 2) = 0 ∧ (∀ v1 : Int32, v1 = (iRem (((x5 * (hI S x1 3)) + (x6 * (hI S x1 4))) + (hI S x1 5)) (hI S x0 2)) → (¬ v1 = 0 → hT S x0 = 6 ∧ w_X5_isZeroOn_95 M K31 K43 K x0 x1 x2 x3 x4 x5 x6 ((hI S x0 2) - v1) S) ∧ (v1 = 0 → w_X5_isZeroOn_95 M K31 K43 K x0 x1 x2 x3 x4 x5 x6 0 S)))
def wl_X5_isZeroOn_43 (M : Nat × Nat) (K31 : Nat → Nat → Int32 → Int32 → Int32 → Int32 → HS → Prop) (K : Int32 → HS → Prop) : Nat → Nat → Nat → Int32 → Int32 → Int32 → Int32 → Int32 → HS → Prop
  | 0 => fun _ _ _ _ _ _ _ _ => False
  | nn + 1 => wb_X5_isZeroOn_43 M K31 (wl_X5_isZeroOn_43 M K31 K nn) K
set_option maxHeartbeats 4000000 in
set_option maxRecDepth 100000 in
theorem l_X5_isZeroOn_43 {G : CG} {S0 : HS} {X : Fx} {K : Int32 → HS → Prop} (hc : Cx X RX5 cX5_isZeroOn 9) (hr : Cc G S0 1 (some .boolean) (kI K) X) (K31 : Nat → Nat → Int32 → Int32 → Int32 → Int32 → HS → Prop) (h31 : ∀ (x0 x1 : Nat) (x2 x3 x4 x5 : Int32) (S : HS), K31 x0 x1 x2 x3 x4 x5 S → MC G S0 X 9 S 31 [(0, .ref x0), (1, .ref x1), (2, .int x2), (3, .int x3), (4, .int x4), (5, .int x5)] []) : ∀ (nn : Nat) (x0 x1 : Nat) (x2 x3 x4 x5 x6 : Int32) (S : HS), wl_X5_isZeroOn_43 (gC G, gS G) K31 K nn x0 x1 x2 x3 x4 x5 x6 S → MC G S0 X 9 S 43 [(0, .ref x0), (1, .ref x1), (2, .int x2), (3, .int x3), (4, .int x4), (5, .int x5), (6, .int x6)] [] := by
  intro nn
  induction nn with
  | zero => intro x0 x1 x2 x3 x4 x5 x6 S hw; exact False.elim hw
  | succ nn ih =>
    intro x0 x1 x2 x3 x4 x5 x6 S hw
    have hw : wb_X5_isZeroOn_43 (gC G, gS G) K31 (wl_X5_isZeroOn_43 (gC G, gS G) K31 K nn) K x0 x1 x2 x3 x4 x5 x6 S := hw
    have h43 := ih
    generalize wl_X5_isZeroOn_43 (gC G, gS G) K31 K nn = K43 at hw h43
    unfold wb_X5_isZeroOn_43 at hw
    refine m_iload hc 6 dX5_isZeroOn_43 rfl ?_
    refine m_aload_n hc 0 dX5_isZeroOn_45 rfl rfl ?_
    obtain ⟨ht, hw⟩ := hw
    refine c_geti hc hr ciX5 (Nat.le_of_ble_eq_true rfl) 2 (Nat.le_of_ble_eq_true rfl) rfl dX5_isZeroOn_46 lf_X5_18 ht ?_
    refine m_icmp_ge hc 128 dX5_isZeroOn_49 rfl (fun cq => ?_) (fun cq => ?_)
    · have hw := hw.1 cq
      refine m_iinc hc 5 (x5 + 1) [(5, .int (x5 + 1)), (0, .ref x0), (1, .ref x1), (2, .int x2), (3, .int x3), (4, .int x4), (6, .int x6)] dX5_isZeroOn_128 rfl rfl (Nat.le_of_ble_eq_true rfl) rfl ?_
      refine m_goto hc 31 dX5_isZeroOn_131 rfl ?_
      refine m_sub [1, 2, 3, 4, 5, 0] rfl ?_
      exact h31 x0 x1 x2 x3 x4 (x5 + 1) S hw
    · have hw := hw.2 cq
      refine m_iload hc 5 dX5_isZeroOn_52 rfl ?_
      refine m_aload_n hc 1 dX5_isZeroOn_54 rfl rfl ?_
      obtain ⟨ht, hw⟩ := hw
      refine c_geti hc hr ciX3 (Nat.le_of_ble_eq_true rfl) 3 (Nat.le_of_ble_eq_true rfl) rfl dX5_isZeroOn_55 lf_X5_78 ht ?_
      refine m_imul hc dX5_isZeroOn_58 ?_
      refine m_iload hc 6 dX5_isZeroOn_59 rfl ?_
      refine m_aload_n hc 1 dX5_isZeroOn_61 rfl rfl ?_
      obtain ⟨ht, hw⟩ := hw
      refine c_geti hc hr ciX3 (Nat.le_of_ble_eq_true rfl) 4 (Nat.le_of_ble_eq_true rfl) rfl dX5_isZeroOn_62 lf_X5_81 ht ?_
      refine m_imul hc dX5_isZeroOn_65 ?_
      refine m_iadd hc dX5_isZeroOn_66 ?_
      refine m_aload_n hc 1 dX5_isZeroOn_67 rfl rfl ?_
      obtain ⟨ht, hw⟩ := hw
      refine c_geti hc hr ciX3 (Nat.le_of_ble_eq_true rfl) 5 (Nat.le_of_ble_eq_true rfl) rfl dX5_isZeroOn_68 lf_X5_84 ht ?_
      refine m_iadd hc dX5_isZeroOn_71 ?_
      refine m_aload_n hc 0 dX5_isZeroOn_72 rfl rfl ?_
      obtain ⟨ht, hw⟩ := hw
      refine c_geti hc hr ciX5 (Nat.le_of_ble_eq_true rfl) 2 (Nat.le_of_ble_eq_true rfl) rfl dX5_isZeroOn_73 lf_X5_18 ht ?_
      obtain ⟨hq, hw⟩ := hw
      refine m_irem hc dX5_isZeroOn_76 hq ?_
      refine m_topi (fun v1 e_v1 => ?_)
      have hw := hw v1 e_v1
      refine m_istore hc [(7, .int v1), (0, .ref x0), (1, .ref x1), (2, .int x2), (3, .int x3), (4, .int x4), (5, .int x5), (6, .int x6)] dX5_isZeroOn_77 (Nat.le_of_ble_eq_true rfl) rfl ?_
      refine m_iload hc 0 dX5_isZeroOn_79 rfl ?_
      refine m_if_ne hc 88 dX5_isZeroOn_81 rfl (fun cq => ?_) (fun cq => ?_)
      · have hw := hw.1 cq
        refine m_aload_n hc 1 dX5_isZeroOn_88 rfl rfl ?_
        obtain ⟨ht, hw⟩ := hw
        refine c_geti hc hr ciX5 (Nat.le_of_ble_eq_true rfl) 2 (Nat.le_of_ble_eq_true rfl) rfl dX5_isZeroOn_89 lf_X5_18 ht ?_
        refine m_iload hc 0 dX5_isZeroOn_92 rfl ?_
        refine m_isub hc dX5_isZeroOn_94 ?_
        refine m_sub [1, 2, 3, 4, 5, 6, 7] rfl ?_
        exact b_X5_isZeroOn_95 hc hr K31 K43 h31 h43 x0 x1 x2 x3 x4 x5 x6 ((hI S x0 2) - v1) S hw
      · have hw := hw.2 cq
        refine m_iconst hc 0 dX5_isZeroOn_84 (by decide) ?_
        refine m_goto hc 95 dX5_isZeroOn_85 rfl ?_
        refine m_sub [1, 2, 3, 4, 5, 6, 7] rfl ?_
        exact b_X5_isZeroOn_95 hc hr K31 K43 h31 h43 x0 x1 x2 x3 x4 x5 x6 0 S hw
def wb_X5_isZeroOn_31 (M : Nat × Nat) (K31 : Nat → Nat → Int32 → Int32 → Int32 → Int32 → HS → Prop) (K : Int32 → HS → Prop) (x0 x1 : Nat) (x2 x3 x4 x5 : Int32) (S : HS) : Prop := hT S x0 = 6 ∧ ((hI S x0 2) ≤ x5 → K 1 S) ∧ (¬ ((hI S x0 2) ≤ x5) → ∃ nn : Nat, wl_X5_isZeroOn_43 M K31 K nn x0 x1 x2 x3 x4 x5 0 S)
def wl_X5_isZeroOn_31 (M : Nat × Nat) (K : Int32 → HS → Prop) : Nat → Nat → Nat → Int32 → Int32 → Int32 → Int32 → HS → Prop
  | 0 => fun _ _ _ _ _ _ _ => False
  | nn + 1 => wb_X5_isZeroOn_31 M (wl_X5_isZeroOn_31 M K nn) K
set_option maxHeartbeats 4000000 in
set_option maxRecDepth 100000 in
theorem l_X5_isZeroOn_31 {G : CG} {S0 : HS} {X : Fx} {K : Int32 → HS → Prop} (hc : Cx X RX5 cX5_isZeroOn 9) (hr : Cc G S0 1 (some .boolean) (kI K) X) : ∀ (nn : Nat) (x0 x1 : Nat) (x2 x3 x4 x5 : Int32) (S : HS), wl_X5_isZeroOn_31 (gC G, gS G) K nn x0 x1 x2 x3 x4 x5 S → MC G S0 X 9 S 31 [(0, .ref x0), (1, .ref x1), (2, .int x2), (3, .int x3), (4, .int x4), (5, .int x5)] [] := by
  intro nn
  induction nn with
  | zero => intro x0 x1 x2 x3 x4 x5 S hw; exact False.elim hw
  | succ nn ih =>
    intro x0 x1 x2 x3 x4 x5 S hw
    have hw : wb_X5_isZeroOn_31 (gC G, gS G) (wl_X5_isZeroOn_31 (gC G, gS G) K nn) K x0 x1 x2 x3 x4 x5 S := hw
    have h31 := ih
    generalize wl_X5_isZeroOn_31 (gC G, gS G) K nn = K31 at hw h31
    unfold wb_X5_isZeroOn_31 at hw
    refine m_iload hc 5 dX5_isZeroOn_31 rfl ?_
    refine m_aload_n hc 0 dX5_isZeroOn_33 rfl rfl ?_
    obtain ⟨ht, hw⟩ := hw
    refine c_geti hc hr ciX5 (Nat.le_of_ble_eq_true rfl) 2 (Nat.le_of_ble_eq_true rfl) rfl dX5_isZeroOn_34 lf_X5_18 ht ?_
    refine m_icmp_ge hc 134 dX5_isZeroOn_37 rfl (fun cq => ?_) (fun cq => ?_)
    · have hw := hw.1 cq
      refine m_iconst hc 1 dX5_isZeroOn_134 (by decide) ?_
      exact c_zret hc hr dX5_isZeroOn_135 (by decide) hw
    · have hw := hw.2 cq
      refine m_iconst hc 0 dX5_isZeroOn_40 (by decide) ?_
      refine m_istore hc [(6, .int 0), (0, .ref x0), (1, .ref x1), (2, .int x2), (3, .int x3), (4, .int x4), (5, .int x5)] dX5_isZeroOn_41 (Nat.le_of_ble_eq_true rfl) rfl ?_
      refine m_sub [1, 2, 3, 4, 5, 6, 0] rfl ?_
      obtain ⟨nn, hw⟩ := hw
      exact l_X5_isZeroOn_43 hc hr K31 h31 nn x0 x1 x2 x3 x4 x5 0 S hw
def wp_X5_isZeroOn (M : Nat × Nat) (x0 x1 : Nat) (S : HS) (K : Int32 → HS → Prop) : Prop := hT S x1 = 4 ∧ hT S x0 = 6 ∧ wp_X5_stride M x0 (hI S x1 0) S (fun r1 S1 => hT S1 x1 = 4 ∧ hT S1 x0 = 6 ∧ wp_X5_stride M x0 (hI S1 x1 1) S1 (fun r2 S2 => hT S2 x1 = 4 ∧ hT S2 x0 = 6 ∧ wp_X5_stride M x0 (hI S2 x1 2) S2 (fun r3 S3 => ∃ nn : Nat, wl_X5_isZeroOn_31 M K nn x0 x1 r1 r2 r3 0 S3)))
set_option maxHeartbeats 4000000 in
set_option maxRecDepth 100000 in
theorem ok_X5_isZeroOn {G : CG} {x0 : Nat} {x1 : Nat} {S : HS} {K : Int32 → HS → Prop} (hw : wp_X5_isZeroOn (gC G, gS G) x0 x1 S K) : CC 1 yX5_isZeroOn cX5_isZeroOn 9 (some .boolean) [.ref x0, .ref x1] G S (kI K) := by
  refine CC.of (by decide +kernel) (Nat.le_of_ble_eq_true rfl) (fun X hc hr hname => ?_)
  show MC G S X 9 S 0 [(0, .ref x0), (1, .ref x1)] []
  unfold wp_X5_isZeroOn at hw
  refine m_aload_n hc 0 dX5_isZeroOn_0 rfl rfl ?_
  refine m_aload_n hc 1 dX5_isZeroOn_1 rfl rfl ?_
  obtain ⟨ht, hw⟩ := hw
  refine c_geti hc hr ciX3 (Nat.le_of_ble_eq_true rfl) 0 (Nat.le_of_ble_eq_true rfl) rfl dX5_isZeroOn_2 lf_X5_63 ht ?_
  obtain ⟨ht, hw⟩ := hw
  refine c_callVi hc hr ciX5 (Nat.le_of_ble_eq_true rfl) ht mt_X5_stride rfl lm_X5_68 (ok_X5_stride hw) (Nat.le_of_ble_eq_true rfl) dX5_isZeroOn_5 rfl (rest := []) rfl (Nat.le_of_ble_eq_true rfl) (fun r1 S1 hw => ?_)
  refine m_istore_n hc [(2, .int r1), (0, .ref x0), (1, .ref x1)] dX5_isZeroOn_8 rfl (Nat.le_of_ble_eq_true rfl) rfl ?_
  refine m_aload_n hc 1 dX5_isZeroOn_9 rfl rfl ?_
  refine m_aload_n hc 2 dX5_isZeroOn_10 rfl rfl ?_
  obtain ⟨ht, hw⟩ := hw
  refine c_geti hc hr ciX3 (Nat.le_of_ble_eq_true rfl) 1 (Nat.le_of_ble_eq_true rfl) rfl dX5_isZeroOn_11 lf_X5_72 ht ?_
  obtain ⟨ht, hw⟩ := hw
  refine c_callVi hc hr ciX5 (Nat.le_of_ble_eq_true rfl) ht mt_X5_stride rfl lm_X5_68 (ok_X5_stride hw) (Nat.le_of_ble_eq_true rfl) dX5_isZeroOn_14 rfl (rest := []) rfl (Nat.le_of_ble_eq_true rfl) (fun r2 S2 hw => ?_)
  refine m_istore_n hc [(3, .int r2), (2, .int r1), (0, .ref x0), (1, .ref x1)] dX5_isZeroOn_17 rfl (Nat.le_of_ble_eq_true rfl) rfl ?_
  refine m_aload_n hc 2 dX5_isZeroOn_18 rfl rfl ?_
  refine m_aload_n hc 3 dX5_isZeroOn_19 rfl rfl ?_
  obtain ⟨ht, hw⟩ := hw
  refine c_geti hc hr ciX3 (Nat.le_of_ble_eq_true rfl) 2 (Nat.le_of_ble_eq_true rfl) rfl dX5_isZeroOn_20 lf_X5_75 ht ?_
  obtain ⟨ht, hw⟩ := hw
  refine c_callVi hc hr ciX5 (Nat.le_of_ble_eq_true rfl) ht mt_X5_stride rfl lm_X5_68 (ok_X5_stride hw) (Nat.le_of_ble_eq_true rfl) dX5_isZeroOn_23 rfl (rest := []) rfl (Nat.le_of_ble_eq_true rfl) (fun r3 S3 hw => ?_)
  refine m_istore hc [(4, .int r3), (3, .int r2), (2, .int r1), (0, .ref x0), (1, .ref x1)] dX5_isZeroOn_26 (Nat.le_of_ble_eq_true rfl) rfl ?_
  refine m_iconst hc 0 dX5_isZeroOn_28 (by decide) ?_
  refine m_istore hc [(5, .int 0), (4, .int r3), (3, .int r2), (2, .int r1), (0, .ref x0), (1, .ref x1)] dX5_isZeroOn_29 (Nat.le_of_ble_eq_true rfl) rfl ?_
  refine m_sub [4, 5, 3, 2, 1, 0] rfl ?_
  obtain ⟨nn, hw⟩ := hw
  exact l_X5_isZeroOn_31 hc hr nn x0 x1 r1 r2 r3 0 S3 hw
def w_X2_tryLines_76 (M : Nat × Nat) (K29 : Nat → Int32 → Int32 → Int32 → Int32 → HS → Prop) (K : Int32 → HS → Prop) (x0 : Nat) (x1 x2 x3 x4 s0 : Int32) (S : HS) : Prop := (s0 ≤ 0 → K29 x0 x1 x2 x3 (x4 + 1) S) ∧ (¬ (s0 ≤ 0) → hT S x0 = 3 ∧ (120 ≤ (hI S x0 1) → K29 x0 x1 x2 x3 (x4 + 1) S) ∧ (¬ (120 ≤ (hI S x0 1)) → hT S x0 = 3 ∧ wp_X2_note M x0 x1 x2 x3 x4 s0 S (fun r1 S1 => K29 x0 x1 x2 x3 (x4 + 1) S1)))
set_option maxHeartbeats 4000000 in
set_option maxRecDepth 100000 in
theorem b_X2_tryLines_76 {G : CG} {S0 : HS} {X : Fx} {K : Int32 → HS → Prop} (hc : Cx X RX2 cX2_tryLines 6) (hr : Cc G S0 4 none (kV K) X) (K29 : Nat → Int32 → Int32 → Int32 → Int32 → HS → Prop) (h29 : ∀ (x0 : Nat) (x1 x2 x3 x4 : Int32) (S : HS), K29 x0 x1 x2 x3 x4 S → MC G S0 X 6 S 29 [(0, .ref x0), (1, .int x1), (2, .int x2), (3, .int x3), (4, .int x4)] []) : ∀ (x0 : Nat) (x1 x2 x3 x4 s0 : Int32) (S : HS), w_X2_tryLines_76 (gC G, gS G) K29 K x0 x1 x2 x3 x4 s0 S → MC G S0 X 6 S 76 [(0, .ref x0), (1, .int x1), (2, .int x2), (3, .int x3), (4, .int x4)] [.int s0] := by
  intro x0 x1 x2 x3 x4 s0 S hw
  unfold w_X2_tryLines_76 at hw
  refine m_istore hc [(5, .int s0), (0, .ref x0), (1, .int x1), (2, .int x2), (3, .int x3), (4, .int x4)] dX2_tryLines_76 (Nat.le_of_ble_eq_true rfl) rfl ?_
  refine m_iload hc 0 dX2_tryLines_78 rfl ?_
  refine m_if_le hc 103 dX2_tryLines_80 rfl (fun cq => ?_) (fun cq => ?_)
  · have hw := hw.1 cq
    refine m_iinc hc 5 (x4 + 1) [(4, .int (x4 + 1)), (5, .int s0), (0, .ref x0), (1, .int x1), (2, .int x2), (3, .int x3)] dX2_tryLines_103 rfl rfl (Nat.le_of_ble_eq_true rfl) rfl ?_
    refine m_goto hc 29 dX2_tryLines_106 rfl ?_
    refine m_sub [2, 3, 4, 5, 0] rfl ?_
    exact h29 x0 x1 x2 x3 (x4 + 1) S hw
  · have hw := hw.2 cq
    refine m_aload_n hc 1 dX2_tryLines_83 rfl rfl ?_
    obtain ⟨ht, hw⟩ := hw
    refine c_geti hc hr ciX2 (Nat.le_of_ble_eq_true rfl) 1 (Nat.le_of_ble_eq_true rfl) rfl dX2_tryLines_84 lf_X2_15 ht ?_
    refine m_bipush hc 120 dX2_tryLines_87 (by decide) ?_
    refine m_icmp_ge hc 103 dX2_tryLines_89 rfl (fun cq => ?_) (fun cq => ?_)
    · have hw := hw.1 cq
      refine m_iinc hc 5 (x4 + 1) [(4, .int (x4 + 1)), (5, .int s0), (0, .ref x0), (1, .int x1), (2, .int x2), (3, .int x3)] dX2_tryLines_103 rfl rfl (Nat.le_of_ble_eq_true rfl) rfl ?_
      refine m_goto hc 29 dX2_tryLines_106 rfl ?_
      refine m_sub [2, 3, 4, 5, 0] rfl ?_
      exact h29 x0 x1 x2 x3 (x4 + 1) S hw
    · have hw := hw.2 cq
      refine m_aload_n hc 1 dX2_tryLines_92 rfl rfl ?_
      refine m_iload_n hc 2 dX2_tryLines_93 rfl rfl ?_
      refine m_iload_n hc 3 dX2_tryLines_94 rfl rfl ?_
      refine m_iload_n hc 4 dX2_tryLines_95 rfl rfl ?_
      refine m_iload hc 5 dX2_tryLines_96 rfl ?_
      refine m_iload hc 0 dX2_tryLines_98 rfl ?_
      obtain ⟨ht, hw⟩ := hw
      refine c_callVv hc hr ciX2 (Nat.le_of_ble_eq_true rfl) ht mt_X2_note rfl lm_X2_148 (ok_X2_note hw) (Nat.le_of_ble_eq_true rfl) dX2_tryLines_100 rfl (rest := []) rfl (Nat.le_of_ble_eq_true rfl) (fun S1 hw => ?_)
      refine m_iinc hc 5 (x4 + 1) [(4, .int (x4 + 1)), (5, .int s0), (0, .ref x0), (1, .int x1), (2, .int x2), (3, .int x3)] dX2_tryLines_103 rfl rfl (Nat.le_of_ble_eq_true rfl) rfl ?_
      refine m_goto hc 29 dX2_tryLines_106 rfl ?_
      refine m_sub [2, 3, 4, 5, 0] rfl ?_
      exact h29 x0 x1 x2 x3 (x4 + 1) S1 hw
def wb_X2_tryLines_29 (M : Nat × Nat) (K29 : Nat → Int32 → Int32 → Int32 → Int32 → HS → Prop) (K : Int32 → HS → Prop) (x0 : Nat) (x1 x2 x3 x4 : Int32) (S : HS) : Prop := hT S x0 = 3 ∧ ((hI S x0 12) ≤ x4 → K 0 S) ∧ (¬ ((hI S x0 12) ≤ x4) → hT S x0 = 3 ∧ ∃ b1 : Nat, hP S x0 11 = some b1 ∧ hT S b1 = 4 ∧ wp_X3_set M b1 x1 x2 x3 x4 S (fun r2 S2 => hT S2 x0 = 3 ∧ ∃ b3 : Nat, hP S2 x0 4 = some b3 ∧ hT S2 x0 = 3 ∧ ∃ b4 : Nat, hP S2 x0 11 = some b4 ∧ hT S2 b3 = 6 ∧ wp_X5_isZeroOn M b3 b4 S2 (fun r5 S5 => (r5 = 0 → w_X2_tryLines_76 M K29 K x0 x1 x2 x3 x4 0 S5) ∧ (¬ (r5 = 0) → hT S5 x0 = 3 ∧ ∃ b6 : Nat, hP S5 x0 11 = some b6 ∧ hT S5 x0 = 3 ∧ wp_X2_takeOut M x0 b6 S5 (fun r7 S7 => w_X2_tryLines_76 M K29 K x0 x1 x2 x3 x4 r7 S7)))))
def wl_X2_tryLines_29 (M : Nat × Nat) (K : Int32 → HS → Prop) : Nat → Nat → Int32 → Int32 → Int32 → Int32 → HS → Prop
  | 0 => fun _ _ _ _ _ _ => False
  | nn + 1 => wb_X2_tryLines_29 M (wl_X2_tryLines_29 M K nn) K
set_option maxHeartbeats 4000000 in
set_option maxRecDepth 100000 in
theorem l_X2_tryLines_29 {G : CG} {S0 : HS} {X : Fx} {K : Int32 → HS → Prop} (hc : Cx X RX2 cX2_tryLines 6) (hr : Cc G S0 4 none (kV K) X) : ∀ (nn : Nat) (x0 : Nat) (x1 x2 x3 x4 : Int32) (S : HS), wl_X2_tryLines_29 (gC G, gS G) K nn x0 x1 x2 x3 x4 S → MC G S0 X 6 S 29 [(0, .ref x0), (1, .int x1), (2, .int x2), (3, .int x3), (4, .int x4)] [] := by
  intro nn
  induction nn with
  | zero => intro x0 x1 x2 x3 x4 S hw; exact False.elim hw
  | succ nn ih =>
    intro x0 x1 x2 x3 x4 S hw
    have hw : wb_X2_tryLines_29 (gC G, gS G) (wl_X2_tryLines_29 (gC G, gS G) K nn) K x0 x1 x2 x3 x4 S := hw
    have h29 := ih
    generalize wl_X2_tryLines_29 (gC G, gS G) K nn = K29 at hw h29
    unfold wb_X2_tryLines_29 at hw
    refine m_iload hc 4 dX2_tryLines_29 rfl ?_
    refine m_aload_n hc 0 dX2_tryLines_31 rfl rfl ?_
    obtain ⟨ht, hw⟩ := hw
    refine c_geti hc hr ciX2 (Nat.le_of_ble_eq_true rfl) 12 (Nat.le_of_ble_eq_true rfl) rfl dX2_tryLines_32 lf_X2_69 ht ?_
    refine m_icmp_ge hc 109 dX2_tryLines_35 rfl (fun cq => ?_) (fun cq => ?_)
    · have hw := hw.1 cq
      exact c_vret hc hr dX2_tryLines_109 hw
    · have hw := hw.2 cq
      refine m_aload_n hc 0 dX2_tryLines_38 rfl rfl ?_
      obtain ⟨ht, b1, e_b1, hw⟩ := hw
      refine c_getr hc hr ciX2 (Nat.le_of_ble_eq_true rfl) 11 (Nat.le_of_ble_eq_true rfl) rfl dX2_tryLines_39 lf_X2_65 ht e_b1 ?_
      refine m_iload_n hc 1 dX2_tryLines_42 rfl rfl ?_
      refine m_iload_n hc 2 dX2_tryLines_43 rfl rfl ?_
      refine m_iload_n hc 3 dX2_tryLines_44 rfl rfl ?_
      refine m_iload hc 4 dX2_tryLines_45 rfl ?_
      obtain ⟨ht, hw⟩ := hw
      refine c_callVv hc hr ciX3 (Nat.le_of_ble_eq_true rfl) ht mt_X3_set rfl lm_X2_141 (ok_X3_set hw) (Nat.le_of_ble_eq_true rfl) dX2_tryLines_47 rfl (rest := []) rfl (Nat.le_of_ble_eq_true rfl) (fun S2 hw => ?_)
      refine m_aload_n hc 0 dX2_tryLines_50 rfl rfl ?_
      obtain ⟨ht, b3, e_b3, hw⟩ := hw
      refine c_getr hc hr ciX2 (Nat.le_of_ble_eq_true rfl) 4 (Nat.le_of_ble_eq_true rfl) rfl dX2_tryLines_51 lf_X2_34 ht e_b3 ?_
      refine m_aload_n hc 0 dX2_tryLines_54 rfl rfl ?_
      obtain ⟨ht, b4, e_b4, hw⟩ := hw
      refine c_getr hc hr ciX2 (Nat.le_of_ble_eq_true rfl) 11 (Nat.le_of_ble_eq_true rfl) rfl dX2_tryLines_55 lf_X2_65 ht e_b4 ?_
      obtain ⟨ht, hw⟩ := hw
      refine c_callVi hc hr ciX5 (Nat.le_of_ble_eq_true rfl) ht mt_X5_isZeroOn rfl lm_X2_144 (ok_X5_isZeroOn hw) (Nat.le_of_ble_eq_true rfl) dX2_tryLines_58 rfl (rest := []) rfl (Nat.le_of_ble_eq_true rfl) (fun r5 S5 hw => ?_)
      refine m_if_eq hc 75 dX2_tryLines_61 rfl (fun cq => ?_) (fun cq => ?_)
      · have hw := hw.1 cq
        refine m_iconst hc 0 dX2_tryLines_75 (by decide) ?_
        exact b_X2_tryLines_76 hc hr K29 h29 x0 x1 x2 x3 x4 0 S5 hw
      · have hw := hw.2 cq
        refine m_aload_n hc 0 dX2_tryLines_64 rfl rfl ?_
        refine m_aload_n hc 0 dX2_tryLines_65 rfl rfl ?_
        obtain ⟨ht, b6, e_b6, hw⟩ := hw
        refine c_getr hc hr ciX2 (Nat.le_of_ble_eq_true rfl) 11 (Nat.le_of_ble_eq_true rfl) rfl dX2_tryLines_66 lf_X2_65 ht e_b6 ?_
        obtain ⟨ht, hw⟩ := hw
        refine c_callVi hc hr ciX2 (Nat.le_of_ble_eq_true rfl) ht mt_X2_takeOut rfl lm_X2_101 (ok_X2_takeOut hw) (Nat.le_of_ble_eq_true rfl) dX2_tryLines_69 rfl (rest := []) rfl (Nat.le_of_ble_eq_true rfl) (fun r7 S7 hw => ?_)
        refine m_goto hc 76 dX2_tryLines_72 rfl ?_
        exact b_X2_tryLines_76 hc hr K29 h29 x0 x1 x2 x3 x4 r7 S7 hw
def wp_X2_tryLines (M : Nat × Nat) (x0 : Nat) (x1 x2 x3 : Int32) (S : HS) (K : Int32 → HS → Prop) : Prop := hT S x0 = 3 ∧ ∃ b1 : Nat, hP S x0 11 = some b1 ∧ hT S b1 = 4 ∧ wp_X3_set M b1 x1 x2 x3 0 S (fun r2 S2 => hT S2 x0 = 3 ∧ ∃ b3 : Nat, hP S2 x0 5 = some b3 ∧ hT S2 x0 = 3 ∧ ∃ b4 : Nat, hP S2 x0 11 = some b4 ∧ hT S2 b3 = 6 ∧ wp_X5_isZeroOn M b3 b4 S2 (fun r5 S5 => (¬ r5 = 0 → ∃ nn : Nat, wl_X2_tryLines_29 M K nn x0 x1 x2 x3 0 S5) ∧ (r5 = 0 → K 0 S5)))
set_option maxHeartbeats 4000000 in
set_option maxRecDepth 100000 in
theorem ok_X2_tryLines {G : CG} {x0 : Nat} {x1 : Int32} {x2 : Int32} {x3 : Int32} {S : HS} {K : Int32 → HS → Prop} (hw : wp_X2_tryLines (gC G, gS G) x0 x1 x2 x3 S K) : CC 4 yX2_tryLines cX2_tryLines 6 none [.ref x0, .int x1, .int x2, .int x3] G S (kV K) := by
  refine CC.of (by decide +kernel) (Nat.le_of_ble_eq_true rfl) (fun X hc hr hname => ?_)
  show MC G S X 6 S 0 [(0, .ref x0), (1, .int x1), (2, .int x2), (3, .int x3)] []
  unfold wp_X2_tryLines at hw
  refine m_aload_n hc 0 dX2_tryLines_0 rfl rfl ?_
  obtain ⟨ht, b1, e_b1, hw⟩ := hw
  refine c_getr hc hr ciX2 (Nat.le_of_ble_eq_true rfl) 11 (Nat.le_of_ble_eq_true rfl) rfl dX2_tryLines_1 lf_X2_65 ht e_b1 ?_
  refine m_iload_n hc 1 dX2_tryLines_4 rfl rfl ?_
  refine m_iload_n hc 2 dX2_tryLines_5 rfl rfl ?_
  refine m_iload_n hc 3 dX2_tryLines_6 rfl rfl ?_
  refine m_iconst hc 0 dX2_tryLines_7 (by decide) ?_
  obtain ⟨ht, hw⟩ := hw
  refine c_callVv hc hr ciX3 (Nat.le_of_ble_eq_true rfl) ht mt_X3_set rfl lm_X2_141 (ok_X3_set hw) (Nat.le_of_ble_eq_true rfl) dX2_tryLines_8 rfl (rest := []) rfl (Nat.le_of_ble_eq_true rfl) (fun S2 hw => ?_)
  refine m_aload_n hc 0 dX2_tryLines_11 rfl rfl ?_
  obtain ⟨ht, b3, e_b3, hw⟩ := hw
  refine c_getr hc hr ciX2 (Nat.le_of_ble_eq_true rfl) 5 (Nat.le_of_ble_eq_true rfl) rfl dX2_tryLines_12 lf_X2_38 ht e_b3 ?_
  refine m_aload_n hc 0 dX2_tryLines_15 rfl rfl ?_
  obtain ⟨ht, b4, e_b4, hw⟩ := hw
  refine c_getr hc hr ciX2 (Nat.le_of_ble_eq_true rfl) 11 (Nat.le_of_ble_eq_true rfl) rfl dX2_tryLines_16 lf_X2_65 ht e_b4 ?_
  obtain ⟨ht, hw⟩ := hw
  refine c_callVi hc hr ciX5 (Nat.le_of_ble_eq_true rfl) ht mt_X5_isZeroOn rfl lm_X2_144 (ok_X5_isZeroOn hw) (Nat.le_of_ble_eq_true rfl) dX2_tryLines_19 rfl (rest := []) rfl (Nat.le_of_ble_eq_true rfl) (fun r5 S5 hw => ?_)
  refine m_if_ne hc 26 dX2_tryLines_22 rfl (fun cq => ?_) (fun cq => ?_)
  · have hw := hw.1 cq
    refine m_iconst hc 0 dX2_tryLines_26 (by decide) ?_
    refine m_istore hc [(4, .int 0), (0, .ref x0), (1, .int x1), (2, .int x2), (3, .int x3)] dX2_tryLines_27 (Nat.le_of_ble_eq_true rfl) rfl ?_
    refine m_sub [1, 2, 3, 4, 0] rfl ?_
    obtain ⟨nn, hw⟩ := hw
    exact l_X2_tryLines_29 hc hr nn x0 x1 x2 x3 0 S5 hw
  · have hw := hw.2 cq
    exact c_vret hc hr dX2_tryLines_25 hw
def wb_X2_find_92 (M : Nat × Nat) (K92 : Nat → Nat → Int32 → HS → Prop) (K : Int32 → HS → Prop) (x0 x1 : Nat) (x3 : Int32) (S : HS) : Prop := hT S x0 = 3 ∧ ((hI S x0 12) ≤ x3 → hT S x0 = 3 ∧ wp_X2_tryLines M x0 0 0 1 S (fun r1 S1 => hT S1 x0 = 3 ∧ K 0 (sP S1 x0 13 (some x1)))) ∧ (¬ ((hI S x0 12) ≤ x3) → hT S x0 = 3 ∧ wp_X2_tryLines M x0 0 1 x3 S (fun r2 S2 => K92 x0 x1 (x3 + 1) S2))
def wl_X2_find_92 (M : Nat × Nat) (K : Int32 → HS → Prop) : Nat → Nat → Nat → Int32 → HS → Prop
  | 0 => fun _ _ _ _ => False
  | nn + 1 => wb_X2_find_92 M (wl_X2_find_92 M K nn) K
set_option maxHeartbeats 4000000 in
set_option maxRecDepth 100000 in
theorem l_X2_find_92 {G : CG} {S0 : HS} {X : Fx} {K : Int32 → HS → Prop} (hc : Cx X RX2 cX2_find 5) (hr : Cc G S0 5 none (kV K) X) : ∀ (nn : Nat) (x0 x1 : Nat) (x3 : Int32) (S : HS), wl_X2_find_92 (gC G, gS G) K nn x0 x1 x3 S → MC G S0 X 5 S 92 [(0, .ref x0), (1, .ref x1), (3, .int x3)] [] := by
  intro nn
  induction nn with
  | zero => intro x0 x1 x3 S hw; exact False.elim hw
  | succ nn ih =>
    intro x0 x1 x3 S hw
    have hw : wb_X2_find_92 (gC G, gS G) (wl_X2_find_92 (gC G, gS G) K nn) K x0 x1 x3 S := hw
    have h92 := ih
    generalize wl_X2_find_92 (gC G, gS G) K nn = K92 at hw h92
    unfold wb_X2_find_92 at hw
    refine m_iload_n hc 2 dX2_find_92 rfl rfl ?_
    refine m_aload_n hc 0 dX2_find_93 rfl rfl ?_
    obtain ⟨ht, hw⟩ := hw
    refine c_geti hc hr ciX2 (Nat.le_of_ble_eq_true rfl) 12 (Nat.le_of_ble_eq_true rfl) rfl dX2_find_94 lf_X2_69 ht ?_
    refine m_icmp_ge hc 113 dX2_find_97 rfl (fun cq => ?_) (fun cq => ?_)
    · have hw := hw.1 cq
      refine m_aload_n hc 0 dX2_find_113 rfl rfl ?_
      refine m_iconst hc 0 dX2_find_114 (by decide) ?_
      refine m_iconst hc 0 dX2_find_115 (by decide) ?_
      refine m_iconst hc 1 dX2_find_116 (by decide) ?_
      obtain ⟨ht, hw⟩ := hw
      refine c_callVv hc hr ciX2 (Nat.le_of_ble_eq_true rfl) ht mt_X2_tryLines rfl lm_X2_90 (ok_X2_tryLines hw) (Nat.le_of_ble_eq_true rfl) dX2_find_117 rfl (rest := []) rfl (Nat.le_of_ble_eq_true rfl) (fun S1 hw => ?_)
      refine m_aload_n hc 0 dX2_find_120 rfl rfl ?_
      refine m_aload_n hc 1 dX2_find_121 rfl rfl ?_
      obtain ⟨ht, hw⟩ := hw
      refine c_putr hc hr ciX2 (Nat.le_of_ble_eq_true rfl) 13 (Nat.le_of_ble_eq_true rfl) rfl dX2_find_122 lf_X2_72 ht (Or.inl rfl) (Or.inl ⟨_, rfl⟩) ?_
      exact c_vret hc hr dX2_find_125 hw
    · have hw := hw.2 cq
      refine m_aload_n hc 0 dX2_find_100 rfl rfl ?_
      refine m_iconst hc 0 dX2_find_101 (by decide) ?_
      refine m_iconst hc 1 dX2_find_102 (by decide) ?_
      refine m_iload_n hc 2 dX2_find_103 rfl rfl ?_
      obtain ⟨ht, hw⟩ := hw
      refine c_callVv hc hr ciX2 (Nat.le_of_ble_eq_true rfl) ht mt_X2_tryLines rfl lm_X2_90 (ok_X2_tryLines hw) (Nat.le_of_ble_eq_true rfl) dX2_find_104 rfl (rest := []) rfl (Nat.le_of_ble_eq_true rfl) (fun S2 hw => ?_)
      refine m_iinc hc 2 (x3 + 1) [(3, .int (x3 + 1)), (0, .ref x0), (1, .ref x1)] dX2_find_107 rfl rfl (Nat.le_of_ble_eq_true rfl) rfl ?_
      refine m_goto hc 92 dX2_find_110 rfl ?_
      refine m_sub [1, 2, 0] rfl ?_
      exact h92 x0 x1 (x3 + 1) S2 hw
def wb_X2_find_61 (M : Nat × Nat) (K50 : Nat → Nat → Int32 → HS → Prop) (K61 : Nat → Nat → Int32 → Int32 → HS → Prop) (K : Int32 → HS → Prop) (x0 x1 : Nat) (x3 x4 : Int32) (S : HS) : Prop := hT S x0 = 3 ∧ ((hI S x0 12) ≤ x4 → K50 x0 x1 (x3 + 1) S) ∧ (¬ ((hI S x0 12) ≤ x4) → hT S x0 = 3 ∧ wp_X2_tryLines M x0 1 x3 x4 S (fun r1 S1 => K61 x0 x1 x3 (x4 + 1) S1))
def wl_X2_find_61 (M : Nat × Nat) (K50 : Nat → Nat → Int32 → HS → Prop) (K : Int32 → HS → Prop) : Nat → Nat → Nat → Int32 → Int32 → HS → Prop
  | 0 => fun _ _ _ _ _ => False
  | nn + 1 => wb_X2_find_61 M K50 (wl_X2_find_61 M K50 K nn) K
set_option maxHeartbeats 4000000 in
set_option maxRecDepth 100000 in
theorem l_X2_find_61 {G : CG} {S0 : HS} {X : Fx} {K : Int32 → HS → Prop} (hc : Cx X RX2 cX2_find 5) (hr : Cc G S0 5 none (kV K) X) (K50 : Nat → Nat → Int32 → HS → Prop) (h50 : ∀ (x0 x1 : Nat) (x3 : Int32) (S : HS), K50 x0 x1 x3 S → MC G S0 X 5 S 50 [(0, .ref x0), (1, .ref x1), (3, .int x3)] []) : ∀ (nn : Nat) (x0 x1 : Nat) (x3 x4 : Int32) (S : HS), wl_X2_find_61 (gC G, gS G) K50 K nn x0 x1 x3 x4 S → MC G S0 X 5 S 61 [(0, .ref x0), (1, .ref x1), (3, .int x3), (4, .int x4)] [] := by
  intro nn
  induction nn with
  | zero => intro x0 x1 x3 x4 S hw; exact False.elim hw
  | succ nn ih =>
    intro x0 x1 x3 x4 S hw
    have hw : wb_X2_find_61 (gC G, gS G) K50 (wl_X2_find_61 (gC G, gS G) K50 K nn) K x0 x1 x3 x4 S := hw
    have h61 := ih
    generalize wl_X2_find_61 (gC G, gS G) K50 K nn = K61 at hw h61
    unfold wb_X2_find_61 at hw
    refine m_iload hc 3 dX2_find_61 rfl ?_
    refine m_aload_n hc 0 dX2_find_63 rfl rfl ?_
    obtain ⟨ht, hw⟩ := hw
    refine c_geti hc hr ciX2 (Nat.le_of_ble_eq_true rfl) 12 (Nat.le_of_ble_eq_true rfl) rfl dX2_find_64 lf_X2_69 ht ?_
    refine m_icmp_ge hc 84 dX2_find_67 rfl (fun cq => ?_) (fun cq => ?_)
    · have hw := hw.1 cq
      refine m_iinc hc 2 (x3 + 1) [(3, .int (x3 + 1)), (0, .ref x0), (1, .ref x1), (4, .int x4)] dX2_find_84 rfl rfl (Nat.le_of_ble_eq_true rfl) rfl ?_
      refine m_goto hc 50 dX2_find_87 rfl ?_
      refine m_sub [1, 2, 0] rfl ?_
      exact h50 x0 x1 (x3 + 1) S hw
    · have hw := hw.2 cq
      refine m_aload_n hc 0 dX2_find_70 rfl rfl ?_
      refine m_iconst hc 1 dX2_find_71 (by decide) ?_
      refine m_iload_n hc 2 dX2_find_72 rfl rfl ?_
      refine m_iload hc 3 dX2_find_73 rfl ?_
      obtain ⟨ht, hw⟩ := hw
      refine c_callVv hc hr ciX2 (Nat.le_of_ble_eq_true rfl) ht mt_X2_tryLines rfl lm_X2_90 (ok_X2_tryLines hw) (Nat.le_of_ble_eq_true rfl) dX2_find_75 rfl (rest := []) rfl (Nat.le_of_ble_eq_true rfl) (fun S1 hw => ?_)
      refine m_iinc hc 3 (x4 + 1) [(4, .int (x4 + 1)), (0, .ref x0), (1, .ref x1), (3, .int x3)] dX2_find_78 rfl rfl (Nat.le_of_ble_eq_true rfl) rfl ?_
      refine m_goto hc 61 dX2_find_81 rfl ?_
      refine m_sub [1, 2, 3, 0] rfl ?_
      exact h61 x0 x1 x3 (x4 + 1) S1 hw
def wb_X2_find_50 (M : Nat × Nat) (K50 : Nat → Nat → Int32 → HS → Prop) (K : Int32 → HS → Prop) (x0 x1 : Nat) (x3 : Int32) (S : HS) : Prop := hT S x0 = 3 ∧ ((hI S x0 12) ≤ x3 → ∃ nn : Nat, wl_X2_find_92 M K nn x0 x1 0 S) ∧ (¬ ((hI S x0 12) ≤ x3) → ∃ nn : Nat, wl_X2_find_61 M K50 K nn x0 x1 x3 0 S)
def wl_X2_find_50 (M : Nat × Nat) (K : Int32 → HS → Prop) : Nat → Nat → Nat → Int32 → HS → Prop
  | 0 => fun _ _ _ _ => False
  | nn + 1 => wb_X2_find_50 M (wl_X2_find_50 M K nn) K
set_option maxHeartbeats 4000000 in
set_option maxRecDepth 100000 in
theorem l_X2_find_50 {G : CG} {S0 : HS} {X : Fx} {K : Int32 → HS → Prop} (hc : Cx X RX2 cX2_find 5) (hr : Cc G S0 5 none (kV K) X) : ∀ (nn : Nat) (x0 x1 : Nat) (x3 : Int32) (S : HS), wl_X2_find_50 (gC G, gS G) K nn x0 x1 x3 S → MC G S0 X 5 S 50 [(0, .ref x0), (1, .ref x1), (3, .int x3)] [] := by
  intro nn
  induction nn with
  | zero => intro x0 x1 x3 S hw; exact False.elim hw
  | succ nn ih =>
    intro x0 x1 x3 S hw
    have hw : wb_X2_find_50 (gC G, gS G) (wl_X2_find_50 (gC G, gS G) K nn) K x0 x1 x3 S := hw
    have h50 := ih
    generalize wl_X2_find_50 (gC G, gS G) K nn = K50 at hw h50
    unfold wb_X2_find_50 at hw
    refine m_iload_n hc 2 dX2_find_50 rfl rfl ?_
    refine m_aload_n hc 0 dX2_find_51 rfl rfl ?_
    obtain ⟨ht, hw⟩ := hw
    refine c_geti hc hr ciX2 (Nat.le_of_ble_eq_true rfl) 12 (Nat.le_of_ble_eq_true rfl) rfl dX2_find_52 lf_X2_69 ht ?_
    refine m_icmp_ge hc 90 dX2_find_55 rfl (fun cq => ?_) (fun cq => ?_)
    · have hw := hw.1 cq
      refine m_iconst hc 0 dX2_find_90 (by decide) ?_
      refine m_istore_n hc [(3, .int 0), (0, .ref x0), (1, .ref x1)] dX2_find_91 rfl (Nat.le_of_ble_eq_true rfl) rfl ?_
      refine m_sub [1, 2, 0] rfl ?_
      obtain ⟨nn, hw⟩ := hw
      exact l_X2_find_92 hc hr nn x0 x1 0 S hw
    · have hw := hw.2 cq
      refine m_iconst hc 0 dX2_find_58 (by decide) ?_
      refine m_istore hc [(4, .int 0), (0, .ref x0), (1, .ref x1), (3, .int x3)] dX2_find_59 (Nat.le_of_ble_eq_true rfl) rfl ?_
      refine m_sub [1, 2, 3, 0] rfl ?_
      obtain ⟨nn, hw⟩ := hw
      exact l_X2_find_61 hc hr K50 h50 nn x0 x1 x3 0 S hw
def wp_X2_find (M : Nat × Nat) (x0 x1 : Nat) (x2 : Int32) (S : HS) (K : Int32 → HS → Prop) : Prop := hT S x0 = 3 ∧ (¬ (some x1) = hP S x0 13 → hT S x0 = 3 ∧ wp_X2_layOut M x0 x1 x2 S (fun r1 S1 => hT S1 x0 = 3 ∧ hT (sI S1 x0 1 0) x1 = 7 ∧ wp_X6_degree M x1 (sI S1 x0 1 0) (fun r2 S2 => (r2 ≤ 0 → hT S2 x0 = 3 ∧ K 0 (sP S2 x0 13 (some x1))) ∧ (¬ (r2 ≤ 0) → hT S2 x0 = 3 ∧ ∃ b3 : Nat, hP S2 x0 4 = some b3 ∧ hT S2 x0 = 3 ∧ ∃ b4 : Nat, hP S2 x0 2 = some b4 ∧ hT S2 x0 = 3 ∧ hT S2 b3 = 6 ∧ wp_X5_load M b3 x1 b4 (hI S2 x0 12) S2 (fun r5 S5 => hT S5 x0 = 3 ∧ wp_X2_loadHighest M x0 x1 S5 (fun r6 S6 => ∃ nn : Nat, wl_X2_find_50 M K nn x0 x1 0 S6)))))) ∧ ((some x1) = hP S x0 13 → K 0 S)
set_option maxHeartbeats 4000000 in
set_option maxRecDepth 100000 in
theorem ok_X2_find {G : CG} {x0 : Nat} {x1 : Nat} {x2 : Int32} {S : HS} {K : Int32 → HS → Prop} (hw : wp_X2_find (gC G, gS G) x0 x1 x2 S K) : CC 5 yX2_find cX2_find 5 none [.ref x0, .ref x1, .int x2] G S (kV K) := by
  refine CC.of (by decide +kernel) (Nat.le_of_ble_eq_true rfl) (fun X hc hr hname => ?_)
  show MC G S X 5 S 0 [(0, .ref x0), (1, .ref x1), (2, .int x2)] []
  unfold wp_X2_find at hw
  refine m_aload_n hc 1 dX2_find_0 rfl rfl ?_
  refine m_aload_n hc 0 dX2_find_1 rfl rfl ?_
  obtain ⟨ht, hw⟩ := hw
  refine c_getq hc hr ciX2 (Nat.le_of_ble_eq_true rfl) 13 (Nat.le_of_ble_eq_true rfl) rfl dX2_find_2 lf_X2_72 ht ?_
  refine q_acmp_ne hc (rx := (some x1)) (ry := hP S x0 13) 9 dX2_find_5 rfl (fun cq => ?_) (fun cq => ?_)
  · have hw := hw.1 cq
    refine m_aload_n hc 0 dX2_find_9 rfl rfl ?_
    refine m_aload_n hc 1 dX2_find_10 rfl rfl ?_
    refine m_iload_n hc 2 dX2_find_11 rfl rfl ?_
    obtain ⟨ht, hw⟩ := hw
    refine c_callVv hc hr ciX2 (Nat.le_of_ble_eq_true rfl) ht mt_X2_layOut rfl lm_X2_75 (ok_X2_layOut hw) (Nat.le_of_ble_eq_true rfl) dX2_find_12 rfl (rest := []) rfl (Nat.le_of_ble_eq_true rfl) (fun S1 hw => ?_)
    refine m_aload_n hc 0 dX2_find_15 rfl rfl ?_
    refine m_iconst hc 0 dX2_find_16 (by decide) ?_
    obtain ⟨ht, hw⟩ := hw
    refine c_puti hc hr ciX2 (Nat.le_of_ble_eq_true rfl) 1 (Nat.le_of_ble_eq_true rfl) rfl dX2_find_17 lf_X2_15 ht (Or.inl rfl) ⟨rfl, rfl⟩ ?_
    refine m_aload_n hc 1 dX2_find_20 rfl rfl ?_
    obtain ⟨ht, hw⟩ := hw
    refine c_callVi hc hr ciX6 (Nat.le_of_ble_eq_true rfl) ht mt_X6_degree rfl lm_X2_79 (ok_X6_degree hw) (Nat.le_of_ble_eq_true rfl) dX2_find_21 rfl (rest := []) rfl (Nat.le_of_ble_eq_true rfl) (fun r2 S2 hw => ?_)
    refine m_if_le hc 120 dX2_find_24 rfl (fun cq => ?_) (fun cq => ?_)
    · have hw := hw.1 cq
      refine m_aload_n hc 0 dX2_find_120 rfl rfl ?_
      refine m_aload_n hc 1 dX2_find_121 rfl rfl ?_
      obtain ⟨ht, hw⟩ := hw
      refine c_putr hc hr ciX2 (Nat.le_of_ble_eq_true rfl) 13 (Nat.le_of_ble_eq_true rfl) rfl dX2_find_122 lf_X2_72 ht (Or.inl rfl) (Or.inl ⟨_, rfl⟩) ?_
      exact c_vret hc hr dX2_find_125 hw
    · have hw := hw.2 cq
      refine m_aload_n hc 0 dX2_find_27 rfl rfl ?_
      obtain ⟨ht, b3, e_b3, hw⟩ := hw
      refine c_getr hc hr ciX2 (Nat.le_of_ble_eq_true rfl) 4 (Nat.le_of_ble_eq_true rfl) rfl dX2_find_28 lf_X2_34 ht e_b3 ?_
      refine m_aload_n hc 1 dX2_find_31 rfl rfl ?_
      refine m_aload_n hc 0 dX2_find_32 rfl rfl ?_
      obtain ⟨ht, b4, e_b4, hw⟩ := hw
      refine c_getr hc hr ciX2 (Nat.le_of_ble_eq_true rfl) 2 (Nat.le_of_ble_eq_true rfl) rfl dX2_find_33 lf_X2_24 ht e_b4 ?_
      refine m_aload_n hc 0 dX2_find_36 rfl rfl ?_
      obtain ⟨ht, hw⟩ := hw
      refine c_geti hc hr ciX2 (Nat.le_of_ble_eq_true rfl) 12 (Nat.le_of_ble_eq_true rfl) rfl dX2_find_37 lf_X2_69 ht ?_
      obtain ⟨ht, hw⟩ := hw
      refine c_callVv hc hr ciX5 (Nat.le_of_ble_eq_true rfl) ht mt_X5_load rfl lm_X2_82 (ok_X5_load hw) (Nat.le_of_ble_eq_true rfl) dX2_find_40 rfl (rest := []) rfl (Nat.le_of_ble_eq_true rfl) (fun S5 hw => ?_)
      refine m_aload_n hc 0 dX2_find_43 rfl rfl ?_
      refine m_aload_n hc 1 dX2_find_44 rfl rfl ?_
      obtain ⟨ht, hw⟩ := hw
      refine c_callVv hc hr ciX2 (Nat.le_of_ble_eq_true rfl) ht mt_X2_loadHighest rfl lm_X2_86 (ok_X2_loadHighest hw) (Nat.le_of_ble_eq_true rfl) dX2_find_45 rfl (rest := []) rfl (Nat.le_of_ble_eq_true rfl) (fun S6 hw => ?_)
      refine m_iconst hc 0 dX2_find_48 (by decide) ?_
      refine m_istore_n hc [(3, .int 0), (0, .ref x0), (1, .ref x1), (2, .int x2)] dX2_find_49 rfl (Nat.le_of_ble_eq_true rfl) rfl ?_
      refine m_sub [1, 2, 0] rfl ?_
      obtain ⟨nn, hw⟩ := hw
      exact l_X2_find_50 hc hr nn x0 x1 0 S6 hw
  · have hw := hw.2 cq
    exact c_vret hc hr dX2_find_8 hw
