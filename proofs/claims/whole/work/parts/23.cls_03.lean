def w_X2_divide_102 (M : Nat × Nat) (K : Int32 → HS → Prop) (x0 x1 : Nat) (s0 s1 s2 : Int32) (s3 : Nat) (S : HS) : Prop := hT S s3 = 21 ∧ vp_in s2 (hN S s3) ∧ hT (sI S s3 (Int32.toNatClampNeg s2) (s1 - s0)) x0 = 3 ∧ ∃ b1 : Nat, hP (sI S s3 (Int32.toNatClampNeg s2) (s1 - s0)) x0 8 = some b1 ∧ hT (sI S s3 (Int32.toNatClampNeg s2) (s1 - s0)) x1 = 4 ∧ hT (sI S s3 (Int32.toNatClampNeg s2) (s1 - s0)) b1 = 21 ∧ vp_in (hI (sI S s3 (Int32.toNatClampNeg s2) (s1 - s0)) x1 2) (hN (sI S s3 (Int32.toNatClampNeg s2) (s1 - s0)) b1) ∧ hT (sI S s3 (Int32.toNatClampNeg s2) (s1 - s0)) x1 = 4 ∧ (¬ (hI (sI S s3 (Int32.toNatClampNeg s2) (s1 - s0)) x1 4) = 0 → hT (sI S s3 (Int32.toNatClampNeg s2) (s1 - s0)) b1 = 21 ∧ vp_in (hI (sI S s3 (Int32.toNatClampNeg s2) (s1 - s0)) x1 2) (hN (sI S s3 (Int32.toNatClampNeg s2) (s1 - s0)) b1) ∧ K 1 (sI (sI S s3 (Int32.toNatClampNeg s2) (s1 - s0)) b1 (Int32.toNatClampNeg (hI (sI S s3 (Int32.toNatClampNeg s2) (s1 - s0)) x1 2)) ((hI (sI S s3 (Int32.toNatClampNeg s2) (s1 - s0)) b1 (Int32.toNatClampNeg (hI (sI S s3 (Int32.toNatClampNeg s2) (s1 - s0)) x1 2))) - 1))) ∧ ((hI (sI S s3 (Int32.toNatClampNeg s2) (s1 - s0)) x1 4) = 0 → hT (sI S s3 (Int32.toNatClampNeg s2) (s1 - s0)) b1 = 21 ∧ vp_in (hI (sI S s3 (Int32.toNatClampNeg s2) (s1 - s0)) x1 2) (hN (sI S s3 (Int32.toNatClampNeg s2) (s1 - s0)) b1) ∧ K 1 (sI (sI S s3 (Int32.toNatClampNeg s2) (s1 - s0)) b1 (Int32.toNatClampNeg (hI (sI S s3 (Int32.toNatClampNeg s2) (s1 - s0)) x1 2)) ((hI (sI S s3 (Int32.toNatClampNeg s2) (s1 - s0)) b1 (Int32.toNatClampNeg (hI (sI S s3 (Int32.toNatClampNeg s2) (s1 - s0)) x1 2))) - 0)))
set_option maxHeartbeats 4000000 in
set_option maxRecDepth 100000 in
theorem b_X2_divide_102 {G : CG} {S0 : HS} {X : Fx} {K : Int32 → HS → Prop} (hc : Cx X RX2 cX2_divide 3) (hr : Cc G S0 2 (some .boolean) (kI K) X) : ∀ (x0 x1 : Nat) (s0 s1 s2 : Int32) (s3 : Nat) (S : HS), w_X2_divide_102 (gC G, gS G) K x0 x1 s0 s1 s2 s3 S → MC G S0 X 3 S 102 [(0, .ref x0), (1, .ref x1)] [.int s0, .int s1, .int s2, .ref s3] := by
  intro x0 x1 s0 s1 s2 s3 S hw
  unfold w_X2_divide_102 at hw
  refine m_isub hc dX2_divide_102 ?_
  obtain ⟨ht, hi, hw⟩ := hw
  refine c_iast hc hr ht hi dX2_divide_103 ?_
  refine m_aload_n hc 0 dX2_divide_104 rfl rfl ?_
  obtain ⟨ht, b1, e_b1, hw⟩ := hw
  refine c_getr hc hr ciX2 (Nat.le_of_ble_eq_true rfl) 8 (Nat.le_of_ble_eq_true rfl) rfl dX2_divide_105 lf_X2_51 ht e_b1 ?_
  refine m_aload_n hc 1 dX2_divide_108 rfl rfl ?_
  obtain ⟨ht, hw⟩ := hw
  refine c_geti hc hr ciX3 (Nat.le_of_ble_eq_true rfl) 2 (Nat.le_of_ble_eq_true rfl) rfl dX2_divide_109 lf_X2_159 ht ?_
  refine m_dup2 hc dX2_divide_112 rfl rfl ?_
  obtain ⟨ht, hi, hw⟩ := hw
  refine c_iald hc hr ht hi dX2_divide_113 ?_
  refine m_aload_n hc 1 dX2_divide_114 rfl rfl ?_
  obtain ⟨ht, hw⟩ := hw
  refine c_geti hc hr ciX3 (Nat.le_of_ble_eq_true rfl) 4 (Nat.le_of_ble_eq_true rfl) rfl dX2_divide_115 lf_X2_156 ht ?_
  refine m_if_ne hc 125 dX2_divide_118 rfl (fun cq => ?_) (fun cq => ?_)
  · have hw := hw.1 cq
    refine m_iconst hc 1 dX2_divide_125 (by decide) ?_
    refine m_isub hc dX2_divide_126 ?_
    obtain ⟨ht, hi, hw⟩ := hw
    refine c_iast hc hr ht hi dX2_divide_127 ?_
    refine m_iconst hc 1 dX2_divide_128 (by decide) ?_
    exact c_zret hc hr dX2_divide_129 (by decide) hw
  · have hw := hw.2 cq
    refine m_iconst hc 0 dX2_divide_121 (by decide) ?_
    refine m_goto hc 126 dX2_divide_122 rfl ?_
    refine m_isub hc dX2_divide_126 ?_
    obtain ⟨ht, hi, hw⟩ := hw
    refine c_iast hc hr ht hi dX2_divide_127 ?_
    refine m_iconst hc 1 dX2_divide_128 (by decide) ?_
    exact c_zret hc hr dX2_divide_129 (by decide) hw
def wb_X2_divide_31 (M : Nat × Nat) (K31 : Nat → Nat → Int32 → HS → Prop) (K : Int32 → HS → Prop) (x0 x1 : Nat) (x2 : Int32) (S : HS) : Prop := (x2 ≤ 0 → hT S x0 = 3 ∧ wp_X2_isSliceZero M x0 x1 S (fun r1 S1 => (¬ r1 = 0 → hT S1 x0 = 3 ∧ wp_X2_takeQuotient M x0 x1 S1 (fun r2 S2 => hT S2 x0 = 3 ∧ ∃ b3 : Nat, hP S2 x0 8 = some b3 ∧ hT S2 x1 = 4 ∧ hT S2 b3 = 21 ∧ vp_in (hI S2 x1 0) (hN S2 b3) ∧ hT S2 b3 = 21 ∧ vp_in (hI S2 x1 0) (hN S2 b3) ∧ hT (sI S2 b3 (Int32.toNatClampNeg (hI S2 x1 0)) ((hI S2 b3 (Int32.toNatClampNeg (hI S2 x1 0))) - 1)) x0 = 3 ∧ ∃ b4 : Nat, hP (sI S2 b3 (Int32.toNatClampNeg (hI S2 x1 0)) ((hI S2 b3 (Int32.toNatClampNeg (hI S2 x1 0))) - 1)) x0 8 = some b4 ∧ hT (sI S2 b3 (Int32.toNatClampNeg (hI S2 x1 0)) ((hI S2 b3 (Int32.toNatClampNeg (hI S2 x1 0))) - 1)) x1 = 4 ∧ hT (sI S2 b3 (Int32.toNatClampNeg (hI S2 x1 0)) ((hI S2 b3 (Int32.toNatClampNeg (hI S2 x1 0))) - 1)) b4 = 21 ∧ vp_in (hI (sI S2 b3 (Int32.toNatClampNeg (hI S2 x1 0)) ((hI S2 b3 (Int32.toNatClampNeg (hI S2 x1 0))) - 1)) x1 1) (hN (sI S2 b3 (Int32.toNatClampNeg (hI S2 x1 0)) ((hI S2 b3 (Int32.toNatClampNeg (hI S2 x1 0))) - 1)) b4) ∧ hT (sI S2 b3 (Int32.toNatClampNeg (hI S2 x1 0)) ((hI S2 b3 (Int32.toNatClampNeg (hI S2 x1 0))) - 1)) x1 = 4 ∧ (¬ (hI (sI S2 b3 (Int32.toNatClampNeg (hI S2 x1 0)) ((hI S2 b3 (Int32.toNatClampNeg (hI S2 x1 0))) - 1)) x1 3) = 0 → w_X2_divide_102 M K x0 x1 1 (hI (sI S2 b3 (Int32.toNatClampNeg (hI S2 x1 0)) ((hI S2 b3 (Int32.toNatClampNeg (hI S2 x1 0))) - 1)) b4 (Int32.toNatClampNeg (hI (sI S2 b3 (Int32.toNatClampNeg (hI S2 x1 0)) ((hI S2 b3 (Int32.toNatClampNeg (hI S2 x1 0))) - 1)) x1 1))) (hI (sI S2 b3 (Int32.toNatClampNeg (hI S2 x1 0)) ((hI S2 b3 (Int32.toNatClampNeg (hI S2 x1 0))) - 1)) x1 1) b4 (sI S2 b3 (Int32.toNatClampNeg (hI S2 x1 0)) ((hI S2 b3 (Int32.toNatClampNeg (hI S2 x1 0))) - 1))) ∧ ((hI (sI S2 b3 (Int32.toNatClampNeg (hI S2 x1 0)) ((hI S2 b3 (Int32.toNatClampNeg (hI S2 x1 0))) - 1)) x1 3) = 0 → w_X2_divide_102 M K x0 x1 0 (hI (sI S2 b3 (Int32.toNatClampNeg (hI S2 x1 0)) ((hI S2 b3 (Int32.toNatClampNeg (hI S2 x1 0))) - 1)) b4 (Int32.toNatClampNeg (hI (sI S2 b3 (Int32.toNatClampNeg (hI S2 x1 0)) ((hI S2 b3 (Int32.toNatClampNeg (hI S2 x1 0))) - 1)) x1 1))) (hI (sI S2 b3 (Int32.toNatClampNeg (hI S2 x1 0)) ((hI S2 b3 (Int32.toNatClampNeg (hI S2 x1 0))) - 1)) x1 1) b4 (sI S2 b3 (Int32.toNatClampNeg (hI S2 x1 0)) ((hI S2 b3 (Int32.toNatClampNeg (hI S2 x1 0))) - 1))))) ∧ (r1 = 0 → K 0 S1))) ∧ (¬ (x2 ≤ 0) → hT S x0 = 3 ∧ wp_X2_divideSlice M x0 x1 x2 S (fun r5 S5 => (¬ r5 = 0 → K31 x0 x1 (x2 + (-1)) S5) ∧ (r5 = 0 → K 0 S5)))
def wl_X2_divide_31 (M : Nat × Nat) (K : Int32 → HS → Prop) : Nat → Nat → Nat → Int32 → HS → Prop
  | 0 => fun _ _ _ _ => False
  | nn + 1 => wb_X2_divide_31 M (wl_X2_divide_31 M K nn) K
set_option maxHeartbeats 4000000 in
set_option maxRecDepth 100000 in
theorem l_X2_divide_31 {G : CG} {S0 : HS} {X : Fx} {K : Int32 → HS → Prop} (hc : Cx X RX2 cX2_divide 3) (hr : Cc G S0 2 (some .boolean) (kI K) X) : ∀ (nn : Nat) (x0 x1 : Nat) (x2 : Int32) (S : HS), wl_X2_divide_31 (gC G, gS G) K nn x0 x1 x2 S → MC G S0 X 3 S 31 [(0, .ref x0), (1, .ref x1), (2, .int x2)] [] := by
  intro nn
  induction nn with
  | zero => intro x0 x1 x2 S hw; exact False.elim hw
  | succ nn ih =>
    intro x0 x1 x2 S hw
    have hw : wb_X2_divide_31 (gC G, gS G) (wl_X2_divide_31 (gC G, gS G) K nn) K x0 x1 x2 S := hw
    have h31 := ih
    generalize wl_X2_divide_31 (gC G, gS G) K nn = K31 at hw h31
    unfold wb_X2_divide_31 at hw
    refine m_iload_n hc 2 dX2_divide_31 rfl rfl ?_
    refine m_if_le hc 52 dX2_divide_32 rfl (fun cq => ?_) (fun cq => ?_)
    · have hw := hw.1 cq
      refine m_aload_n hc 0 dX2_divide_52 rfl rfl ?_
      refine m_aload_n hc 1 dX2_divide_53 rfl rfl ?_
      obtain ⟨ht, hw⟩ := hw
      refine c_callVi hc hr ciX2 (Nat.le_of_ble_eq_true rfl) ht mt_X2_isSliceZero rfl lm_X2_170 (ok_X2_isSliceZero hw) (Nat.le_of_ble_eq_true rfl) dX2_divide_54 rfl (rest := []) rfl (Nat.le_of_ble_eq_true rfl) (fun r1 S1 hw => ?_)
      refine m_if_ne hc 62 dX2_divide_57 rfl (fun cq => ?_) (fun cq => ?_)
      · have hw := hw.1 cq
        refine m_aload_n hc 0 dX2_divide_62 rfl rfl ?_
        refine m_aload_n hc 1 dX2_divide_63 rfl rfl ?_
        obtain ⟨ht, hw⟩ := hw
        refine c_callVv hc hr ciX2 (Nat.le_of_ble_eq_true rfl) ht mt_X2_takeQuotient rfl lm_X2_173 (ok_X2_takeQuotient hw) (Nat.le_of_ble_eq_true rfl) dX2_divide_64 rfl (rest := []) rfl (Nat.le_of_ble_eq_true rfl) (fun S2 hw => ?_)
        refine m_aload_n hc 0 dX2_divide_67 rfl rfl ?_
        obtain ⟨ht, b3, e_b3, hw⟩ := hw
        refine c_getr hc hr ciX2 (Nat.le_of_ble_eq_true rfl) 8 (Nat.le_of_ble_eq_true rfl) rfl dX2_divide_68 lf_X2_51 ht e_b3 ?_
        refine m_aload_n hc 1 dX2_divide_71 rfl rfl ?_
        obtain ⟨ht, hw⟩ := hw
        refine c_geti hc hr ciX3 (Nat.le_of_ble_eq_true rfl) 0 (Nat.le_of_ble_eq_true rfl) rfl dX2_divide_72 lf_X2_147 ht ?_
        refine m_dup2 hc dX2_divide_75 rfl rfl ?_
        obtain ⟨ht, hi, hw⟩ := hw
        refine c_iald hc hr ht hi dX2_divide_76 ?_
        refine m_iconst hc 1 dX2_divide_77 (by decide) ?_
        refine m_isub hc dX2_divide_78 ?_
        obtain ⟨ht, hi, hw⟩ := hw
        refine c_iast hc hr ht hi dX2_divide_79 ?_
        refine m_aload_n hc 0 dX2_divide_80 rfl rfl ?_
        obtain ⟨ht, b4, e_b4, hw⟩ := hw
        refine c_getr hc hr ciX2 (Nat.le_of_ble_eq_true rfl) 8 (Nat.le_of_ble_eq_true rfl) rfl dX2_divide_81 lf_X2_51 ht e_b4 ?_
        refine m_aload_n hc 1 dX2_divide_84 rfl rfl ?_
        obtain ⟨ht, hw⟩ := hw
        refine c_geti hc hr ciX3 (Nat.le_of_ble_eq_true rfl) 1 (Nat.le_of_ble_eq_true rfl) rfl dX2_divide_85 lf_X2_153 ht ?_
        refine m_dup2 hc dX2_divide_88 rfl rfl ?_
        obtain ⟨ht, hi, hw⟩ := hw
        refine c_iald hc hr ht hi dX2_divide_89 ?_
        refine m_aload_n hc 1 dX2_divide_90 rfl rfl ?_
        obtain ⟨ht, hw⟩ := hw
        refine c_geti hc hr ciX3 (Nat.le_of_ble_eq_true rfl) 3 (Nat.le_of_ble_eq_true rfl) rfl dX2_divide_91 lf_X2_150 ht ?_
        refine m_if_ne hc 101 dX2_divide_94 rfl (fun cq => ?_) (fun cq => ?_)
        · have hw := hw.1 cq
          refine m_iconst hc 1 dX2_divide_101 (by decide) ?_
          refine m_sub [0, 1] rfl ?_
          exact b_X2_divide_102 hc hr x0 x1 1 (hI (sI S2 b3 (Int32.toNatClampNeg (hI S2 x1 0)) ((hI S2 b3 (Int32.toNatClampNeg (hI S2 x1 0))) - 1)) b4 (Int32.toNatClampNeg (hI (sI S2 b3 (Int32.toNatClampNeg (hI S2 x1 0)) ((hI S2 b3 (Int32.toNatClampNeg (hI S2 x1 0))) - 1)) x1 1))) (hI (sI S2 b3 (Int32.toNatClampNeg (hI S2 x1 0)) ((hI S2 b3 (Int32.toNatClampNeg (hI S2 x1 0))) - 1)) x1 1) b4 (sI S2 b3 (Int32.toNatClampNeg (hI S2 x1 0)) ((hI S2 b3 (Int32.toNatClampNeg (hI S2 x1 0))) - 1)) hw
        · have hw := hw.2 cq
          refine m_iconst hc 0 dX2_divide_97 (by decide) ?_
          refine m_goto hc 102 dX2_divide_98 rfl ?_
          refine m_sub [0, 1] rfl ?_
          exact b_X2_divide_102 hc hr x0 x1 0 (hI (sI S2 b3 (Int32.toNatClampNeg (hI S2 x1 0)) ((hI S2 b3 (Int32.toNatClampNeg (hI S2 x1 0))) - 1)) b4 (Int32.toNatClampNeg (hI (sI S2 b3 (Int32.toNatClampNeg (hI S2 x1 0)) ((hI S2 b3 (Int32.toNatClampNeg (hI S2 x1 0))) - 1)) x1 1))) (hI (sI S2 b3 (Int32.toNatClampNeg (hI S2 x1 0)) ((hI S2 b3 (Int32.toNatClampNeg (hI S2 x1 0))) - 1)) x1 1) b4 (sI S2 b3 (Int32.toNatClampNeg (hI S2 x1 0)) ((hI S2 b3 (Int32.toNatClampNeg (hI S2 x1 0))) - 1)) hw
      · have hw := hw.2 cq
        refine m_iconst hc 0 dX2_divide_60 (by decide) ?_
        exact c_zret hc hr dX2_divide_61 (by decide) hw
    · have hw := hw.2 cq
      refine m_aload_n hc 0 dX2_divide_35 rfl rfl ?_
      refine m_aload_n hc 1 dX2_divide_36 rfl rfl ?_
      refine m_iload_n hc 2 dX2_divide_37 rfl rfl ?_
      obtain ⟨ht, hw⟩ := hw
      refine c_callVi hc hr ciX2 (Nat.le_of_ble_eq_true rfl) ht mt_X2_divideSlice rfl lm_X2_166 (ok_X2_divideSlice hw) (Nat.le_of_ble_eq_true rfl) dX2_divide_38 rfl (rest := []) rfl (Nat.le_of_ble_eq_true rfl) (fun r5 S5 hw => ?_)
      refine m_if_ne hc 46 dX2_divide_41 rfl (fun cq => ?_) (fun cq => ?_)
      · have hw := hw.1 cq
        refine m_iinc hc 2 (x2 + (-1)) [(2, .int (x2 + (-1))), (0, .ref x0), (1, .ref x1)] dX2_divide_46 rfl rfl (Nat.le_of_ble_eq_true rfl) rfl ?_
        refine m_goto hc 31 dX2_divide_49 rfl ?_
        refine m_sub [1, 2, 0] rfl ?_
        exact h31 x0 x1 (x2 + (-1)) S5 hw
      · have hw := hw.2 cq
        refine m_iconst hc 0 dX2_divide_44 (by decide) ?_
        exact c_zret hc hr dX2_divide_45 (by decide) hw
def wp_X2_divide (M : Nat × Nat) (x0 x1 : Nat) (S : HS) (K : Int32 → HS → Prop) : Prop := hT S x0 = 3 ∧ wp_X2_canGoIn M x0 x1 S (fun r1 S1 => (¬ r1 = 0 → hT S1 x0 = 3 ∧ ∃ b2 : Nat, hP S1 x0 7 = some b2 ∧ hT S1 x0 = 3 ∧ ∃ b3 : Nat, hP S1 x0 6 = some b3 ∧ hT S1 b2 = 2 ∧ wp_X1_copyFrom M b2 b3 S1 (fun r4 S4 => hT S4 x0 = 3 ∧ ∃ b5 : Nat, hP S4 x0 8 = some b5 ∧ hT S4 x1 = 4 ∧ hT S4 b5 = 21 ∧ vp_in (hI S4 x1 0) (hN S4 b5) ∧ ∀ v6 : Int32, v6 = (hI S4 b5 (Int32.toNatClampNeg (hI S4 x1 0))) → ∃ nn : Nat, wl_X2_divide_31 M K nn x0 x1 v6 S4)) ∧ (r1 = 0 → K 0 S1))
set_option maxHeartbeats 4000000 in
set_option maxRecDepth 100000 in
theorem ok_X2_divide {G : CG} {x0 : Nat} {x1 : Nat} {S : HS} {K : Int32 → HS → Prop} (hw : wp_X2_divide (gC G, gS G) x0 x1 S K) : CC 2 yX2_divide cX2_divide 3 (some .boolean) [.ref x0, .ref x1] G S (kI K) := by
  refine CC.of (by decide +kernel) (Nat.le_of_ble_eq_true rfl) (fun X hc hr hname => ?_)
  show MC G S X 3 S 0 [(0, .ref x0), (1, .ref x1)] []
  unfold wp_X2_divide at hw
  refine m_aload_n hc 0 dX2_divide_0 rfl rfl ?_
  refine m_aload_n hc 1 dX2_divide_1 rfl rfl ?_
  obtain ⟨ht, hw⟩ := hw
  refine c_callVi hc hr ciX2 (Nat.le_of_ble_eq_true rfl) ht mt_X2_canGoIn rfl lm_X2_133 (ok_X2_canGoIn hw) (Nat.le_of_ble_eq_true rfl) dX2_divide_2 rfl (rest := []) rfl (Nat.le_of_ble_eq_true rfl) (fun r1 S1 hw => ?_)
  refine m_if_ne hc 10 dX2_divide_5 rfl (fun cq => ?_) (fun cq => ?_)
  · have hw := hw.1 cq
    refine m_aload_n hc 0 dX2_divide_10 rfl rfl ?_
    obtain ⟨ht, b2, e_b2, hw⟩ := hw
    refine c_getr hc hr ciX2 (Nat.le_of_ble_eq_true rfl) 7 (Nat.le_of_ble_eq_true rfl) rfl dX2_divide_11 lf_X2_48 ht e_b2 ?_
    refine m_aload_n hc 0 dX2_divide_14 rfl rfl ?_
    obtain ⟨ht, b3, e_b3, hw⟩ := hw
    refine c_getr hc hr ciX2 (Nat.le_of_ble_eq_true rfl) 6 (Nat.le_of_ble_eq_true rfl) rfl dX2_divide_15 lf_X2_44 ht e_b3 ?_
    obtain ⟨ht, hw⟩ := hw
    refine c_callVv hc hr ciX1 (Nat.le_of_ble_eq_true rfl) ht mt_X1_copyFrom rfl lm_X2_162 (ok_X1_copyFrom hw) (Nat.le_of_ble_eq_true rfl) dX2_divide_18 rfl (rest := []) rfl (Nat.le_of_ble_eq_true rfl) (fun S4 hw => ?_)
    refine m_aload_n hc 0 dX2_divide_21 rfl rfl ?_
    obtain ⟨ht, b5, e_b5, hw⟩ := hw
    refine c_getr hc hr ciX2 (Nat.le_of_ble_eq_true rfl) 8 (Nat.le_of_ble_eq_true rfl) rfl dX2_divide_22 lf_X2_51 ht e_b5 ?_
    refine m_aload_n hc 1 dX2_divide_25 rfl rfl ?_
    obtain ⟨ht, hw⟩ := hw
    refine c_geti hc hr ciX3 (Nat.le_of_ble_eq_true rfl) 0 (Nat.le_of_ble_eq_true rfl) rfl dX2_divide_26 lf_X2_147 ht ?_
    obtain ⟨ht, hi, hw⟩ := hw
    refine c_iald hc hr ht hi dX2_divide_29 ?_
    refine m_topi (fun v6 e_v6 => ?_)
    have hw := hw v6 e_v6
    refine m_istore_n hc [(2, .int v6), (0, .ref x0), (1, .ref x1)] dX2_divide_30 rfl (Nat.le_of_ble_eq_true rfl) rfl ?_
    refine m_sub [1, 2, 0] rfl ?_
    obtain ⟨nn, hw⟩ := hw
    exact l_X2_divide_31 hc hr nn x0 x1 v6 S4 hw
  · have hw := hw.2 cq
    refine m_iconst hc 0 dX2_divide_8 (by decide) ?_
    exact c_zret hc hr dX2_divide_9 (by decide) hw
def wb_X2_takeOut_2 (M : Nat × Nat) (K2 : Nat → Nat → Int32 → HS → Prop) (K : Int32 → HS → Prop) (x0 x1 : Nat) (x2 : Int32) (S : HS) : Prop := (40 < x2 → K x2 S) ∧ (¬ (40 < x2) → hT S x0 = 3 ∧ wp_X2_divide M x0 x1 S (fun r1 S1 => (r1 = 0 → K x2 S1) ∧ (¬ (r1 = 0) → K2 x0 x1 (x2 + 1) S1)))
def wl_X2_takeOut_2 (M : Nat × Nat) (K : Int32 → HS → Prop) : Nat → Nat → Nat → Int32 → HS → Prop
  | 0 => fun _ _ _ _ => False
  | nn + 1 => wb_X2_takeOut_2 M (wl_X2_takeOut_2 M K nn) K
set_option maxHeartbeats 4000000 in
set_option maxRecDepth 100000 in
theorem l_X2_takeOut_2 {G : CG} {S0 : HS} {X : Fx} {K : Int32 → HS → Prop} (hc : Cx X RX2 cX2_takeOut 3) (hr : Cc G S0 3 (some .int) (kI K) X) : ∀ (nn : Nat) (x0 x1 : Nat) (x2 : Int32) (S : HS), wl_X2_takeOut_2 (gC G, gS G) K nn x0 x1 x2 S → MC G S0 X 3 S 2 [(0, .ref x0), (1, .ref x1), (2, .int x2)] [] := by
  intro nn
  induction nn with
  | zero => intro x0 x1 x2 S hw; exact False.elim hw
  | succ nn ih =>
    intro x0 x1 x2 S hw
    have hw : wb_X2_takeOut_2 (gC G, gS G) (wl_X2_takeOut_2 (gC G, gS G) K nn) K x0 x1 x2 S := hw
    have h2 := ih
    generalize wl_X2_takeOut_2 (gC G, gS G) K nn = K2 at hw h2
    unfold wb_X2_takeOut_2 at hw
    refine m_iload_n hc 2 dX2_takeOut_2 rfl rfl ?_
    refine m_bipush hc 40 dX2_takeOut_3 (by decide) ?_
    refine m_icmp_gt hc 22 dX2_takeOut_5 rfl (fun cq => ?_) (fun cq => ?_)
    · have hw := hw.1 cq
      refine m_iload_n hc 2 dX2_takeOut_22 rfl rfl ?_
      exact c_iret hc hr dX2_takeOut_23 hw
    · have hw := hw.2 cq
      refine m_aload_n hc 0 dX2_takeOut_8 rfl rfl ?_
      refine m_aload_n hc 1 dX2_takeOut_9 rfl rfl ?_
      obtain ⟨ht, hw⟩ := hw
      refine c_callVi hc hr ciX2 (Nat.le_of_ble_eq_true rfl) ht mt_X2_divide rfl lm_X2_144 (ok_X2_divide hw) (Nat.le_of_ble_eq_true rfl) dX2_takeOut_10 rfl (rest := []) rfl (Nat.le_of_ble_eq_true rfl) (fun r1 S1 hw => ?_)
      refine m_if_eq hc 22 dX2_takeOut_13 rfl (fun cq => ?_) (fun cq => ?_)
      · have hw := hw.1 cq
        refine m_iload_n hc 2 dX2_takeOut_22 rfl rfl ?_
        exact c_iret hc hr dX2_takeOut_23 hw
      · have hw := hw.2 cq
        refine m_iinc hc 2 (x2 + 1) [(2, .int (x2 + 1)), (0, .ref x0), (1, .ref x1)] dX2_takeOut_16 rfl rfl (Nat.le_of_ble_eq_true rfl) rfl ?_
        refine m_goto hc 2 dX2_takeOut_19 rfl ?_
        refine m_sub [1, 2, 0] rfl ?_
        exact h2 x0 x1 (x2 + 1) S1 hw
def wp_X2_takeOut (M : Nat × Nat) (x0 x1 : Nat) (S : HS) (K : Int32 → HS → Prop) : Prop := ∃ nn : Nat, wl_X2_takeOut_2 M K nn x0 x1 0 S
set_option maxHeartbeats 4000000 in
set_option maxRecDepth 100000 in
theorem ok_X2_takeOut {G : CG} {x0 : Nat} {x1 : Nat} {S : HS} {K : Int32 → HS → Prop} (hw : wp_X2_takeOut (gC G, gS G) x0 x1 S K) : CC 3 yX2_takeOut cX2_takeOut 3 (some .int) [.ref x0, .ref x1] G S (kI K) := by
  refine CC.of (by decide +kernel) (Nat.le_of_ble_eq_true rfl) (fun X hc hr hname => ?_)
  show MC G S X 3 S 0 [(0, .ref x0), (1, .ref x1)] []
  unfold wp_X2_takeOut at hw
  refine m_iconst hc 0 dX2_takeOut_0 (by decide) ?_
  refine m_istore_n hc [(2, .int 0), (0, .ref x0), (1, .ref x1)] dX2_takeOut_1 rfl (Nat.le_of_ble_eq_true rfl) rfl ?_
  refine m_sub [1, 2, 0] rfl ?_
  obtain ⟨nn, hw⟩ := hw
  exact l_X2_takeOut_2 hc hr nn x0 x1 0 S hw
def wp_X5_stride (M : Nat × Nat) (x0 : Nat) (x1 : Int32) (S : HS) (K : Int32 → HS → Prop) : Prop := (¬ x1 = 0 → (¬ x1 = 1 → K 1 S) ∧ (x1 = 1 → hT S x0 = 6 ∧ K (hI S x0 2) S)) ∧ (x1 = 0 → hT S x0 = 6 ∧ hT S x0 = 6 ∧ K ((hI S x0 2) * (hI S x0 2)) S)
set_option maxHeartbeats 4000000 in
set_option maxRecDepth 100000 in
theorem ok_X5_stride {G : CG} {x0 : Nat} {x1 : Int32} {S : HS} {K : Int32 → HS → Prop} (hw : wp_X5_stride (gC G, gS G) x0 x1 S K) : CC 0 yX5_stride cX5_stride 2 (some .int) [.ref x0, .int x1] G S (kI K) := by
  refine CC.of (by decide +kernel) (Nat.le_of_ble_eq_true rfl) (fun X hc hr hname => ?_)
  show MC G S X 2 S 0 [(0, .ref x0), (1, .int x1)] []
  unfold wp_X5_stride at hw
  refine m_iload_n hc 1 dX5_stride_0 rfl rfl ?_
  refine m_if_ne hc 16 dX5_stride_1 rfl (fun cq => ?_) (fun cq => ?_)
  · have hw := hw.1 cq
    refine m_iload_n hc 1 dX5_stride_16 rfl rfl ?_
    refine m_iconst hc 1 dX5_stride_17 (by decide) ?_
    refine m_icmp_ne hc 28 dX5_stride_18 rfl (fun cq => ?_) (fun cq => ?_)
    · have hw := hw.1 cq
      refine m_iconst hc 1 dX5_stride_28 (by decide) ?_
      exact c_iret hc hr dX5_stride_29 hw
    · have hw := hw.2 cq
      refine m_aload_n hc 0 dX5_stride_21 rfl rfl ?_
      obtain ⟨ht, hw⟩ := hw
      refine c_geti hc hr ciX5 (Nat.le_of_ble_eq_true rfl) 2 (Nat.le_of_ble_eq_true rfl) rfl dX5_stride_22 lf_X5_18 ht ?_
      refine m_goto hc 29 dX5_stride_25 rfl ?_
      exact c_iret hc hr dX5_stride_29 hw
  · have hw := hw.2 cq
    refine m_aload_n hc 0 dX5_stride_4 rfl rfl ?_
    obtain ⟨ht, hw⟩ := hw
    refine c_geti hc hr ciX5 (Nat.le_of_ble_eq_true rfl) 2 (Nat.le_of_ble_eq_true rfl) rfl dX5_stride_5 lf_X5_18 ht ?_
    refine m_aload_n hc 0 dX5_stride_8 rfl rfl ?_
    obtain ⟨ht, hw⟩ := hw
    refine c_geti hc hr ciX5 (Nat.le_of_ble_eq_true rfl) 2 (Nat.le_of_ble_eq_true rfl) rfl dX5_stride_9 lf_X5_18 ht ?_
    refine m_imul hc dX5_stride_12 ?_
    refine m_goto hc 29 dX5_stride_13 rfl ?_
    exact c_iret hc hr dX5_stride_29 hw
def w_X5_isZeroOn_95 (M : Nat × Nat) (K31 : Nat → Nat → Int32 → Int32 → Int32 → Int32 → HS → Prop) (K43 : Nat → Nat → Int32 → Int32 → Int32 → Int32 → Int32 → HS → Prop) (K : Int32 → HS → Prop) (x0 x1 : Nat) (x2 x3 x4 x5 x6 s0 : Int32) (S : HS) : Prop := hT S x0 = 6 ∧ ∃ b1 : Nat, hP S x0 0 = some b1 ∧ hT S b1 = 21 ∧ vp_in (((s0 * x2) + (x5 * x3)) + (x6 * x4)) (hN S b1) ∧ ((hI S b1 (Int32.toNatClampNeg (((s0 * x2) + (x5 * x3)) + (x6 * x4)))) = 0 → K43 x0 x1 x2 x3 x4 x5 (x6 + 1) S) ∧ (¬ ((hI S b1 (Int32.toNatClampNeg (((s0 * x2) + (x5 * x3)) + (x6 * x4)))) = 0) → K 0 S)
set_option maxHeartbeats 4000000 in
set_option maxRecDepth 100000 in
theorem b_X5_isZeroOn_95 {G : CG} {S0 : HS} {X : Fx} {K : Int32 → HS → Prop} (hc : Cx X RX5 cX5_isZeroOn 9) (hr : Cc G S0 1 (some .boolean) (kI K) X) (K31 : Nat → Nat → Int32 → Int32 → Int32 → Int32 → HS → Prop) (K43 : Nat → Nat → Int32 → Int32 → Int32 → Int32 → Int32 → HS → Prop) (h31 : ∀ (x0 x1 : Nat) (x2 x3 x4 x5 : Int32) (S : HS), K31 x0 x1 x2 x3 x4 x5 S → MC G S0 X 9 S 31 [(0, .ref x0), (1, .ref x1), (2, .int x2), (3, .int x3), (4, .int x4), (5, .int x5)] []) (h43 : ∀ (x0 x1 : Nat) (x2 x3 x4 x5 x6 : Int32) (S : HS), K43 x0 x1 x2 x3 x4 x5 x6 S → MC G S0 X 9 S 43 [(0, .ref x0), (1, .ref x1), (2, .int x2), (3, .int x3), (4, .int x4), (5, .int x5), (6, .int x6)] []) : ∀ (x0 x1 : Nat) (x2 x3 x4 x5 x6 s0 : Int32) (S : HS), w_X5_isZeroOn_95 (gC G, gS G) K31 K43 K x0 x1 x2 x3 x4 x5 x6 s0 S → MC G S0 X 9 S 95 [(0, .ref x0), (1, .ref x1), (2, .int x2), (3, .int x3), (4, .int x4), (5, .int x5), (6, .int x6)] [.int s0] := by
  intro x0 x1 x2 x3 x4 x5 x6 s0 S hw
  unfold w_X5_isZeroOn_95 at hw
  refine m_istore hc [(8, .int s0), (0, .ref x0), (1, .ref x1), (2, .int x2), (3, .int x3), (4, .int x4), (5, .int x5), (6, .int x6)] dX5_isZeroOn_95 (Nat.le_of_ble_eq_true rfl) rfl ?_
  refine m_aload_n hc 1 dX5_isZeroOn_97 rfl rfl ?_
  obtain ⟨ht, b1, e_b1, hw⟩ := hw
  refine c_getr hc hr ciX5 (Nat.le_of_ble_eq_true rfl) 0 (Nat.le_of_ble_eq_true rfl) rfl dX5_isZeroOn_98 lf_X5_9 ht e_b1 ?_
  refine m_iload hc 0 dX5_isZeroOn_101 rfl ?_
  refine m_iload_n hc 3 dX5_isZeroOn_103 rfl rfl ?_
  refine m_imul hc dX5_isZeroOn_104 ?_
  refine m_iload hc 6 dX5_isZeroOn_105 rfl ?_
  refine m_iload_n hc 4 dX5_isZeroOn_107 rfl rfl ?_
  refine m_imul hc dX5_isZeroOn_108 ?_
  refine m_iadd hc dX5_isZeroOn_109 ?_
  refine m_iload hc 7 dX5_isZeroOn_110 rfl ?_
  refine m_iload hc 5 dX5_isZeroOn_112 rfl ?_
  refine m_imul hc dX5_isZeroOn_114 ?_
  refine m_iadd hc dX5_isZeroOn_115 ?_
  obtain ⟨ht, hi, hw⟩ := hw
  refine c_iald hc hr ht hi dX5_isZeroOn_116 ?_
  refine m_if_eq hc 122 dX5_isZeroOn_117 rfl (fun cq => ?_) (fun cq => ?_)
  · have hw := hw.1 cq
    refine m_iinc hc 7 (x6 + 1) [(6, .int (x6 + 1)), (8, .int s0), (0, .ref x0), (1, .ref x1), (2, .int x2), (3, .int x3), (4, .int x4), (5, .int x5)] dX5_isZeroOn_122 rfl rfl (Nat.le_of_ble_eq_true rfl) rfl ?_
    refine m_goto hc 43 dX5_isZeroOn_125 rfl ?_
    refine m_sub [2, 3, 4, 5, 6, 7, 0] rfl ?_
    exact h43 x0 x1 x2 x3 x4 x5 (x6 + 1) S hw
  · have hw := hw.2 cq
    refine m_iconst hc 0 dX5_isZeroOn_120 (by decide) ?_
    exact c_zret hc hr dX5_isZeroOn_121 (by decide) hw
def wb_X5_isZeroOn_43 (M : Nat × Nat) (K31 : Nat → Nat → Int32 → Int32 → Int32 → Int32 → HS → Prop) (K43 : Nat → Nat → Int32 → Int32 → Int32 → Int32 → Int32 → HS → Prop) (K : Int32 → HS → Prop) (x0 x1 : Nat) (x2 x3 x4 x5 x6 : Int32) (S : HS) : Prop := hT S x0 = 6 ∧ ((hI S x0 2) ≤ x6 → K31 x0 x1 x2 x3 x4 (x5 + 1) S) ∧ (¬ ((hI S x0 2) ≤ x6) → hT S x1 = 4 ∧ hT S x1 = 4 ∧ hT S x1 = 4 ∧ hT S x0 = 6 ∧ ¬ (hI S x0 2) = 0 ∧ (∀ v1 : Int32, v1 = (iRem (((x5 * (hI S x1 3)) + (x6 * (hI S x1 4))) + (hI S x1 5)) (hI S x0 2)) → (¬ v1 = 0 → hT S x0 = 6 ∧ w_X5_isZeroOn_95 M K31 K43 K x0 x1 x2 x3 x4 x5 x6 ((hI S x0 2) - v1) S) ∧ (v1 = 0 → w_X5_isZeroOn_95 M K31 K43 K x0 x1 x2 x3 x4 x5 x6 0 S)))
def wl_X5_isZeroOn_43 (M : Nat × Nat) (K31 : Nat → Nat → Int32 → Int32 → Int32 → Int32 → HS → Prop) (K : Int32 → HS → Prop) : Nat → Nat → Nat → Int32 → Int32 → Int32 → Int32 → Int32 → HS → Prop
  | 0 => fun _ _ _ _ _ _ _ _ => False
  | nn + 1 => wb_X5_isZeroOn_43 M K31 (wl_X5_isZeroOn_43 M K31 K nn) K
set_option maxHeartbeats 4000000 in
set_option maxRecDepth 100000 in
theorem l_X5_isZeroOn_43 {G : CG} {S0 : HS} {X : Fx} {K : Int32 → HS → Prop} (hc : Cx X RX5 cX5_isZeroOn 9) (hr : Cc G S0 1 (some .boolean) (kI K) X) (K31 : Nat → Nat → Int32 → Int32 → Int32 → Int32 → HS → Prop) (h31 : ∀ (x0 x1 : Nat) (x2 x3 x4 x5 : Int32) (S : HS), K31 x0 x1 x2 x3 x4 x5 S → MC G S0 X 9 S 31 [(0, .ref x0), (1, .ref x1), (2, .int x2), (3, .int x3), (4, .int x4), (5, .int x5)] []) : ∀ (nn : Nat) (x0 x1 : Nat) (x2 x3 x4 x5 x6 : Int32) (S : HS), wl_X5_isZeroOn_43 (gC G, gS G) K31 K nn x0 x1 x2 x3 x4 x5 x6 S → MC G S0 X 9 S 43 [(0, .ref x0), (1, .ref x1), (2, .int x2), (3, .int x3), (4, .int x4), (5, .int x5), (6, .int x6)] [] := by
  intro nn
  induction nn with
  | zero => intro x0 x1 x2 x3 x4 x5 x6 S hw; exact False.elim hw
  | succ nn ih =>
    intro x0 x1 x2 x3 x4 x5 x6 S hw
    have hw : wb_X5_isZeroOn_43 (gC G, gS G) K31 (wl_X5_isZeroOn_43 (gC G, gS G) K31 K nn) K x0 x1 x2 x3 x4 x5 x6 S := hw
    have h43 := ih
    generalize wl_X5_isZeroOn_43 (gC G, gS G) K31 K nn = K43 at hw h43
    unfold wb_X5_isZeroOn_43 at hw
    refine m_iload hc 6 dX5_isZeroOn_43 rfl ?_
    refine m_aload_n hc 0 dX5_isZeroOn_45 rfl rfl ?_
    obtain ⟨ht, hw⟩ := hw
    refine c_geti hc hr ciX5 (Nat.le_of_ble_eq_true rfl) 2 (Nat.le_of_ble_eq_true rfl) rfl dX5_isZeroOn_46 lf_X5_18 ht ?_
    refine m_icmp_ge hc 128 dX5_isZeroOn_49 rfl (fun cq => ?_) (fun cq => ?_)
    · have hw := hw.1 cq
      refine m_iinc hc 5 (x5 + 1) [(5, .int (x5 + 1)), (0, .ref x0), (1, .ref x1), (2, .int x2), (3, .int x3), (4, .int x4), (6, .int x6)] dX5_isZeroOn_128 rfl rfl (Nat.le_of_ble_eq_true rfl) rfl ?_
      refine m_goto hc 31 dX5_isZeroOn_131 rfl ?_
      refine m_sub [1, 2, 3, 4, 5, 0] rfl ?_
      exact h31 x0 x1 x2 x3 x4 (x5 + 1) S hw
    · have hw := hw.2 cq
      refine m_iload hc 5 dX5_isZeroOn_52 rfl ?_
      refine m_aload_n hc 1 dX5_isZeroOn_54 rfl rfl ?_
      obtain ⟨ht, hw⟩ := hw
      refine c_geti hc hr ciX3 (Nat.le_of_ble_eq_true rfl) 3 (Nat.le_of_ble_eq_true rfl) rfl dX5_isZeroOn_55 lf_X5_78 ht ?_
      refine m_imul hc dX5_isZeroOn_58 ?_
      refine m_iload hc 6 dX5_isZeroOn_59 rfl ?_
      refine m_aload_n hc 1 dX5_isZeroOn_61 rfl rfl ?_
      obtain ⟨ht, hw⟩ := hw
      refine c_geti hc hr ciX3 (Nat.le_of_ble_eq_true rfl) 4 (Nat.le_of_ble_eq_true rfl) rfl dX5_isZeroOn_62 lf_X5_81 ht ?_
      refine m_imul hc dX5_isZeroOn_65 ?_
      refine m_iadd hc dX5_isZeroOn_66 ?_
      refine m_aload_n hc 1 dX5_isZeroOn_67 rfl rfl ?_
      obtain ⟨ht, hw⟩ := hw
      refine c_geti hc hr ciX3 (Nat.le_of_ble_eq_true rfl) 5 (Nat.le_of_ble_eq_true rfl) rfl dX5_isZeroOn_68 lf_X5_84 ht ?_
      refine m_iadd hc dX5_isZeroOn_71 ?_
      refine m_aload_n hc 0 dX5_isZeroOn_72 rfl rfl ?_
      obtain ⟨ht, hw⟩ := hw
      refine c_geti hc hr ciX5 (Nat.le_of_ble_eq_true rfl) 2 (Nat.le_of_ble_eq_true rfl) rfl dX5_isZeroOn_73 lf_X5_18 ht ?_
      obtain ⟨hq, hw⟩ := hw
      refine m_irem hc dX5_isZeroOn_76 hq ?_
      refine m_topi (fun v1 e_v1 => ?_)
      have hw := hw v1 e_v1
      refine m_istore hc [(7, .int v1), (0, .ref x0), (1, .ref x1), (2, .int x2), (3, .int x3), (4, .int x4), (5, .int x5), (6, .int x6)] dX5_isZeroOn_77 (Nat.le_of_ble_eq_true rfl) rfl ?_
      refine m_iload hc 0 dX5_isZeroOn_79 rfl ?_
      refine m_if_ne hc 88 dX5_isZeroOn_81 rfl (fun cq => ?_) (fun cq => ?_)
      · have hw := hw.1 cq
        refine m_aload_n hc 1 dX5_isZeroOn_88 rfl rfl ?_
        obtain ⟨ht, hw⟩ := hw
        refine c_geti hc hr ciX5 (Nat.le_of_ble_eq_true rfl) 2 (Nat.le_of_ble_eq_true rfl) rfl dX5_isZeroOn_89 lf_X5_18 ht ?_
        refine m_iload hc 0 dX5_isZeroOn_92 rfl ?_
        refine m_isub hc dX5_isZeroOn_94 ?_
        refine m_sub [1, 2, 3, 4, 5, 6, 7] rfl ?_
        exact b_X5_isZeroOn_95 hc hr K31 K43 h31 h43 x0 x1 x2 x3 x4 x5 x6 ((hI S x0 2) - v1) S hw
      · have hw := hw.2 cq
        refine m_iconst hc 0 dX5_isZeroOn_84 (by decide) ?_
        refine m_goto hc 95 dX5_isZeroOn_85 rfl ?_
        refine m_sub [1, 2, 3, 4, 5, 6, 7] rfl ?_
        exact b_X5_isZeroOn_95 hc hr K31 K43 h31 h43 x0 x1 x2 x3 x4 x5 x6 0 S hw
def wb_X5_isZeroOn_31 (M : Nat × Nat) (K31 : Nat → Nat → Int32 → Int32 → Int32 → Int32 → HS → Prop) (K : Int32 → HS → Prop) (x0 x1 : Nat) (x2 x3 x4 x5 : Int32) (S : HS) : Prop := hT S x0 = 6 ∧ ((hI S x0 2) ≤ x5 → K 1 S) ∧ (¬ ((hI S x0 2) ≤ x5) → ∃ nn : Nat, wl_X5_isZeroOn_43 M K31 K nn x0 x1 x2 x3 x4 x5 0 S)
def wl_X5_isZeroOn_31 (M : Nat × Nat) (K : Int32 → HS → Prop) : Nat → Nat → Nat → Int32 → Int32 → Int32 → Int32 → HS → Prop
  | 0 => fun _ _ _ _ _ _ _ => False
  | nn + 1 => wb_X5_isZeroOn_31 M (wl_X5_isZeroOn_31 M K nn) K
set_option maxHeartbeats 4000000 in
set_option maxRecDepth 100000 in
theorem l_X5_isZeroOn_31 {G : CG} {S0 : HS} {X : Fx} {K : Int32 → HS → Prop} (hc : Cx X RX5 cX5_isZeroOn 9) (hr : Cc G S0 1 (some .boolean) (kI K) X) : ∀ (nn : Nat) (x0 x1 : Nat) (x2 x3 x4 x5 : Int32) (S : HS), wl_X5_isZeroOn_31 (gC G, gS G) K nn x0 x1 x2 x3 x4 x5 S → MC G S0 X 9 S 31 [(0, .ref x0), (1, .ref x1), (2, .int x2), (3, .int x3), (4, .int x4), (5, .int x5)] [] := by
  intro nn
  induction nn with
  | zero => intro x0 x1 x2 x3 x4 x5 S hw; exact False.elim hw
  | succ nn ih =>
    intro x0 x1 x2 x3 x4 x5 S hw
    have hw : wb_X5_isZeroOn_31 (gC G, gS G) (wl_X5_isZeroOn_31 (gC G, gS G) K nn) K x0 x1 x2 x3 x4 x5 S := hw
    have h31 := ih
    generalize wl_X5_isZeroOn_31 (gC G, gS G) K nn = K31 at hw h31
    unfold wb_X5_isZeroOn_31 at hw
    refine m_iload hc 5 dX5_isZeroOn_31 rfl ?_
    refine m_aload_n hc 0 dX5_isZeroOn_33 rfl rfl ?_
    obtain ⟨ht, hw⟩ := hw
    refine c_geti hc hr ciX5 (Nat.le_of_ble_eq_true rfl) 2 (Nat.le_of_ble_eq_true rfl) rfl dX5_isZeroOn_34 lf_X5_18 ht ?_
    refine m_icmp_ge hc 134 dX5_isZeroOn_37 rfl (fun cq => ?_) (fun cq => ?_)
    · have hw := hw.1 cq
      refine m_iconst hc 1 dX5_isZeroOn_134 (by decide) ?_
      exact c_zret hc hr dX5_isZeroOn_135 (by decide) hw
    · have hw := hw.2 cq
      refine m_iconst hc 0 dX5_isZeroOn_40 (by decide) ?_
      refine m_istore hc [(6, .int 0), (0, .ref x0), (1, .ref x1), (2, .int x2), (3, .int x3), (4, .int x4), (5, .int x5)] dX5_isZeroOn_41 (Nat.le_of_ble_eq_true rfl) rfl ?_
      refine m_sub [1, 2, 3, 4, 5, 6, 0] rfl ?_
      obtain ⟨nn, hw⟩ := hw
      exact l_X5_isZeroOn_43 hc hr K31 h31 nn x0 x1 x2 x3 x4 x5 0 S hw
def wp_X5_isZeroOn (M : Nat × Nat) (x0 x1 : Nat) (S : HS) (K : Int32 → HS → Prop) : Prop := hT S x1 = 4 ∧ hT S x0 = 6 ∧ wp_X5_stride M x0 (hI S x1 0) S (fun r1 S1 => hT S1 x1 = 4 ∧ hT S1 x0 = 6 ∧ wp_X5_stride M x0 (hI S1 x1 1) S1 (fun r2 S2 => hT S2 x1 = 4 ∧ hT S2 x0 = 6 ∧ wp_X5_stride M x0 (hI S2 x1 2) S2 (fun r3 S3 => ∃ nn : Nat, wl_X5_isZeroOn_31 M K nn x0 x1 r1 r2 r3 0 S3)))
set_option maxHeartbeats 4000000 in
set_option maxRecDepth 100000 in
theorem ok_X5_isZeroOn {G : CG} {x0 : Nat} {x1 : Nat} {S : HS} {K : Int32 → HS → Prop} (hw : wp_X5_isZeroOn (gC G, gS G) x0 x1 S K) : CC 1 yX5_isZeroOn cX5_isZeroOn 9 (some .boolean) [.ref x0, .ref x1] G S (kI K) := by
  refine CC.of (by decide +kernel) (Nat.le_of_ble_eq_true rfl) (fun X hc hr hname => ?_)
  show MC G S X 9 S 0 [(0, .ref x0), (1, .ref x1)] []
  unfold wp_X5_isZeroOn at hw
  refine m_aload_n hc 0 dX5_isZeroOn_0 rfl rfl ?_
  refine m_aload_n hc 1 dX5_isZeroOn_1 rfl rfl ?_
  obtain ⟨ht, hw⟩ := hw
  refine c_geti hc hr ciX3 (Nat.le_of_ble_eq_true rfl) 0 (Nat.le_of_ble_eq_true rfl) rfl dX5_isZeroOn_2 lf_X5_63 ht ?_
  obtain ⟨ht, hw⟩ := hw
  refine c_callVi hc hr ciX5 (Nat.le_of_ble_eq_true rfl) ht mt_X5_stride rfl lm_X5_68 (ok_X5_stride hw) (Nat.le_of_ble_eq_true rfl) dX5_isZeroOn_5 rfl (rest := []) rfl (Nat.le_of_ble_eq_true rfl) (fun r1 S1 hw => ?_)
  refine m_istore_n hc [(2, .int r1), (0, .ref x0), (1, .ref x1)] dX5_isZeroOn_8 rfl (Nat.le_of_ble_eq_true rfl) rfl ?_
  refine m_aload_n hc 1 dX5_isZeroOn_9 rfl rfl ?_
  refine m_aload_n hc 2 dX5_isZeroOn_10 rfl rfl ?_
  obtain ⟨ht, hw⟩ := hw
  refine c_geti hc hr ciX3 (Nat.le_of_ble_eq_true rfl) 1 (Nat.le_of_ble_eq_true rfl) rfl dX5_isZeroOn_11 lf_X5_72 ht ?_
  obtain ⟨ht, hw⟩ := hw
  refine c_callVi hc hr ciX5 (Nat.le_of_ble_eq_true rfl) ht mt_X5_stride rfl lm_X5_68 (ok_X5_stride hw) (Nat.le_of_ble_eq_true rfl) dX5_isZeroOn_14 rfl (rest := []) rfl (Nat.le_of_ble_eq_true rfl) (fun r2 S2 hw => ?_)
  refine m_istore_n hc [(3, .int r2), (2, .int r1), (0, .ref x0), (1, .ref x1)] dX5_isZeroOn_17 rfl (Nat.le_of_ble_eq_true rfl) rfl ?_
  refine m_aload_n hc 2 dX5_isZeroOn_18 rfl rfl ?_
  refine m_aload_n hc 3 dX5_isZeroOn_19 rfl rfl ?_
  obtain ⟨ht, hw⟩ := hw
  refine c_geti hc hr ciX3 (Nat.le_of_ble_eq_true rfl) 2 (Nat.le_of_ble_eq_true rfl) rfl dX5_isZeroOn_20 lf_X5_75 ht ?_
  obtain ⟨ht, hw⟩ := hw
  refine c_callVi hc hr ciX5 (Nat.le_of_ble_eq_true rfl) ht mt_X5_stride rfl lm_X5_68 (ok_X5_stride hw) (Nat.le_of_ble_eq_true rfl) dX5_isZeroOn_23 rfl (rest := []) rfl (Nat.le_of_ble_eq_true rfl) (fun r3 S3 hw => ?_)
  refine m_istore hc [(4, .int r3), (3, .int r2), (2, .int r1), (0, .ref x0), (1, .ref x1)] dX5_isZeroOn_26 (Nat.le_of_ble_eq_true rfl) rfl ?_
  refine m_iconst hc 0 dX5_isZeroOn_28 (by decide) ?_
  refine m_istore hc [(5, .int 0), (4, .int r3), (3, .int r2), (2, .int r1), (0, .ref x0), (1, .ref x1)] dX5_isZeroOn_29 (Nat.le_of_ble_eq_true rfl) rfl ?_
  refine m_sub [4, 5, 3, 2, 1, 0] rfl ?_
  obtain ⟨nn, hw⟩ := hw
  exact l_X5_isZeroOn_31 hc hr nn x0 x1 r1 r2 r3 0 S3 hw
def w_X2_tryLines_87 (M : Nat × Nat) (K40 : Nat → Int32 → Int32 → Int32 → Int32 → HS → Prop) (K : Int32 → HS → Prop) (x0 : Nat) (x1 x2 x3 x4 s0 : Int32) (S : HS) : Prop := (s0 ≤ 0 → K40 x0 x1 x2 x3 (x4 + 1) S) ∧ (¬ (s0 ≤ 0) → hT S x0 = 3 ∧ (120 ≤ (hI S x0 1) → K40 x0 x1 x2 x3 (x4 + 1) S) ∧ (¬ (120 ≤ (hI S x0 1)) → hT S x0 = 3 ∧ wp_X2_note M x0 x1 x2 x3 x4 s0 S (fun r1 S1 => K40 x0 x1 x2 x3 (x4 + 1) S1)))
set_option maxHeartbeats 4000000 in
set_option maxRecDepth 100000 in
theorem b_X2_tryLines_87 {G : CG} {S0 : HS} {X : Fx} {K : Int32 → HS → Prop} (hc : Cx X RX2 cX2_tryLines 6) (hr : Cc G S0 4 none (kV K) X) (K40 : Nat → Int32 → Int32 → Int32 → Int32 → HS → Prop) (h40 : ∀ (x0 : Nat) (x1 x2 x3 x4 : Int32) (S : HS), K40 x0 x1 x2 x3 x4 S → MC G S0 X 6 S 40 [(0, .ref x0), (1, .int x1), (2, .int x2), (3, .int x3), (4, .int x4)] []) : ∀ (x0 : Nat) (x1 x2 x3 x4 s0 : Int32) (S : HS), w_X2_tryLines_87 (gC G, gS G) K40 K x0 x1 x2 x3 x4 s0 S → MC G S0 X 6 S 87 [(0, .ref x0), (1, .int x1), (2, .int x2), (3, .int x3), (4, .int x4)] [.int s0] := by
  intro x0 x1 x2 x3 x4 s0 S hw
  unfold w_X2_tryLines_87 at hw
  refine m_istore hc [(5, .int s0), (0, .ref x0), (1, .int x1), (2, .int x2), (3, .int x3), (4, .int x4)] dX2_tryLines_87 (Nat.le_of_ble_eq_true rfl) rfl ?_
  refine m_iload hc 0 dX2_tryLines_89 rfl ?_
  refine m_if_le hc 114 dX2_tryLines_91 rfl (fun cq => ?_) (fun cq => ?_)
  · have hw := hw.1 cq
    refine m_iinc hc 5 (x4 + 1) [(4, .int (x4 + 1)), (5, .int s0), (0, .ref x0), (1, .int x1), (2, .int x2), (3, .int x3)] dX2_tryLines_114 rfl rfl (Nat.le_of_ble_eq_true rfl) rfl ?_
    refine m_goto hc 40 dX2_tryLines_117 rfl ?_
    refine m_sub [2, 3, 4, 5, 0] rfl ?_
    exact h40 x0 x1 x2 x3 (x4 + 1) S hw
  · have hw := hw.2 cq
    refine m_aload_n hc 1 dX2_tryLines_94 rfl rfl ?_
    obtain ⟨ht, hw⟩ := hw
    refine c_geti hc hr ciX2 (Nat.le_of_ble_eq_true rfl) 1 (Nat.le_of_ble_eq_true rfl) rfl dX2_tryLines_95 lf_X2_15 ht ?_
    refine m_bipush hc 120 dX2_tryLines_98 (by decide) ?_
    refine m_icmp_ge hc 114 dX2_tryLines_100 rfl (fun cq => ?_) (fun cq => ?_)
    · have hw := hw.1 cq
      refine m_iinc hc 5 (x4 + 1) [(4, .int (x4 + 1)), (5, .int s0), (0, .ref x0), (1, .int x1), (2, .int x2), (3, .int x3)] dX2_tryLines_114 rfl rfl (Nat.le_of_ble_eq_true rfl) rfl ?_
      refine m_goto hc 40 dX2_tryLines_117 rfl ?_
      refine m_sub [2, 3, 4, 5, 0] rfl ?_
      exact h40 x0 x1 x2 x3 (x4 + 1) S hw
    · have hw := hw.2 cq
      refine m_aload_n hc 1 dX2_tryLines_103 rfl rfl ?_
      refine m_iload_n hc 2 dX2_tryLines_104 rfl rfl ?_
      refine m_iload_n hc 3 dX2_tryLines_105 rfl rfl ?_
      refine m_iload_n hc 4 dX2_tryLines_106 rfl rfl ?_
      refine m_iload hc 5 dX2_tryLines_107 rfl ?_
      refine m_iload hc 0 dX2_tryLines_109 rfl ?_
      obtain ⟨ht, hw⟩ := hw
      refine c_callVv hc hr ciX2 (Nat.le_of_ble_eq_true rfl) ht mt_X2_note rfl lm_X2_140 (ok_X2_note hw) (Nat.le_of_ble_eq_true rfl) dX2_tryLines_111 rfl (rest := []) rfl (Nat.le_of_ble_eq_true rfl) (fun S1 hw => ?_)
      refine m_iinc hc 5 (x4 + 1) [(4, .int (x4 + 1)), (5, .int s0), (0, .ref x0), (1, .int x1), (2, .int x2), (3, .int x3)] dX2_tryLines_114 rfl rfl (Nat.le_of_ble_eq_true rfl) rfl ?_
      refine m_goto hc 40 dX2_tryLines_117 rfl ?_
      refine m_sub [2, 3, 4, 5, 0] rfl ?_
      exact h40 x0 x1 x2 x3 (x4 + 1) S1 hw
def wb_X2_tryLines_40 (M : Nat × Nat) (K40 : Nat → Int32 → Int32 → Int32 → Int32 → HS → Prop) (K : Int32 → HS → Prop) (x0 : Nat) (x1 x2 x3 x4 : Int32) (S : HS) : Prop := hT S x0 = 3 ∧ ((hI S x0 10) ≤ x4 → K 0 S) ∧ (¬ ((hI S x0 10) ≤ x4) → hT S x0 = 3 ∧ ∃ b1 : Nat, hP S x0 9 = some b1 ∧ hT S b1 = 4 ∧ wp_X3_set M b1 x1 x2 x3 x4 S (fun r2 S2 => hT S2 x0 = 3 ∧ ∃ b3 : Nat, hP S2 x0 4 = some b3 ∧ hT S2 x0 = 3 ∧ ∃ b4 : Nat, hP S2 x0 9 = some b4 ∧ hT S2 b3 = 6 ∧ wp_X5_isZeroOn M b3 b4 S2 (fun r5 S5 => (r5 = 0 → w_X2_tryLines_87 M K40 K x0 x1 x2 x3 x4 0 S5) ∧ (¬ (r5 = 0) → hT S5 x0 = 3 ∧ ∃ b6 : Nat, hP S5 x0 9 = some b6 ∧ hT S5 x0 = 3 ∧ wp_X2_takeOut M x0 b6 S5 (fun r7 S7 => w_X2_tryLines_87 M K40 K x0 x1 x2 x3 x4 r7 S7)))))
def wl_X2_tryLines_40 (M : Nat × Nat) (K : Int32 → HS → Prop) : Nat → Nat → Int32 → Int32 → Int32 → Int32 → HS → Prop
  | 0 => fun _ _ _ _ _ _ => False
  | nn + 1 => wb_X2_tryLines_40 M (wl_X2_tryLines_40 M K nn) K
set_option maxHeartbeats 4000000 in
set_option maxRecDepth 100000 in
theorem l_X2_tryLines_40 {G : CG} {S0 : HS} {X : Fx} {K : Int32 → HS → Prop} (hc : Cx X RX2 cX2_tryLines 6) (hr : Cc G S0 4 none (kV K) X) : ∀ (nn : Nat) (x0 : Nat) (x1 x2 x3 x4 : Int32) (S : HS), wl_X2_tryLines_40 (gC G, gS G) K nn x0 x1 x2 x3 x4 S → MC G S0 X 6 S 40 [(0, .ref x0), (1, .int x1), (2, .int x2), (3, .int x3), (4, .int x4)] [] := by
  intro nn
  induction nn with
  | zero => intro x0 x1 x2 x3 x4 S hw; exact False.elim hw
  | succ nn ih =>
    intro x0 x1 x2 x3 x4 S hw
    have hw : wb_X2_tryLines_40 (gC G, gS G) (wl_X2_tryLines_40 (gC G, gS G) K nn) K x0 x1 x2 x3 x4 S := hw
    have h40 := ih
    generalize wl_X2_tryLines_40 (gC G, gS G) K nn = K40 at hw h40
    unfold wb_X2_tryLines_40 at hw
    refine m_iload hc 4 dX2_tryLines_40 rfl ?_
    refine m_aload_n hc 0 dX2_tryLines_42 rfl rfl ?_
    obtain ⟨ht, hw⟩ := hw
    refine c_geti hc hr ciX2 (Nat.le_of_ble_eq_true rfl) 10 (Nat.le_of_ble_eq_true rfl) rfl dX2_tryLines_43 lf_X2_63 ht ?_
    refine m_icmp_ge hc 120 dX2_tryLines_46 rfl (fun cq => ?_) (fun cq => ?_)
    · have hw := hw.1 cq
      exact c_vret hc hr dX2_tryLines_120 hw
    · have hw := hw.2 cq
      refine m_aload_n hc 0 dX2_tryLines_49 rfl rfl ?_
      obtain ⟨ht, b1, e_b1, hw⟩ := hw
      refine c_getr hc hr ciX2 (Nat.le_of_ble_eq_true rfl) 9 (Nat.le_of_ble_eq_true rfl) rfl dX2_tryLines_50 lf_X2_59 ht e_b1 ?_
      refine m_iload_n hc 1 dX2_tryLines_53 rfl rfl ?_
      refine m_iload_n hc 2 dX2_tryLines_54 rfl rfl ?_
      refine m_iload_n hc 3 dX2_tryLines_55 rfl rfl ?_
      refine m_iload hc 4 dX2_tryLines_56 rfl ?_
      obtain ⟨ht, hw⟩ := hw
      refine c_callVv hc hr ciX3 (Nat.le_of_ble_eq_true rfl) ht mt_X3_set rfl lm_X2_130 (ok_X3_set hw) (Nat.le_of_ble_eq_true rfl) dX2_tryLines_58 rfl (rest := []) rfl (Nat.le_of_ble_eq_true rfl) (fun S2 hw => ?_)
      refine m_aload_n hc 0 dX2_tryLines_61 rfl rfl ?_
      obtain ⟨ht, b3, e_b3, hw⟩ := hw
      refine c_getr hc hr ciX2 (Nat.le_of_ble_eq_true rfl) 4 (Nat.le_of_ble_eq_true rfl) rfl dX2_tryLines_62 lf_X2_34 ht e_b3 ?_
      refine m_aload_n hc 0 dX2_tryLines_65 rfl rfl ?_
      obtain ⟨ht, b4, e_b4, hw⟩ := hw
      refine c_getr hc hr ciX2 (Nat.le_of_ble_eq_true rfl) 9 (Nat.le_of_ble_eq_true rfl) rfl dX2_tryLines_66 lf_X2_59 ht e_b4 ?_
      obtain ⟨ht, hw⟩ := hw
      refine c_callVi hc hr ciX5 (Nat.le_of_ble_eq_true rfl) ht mt_X5_isZeroOn rfl lm_X2_137 (ok_X5_isZeroOn hw) (Nat.le_of_ble_eq_true rfl) dX2_tryLines_69 rfl (rest := []) rfl (Nat.le_of_ble_eq_true rfl) (fun r5 S5 hw => ?_)
      refine m_if_eq hc 86 dX2_tryLines_72 rfl (fun cq => ?_) (fun cq => ?_)
      · have hw := hw.1 cq
        refine m_iconst hc 0 dX2_tryLines_86 (by decide) ?_
        exact b_X2_tryLines_87 hc hr K40 h40 x0 x1 x2 x3 x4 0 S5 hw
      · have hw := hw.2 cq
        refine m_aload_n hc 0 dX2_tryLines_75 rfl rfl ?_
        refine m_aload_n hc 0 dX2_tryLines_76 rfl rfl ?_
        obtain ⟨ht, b6, e_b6, hw⟩ := hw
        refine c_getr hc hr ciX2 (Nat.le_of_ble_eq_true rfl) 9 (Nat.le_of_ble_eq_true rfl) rfl dX2_tryLines_77 lf_X2_59 ht e_b6 ?_
        obtain ⟨ht, hw⟩ := hw
        refine c_callVi hc hr ciX2 (Nat.le_of_ble_eq_true rfl) ht mt_X2_takeOut rfl lm_X2_96 (ok_X2_takeOut hw) (Nat.le_of_ble_eq_true rfl) dX2_tryLines_80 rfl (rest := []) rfl (Nat.le_of_ble_eq_true rfl) (fun r7 S7 hw => ?_)
        refine m_goto hc 87 dX2_tryLines_83 rfl ?_
        exact b_X2_tryLines_87 hc hr K40 h40 x0 x1 x2 x3 x4 r7 S7 hw
def wp_X2_tryLines (M : Nat × Nat) (x0 : Nat) (x1 x2 x3 : Int32) (S : HS) (K : Int32 → HS → Prop) : Prop := hT S x0 = 3 ∧ ∃ b1 : Nat, hP S x0 9 = some b1 ∧ hT S b1 = 4 ∧ wp_X3_set M b1 x1 x2 x3 0 S (fun r2 S2 => hT S2 x0 = 3 ∧ ∃ b3 : Nat, hP S2 x0 9 = some b3 ∧ hT S2 x0 = 3 ∧ wp_X2_canGoIn M x0 b3 S2 (fun r4 S4 => (r4 = 0 → K 0 S4) ∧ (¬ (r4 = 0) → hT S4 x0 = 3 ∧ ∃ b5 : Nat, hP S4 x0 5 = some b5 ∧ hT S4 x0 = 3 ∧ ∃ b6 : Nat, hP S4 x0 9 = some b6 ∧ hT S4 b5 = 6 ∧ wp_X5_isZeroOn M b5 b6 S4 (fun r7 S7 => (¬ r7 = 0 → ∃ nn : Nat, wl_X2_tryLines_40 M K nn x0 x1 x2 x3 0 S7) ∧ (r7 = 0 → K 0 S7)))))
set_option maxHeartbeats 4000000 in
set_option maxRecDepth 100000 in
theorem ok_X2_tryLines {G : CG} {x0 : Nat} {x1 : Int32} {x2 : Int32} {x3 : Int32} {S : HS} {K : Int32 → HS → Prop} (hw : wp_X2_tryLines (gC G, gS G) x0 x1 x2 x3 S K) : CC 4 yX2_tryLines cX2_tryLines 6 none [.ref x0, .int x1, .int x2, .int x3] G S (kV K) := by
  refine CC.of (by decide +kernel) (Nat.le_of_ble_eq_true rfl) (fun X hc hr hname => ?_)
  show MC G S X 6 S 0 [(0, .ref x0), (1, .int x1), (2, .int x2), (3, .int x3)] []
  unfold wp_X2_tryLines at hw
  refine m_aload_n hc 0 dX2_tryLines_0 rfl rfl ?_
  obtain ⟨ht, b1, e_b1, hw⟩ := hw
  refine c_getr hc hr ciX2 (Nat.le_of_ble_eq_true rfl) 9 (Nat.le_of_ble_eq_true rfl) rfl dX2_tryLines_1 lf_X2_59 ht e_b1 ?_
  refine m_iload_n hc 1 dX2_tryLines_4 rfl rfl ?_
  refine m_iload_n hc 2 dX2_tryLines_5 rfl rfl ?_
  refine m_iload_n hc 3 dX2_tryLines_6 rfl rfl ?_
  refine m_iconst hc 0 dX2_tryLines_7 (by decide) ?_
  obtain ⟨ht, hw⟩ := hw
  refine c_callVv hc hr ciX3 (Nat.le_of_ble_eq_true rfl) ht mt_X3_set rfl lm_X2_130 (ok_X3_set hw) (Nat.le_of_ble_eq_true rfl) dX2_tryLines_8 rfl (rest := []) rfl (Nat.le_of_ble_eq_true rfl) (fun S2 hw => ?_)
  refine m_aload_n hc 0 dX2_tryLines_11 rfl rfl ?_
  refine m_aload_n hc 0 dX2_tryLines_12 rfl rfl ?_
  obtain ⟨ht, b3, e_b3, hw⟩ := hw
  refine c_getr hc hr ciX2 (Nat.le_of_ble_eq_true rfl) 9 (Nat.le_of_ble_eq_true rfl) rfl dX2_tryLines_13 lf_X2_59 ht e_b3 ?_
  obtain ⟨ht, hw⟩ := hw
  refine c_callVi hc hr ciX2 (Nat.le_of_ble_eq_true rfl) ht mt_X2_canGoIn rfl lm_X2_133 (ok_X2_canGoIn hw) (Nat.le_of_ble_eq_true rfl) dX2_tryLines_16 rfl (rest := []) rfl (Nat.le_of_ble_eq_true rfl) (fun r4 S4 hw => ?_)
  refine m_if_eq hc 36 dX2_tryLines_19 rfl (fun cq => ?_) (fun cq => ?_)
  · have hw := hw.1 cq
    exact c_vret hc hr dX2_tryLines_36 hw
  · have hw := hw.2 cq
    refine m_aload_n hc 0 dX2_tryLines_22 rfl rfl ?_
    obtain ⟨ht, b5, e_b5, hw⟩ := hw
    refine c_getr hc hr ciX2 (Nat.le_of_ble_eq_true rfl) 5 (Nat.le_of_ble_eq_true rfl) rfl dX2_tryLines_23 lf_X2_38 ht e_b5 ?_
    refine m_aload_n hc 0 dX2_tryLines_26 rfl rfl ?_
    obtain ⟨ht, b6, e_b6, hw⟩ := hw
    refine c_getr hc hr ciX2 (Nat.le_of_ble_eq_true rfl) 9 (Nat.le_of_ble_eq_true rfl) rfl dX2_tryLines_27 lf_X2_59 ht e_b6 ?_
    obtain ⟨ht, hw⟩ := hw
    refine c_callVi hc hr ciX5 (Nat.le_of_ble_eq_true rfl) ht mt_X5_isZeroOn rfl lm_X2_137 (ok_X5_isZeroOn hw) (Nat.le_of_ble_eq_true rfl) dX2_tryLines_30 rfl (rest := []) rfl (Nat.le_of_ble_eq_true rfl) (fun r7 S7 hw => ?_)
    refine m_if_ne hc 37 dX2_tryLines_33 rfl (fun cq => ?_) (fun cq => ?_)
    · have hw := hw.1 cq
      refine m_iconst hc 0 dX2_tryLines_37 (by decide) ?_
      refine m_istore hc [(4, .int 0), (0, .ref x0), (1, .int x1), (2, .int x2), (3, .int x3)] dX2_tryLines_38 (Nat.le_of_ble_eq_true rfl) rfl ?_
      refine m_sub [1, 2, 3, 4, 0] rfl ?_
      obtain ⟨nn, hw⟩ := hw
      exact l_X2_tryLines_40 hc hr nn x0 x1 x2 x3 0 S7 hw
    · have hw := hw.2 cq
      exact c_vret hc hr dX2_tryLines_36 hw
def wb_X2_find_92 (M : Nat × Nat) (K92 : Nat → Nat → Int32 → HS → Prop) (K : Int32 → HS → Prop) (x0 x1 : Nat) (x3 : Int32) (S : HS) : Prop := hT S x0 = 3 ∧ ((hI S x0 10) ≤ x3 → hT S x0 = 3 ∧ wp_X2_tryLines M x0 0 0 1 S (fun r1 S1 => hT S1 x0 = 3 ∧ K 0 (sP S1 x0 11 (some x1)))) ∧ (¬ ((hI S x0 10) ≤ x3) → hT S x0 = 3 ∧ wp_X2_tryLines M x0 0 1 x3 S (fun r2 S2 => K92 x0 x1 (x3 + 1) S2))
def wl_X2_find_92 (M : Nat × Nat) (K : Int32 → HS → Prop) : Nat → Nat → Nat → Int32 → HS → Prop
  | 0 => fun _ _ _ _ => False
  | nn + 1 => wb_X2_find_92 M (wl_X2_find_92 M K nn) K
set_option maxHeartbeats 4000000 in
set_option maxRecDepth 100000 in
theorem l_X2_find_92 {G : CG} {S0 : HS} {X : Fx} {K : Int32 → HS → Prop} (hc : Cx X RX2 cX2_find 5) (hr : Cc G S0 5 none (kV K) X) : ∀ (nn : Nat) (x0 x1 : Nat) (x3 : Int32) (S : HS), wl_X2_find_92 (gC G, gS G) K nn x0 x1 x3 S → MC G S0 X 5 S 92 [(0, .ref x0), (1, .ref x1), (3, .int x3)] [] := by
  intro nn
  induction nn with
  | zero => intro x0 x1 x3 S hw; exact False.elim hw
  | succ nn ih =>
    intro x0 x1 x3 S hw
    have hw : wb_X2_find_92 (gC G, gS G) (wl_X2_find_92 (gC G, gS G) K nn) K x0 x1 x3 S := hw
    have h92 := ih
    generalize wl_X2_find_92 (gC G, gS G) K nn = K92 at hw h92
    unfold wb_X2_find_92 at hw
    refine m_iload_n hc 2 dX2_find_92 rfl rfl ?_
    refine m_aload_n hc 0 dX2_find_93 rfl rfl ?_
    obtain ⟨ht, hw⟩ := hw
    refine c_geti hc hr ciX2 (Nat.le_of_ble_eq_true rfl) 10 (Nat.le_of_ble_eq_true rfl) rfl dX2_find_94 lf_X2_63 ht ?_
    refine m_icmp_ge hc 113 dX2_find_97 rfl (fun cq => ?_) (fun cq => ?_)
    · have hw := hw.1 cq
      refine m_aload_n hc 0 dX2_find_113 rfl rfl ?_
      refine m_iconst hc 0 dX2_find_114 (by decide) ?_
      refine m_iconst hc 0 dX2_find_115 (by decide) ?_
      refine m_iconst hc 1 dX2_find_116 (by decide) ?_
      obtain ⟨ht, hw⟩ := hw
      refine c_callVv hc hr ciX2 (Nat.le_of_ble_eq_true rfl) ht mt_X2_tryLines rfl lm_X2_85 (ok_X2_tryLines hw) (Nat.le_of_ble_eq_true rfl) dX2_find_117 rfl (rest := []) rfl (Nat.le_of_ble_eq_true rfl) (fun S1 hw => ?_)
      refine m_aload_n hc 0 dX2_find_120 rfl rfl ?_
      refine m_aload_n hc 1 dX2_find_121 rfl rfl ?_
      obtain ⟨ht, hw⟩ := hw
      refine c_putr hc hr ciX2 (Nat.le_of_ble_eq_true rfl) 11 (Nat.le_of_ble_eq_true rfl) rfl dX2_find_122 lf_X2_66 ht (Or.inl rfl) (Or.inl ⟨_, rfl⟩) ?_
      exact c_vret hc hr dX2_find_125 hw
    · have hw := hw.2 cq
      refine m_aload_n hc 0 dX2_find_100 rfl rfl ?_
      refine m_iconst hc 0 dX2_find_101 (by decide) ?_
      refine m_iconst hc 1 dX2_find_102 (by decide) ?_
      refine m_iload_n hc 2 dX2_find_103 rfl rfl ?_
      obtain ⟨ht, hw⟩ := hw
      refine c_callVv hc hr ciX2 (Nat.le_of_ble_eq_true rfl) ht mt_X2_tryLines rfl lm_X2_85 (ok_X2_tryLines hw) (Nat.le_of_ble_eq_true rfl) dX2_find_104 rfl (rest := []) rfl (Nat.le_of_ble_eq_true rfl) (fun S2 hw => ?_)
      refine m_iinc hc 2 (x3 + 1) [(3, .int (x3 + 1)), (0, .ref x0), (1, .ref x1)] dX2_find_107 rfl rfl (Nat.le_of_ble_eq_true rfl) rfl ?_
      refine m_goto hc 92 dX2_find_110 rfl ?_
      refine m_sub [1, 2, 0] rfl ?_
      exact h92 x0 x1 (x3 + 1) S2 hw
def wb_X2_find_61 (M : Nat × Nat) (K50 : Nat → Nat → Int32 → HS → Prop) (K61 : Nat → Nat → Int32 → Int32 → HS → Prop) (K : Int32 → HS → Prop) (x0 x1 : Nat) (x3 x4 : Int32) (S : HS) : Prop := hT S x0 = 3 ∧ ((hI S x0 10) ≤ x4 → K50 x0 x1 (x3 + 1) S) ∧ (¬ ((hI S x0 10) ≤ x4) → hT S x0 = 3 ∧ wp_X2_tryLines M x0 1 x3 x4 S (fun r1 S1 => K61 x0 x1 x3 (x4 + 1) S1))
def wl_X2_find_61 (M : Nat × Nat) (K50 : Nat → Nat → Int32 → HS → Prop) (K : Int32 → HS → Prop) : Nat → Nat → Nat → Int32 → Int32 → HS → Prop
  | 0 => fun _ _ _ _ _ => False
  | nn + 1 => wb_X2_find_61 M K50 (wl_X2_find_61 M K50 K nn) K
set_option maxHeartbeats 4000000 in
set_option maxRecDepth 100000 in
theorem l_X2_find_61 {G : CG} {S0 : HS} {X : Fx} {K : Int32 → HS → Prop} (hc : Cx X RX2 cX2_find 5) (hr : Cc G S0 5 none (kV K) X) (K50 : Nat → Nat → Int32 → HS → Prop) (h50 : ∀ (x0 x1 : Nat) (x3 : Int32) (S : HS), K50 x0 x1 x3 S → MC G S0 X 5 S 50 [(0, .ref x0), (1, .ref x1), (3, .int x3)] []) : ∀ (nn : Nat) (x0 x1 : Nat) (x3 x4 : Int32) (S : HS), wl_X2_find_61 (gC G, gS G) K50 K nn x0 x1 x3 x4 S → MC G S0 X 5 S 61 [(0, .ref x0), (1, .ref x1), (3, .int x3), (4, .int x4)] [] := by
  intro nn
  induction nn with
  | zero => intro x0 x1 x3 x4 S hw; exact False.elim hw
  | succ nn ih =>
    intro x0 x1 x3 x4 S hw
    have hw : wb_X2_find_61 (gC G, gS G) K50 (wl_X2_find_61 (gC G, gS G) K50 K nn) K x0 x1 x3 x4 S := hw
    have h61 := ih
    generalize wl_X2_find_61 (gC G, gS G) K50 K nn = K61 at hw h61
    unfold wb_X2_find_61 at hw
    refine m_iload hc 3 dX2_find_61 rfl ?_
    refine m_aload_n hc 0 dX2_find_63 rfl rfl ?_
    obtain ⟨ht, hw⟩ := hw
    refine c_geti hc hr ciX2 (Nat.le_of_ble_eq_true rfl) 10 (Nat.le_of_ble_eq_true rfl) rfl dX2_find_64 lf_X2_63 ht ?_
    refine m_icmp_ge hc 84 dX2_find_67 rfl (fun cq => ?_) (fun cq => ?_)
    · have hw := hw.1 cq
      refine m_iinc hc 2 (x3 + 1) [(3, .int (x3 + 1)), (0, .ref x0), (1, .ref x1), (4, .int x4)] dX2_find_84 rfl rfl (Nat.le_of_ble_eq_true rfl) rfl ?_
      refine m_goto hc 50 dX2_find_87 rfl ?_
      refine m_sub [1, 2, 0] rfl ?_
      exact h50 x0 x1 (x3 + 1) S hw
    · have hw := hw.2 cq
      refine m_aload_n hc 0 dX2_find_70 rfl rfl ?_
      refine m_iconst hc 1 dX2_find_71 (by decide) ?_
      refine m_iload_n hc 2 dX2_find_72 rfl rfl ?_
      refine m_iload hc 3 dX2_find_73 rfl ?_
      obtain ⟨ht, hw⟩ := hw
      refine c_callVv hc hr ciX2 (Nat.le_of_ble_eq_true rfl) ht mt_X2_tryLines rfl lm_X2_85 (ok_X2_tryLines hw) (Nat.le_of_ble_eq_true rfl) dX2_find_75 rfl (rest := []) rfl (Nat.le_of_ble_eq_true rfl) (fun S1 hw => ?_)
      refine m_iinc hc 3 (x4 + 1) [(4, .int (x4 + 1)), (0, .ref x0), (1, .ref x1), (3, .int x3)] dX2_find_78 rfl rfl (Nat.le_of_ble_eq_true rfl) rfl ?_
      refine m_goto hc 61 dX2_find_81 rfl ?_
      refine m_sub [1, 2, 3, 0] rfl ?_
      exact h61 x0 x1 x3 (x4 + 1) S1 hw
def wb_X2_find_50 (M : Nat × Nat) (K50 : Nat → Nat → Int32 → HS → Prop) (K : Int32 → HS → Prop) (x0 x1 : Nat) (x3 : Int32) (S : HS) : Prop := hT S x0 = 3 ∧ ((hI S x0 10) ≤ x3 → ∃ nn : Nat, wl_X2_find_92 M K nn x0 x1 0 S) ∧ (¬ ((hI S x0 10) ≤ x3) → ∃ nn : Nat, wl_X2_find_61 M K50 K nn x0 x1 x3 0 S)
def wl_X2_find_50 (M : Nat × Nat) (K : Int32 → HS → Prop) : Nat → Nat → Nat → Int32 → HS → Prop
  | 0 => fun _ _ _ _ => False
  | nn + 1 => wb_X2_find_50 M (wl_X2_find_50 M K nn) K
set_option maxHeartbeats 4000000 in
set_option maxRecDepth 100000 in
theorem l_X2_find_50 {G : CG} {S0 : HS} {X : Fx} {K : Int32 → HS → Prop} (hc : Cx X RX2 cX2_find 5) (hr : Cc G S0 5 none (kV K) X) : ∀ (nn : Nat) (x0 x1 : Nat) (x3 : Int32) (S : HS), wl_X2_find_50 (gC G, gS G) K nn x0 x1 x3 S → MC G S0 X 5 S 50 [(0, .ref x0), (1, .ref x1), (3, .int x3)] [] := by
  intro nn
  induction nn with
  | zero => intro x0 x1 x3 S hw; exact False.elim hw
  | succ nn ih =>
    intro x0 x1 x3 S hw
    have hw : wb_X2_find_50 (gC G, gS G) (wl_X2_find_50 (gC G, gS G) K nn) K x0 x1 x3 S := hw
    have h50 := ih
    generalize wl_X2_find_50 (gC G, gS G) K nn = K50 at hw h50
    unfold wb_X2_find_50 at hw
    refine m_iload_n hc 2 dX2_find_50 rfl rfl ?_
    refine m_aload_n hc 0 dX2_find_51 rfl rfl ?_
    obtain ⟨ht, hw⟩ := hw
    refine c_geti hc hr ciX2 (Nat.le_of_ble_eq_true rfl) 10 (Nat.le_of_ble_eq_true rfl) rfl dX2_find_52 lf_X2_63 ht ?_
    refine m_icmp_ge hc 90 dX2_find_55 rfl (fun cq => ?_) (fun cq => ?_)
    · have hw := hw.1 cq
      refine m_iconst hc 0 dX2_find_90 (by decide) ?_
      refine m_istore_n hc [(3, .int 0), (0, .ref x0), (1, .ref x1)] dX2_find_91 rfl (Nat.le_of_ble_eq_true rfl) rfl ?_
      refine m_sub [1, 2, 0] rfl ?_
      obtain ⟨nn, hw⟩ := hw
      exact l_X2_find_92 hc hr nn x0 x1 0 S hw
    · have hw := hw.2 cq
      refine m_iconst hc 0 dX2_find_58 (by decide) ?_
      refine m_istore hc [(4, .int 0), (0, .ref x0), (1, .ref x1), (3, .int x3)] dX2_find_59 (Nat.le_of_ble_eq_true rfl) rfl ?_
      refine m_sub [1, 2, 3, 0] rfl ?_
      obtain ⟨nn, hw⟩ := hw
      exact l_X2_find_61 hc hr K50 h50 nn x0 x1 x3 0 S hw
def wp_X2_find (M : Nat × Nat) (x0 x1 : Nat) (x2 : Int32) (S : HS) (K : Int32 → HS → Prop) : Prop := hT S x0 = 3 ∧ (¬ (some x1) = hP S x0 11 → hT S x0 = 3 ∧ wp_X2_layOut M x0 x1 x2 S (fun r1 S1 => hT S1 x0 = 3 ∧ hT (sI S1 x0 1 0) x1 = 7 ∧ wp_X6_degree M x1 (sI S1 x0 1 0) (fun r2 S2 => (r2 ≤ 0 → hT S2 x0 = 3 ∧ K 0 (sP S2 x0 11 (some x1))) ∧ (¬ (r2 ≤ 0) → hT S2 x0 = 3 ∧ ∃ b3 : Nat, hP S2 x0 4 = some b3 ∧ hT S2 x0 = 3 ∧ ∃ b4 : Nat, hP S2 x0 2 = some b4 ∧ hT S2 x0 = 3 ∧ hT S2 b3 = 6 ∧ wp_X5_load M b3 x1 b4 (hI S2 x0 10) S2 (fun r5 S5 => hT S5 x0 = 3 ∧ wp_X2_loadHighest M x0 x1 S5 (fun r6 S6 => ∃ nn : Nat, wl_X2_find_50 M K nn x0 x1 0 S6)))))) ∧ ((some x1) = hP S x0 11 → K 0 S)
set_option maxHeartbeats 4000000 in
set_option maxRecDepth 100000 in
theorem ok_X2_find {G : CG} {x0 : Nat} {x1 : Nat} {x2 : Int32} {S : HS} {K : Int32 → HS → Prop} (hw : wp_X2_find (gC G, gS G) x0 x1 x2 S K) : CC 5 yX2_find cX2_find 5 none [.ref x0, .ref x1, .int x2] G S (kV K) := by
  refine CC.of (by decide +kernel) (Nat.le_of_ble_eq_true rfl) (fun X hc hr hname => ?_)
  show MC G S X 5 S 0 [(0, .ref x0), (1, .ref x1), (2, .int x2)] []
  unfold wp_X2_find at hw
  refine m_aload_n hc 1 dX2_find_0 rfl rfl ?_
  refine m_aload_n hc 0 dX2_find_1 rfl rfl ?_
  obtain ⟨ht, hw⟩ := hw
  refine c_getq hc hr ciX2 (Nat.le_of_ble_eq_true rfl) 11 (Nat.le_of_ble_eq_true rfl) rfl dX2_find_2 lf_X2_66 ht ?_
  refine q_acmp_ne hc (rx := (some x1)) (ry := hP S x0 11) 9 dX2_find_5 rfl (fun cq => ?_) (fun cq => ?_)
  · have hw := hw.1 cq
    refine m_aload_n hc 0 dX2_find_9 rfl rfl ?_
    refine m_aload_n hc 1 dX2_find_10 rfl rfl ?_
    refine m_iload_n hc 2 dX2_find_11 rfl rfl ?_
    obtain ⟨ht, hw⟩ := hw
    refine c_callVv hc hr ciX2 (Nat.le_of_ble_eq_true rfl) ht mt_X2_layOut rfl lm_X2_69 (ok_X2_layOut hw) (Nat.le_of_ble_eq_true rfl) dX2_find_12 rfl (rest := []) rfl (Nat.le_of_ble_eq_true rfl) (fun S1 hw => ?_)
    refine m_aload_n hc 0 dX2_find_15 rfl rfl ?_
    refine m_iconst hc 0 dX2_find_16 (by decide) ?_
    obtain ⟨ht, hw⟩ := hw
    refine c_puti hc hr ciX2 (Nat.le_of_ble_eq_true rfl) 1 (Nat.le_of_ble_eq_true rfl) rfl dX2_find_17 lf_X2_15 ht (Or.inl rfl) ⟨rfl, rfl⟩ ?_
    refine m_aload_n hc 1 dX2_find_20 rfl rfl ?_
    obtain ⟨ht, hw⟩ := hw
    refine c_callVi hc hr ciX6 (Nat.le_of_ble_eq_true rfl) ht mt_X6_degree rfl lm_X2_73 (ok_X6_degree hw) (Nat.le_of_ble_eq_true rfl) dX2_find_21 rfl (rest := []) rfl (Nat.le_of_ble_eq_true rfl) (fun r2 S2 hw => ?_)
    refine m_if_le hc 120 dX2_find_24 rfl (fun cq => ?_) (fun cq => ?_)
    · have hw := hw.1 cq
      refine m_aload_n hc 0 dX2_find_120 rfl rfl ?_
      refine m_aload_n hc 1 dX2_find_121 rfl rfl ?_
      obtain ⟨ht, hw⟩ := hw
      refine c_putr hc hr ciX2 (Nat.le_of_ble_eq_true rfl) 11 (Nat.le_of_ble_eq_true rfl) rfl dX2_find_122 lf_X2_66 ht (Or.inl rfl) (Or.inl ⟨_, rfl⟩) ?_
      exact c_vret hc hr dX2_find_125 hw
    · have hw := hw.2 cq
      refine m_aload_n hc 0 dX2_find_27 rfl rfl ?_
      obtain ⟨ht, b3, e_b3, hw⟩ := hw
      refine c_getr hc hr ciX2 (Nat.le_of_ble_eq_true rfl) 4 (Nat.le_of_ble_eq_true rfl) rfl dX2_find_28 lf_X2_34 ht e_b3 ?_
      refine m_aload_n hc 1 dX2_find_31 rfl rfl ?_
      refine m_aload_n hc 0 dX2_find_32 rfl rfl ?_
      obtain ⟨ht, b4, e_b4, hw⟩ := hw
      refine c_getr hc hr ciX2 (Nat.le_of_ble_eq_true rfl) 2 (Nat.le_of_ble_eq_true rfl) rfl dX2_find_33 lf_X2_24 ht e_b4 ?_
      refine m_aload_n hc 0 dX2_find_36 rfl rfl ?_
      obtain ⟨ht, hw⟩ := hw
      refine c_geti hc hr ciX2 (Nat.le_of_ble_eq_true rfl) 10 (Nat.le_of_ble_eq_true rfl) rfl dX2_find_37 lf_X2_63 ht ?_
      obtain ⟨ht, hw⟩ := hw
      refine c_callVv hc hr ciX5 (Nat.le_of_ble_eq_true rfl) ht mt_X5_load rfl lm_X2_77 (ok_X5_load hw) (Nat.le_of_ble_eq_true rfl) dX2_find_40 rfl (rest := []) rfl (Nat.le_of_ble_eq_true rfl) (fun S5 hw => ?_)
      refine m_aload_n hc 0 dX2_find_43 rfl rfl ?_
      refine m_aload_n hc 1 dX2_find_44 rfl rfl ?_
      obtain ⟨ht, hw⟩ := hw
      refine c_callVv hc hr ciX2 (Nat.le_of_ble_eq_true rfl) ht mt_X2_loadHighest rfl lm_X2_81 (ok_X2_loadHighest hw) (Nat.le_of_ble_eq_true rfl) dX2_find_45 rfl (rest := []) rfl (Nat.le_of_ble_eq_true rfl) (fun S6 hw => ?_)
      refine m_iconst hc 0 dX2_find_48 (by decide) ?_
      refine m_istore_n hc [(3, .int 0), (0, .ref x0), (1, .ref x1), (2, .int x2)] dX2_find_49 rfl (Nat.le_of_ble_eq_true rfl) rfl ?_
      refine m_sub [1, 2, 0] rfl ?_
      obtain ⟨nn, hw⟩ := hw
      exact l_X2_find_50 hc hr nn x0 x1 0 S6 hw
  · have hw := hw.2 cq
    exact c_vret hc hr dX2_find_8 hw
def wb_X2_inAll_4 (M : Nat × Nat) (K4 : Nat → Int32 → Int32 → HS → Prop) (K : Int32 → HS → Prop) (x0 : Nat) (x1 x2 : Int32) (S : HS) : Prop := hT S x0 = 3 ∧ ((hI S x0 1) ≤ x2 → K x1 S) ∧ (¬ ((hI S x0 1) ≤ x2) → hT S x0 = 3 ∧ ∃ b1 : Nat, hP S x0 0 = some b1 ∧ hT S b1 = 21 ∧ vp_in ((x2 * 5) + 4) (hN S b1) ∧ ∀ v2 : Int32, v2 = (x1 + (hI S b1 (Int32.toNatClampNeg ((x2 * 5) + 4)))) → K4 x0 v2 (x2 + 1) S)
def wl_X2_inAll_4 (M : Nat × Nat) (K : Int32 → HS → Prop) : Nat → Nat → Int32 → Int32 → HS → Prop
  | 0 => fun _ _ _ _ => False
  | nn + 1 => wb_X2_inAll_4 M (wl_X2_inAll_4 M K nn) K
set_option maxHeartbeats 4000000 in
set_option maxRecDepth 100000 in
theorem l_X2_inAll_4 {G : CG} {S0 : HS} {X : Fx} {K : Int32 → HS → Prop} (hc : Cx X RX2 cX2_inAll 3) (hr : Cc G S0 0 (some .int) (kI K) X) : ∀ (nn : Nat) (x0 : Nat) (x1 x2 : Int32) (S : HS), wl_X2_inAll_4 (gC G, gS G) K nn x0 x1 x2 S → MC G S0 X 3 S 4 [(0, .ref x0), (1, .int x1), (2, .int x2)] [] := by
  intro nn
  induction nn with
  | zero => intro x0 x1 x2 S hw; exact False.elim hw
  | succ nn ih =>
    intro x0 x1 x2 S hw
    have hw : wb_X2_inAll_4 (gC G, gS G) (wl_X2_inAll_4 (gC G, gS G) K nn) K x0 x1 x2 S := hw
    have h4 := ih
    generalize wl_X2_inAll_4 (gC G, gS G) K nn = K4 at hw h4
    unfold wb_X2_inAll_4 at hw
    refine m_iload_n hc 2 dX2_inAll_4 rfl rfl ?_
    refine m_aload_n hc 0 dX2_inAll_5 rfl rfl ?_
    obtain ⟨ht, hw⟩ := hw
    refine c_geti hc hr ciX2 (Nat.le_of_ble_eq_true rfl) 1 (Nat.le_of_ble_eq_true rfl) rfl dX2_inAll_6 lf_X2_15 ht ?_
    refine m_icmp_ge hc 31 dX2_inAll_9 rfl (fun cq => ?_) (fun cq => ?_)
    · have hw := hw.1 cq
      refine m_iload_n hc 1 dX2_inAll_31 rfl rfl ?_
      exact c_iret hc hr dX2_inAll_32 hw
    · have hw := hw.2 cq
      refine m_iload_n hc 1 dX2_inAll_12 rfl rfl ?_
      refine m_aload_n hc 0 dX2_inAll_13 rfl rfl ?_
      obtain ⟨ht, b1, e_b1, hw⟩ := hw
      refine c_getr hc hr ciX2 (Nat.le_of_ble_eq_true rfl) 0 (Nat.le_of_ble_eq_true rfl) rfl dX2_inAll_14 lf_X2_11 ht e_b1 ?_
      refine m_iload_n hc 2 dX2_inAll_17 rfl rfl ?_
      refine m_iconst hc 5 dX2_inAll_18 (by decide) ?_
      refine m_imul hc dX2_inAll_19 ?_
      refine m_iconst hc 4 dX2_inAll_20 (by decide) ?_
      refine m_iadd hc dX2_inAll_21 ?_
      obtain ⟨ht, hi, hw⟩ := hw
      refine c_iald hc hr ht hi dX2_inAll_22 ?_
      refine m_iadd hc dX2_inAll_23 ?_
      refine m_topi (fun v2 e_v2 => ?_)
      have hw := hw v2 e_v2
      refine m_istore_n hc [(1, .int v2), (0, .ref x0), (2, .int x2)] dX2_inAll_24 rfl (Nat.le_of_ble_eq_true rfl) rfl ?_
      refine m_iinc hc 2 (x2 + 1) [(2, .int (x2 + 1)), (1, .int v2), (0, .ref x0)] dX2_inAll_25 rfl rfl (Nat.le_of_ble_eq_true rfl) rfl ?_
      refine m_goto hc 4 dX2_inAll_28 rfl ?_
      refine m_sub [2, 1, 0] rfl ?_
      exact h4 x0 v2 (x2 + 1) S hw
def wp_X2_inAll (M : Nat × Nat) (x0 : Nat) (S : HS) (K : Int32 → HS → Prop) : Prop := ∃ nn : Nat, wl_X2_inAll_4 M K nn x0 0 0 S
set_option maxHeartbeats 4000000 in
set_option maxRecDepth 100000 in
theorem ok_X2_inAll {G : CG} {x0 : Nat} {S : HS} {K : Int32 → HS → Prop} (hw : wp_X2_inAll (gC G, gS G) x0 S K) : CC 0 yX2_inAll cX2_inAll 3 (some .int) [.ref x0] G S (kI K) := by
  refine CC.of (by decide +kernel) (Nat.le_of_ble_eq_true rfl) (fun X hc hr hname => ?_)
  show MC G S X 3 S 0 [(0, .ref x0)] []
  unfold wp_X2_inAll at hw
  refine m_iconst hc 0 dX2_inAll_0 (by decide) ?_
  refine m_istore_n hc [(1, .int 0), (0, .ref x0)] dX2_inAll_1 rfl (Nat.le_of_ble_eq_true rfl) rfl ?_
  refine m_iconst hc 0 dX2_inAll_2 (by decide) ?_
  refine m_istore_n hc [(2, .int 0), (1, .int 0), (0, .ref x0)] dX2_inAll_3 rfl (Nat.le_of_ble_eq_true rfl) rfl ?_
  refine m_sub [2, 1, 0] rfl ?_
  obtain ⟨nn, hw⟩ := hw
  exact l_X2_inAll_4 hc hr nn x0 0 0 S hw
def wp_X6_kept (M : Nat × Nat) (x0 : Nat) (S : HS) (K : Option Nat → HS → Prop) : Prop := hT S x0 = 7 ∧ ((hI S x0 3) = 0 → hX S + 1 ≤ M.1 ∧ hS S + 4 ≤ M.2 ∧ ∀ (b1 : Nat) (S1 : HS), b1 = hX S → S1 = nO S 7 4 → hT S1 x0 = 7 ∧ wp_X6_init M b1 (hI S1 x0 2) S1 (fun r2 S2 => hT S2 x0 = 7 ∧ ∃ b3 : Nat, hP S2 x0 0 = some b3 ∧ hT S2 b1 = 7 ∧ ∃ b4 : Nat, hP S2 b1 0 = some b4 ∧ hT S2 x0 = 7 ∧ hT S2 b3 = 21 ∧ hT S2 b4 = 21 ∧ ¬ (0 : Int32) < 0 ∧ ¬ (0 : Int32) < 0 ∧ ¬ ((hI S2 x0 2) : Int32) < 0 ∧ Int32.toNatClampNeg 0 + Int32.toNatClampNeg (hI S2 x0 2) ≤ hN S2 b3 ∧ Int32.toNatClampNeg 0 + Int32.toNatClampNeg (hI S2 x0 2) ≤ hN S2 b4 ∧ hT (sR S2 b4 (va_cpy (hI S2 b3) (hI S2 b4) (Int32.toNatClampNeg 0) (Int32.toNatClampNeg 0) (Int32.toNatClampNeg (hI S2 x0 2)))) x0 = 7 ∧ ∃ b5 : Nat, hP (sR S2 b4 (va_cpy (hI S2 b3) (hI S2 b4) (Int32.toNatClampNeg 0) (Int32.toNatClampNeg 0) (Int32.toNatClampNeg (hI S2 x0 2)))) x0 1 = some b5 ∧ hT (sR S2 b4 (va_cpy (hI S2 b3) (hI S2 b4) (Int32.toNatClampNeg 0) (Int32.toNatClampNeg 0) (Int32.toNatClampNeg (hI S2 x0 2)))) b1 = 7 ∧ ∃ b6 : Nat, hP (sR S2 b4 (va_cpy (hI S2 b3) (hI S2 b4) (Int32.toNatClampNeg 0) (Int32.toNatClampNeg 0) (Int32.toNatClampNeg (hI S2 x0 2)))) b1 1 = some b6 ∧ hT (sR S2 b4 (va_cpy (hI S2 b3) (hI S2 b4) (Int32.toNatClampNeg 0) (Int32.toNatClampNeg 0) (Int32.toNatClampNeg (hI S2 x0 2)))) x0 = 7 ∧ hT (sR S2 b4 (va_cpy (hI S2 b3) (hI S2 b4) (Int32.toNatClampNeg 0) (Int32.toNatClampNeg 0) (Int32.toNatClampNeg (hI S2 x0 2)))) b5 = 21 ∧ hT (sR S2 b4 (va_cpy (hI S2 b3) (hI S2 b4) (Int32.toNatClampNeg 0) (Int32.toNatClampNeg 0) (Int32.toNatClampNeg (hI S2 x0 2)))) b6 = 21 ∧ ¬ (0 : Int32) < 0 ∧ ¬ (0 : Int32) < 0 ∧ ¬ ((hI (sR S2 b4 (va_cpy (hI S2 b3) (hI S2 b4) (Int32.toNatClampNeg 0) (Int32.toNatClampNeg 0) (Int32.toNatClampNeg (hI S2 x0 2)))) x0 2) : Int32) < 0 ∧ Int32.toNatClampNeg 0 + Int32.toNatClampNeg (hI (sR S2 b4 (va_cpy (hI S2 b3) (hI S2 b4) (Int32.toNatClampNeg 0) (Int32.toNatClampNeg 0) (Int32.toNatClampNeg (hI S2 x0 2)))) x0 2) ≤ hN (sR S2 b4 (va_cpy (hI S2 b3) (hI S2 b4) (Int32.toNatClampNeg 0) (Int32.toNatClampNeg 0) (Int32.toNatClampNeg (hI S2 x0 2)))) b5 ∧ Int32.toNatClampNeg 0 + Int32.toNatClampNeg (hI (sR S2 b4 (va_cpy (hI S2 b3) (hI S2 b4) (Int32.toNatClampNeg 0) (Int32.toNatClampNeg 0) (Int32.toNatClampNeg (hI S2 x0 2)))) x0 2) ≤ hN (sR S2 b4 (va_cpy (hI S2 b3) (hI S2 b4) (Int32.toNatClampNeg 0) (Int32.toNatClampNeg 0) (Int32.toNatClampNeg (hI S2 x0 2)))) b6 ∧ hT (sR (sR S2 b4 (va_cpy (hI S2 b3) (hI S2 b4) (Int32.toNatClampNeg 0) (Int32.toNatClampNeg 0) (Int32.toNatClampNeg (hI S2 x0 2)))) b6 (va_cpy (hI (sR S2 b4 (va_cpy (hI S2 b3) (hI S2 b4) (Int32.toNatClampNeg 0) (Int32.toNatClampNeg 0) (Int32.toNatClampNeg (hI S2 x0 2)))) b5) (hI (sR S2 b4 (va_cpy (hI S2 b3) (hI S2 b4) (Int32.toNatClampNeg 0) (Int32.toNatClampNeg 0) (Int32.toNatClampNeg (hI S2 x0 2)))) b6) (Int32.toNatClampNeg 0) (Int32.toNatClampNeg 0) (Int32.toNatClampNeg (hI (sR S2 b4 (va_cpy (hI S2 b3) (hI S2 b4) (Int32.toNatClampNeg 0) (Int32.toNatClampNeg 0) (Int32.toNatClampNeg (hI S2 x0 2)))) x0 2)))) x0 = 7 ∧ hT (sR (sR S2 b4 (va_cpy (hI S2 b3) (hI S2 b4) (Int32.toNatClampNeg 0) (Int32.toNatClampNeg 0) (Int32.toNatClampNeg (hI S2 x0 2)))) b6 (va_cpy (hI (sR S2 b4 (va_cpy (hI S2 b3) (hI S2 b4) (Int32.toNatClampNeg 0) (Int32.toNatClampNeg 0) (Int32.toNatClampNeg (hI S2 x0 2)))) b5) (hI (sR S2 b4 (va_cpy (hI S2 b3) (hI S2 b4) (Int32.toNatClampNeg 0) (Int32.toNatClampNeg 0) (Int32.toNatClampNeg (hI S2 x0 2)))) b6) (Int32.toNatClampNeg 0) (Int32.toNatClampNeg 0) (Int32.toNatClampNeg (hI (sR S2 b4 (va_cpy (hI S2 b3) (hI S2 b4) (Int32.toNatClampNeg 0) (Int32.toNatClampNeg 0) (Int32.toNatClampNeg (hI S2 x0 2)))) x0 2)))) b1 = 7 ∧ K (some b1) (sI (sR (sR S2 b4 (va_cpy (hI S2 b3) (hI S2 b4) (Int32.toNatClampNeg 0) (Int32.toNatClampNeg 0) (Int32.toNatClampNeg (hI S2 x0 2)))) b6 (va_cpy (hI (sR S2 b4 (va_cpy (hI S2 b3) (hI S2 b4) (Int32.toNatClampNeg 0) (Int32.toNatClampNeg 0) (Int32.toNatClampNeg (hI S2 x0 2)))) b5) (hI (sR S2 b4 (va_cpy (hI S2 b3) (hI S2 b4) (Int32.toNatClampNeg 0) (Int32.toNatClampNeg 0) (Int32.toNatClampNeg (hI S2 x0 2)))) b6) (Int32.toNatClampNeg 0) (Int32.toNatClampNeg 0) (Int32.toNatClampNeg (hI (sR S2 b4 (va_cpy (hI S2 b3) (hI S2 b4) (Int32.toNatClampNeg 0) (Int32.toNatClampNeg 0) (Int32.toNatClampNeg (hI S2 x0 2)))) x0 2)))) b1 2 (hI (sR (sR S2 b4 (va_cpy (hI S2 b3) (hI S2 b4) (Int32.toNatClampNeg 0) (Int32.toNatClampNeg 0) (Int32.toNatClampNeg (hI S2 x0 2)))) b6 (va_cpy (hI (sR S2 b4 (va_cpy (hI S2 b3) (hI S2 b4) (Int32.toNatClampNeg 0) (Int32.toNatClampNeg 0) (Int32.toNatClampNeg (hI S2 x0 2)))) b5) (hI (sR S2 b4 (va_cpy (hI S2 b3) (hI S2 b4) (Int32.toNatClampNeg 0) (Int32.toNatClampNeg 0) (Int32.toNatClampNeg (hI S2 x0 2)))) b6) (Int32.toNatClampNeg 0) (Int32.toNatClampNeg 0) (Int32.toNatClampNeg (hI (sR S2 b4 (va_cpy (hI S2 b3) (hI S2 b4) (Int32.toNatClampNeg 0) (Int32.toNatClampNeg 0) (Int32.toNatClampNeg (hI S2 x0 2)))) x0 2)))) x0 2)))) ∧ (¬ ((hI S x0 3) = 0) → K none S)
set_option maxHeartbeats 4000000 in
set_option maxRecDepth 100000 in
theorem ok_X6_kept {G : CG} {x0 : Nat} {S : HS} {K : Option Nat → HS → Prop} (hw : wp_X6_kept (gC G, gS G) x0 S K) : CC 2 yX6_kept cX6_kept 2 (some (.object "StraightPolys$Poly")) [.ref x0] G S (kR K) := by
  refine CC.of (by decide +kernel) (Nat.le_of_ble_eq_true rfl) (fun X hc hr hname => ?_)
  show MC G S X 2 S 0 [(0, .ref x0)] []
  unfold wp_X6_kept at hw
  refine m_aload_n hc 0 dX6_kept_0 rfl rfl ?_
  obtain ⟨ht, hw⟩ := hw
  refine c_geti hc hr ciX6 (Nat.le_of_ble_eq_true rfl) 3 (Nat.le_of_ble_eq_true rfl) rfl dX6_kept_1 lf_X6_15 ht ?_
  refine m_if_eq hc 9 dX6_kept_4 rfl (fun cq => ?_) (fun cq => ?_)
  · have hw := hw.1 cq
    obtain ⟨hm, hm2, hw⟩ := hw
    refine n_new hc hr ciX6 (Nat.le_of_ble_eq_true rfl) dfX6 dX6_kept_9 lcl_X6_10 lni_X6 hm hm2 (fun b1 S1 e_b1 e_S1 => ?_)
    have hw := hw b1 S1 e_b1 e_S1
    refine m_dup hc dX6_kept_12 rfl ?_
    refine m_aload_n hc 0 dX6_kept_13 rfl rfl ?_
    obtain ⟨ht, hw⟩ := hw
    refine c_geti hc hr ciX6 (Nat.le_of_ble_eq_true rfl) 2 (Nat.le_of_ble_eq_true rfl) rfl dX6_kept_14 lf_X6_9 ht ?_
    refine c_callIv hc hr mt_X6_init lm_X6_30 (ok_X6_init hw) (Nat.le_of_ble_eq_true rfl) dX6_kept_17 rfl (rest := [.ref b1]) rfl (Nat.le_of_ble_eq_true rfl) (fun S2 hw => ?_)
    refine m_astore_n hc [(1, .ref b1), (0, .ref x0)] dX6_kept_20 rfl (Nat.le_of_ble_eq_true rfl) rfl ?_
    refine m_aload_n hc 1 dX6_kept_21 rfl rfl ?_
    obtain ⟨ht, b3, e_b3, hw⟩ := hw
    refine c_getr hc hr ciX6 (Nat.le_of_ble_eq_true rfl) 0 (Nat.le_of_ble_eq_true rfl) rfl dX6_kept_22 lf_X6_19 ht e_b3 ?_
    refine m_iconst hc 0 dX6_kept_25 (by decide) ?_
    refine m_aload_n hc 0 dX6_kept_26 rfl rfl ?_
    obtain ⟨ht, b4, e_b4, hw⟩ := hw
    refine c_getr hc hr ciX6 (Nat.le_of_ble_eq_true rfl) 0 (Nat.le_of_ble_eq_true rfl) rfl dX6_kept_27 lf_X6_19 ht e_b4 ?_
    refine m_iconst hc 0 dX6_kept_30 (by decide) ?_
    refine m_aload_n hc 1 dX6_kept_31 rfl rfl ?_
    obtain ⟨ht, hw⟩ := hw
    refine c_geti hc hr ciX6 (Nat.le_of_ble_eq_true rfl) 2 (Nat.le_of_ble_eq_true rfl) rfl dX6_kept_32 lf_X6_9 ht ?_
    obtain ⟨ht0, ht1, q1, q2, q3, q4, q5, hw⟩ := hw
    refine c_copy hc hr dX6_kept_35 lm_X6_37 lAC ht0 ht1 q1 q2 q3 q4 q5 (Nat.le_of_ble_eq_true rfl) ?_
    refine m_aload_n hc 1 dX6_kept_38 rfl rfl ?_
    obtain ⟨ht, b5, e_b5, hw⟩ := hw
    refine c_getr hc hr ciX6 (Nat.le_of_ble_eq_true rfl) 1 (Nat.le_of_ble_eq_true rfl) rfl dX6_kept_39 lf_X6_23 ht e_b5 ?_
    refine m_iconst hc 0 dX6_kept_42 (by decide) ?_
    refine m_aload_n hc 0 dX6_kept_43 rfl rfl ?_
    obtain ⟨ht, b6, e_b6, hw⟩ := hw
    refine c_getr hc hr ciX6 (Nat.le_of_ble_eq_true rfl) 1 (Nat.le_of_ble_eq_true rfl) rfl dX6_kept_44 lf_X6_23 ht e_b6 ?_
    refine m_iconst hc 0 dX6_kept_47 (by decide) ?_
    refine m_aload_n hc 1 dX6_kept_48 rfl rfl ?_
    obtain ⟨ht, hw⟩ := hw
    refine c_geti hc hr ciX6 (Nat.le_of_ble_eq_true rfl) 2 (Nat.le_of_ble_eq_true rfl) rfl dX6_kept_49 lf_X6_9 ht ?_
    obtain ⟨ht0, ht1, q1, q2, q3, q4, q5, hw⟩ := hw
    refine c_copy hc hr dX6_kept_52 lm_X6_37 lAC ht0 ht1 q1 q2 q3 q4 q5 (Nat.le_of_ble_eq_true rfl) ?_
    refine m_aload_n hc 0 dX6_kept_55 rfl rfl ?_
    refine m_aload_n hc 1 dX6_kept_56 rfl rfl ?_
    obtain ⟨ht, hw⟩ := hw
    refine c_geti hc hr ciX6 (Nat.le_of_ble_eq_true rfl) 2 (Nat.le_of_ble_eq_true rfl) rfl dX6_kept_57 lf_X6_9 ht ?_
    obtain ⟨ht, hw⟩ := hw
    refine c_puti hc hr ciX6 (Nat.le_of_ble_eq_true rfl) 2 (Nat.le_of_ble_eq_true rfl) rfl dX6_kept_60 lf_X6_9 ht (Or.inl rfl) ⟨rfl, rfl⟩ ?_
    refine m_aload_n hc 0 dX6_kept_63 rfl rfl ?_
    exact c_aret hc hr (r := (some b1)) dX6_kept_64 hw
  · have hw := hw.2 cq
    refine m_null hc dX6_kept_7 ?_
    exact c_aret hc hr (r := none) dX6_kept_8 hw
def wp_X2_rest (M : Nat × Nat) (x0 : Nat) (S : HS) (K : Option Nat → HS → Prop) : Prop := hT S x0 = 3 ∧ ∃ b1 : Nat, hP S x0 6 = some b1 ∧ hT S x0 = 3 ∧ ∃ b2 : Nat, hP S x0 3 = some b2 ∧ hT S x0 = 3 ∧ hT S b1 = 2 ∧ wp_X1_readInto M b1 b2 (hI S x0 10) S (fun r3 S3 => hT S3 x0 = 3 ∧ ∃ b4 : Nat, hP S3 x0 3 = some b4 ∧ hT S3 b4 = 7 ∧ wp_X6_kept M b4 S3 (fun r5 S5 => K r5 S5))
set_option maxHeartbeats 4000000 in
set_option maxRecDepth 100000 in
theorem ok_X2_rest {G : CG} {x0 : Nat} {S : HS} {K : Option Nat → HS → Prop} (hw : wp_X2_rest (gC G, gS G) x0 S K) : CC 3 yX2_rest cX2_rest 1 (some (.object "StraightPolys$Poly")) [.ref x0] G S (kR K) := by
  refine CC.of (by decide +kernel) (Nat.le_of_ble_eq_true rfl) (fun X hc hr hname => ?_)
  show MC G S X 1 S 0 [(0, .ref x0)] []
  unfold wp_X2_rest at hw
  refine m_aload_n hc 0 dX2_rest_0 rfl rfl ?_
  obtain ⟨ht, b1, e_b1, hw⟩ := hw
  refine c_getr hc hr ciX2 (Nat.le_of_ble_eq_true rfl) 6 (Nat.le_of_ble_eq_true rfl) rfl dX2_rest_1 lf_X2_44 ht e_b1 ?_
  refine m_aload_n hc 0 dX2_rest_4 rfl rfl ?_
  obtain ⟨ht, b2, e_b2, hw⟩ := hw
  refine c_getr hc hr ciX2 (Nat.le_of_ble_eq_true rfl) 3 (Nat.le_of_ble_eq_true rfl) rfl dX2_rest_5 lf_X2_28 ht e_b2 ?_
  refine m_aload_n hc 0 dX2_rest_8 rfl rfl ?_
  obtain ⟨ht, hw⟩ := hw
  refine c_geti hc hr ciX2 (Nat.le_of_ble_eq_true rfl) 10 (Nat.le_of_ble_eq_true rfl) rfl dX2_rest_9 lf_X2_63 ht ?_
  obtain ⟨ht, hw⟩ := hw
  refine c_callVv hc hr ciX1 (Nat.le_of_ble_eq_true rfl) ht mt_X1_readInto rfl lm_X2_89 (ok_X1_readInto hw) (Nat.le_of_ble_eq_true rfl) dX2_rest_12 rfl (rest := []) rfl (Nat.le_of_ble_eq_true rfl) (fun S3 hw => ?_)
  refine m_aload_n hc 0 dX2_rest_15 rfl rfl ?_
  obtain ⟨ht, b4, e_b4, hw⟩ := hw
  refine c_getr hc hr ciX2 (Nat.le_of_ble_eq_true rfl) 3 (Nat.le_of_ble_eq_true rfl) rfl dX2_rest_16 lf_X2_28 ht e_b4 ?_
  obtain ⟨ht, hw⟩ := hw
  refine c_callVq hc hr ciX6 (Nat.le_of_ble_eq_true rfl) ht mt_X6_kept rfl lm_X2_92 (ok_X6_kept hw) (Nat.le_of_ble_eq_true rfl) dX2_rest_19 rfl (rest := []) rfl (Nat.le_of_ble_eq_true rfl) (fun r5 S5 hw => ?_)
  skip
  exact c_aret hc hr (r := r5) dX2_rest_22 hw
def wp_X2_timesOf (M : Nat × Nat) (x0 x1 : Nat) (x2 : Int32) (x3 : Nat) (S : HS) (K : Int32 → HS → Prop) : Prop := hT S x0 = 3 ∧ wp_X2_layOut M x0 x1 x2 S (fun r1 S1 => hT S1 x0 = 3 ∧ hT (sP S1 x0 11 none) x0 = 3 ∧ wp_X2_takeOut M x0 x3 (sP S1 x0 11 none) (fun r2 S2 => K r2 S2))
set_option maxHeartbeats 4000000 in
set_option maxRecDepth 100000 in
theorem ok_X2_timesOf {G : CG} {x0 : Nat} {x1 : Nat} {x2 : Int32} {x3 : Nat} {S : HS} {K : Int32 → HS → Prop} (hw : wp_X2_timesOf (gC G, gS G) x0 x1 x2 x3 S K) : CC 4 yX2_timesOf cX2_timesOf 4 (some .int) [.ref x0, .ref x1, .int x2, .ref x3] G S (kI K) := by
  refine CC.of (by decide +kernel) (Nat.le_of_ble_eq_true rfl) (fun X hc hr hname => ?_)
  show MC G S X 4 S 0 [(0, .ref x0), (1, .ref x1), (2, .int x2), (3, .ref x3)] []
  unfold wp_X2_timesOf at hw
  refine m_aload_n hc 0 dX2_timesOf_0 rfl rfl ?_
  refine m_aload_n hc 1 dX2_timesOf_1 rfl rfl ?_
  refine m_iload_n hc 2 dX2_timesOf_2 rfl rfl ?_
  obtain ⟨ht, hw⟩ := hw
  refine c_callVv hc hr ciX2 (Nat.le_of_ble_eq_true rfl) ht mt_X2_layOut rfl lm_X2_69 (ok_X2_layOut hw) (Nat.le_of_ble_eq_true rfl) dX2_timesOf_3 rfl (rest := []) rfl (Nat.le_of_ble_eq_true rfl) (fun S1 hw => ?_)
  refine m_aload_n hc 0 dX2_timesOf_6 rfl rfl ?_
  refine m_null hc dX2_timesOf_7 ?_
  obtain ⟨ht, hw⟩ := hw
  refine c_putq hc hr ciX2 (Nat.le_of_ble_eq_true rfl) 11 (Nat.le_of_ble_eq_true rfl) rfl dX2_timesOf_8 lf_X2_66 ht (Or.inl rfl) (r := none) (Or.inl ⟨_, rfl⟩) ?_
  refine m_aload_n hc 0 dX2_timesOf_11 rfl rfl ?_
  refine m_aload_n hc 3 dX2_timesOf_12 rfl rfl ?_
  obtain ⟨ht, hw⟩ := hw
  refine c_callVi hc hr ciX2 (Nat.le_of_ble_eq_true rfl) ht mt_X2_takeOut rfl lm_X2_96 (ok_X2_takeOut hw) (Nat.le_of_ble_eq_true rfl) dX2_timesOf_13 rfl (rest := []) rfl (Nat.le_of_ble_eq_true rfl) (fun r2 S2 hw => ?_)
  exact c_iret hc hr dX2_timesOf_16 hw
def wp_X4_init (M : Nat × Nat) (x0 : Nat) (S : HS) (K : Int32 → HS → Prop) : Prop := ¬ (300 : Int32) < 0 ∧ (Int32.toNatClampNeg 300) ≤ 100000000 ∧ hX S + 1 ≤ M.1 ∧ hS S + (Int32.toNatClampNeg 300) ≤ M.2 ∧ ∀ (b1 : Nat) (S1 : HS), b1 = hX S → S1 = nO S 21 (Int32.toNatClampNeg 300) → hT S1 x0 = 5 ∧ K 0 (sP S1 x0 0 (some b1))
set_option maxHeartbeats 4000000 in
set_option maxRecDepth 100000 in
theorem ok_X4_init {G : CG} {x0 : Nat} {S : HS} {K : Int32 → HS → Prop} (hw : wp_X4_init (gC G, gS G) x0 S K) : CC 1 yX4_init cX4_init 1 none [.ref x0] G S (kV K) := by
  refine CC.of (by decide +kernel) (Nat.le_of_ble_eq_true rfl) (fun X hc hr hname => ?_)
  have hnm : Ci X := hname
  show MC G S X 1 S 0 [(0, .ref x0)] []
  unfold wp_X4_init at hw
  refine m_aload_n hc 0 dX4_init_0 rfl rfl ?_
  refine c_bnd (fun g1 g2 => ?_)
  refine q_objinit hc dX4_init_1 lm_X4_3 lObj (c_room hr g1 g2) (Nat.le_of_ble_eq_true rfl) ?_
  refine m_aload_n hc 0 dX4_init_4 rfl rfl ?_
  refine m_sipush hc 300 dX4_init_5 (by decide) ?_
  obtain ⟨hn0, hn1, hm, hm2, hw⟩ := hw
  refine n_newi hc hr dX4_init_8 laI hn0 hn1 hm hm2 (fun b1 S1 e_b1 e_S1 => ?_)
  have hw := hw b1 S1 e_b1 e_S1
  obtain ⟨ht, hw⟩ := hw
  refine c_putr hc hr ciX4 (Nat.le_of_ble_eq_true rfl) 0 (Nat.le_of_ble_eq_true rfl) rfl dX4_init_10 lf_X4_9 ht (Or.inr ⟨rfl, hnm, rfl⟩) (Or.inr ⟨_, rfl⟩) ?_
  exact c_vret hc hr dX4_init_13 hw
def wp_X4_indexOf (M : Nat × Nat) (x0 : Nat) (x1 : Int32) (S : HS) (K : Int32 → HS → Prop) : Prop := hT S x0 = 5 ∧ ∃ b1 : Nat, hP S x0 0 = some b1 ∧ hT S b1 = 21 ∧ vp_in x1 (hN S b1) ∧ K ((hI S b1 (Int32.toNatClampNeg x1)) &&& 511) S
set_option maxHeartbeats 4000000 in
set_option maxRecDepth 100000 in
theorem ok_X4_indexOf {G : CG} {x0 : Nat} {x1 : Int32} {S : HS} {K : Int32 → HS → Prop} (hw : wp_X4_indexOf (gC G, gS G) x0 x1 S K) : CC 0 yX4_indexOf cX4_indexOf 2 (some .int) [.ref x0, .int x1] G S (kI K) := by
  refine CC.of (by decide +kernel) (Nat.le_of_ble_eq_true rfl) (fun X hc hr hname => ?_)
  show MC G S X 2 S 0 [(0, .ref x0), (1, .int x1)] []
  unfold wp_X4_indexOf at hw
  refine m_aload_n hc 0 dX4_indexOf_0 rfl rfl ?_
  obtain ⟨ht, b1, e_b1, hw⟩ := hw
  refine c_getr hc hr ciX4 (Nat.le_of_ble_eq_true rfl) 0 (Nat.le_of_ble_eq_true rfl) rfl dX4_indexOf_1 lf_X4_9 ht e_b1 ?_
  refine m_iload_n hc 1 dX4_indexOf_4 rfl rfl ?_
  obtain ⟨ht, hi, hw⟩ := hw
  refine c_iald hc hr ht hi dX4_indexOf_5 ?_
  refine m_sipush hc 511 dX4_indexOf_6 (by decide) ?_
  refine m_iand hc dX4_indexOf_9 ?_
  exact c_iret hc hr dX4_indexOf_10 hw
def wp_X4_rank (M : Nat × Nat) (x0 x1 : Int32) (S : HS) (K : Int32 → HS → Prop) : Prop := (x1 = 0 → wp_X6_degreeOf M x0 S (fun r1 S1 => K ((r1 <<< (12 &&& 31)) ||| (x0 >>> (6 &&& 31))) S1)) ∧ (x1 = 1 → K x0 S) ∧ (¬ x1 = 0 ∧ ¬ x1 = 1 → wp_X6_exponent M x0 2 S (fun r2 S2 => wp_X6_exponent M x0 1 S2 (fun r3 S3 => wp_X6_exponent M x0 0 S3 (fun r4 S4 => wp_X6_key M r2 r3 r4 S4 (fun r5 S5 => K r5 S5)))))
set_option maxHeartbeats 4000000 in
set_option maxRecDepth 100000 in
theorem ok_X4_rank {G : CG} {x0 : Int32} {x1 : Int32} {S : HS} {K : Int32 → HS → Prop} (hw : wp_X4_rank (gC G, gS G) x0 x1 S K) : CC 2 yX4_rank cX4_rank 2 (some .int) [.int x0, .int x1] G S (kI K) := by
  refine CC.of (by decide +kernel) (Nat.le_of_ble_eq_true rfl) (fun X hc hr hname => ?_)
  show MC G S X 2 S 0 [(0, .int x0), (1, .int x1)] []
  unfold wp_X4_rank at hw
  refine m_iload_n hc 1 dX4_rank_0 rfl rfl ?_
  by_cases q0 : x1 = 0
  · have hw := hw.1 q0
    refine m_look hc (off := 27) 28 dX4_rank_1 (by decide +kernel) (by rw [q0]; rfl) rfl ?_
    refine m_iload_n hc 0 dX4_rank_28 rfl rfl ?_
    refine c_callSi hc hr mt_X6_degreeOf lm_X4_32 (ok_X6_degreeOf hw) (Nat.le_of_ble_eq_true rfl) dX4_rank_29 rfl (rest := []) rfl (Nat.le_of_ble_eq_true rfl) (fun r1 S1 hw => ?_)
    refine m_bipush hc 12 dX4_rank_32 (by decide) ?_
    refine m_ishl hc dX4_rank_34 ?_
    refine m_iload_n hc 0 dX4_rank_35 rfl rfl ?_
    refine m_bipush hc 6 dX4_rank_36 (by decide) ?_
    refine m_ishr hc dX4_rank_38 ?_
    refine m_ior hc dX4_rank_39 ?_
    exact c_iret hc hr dX4_rank_40 hw
  · skip
    by_cases q1 : x1 = 1
    · have hw := hw.2.1 q1
      refine m_look hc (off := 40) 41 dX4_rank_1 (by decide +kernel) (by rw [q1]; rfl) rfl ?_
      refine m_iload_n hc 0 dX4_rank_41 rfl rfl ?_
      exact c_iret hc hr dX4_rank_42 hw
    · skip
      have hw := hw.2.2 ⟨q0, q1⟩
      refine m_look hc (off := 42) 43 dX4_rank_1 (by decide +kernel) (lk_no 0 q0 rfl (lk_no 1 q1 rfl (rfl))) rfl ?_
      refine m_iload_n hc 0 dX4_rank_43 rfl rfl ?_
      refine m_iconst hc 2 dX4_rank_44 (by decide) ?_
      refine c_callSi hc hr mt_X6_exponent lm_X4_36 (ok_X6_exponent hw) (Nat.le_of_ble_eq_true rfl) dX4_rank_45 rfl (rest := []) rfl (Nat.le_of_ble_eq_true rfl) (fun r2 S2 hw => ?_)
      refine m_iload_n hc 0 dX4_rank_48 rfl rfl ?_
      refine m_iconst hc 1 dX4_rank_49 (by decide) ?_
      refine c_callSi hc hr mt_X6_exponent lm_X4_36 (ok_X6_exponent hw) (Nat.le_of_ble_eq_true rfl) dX4_rank_50 rfl (rest := [.int r2]) rfl (Nat.le_of_ble_eq_true rfl) (fun r3 S3 hw => ?_)
      refine m_iload_n hc 0 dX4_rank_53 rfl rfl ?_
      refine m_iconst hc 0 dX4_rank_54 (by decide) ?_
      refine c_callSi hc hr mt_X6_exponent lm_X4_36 (ok_X6_exponent hw) (Nat.le_of_ble_eq_true rfl) dX4_rank_55 rfl (rest := [.int r3, .int r2]) rfl (Nat.le_of_ble_eq_true rfl) (fun r4 S4 hw => ?_)
      refine c_callSi hc hr mt_X6_key lm_X4_39 (ok_X6_key hw) (Nat.le_of_ble_eq_true rfl) dX4_rank_58 rfl (rest := []) rfl (Nat.le_of_ble_eq_true rfl) (fun r5 S5 hw => ?_)
      exact c_iret hc hr dX4_rank_61 hw
