def wb_X9_takeRemainder_102 (M : Nat × Nat) (K102 : Nat → Int32 → HS → Prop) (K : Int32 → HS → Prop) (x1 : Nat) (x6 : Int32) (S : HS) : Prop := (x6 < 0 → K x6 S) ∧ (¬ (x6 < 0) → hT S x1 = 21 ∧ vp_in x6 (hN S x1) ∧ (¬ (hI S x1 (Int32.toNatClampNeg x6)) = 0 → K x6 S) ∧ ((hI S x1 (Int32.toNatClampNeg x6)) = 0 → K102 x1 (x6 + (-1)) S))
def wl_X9_takeRemainder_102 (M : Nat × Nat) (K : Int32 → HS → Prop) : Nat → Nat → Int32 → HS → Prop
  | 0 => fun _ _ _ => False
  | nn + 1 => wb_X9_takeRemainder_102 M (wl_X9_takeRemainder_102 M K nn) K
set_option maxHeartbeats 4000000 in
set_option maxRecDepth 100000 in
theorem l_X9_takeRemainder_102 {G : CG} {S0 : HS} {X : Fx} {K : Int32 → HS → Prop} (hc : Cx X RX9 cX9_takeRemainder 10) (hr : Cc G S0 1 (some .int) (kI K) X) : ∀ (nn : Nat) (x1 : Nat) (x6 : Int32) (S : HS), wl_X9_takeRemainder_102 (gC G, gS G) K nn x1 x6 S → MC G S0 X 10 S 102 [(1, .ref x1), (6, .int x6)] [] := by
  intro nn
  induction nn with
  | zero => intro x1 x6 S hw; exact False.elim hw
  | succ nn ih =>
    intro x1 x6 S hw
    have hw : wb_X9_takeRemainder_102 (gC G, gS G) (wl_X9_takeRemainder_102 (gC G, gS G) K nn) K x1 x6 S := hw
    have h102 := ih
    generalize wl_X9_takeRemainder_102 (gC G, gS G) K nn = K102 at hw h102
    unfold wb_X9_takeRemainder_102 at hw
    refine m_iload hc 1 dX9_takeRemainder_102 rfl ?_
    refine m_if_lt hc 120 dX9_takeRemainder_104 rfl (fun cq => ?_) (fun cq => ?_)
    · have hw := hw.1 cq
      refine m_iload hc 1 dX9_takeRemainder_120 rfl ?_
      exact c_iret hc hr dX9_takeRemainder_122 hw
    · have hw := hw.2 cq
      refine m_aload_n hc 0 dX9_takeRemainder_107 rfl rfl ?_
      refine m_iload hc 1 dX9_takeRemainder_108 rfl ?_
      obtain ⟨ht, hi, hw⟩ := hw
      refine c_iald hc hr ht hi dX9_takeRemainder_110 ?_
      refine m_if_ne hc 120 dX9_takeRemainder_111 rfl (fun cq => ?_) (fun cq => ?_)
      · have hw := hw.1 cq
        refine m_iload hc 1 dX9_takeRemainder_120 rfl ?_
        exact c_iret hc hr dX9_takeRemainder_122 hw
      · have hw := hw.2 cq
        refine m_iinc hc 1 (x6 + (-1)) [(6, .int (x6 + (-1))), (1, .ref x1)] dX9_takeRemainder_114 rfl rfl (Nat.le_of_ble_eq_true rfl) rfl ?_
        refine m_goto hc 102 dX9_takeRemainder_117 rfl ?_
        refine m_sub [1, 0] rfl ?_
        exact h102 x1 (x6 + (-1)) S hw
def wb_X9_takeRemainder_42 (M : Nat × Nat) (K13 : Nat → Nat → Int32 → Nat → Int32 → Int32 → Int32 → HS → Prop) (K42 : Nat → Nat → Int32 → Nat → Int32 → Int32 → Int32 → Int32 → Int32 → HS → Prop) (K : Int32 → HS → Prop) (x0 x1 : Nat) (x2 : Int32) (x3 : Nat) (x4 x5 x6 x7 x8 : Int32) (S : HS) : Prop := (x4 < x8 → K13 x0 x1 x2 x3 x4 x5 (x6 + (-1)) S) ∧ (¬ (x4 < x8) → hT S x1 = 21 ∧ vp_in ((x6 - x4) + x8) (hN S x1) ∧ hT S x3 = 21 ∧ vp_in x8 (hN S x3) ∧ hT S x0 = 10 ∧ ¬ (hI S x0 0) = 0 ∧ (hT S x1 = 21 ∧ vp_in ((x6 - x4) + x8) (hN S x1) ∧ K42 x0 x1 x2 x3 x4 x5 x6 x7 (x8 + 1) (sI S x1 (Int32.toNatClampNeg ((x6 - x4) + x8)) (iRem ((hI S x1 (Int32.toNatClampNeg ((x6 - x4) + x8))) + (x7 * (hI S x3 (Int32.toNatClampNeg x8)))) (hI S x0 0)))))
def wl_X9_takeRemainder_42 (M : Nat × Nat) (K13 : Nat → Nat → Int32 → Nat → Int32 → Int32 → Int32 → HS → Prop) (K : Int32 → HS → Prop) : Nat → Nat → Nat → Int32 → Nat → Int32 → Int32 → Int32 → Int32 → Int32 → HS → Prop
  | 0 => fun _ _ _ _ _ _ _ _ _ _ => False
  | nn + 1 => wb_X9_takeRemainder_42 M K13 (wl_X9_takeRemainder_42 M K13 K nn) K
set_option maxHeartbeats 4000000 in
set_option maxRecDepth 100000 in
theorem l_X9_takeRemainder_42 {G : CG} {S0 : HS} {X : Fx} {K : Int32 → HS → Prop} (hc : Cx X RX9 cX9_takeRemainder 10) (hr : Cc G S0 1 (some .int) (kI K) X) (K13 : Nat → Nat → Int32 → Nat → Int32 → Int32 → Int32 → HS → Prop) (h13 : ∀ (x0 x1 : Nat) (x2 : Int32) (x3 : Nat) (x4 x5 x6 : Int32) (S : HS), K13 x0 x1 x2 x3 x4 x5 x6 S → MC G S0 X 10 S 13 [(0, .ref x0), (1, .ref x1), (2, .int x2), (3, .ref x3), (4, .int x4), (5, .int x5), (6, .int x6)] []) : ∀ (nn : Nat) (x0 x1 : Nat) (x2 : Int32) (x3 : Nat) (x4 x5 x6 x7 x8 : Int32) (S : HS), wl_X9_takeRemainder_42 (gC G, gS G) K13 K nn x0 x1 x2 x3 x4 x5 x6 x7 x8 S → MC G S0 X 10 S 42 [(0, .ref x0), (1, .ref x1), (2, .int x2), (3, .ref x3), (4, .int x4), (5, .int x5), (6, .int x6), (7, .int x7), (8, .int x8)] [] := by
  intro nn
  induction nn with
  | zero => intro x0 x1 x2 x3 x4 x5 x6 x7 x8 S hw; exact False.elim hw
  | succ nn ih =>
    intro x0 x1 x2 x3 x4 x5 x6 x7 x8 S hw
    have hw : wb_X9_takeRemainder_42 (gC G, gS G) K13 (wl_X9_takeRemainder_42 (gC G, gS G) K13 K nn) K x0 x1 x2 x3 x4 x5 x6 x7 x8 S := hw
    have h42 := ih
    generalize wl_X9_takeRemainder_42 (gC G, gS G) K13 K nn = K42 at hw h42
    unfold wb_X9_takeRemainder_42 at hw
    refine m_iload hc 8 dX9_takeRemainder_42 rfl ?_
    refine m_iload hc 4 dX9_takeRemainder_44 rfl ?_
    refine m_icmp_gt hc 86 dX9_takeRemainder_46 rfl (fun cq => ?_) (fun cq => ?_)
    · have hw := hw.1 cq
      refine m_iinc hc 6 (x6 + (-1)) [(6, .int (x6 + (-1))), (0, .ref x0), (1, .ref x1), (2, .int x2), (3, .ref x3), (4, .int x4), (5, .int x5), (7, .int x7), (8, .int x8)] dX9_takeRemainder_86 rfl rfl (Nat.le_of_ble_eq_true rfl) rfl ?_
      refine m_goto hc 13 dX9_takeRemainder_89 rfl ?_
      refine m_sub [1, 2, 3, 4, 5, 6, 0] rfl ?_
      exact h13 x0 x1 x2 x3 x4 x5 (x6 + (-1)) S hw
    · have hw := hw.2 cq
      refine m_iload hc 6 dX9_takeRemainder_49 rfl ?_
      refine m_iload hc 4 dX9_takeRemainder_51 rfl ?_
      refine m_isub hc dX9_takeRemainder_53 ?_
      refine m_iload hc 8 dX9_takeRemainder_54 rfl ?_
      refine m_iadd hc dX9_takeRemainder_56 ?_
      refine m_istore hc [(9, .int ((x6 - x4) + x8)), (0, .ref x0), (1, .ref x1), (2, .int x2), (3, .ref x3), (4, .int x4), (5, .int x5), (6, .int x6), (7, .int x7), (8, .int x8)] dX9_takeRemainder_57 (Nat.le_of_ble_eq_true rfl) rfl ?_
      refine m_aload_n hc 2 dX9_takeRemainder_59 rfl rfl ?_
      refine m_iload hc 0 dX9_takeRemainder_60 rfl ?_
      refine m_aload_n hc 2 dX9_takeRemainder_62 rfl rfl ?_
      refine m_iload hc 0 dX9_takeRemainder_63 rfl ?_
      obtain ⟨ht, hi, hw⟩ := hw
      refine c_iald hc hr ht hi dX9_takeRemainder_65 ?_
      refine m_iload hc 8 dX9_takeRemainder_66 rfl ?_
      refine m_aload_n hc 4 dX9_takeRemainder_68 rfl rfl ?_
      refine m_iload hc 9 dX9_takeRemainder_69 rfl ?_
      obtain ⟨ht, hi, hw⟩ := hw
      refine c_iald hc hr ht hi dX9_takeRemainder_71 ?_
      refine m_imul hc dX9_takeRemainder_72 ?_
      refine m_iadd hc dX9_takeRemainder_73 ?_
      refine m_aload_n hc 1 dX9_takeRemainder_74 rfl rfl ?_
      obtain ⟨ht, hw⟩ := hw
      refine c_geti hc hr ciX9 (Nat.le_of_ble_eq_true rfl) 0 (Nat.le_of_ble_eq_true rfl) rfl dX9_takeRemainder_75 lf_X9_9 ht ?_
      obtain ⟨hq, hw⟩ := hw
      refine m_irem hc dX9_takeRemainder_78 hq ?_
      obtain ⟨ht, hi, hw⟩ := hw
      refine c_iast hc hr ht hi dX9_takeRemainder_79 ?_
      refine m_iinc hc 9 (x8 + 1) [(8, .int (x8 + 1)), (9, .int ((x6 - x4) + x8)), (0, .ref x0), (1, .ref x1), (2, .int x2), (3, .ref x3), (4, .int x4), (5, .int x5), (6, .int x6), (7, .int x7)] dX9_takeRemainder_80 rfl rfl (Nat.le_of_ble_eq_true rfl) rfl ?_
      refine m_goto hc 42 dX9_takeRemainder_83 rfl ?_
      refine m_sub [2, 3, 4, 5, 6, 7, 8, 9, 0] rfl ?_
      exact h42 x0 x1 x2 x3 x4 x5 x6 x7 (x8 + 1) (sI S x1 (Int32.toNatClampNeg ((x6 - x4) + x8)) (iRem ((hI S x1 (Int32.toNatClampNeg ((x6 - x4) + x8))) + (x7 * (hI S x3 (Int32.toNatClampNeg x8)))) (hI S x0 0))) hw
def wb_X9_takeRemainder_13 (M : Nat × Nat) (K13 : Nat → Nat → Int32 → Nat → Int32 → Int32 → Int32 → HS → Prop) (K : Int32 → HS → Prop) (x0 x1 : Nat) (x2 : Int32) (x3 : Nat) (x4 x5 x6 : Int32) (S : HS) : Prop := (x6 < x4 → ∀ v1 : Int32, v1 = (if x4 - 1 < x2 then x4 - 1 else x2) → ∃ nn : Nat, wl_X9_takeRemainder_102 M K nn x1 v1 S) ∧ (¬ (x6 < x4) → hT S x0 = 10 ∧ hT S x1 = 21 ∧ vp_in x6 (hN S x1) ∧ hT S x0 = 10 ∧ ¬ (hI S x0 0) = 0 ∧ (∀ v2 : Int32, v2 = ((hI S x0 0) - (iRem ((hI S x1 (Int32.toNatClampNeg x6)) * x5) (hI S x0 0))) → ∃ nn : Nat, wl_X9_takeRemainder_42 M K13 K nn x0 x1 x2 x3 x4 x5 x6 v2 0 S))
def wl_X9_takeRemainder_13 (M : Nat × Nat) (K : Int32 → HS → Prop) : Nat → Nat → Nat → Int32 → Nat → Int32 → Int32 → Int32 → HS → Prop
  | 0 => fun _ _ _ _ _ _ _ _ => False
  | nn + 1 => wb_X9_takeRemainder_13 M (wl_X9_takeRemainder_13 M K nn) K
set_option maxHeartbeats 4000000 in
set_option maxRecDepth 100000 in
theorem l_X9_takeRemainder_13 {G : CG} {S0 : HS} {X : Fx} {K : Int32 → HS → Prop} (hc : Cx X RX9 cX9_takeRemainder 10) (hr : Cc G S0 1 (some .int) (kI K) X) : ∀ (nn : Nat) (x0 x1 : Nat) (x2 : Int32) (x3 : Nat) (x4 x5 x6 : Int32) (S : HS), wl_X9_takeRemainder_13 (gC G, gS G) K nn x0 x1 x2 x3 x4 x5 x6 S → MC G S0 X 10 S 13 [(0, .ref x0), (1, .ref x1), (2, .int x2), (3, .ref x3), (4, .int x4), (5, .int x5), (6, .int x6)] [] := by
  intro nn
  induction nn with
  | zero => intro x0 x1 x2 x3 x4 x5 x6 S hw; exact False.elim hw
  | succ nn ih =>
    intro x0 x1 x2 x3 x4 x5 x6 S hw
    have hw : wb_X9_takeRemainder_13 (gC G, gS G) (wl_X9_takeRemainder_13 (gC G, gS G) K nn) K x0 x1 x2 x3 x4 x5 x6 S := hw
    have h13 := ih
    generalize wl_X9_takeRemainder_13 (gC G, gS G) K nn = K13 at hw h13
    unfold wb_X9_takeRemainder_13 at hw
    refine m_iload hc 6 dX9_takeRemainder_13 rfl ?_
    refine m_iload hc 4 dX9_takeRemainder_15 rfl ?_
    refine m_icmp_lt hc 92 dX9_takeRemainder_17 rfl (fun cq => ?_) (fun cq => ?_)
    · have hw := hw.1 cq
      refine m_iload_n hc 2 dX9_takeRemainder_92 rfl rfl ?_
      refine m_iload hc 4 dX9_takeRemainder_93 rfl ?_
      refine m_iconst hc 1 dX9_takeRemainder_95 (by decide) ?_
      refine m_isub hc dX9_takeRemainder_96 ?_
      refine c_bnd (fun g1 g2 => ?_)
      refine m_mmin hc dX9_takeRemainder_97 lm_X9_124 lM_min (c_room hr g1 g2) (Nat.le_of_ble_eq_true rfl) ?_
      refine m_topi (fun v1 e_v1 => ?_)
      have hw := hw v1 e_v1
      refine m_istore hc [(6, .int v1), (0, .ref x0), (1, .ref x1), (2, .int x2), (3, .ref x3), (4, .int x4), (5, .int x5)] dX9_takeRemainder_100 (Nat.le_of_ble_eq_true rfl) rfl ?_
      refine m_sub [2, 0] rfl ?_
      obtain ⟨nn, hw⟩ := hw
      exact l_X9_takeRemainder_102 hc hr nn x1 v1 S hw
    · have hw := hw.2 cq
      refine m_aload_n hc 0 dX9_takeRemainder_20 rfl rfl ?_
      obtain ⟨ht, hw⟩ := hw
      refine c_geti hc hr ciX9 (Nat.le_of_ble_eq_true rfl) 0 (Nat.le_of_ble_eq_true rfl) rfl dX9_takeRemainder_21 lf_X9_9 ht ?_
      refine m_aload_n hc 1 dX9_takeRemainder_24 rfl rfl ?_
      refine m_iload hc 6 dX9_takeRemainder_25 rfl ?_
      obtain ⟨ht, hi, hw⟩ := hw
      refine c_iald hc hr ht hi dX9_takeRemainder_27 ?_
      refine m_iload hc 5 dX9_takeRemainder_28 rfl ?_
      refine m_imul hc dX9_takeRemainder_30 ?_
      refine m_aload_n hc 0 dX9_takeRemainder_31 rfl rfl ?_
      obtain ⟨ht, hw⟩ := hw
      refine c_geti hc hr ciX9 (Nat.le_of_ble_eq_true rfl) 0 (Nat.le_of_ble_eq_true rfl) rfl dX9_takeRemainder_32 lf_X9_9 ht ?_
      obtain ⟨hq, hw⟩ := hw
      refine m_irem hc dX9_takeRemainder_35 hq ?_
      refine m_isub hc dX9_takeRemainder_36 ?_
      refine m_topi (fun v2 e_v2 => ?_)
      have hw := hw v2 e_v2
      refine m_istore hc [(7, .int v2), (0, .ref x0), (1, .ref x1), (2, .int x2), (3, .ref x3), (4, .int x4), (5, .int x5), (6, .int x6)] dX9_takeRemainder_37 (Nat.le_of_ble_eq_true rfl) rfl ?_
      refine m_iconst hc 0 dX9_takeRemainder_39 (by decide) ?_
      refine m_istore hc [(8, .int 0), (7, .int v2), (0, .ref x0), (1, .ref x1), (2, .int x2), (3, .ref x3), (4, .int x4), (5, .int x5), (6, .int x6)] dX9_takeRemainder_40 (Nat.le_of_ble_eq_true rfl) rfl ?_
      refine m_sub [2, 3, 4, 5, 6, 7, 8, 1, 0] rfl ?_
      obtain ⟨nn, hw⟩ := hw
      exact l_X9_takeRemainder_42 hc hr K13 h13 nn x0 x1 x2 x3 x4 x5 x6 v2 0 S hw
def wp_X9_takeRemainder (M : Nat × Nat) (x0 x1 : Nat) (x2 : Int32) (x3 : Nat) (x4 : Int32) (S : HS) (K : Int32 → HS → Prop) : Prop := hT S x3 = 21 ∧ vp_in x4 (hN S x3) ∧ hT S x0 = 10 ∧ wp_X9_inverse M x0 (hI S x3 (Int32.toNatClampNeg x4)) S (fun r1 S1 => ∃ nn : Nat, wl_X9_takeRemainder_13 M K nn x0 x1 x2 x3 x4 r1 x2 S1)
set_option maxHeartbeats 4000000 in
set_option maxRecDepth 100000 in
theorem ok_X9_takeRemainder {G : CG} {x0 : Nat} {x1 : Nat} {x2 : Int32} {x3 : Nat} {x4 : Int32} {S : HS} {K : Int32 → HS → Prop} (hw : wp_X9_takeRemainder (gC G, gS G) x0 x1 x2 x3 x4 S K) : CC 1 yX9_takeRemainder cX9_takeRemainder 10 (some .int) [.ref x0, .ref x1, .int x2, .ref x3, .int x4] G S (kI K) := by
  refine CC.of (by decide +kernel) (Nat.le_of_ble_eq_true rfl) (fun X hc hr hname => ?_)
  show MC G S X 10 S 0 [(0, .ref x0), (1, .ref x1), (2, .int x2), (3, .ref x3), (4, .int x4)] []
  unfold wp_X9_takeRemainder at hw
  refine m_aload_n hc 0 dX9_takeRemainder_0 rfl rfl ?_
  refine m_aload_n hc 3 dX9_takeRemainder_1 rfl rfl ?_
  refine m_iload hc 4 dX9_takeRemainder_2 rfl ?_
  obtain ⟨ht, hi, hw⟩ := hw
  refine c_iald hc hr ht hi dX9_takeRemainder_4 ?_
  obtain ⟨ht, hw⟩ := hw
  refine c_callVi hc hr ciX9 (Nat.le_of_ble_eq_true rfl) ht mt_X9_inverse rfl lm_X9_154 (ok_X9_inverse hw) (Nat.le_of_ble_eq_true rfl) dX9_takeRemainder_5 rfl (rest := []) rfl (Nat.le_of_ble_eq_true rfl) (fun r1 S1 hw => ?_)
  refine m_istore hc [(5, .int r1), (0, .ref x0), (1, .ref x1), (2, .int x2), (3, .ref x3), (4, .int x4)] dX9_takeRemainder_8 (Nat.le_of_ble_eq_true rfl) rfl ?_
  refine m_iload_n hc 3 dX9_takeRemainder_10 rfl rfl ?_
  refine m_istore hc [(6, .int x2), (5, .int r1), (0, .ref x0), (1, .ref x1), (2, .int x2), (3, .ref x3), (4, .int x4)] dX9_takeRemainder_11 (Nat.le_of_ble_eq_true rfl) rfl ?_
  refine m_sub [2, 3, 4, 5, 6, 1, 0] rfl ?_
  obtain ⟨nn, hw⟩ := hw
  exact l_X9_takeRemainder_13 hc hr nn x0 x1 x2 x3 x4 r1 x2 S1 hw
def wb_X9_common_108 (M : Nat × Nat) (K108 : Nat → Nat → Int32 → Int32 → HS → Prop) (K : Option Nat → HS → Prop) (x0 x3 : Nat) (x7 x8 : Int32) (S : HS) : Prop := (x8 < 0 → hT S x0 = 10 ∧ ∃ b1 : Nat, hP S x0 1 = some b1 ∧ hT S b1 = 7 ∧ wp_X6_kept M b1 S (fun r2 S2 => K r2 S2)) ∧ (¬ (x8 < 0) → hT S x0 = 10 ∧ ∃ b3 : Nat, hP S x0 1 = some b3 ∧ wp_X6_key M x8 0 0 S (fun r4 S4 => hT S4 x3 = 21 ∧ vp_in x8 (hN S4 x3) ∧ hT S4 x0 = 10 ∧ ¬ (hI S4 x0 0) = 0 ∧ (hT S4 b3 = 7 ∧ wp_X6_push M b3 r4 (iRem ((hI S4 x3 (Int32.toNatClampNeg x8)) * x7) (hI S4 x0 0)) S4 (fun r5 S5 => K108 x0 x3 x7 (x8 + (-1)) S5))))
def wl_X9_common_108 (M : Nat × Nat) (K : Option Nat → HS → Prop) : Nat → Nat → Nat → Int32 → Int32 → HS → Prop
  | 0 => fun _ _ _ _ _ => False
  | nn + 1 => wb_X9_common_108 M (wl_X9_common_108 M K nn) K
set_option maxHeartbeats 4000000 in
set_option maxRecDepth 100000 in
theorem l_X9_common_108 {G : CG} {S0 : HS} {X : Fx} {K : Option Nat → HS → Prop} (hc : Cx X RX9 cX9_common 10) (hr : Cc G S0 3 (some (.object "StraightPolys$Poly")) (kR K) X) : ∀ (nn : Nat) (x0 x3 : Nat) (x7 x8 : Int32) (S : HS), wl_X9_common_108 (gC G, gS G) K nn x0 x3 x7 x8 S → MC G S0 X 10 S 108 [(0, .ref x0), (3, .ref x3), (7, .int x7), (8, .int x8)] [] := by
  intro nn
  induction nn with
  | zero => intro x0 x3 x7 x8 S hw; exact False.elim hw
  | succ nn ih =>
    intro x0 x3 x7 x8 S hw
    have hw : wb_X9_common_108 (gC G, gS G) (wl_X9_common_108 (gC G, gS G) K nn) K x0 x3 x7 x8 S := hw
    have h108 := ih
    generalize wl_X9_common_108 (gC G, gS G) K nn = K108 at hw h108
    unfold wb_X9_common_108 at hw
    refine m_iload hc 3 dX9_common_108 rfl ?_
    refine m_if_lt hc 145 dX9_common_110 rfl (fun cq => ?_) (fun cq => ?_)
    · have hw := hw.1 cq
      refine m_aload_n hc 0 dX9_common_145 rfl rfl ?_
      obtain ⟨ht, b1, e_b1, hw⟩ := hw
      refine c_getr hc hr ciX9 (Nat.le_of_ble_eq_true rfl) 1 (Nat.le_of_ble_eq_true rfl) rfl dX9_common_146 lf_X9_20 ht e_b1 ?_
      obtain ⟨ht, hw⟩ := hw
      refine c_callVq hc hr ciX6 (Nat.le_of_ble_eq_true rfl) ht mt_X6_kept rfl lm_X9_73 (ok_X6_kept hw) (Nat.le_of_ble_eq_true rfl) dX9_common_149 rfl (rest := []) rfl (Nat.le_of_ble_eq_true rfl) (fun r2 S2 hw => ?_)
      skip
      exact c_aret hc hr (r := r2) dX9_common_152 hw
    · have hw := hw.2 cq
      refine m_aload_n hc 0 dX9_common_113 rfl rfl ?_
      obtain ⟨ht, b3, e_b3, hw⟩ := hw
      refine c_getr hc hr ciX9 (Nat.le_of_ble_eq_true rfl) 1 (Nat.le_of_ble_eq_true rfl) rfl dX9_common_114 lf_X9_20 ht e_b3 ?_
      refine m_iload hc 3 dX9_common_117 rfl ?_
      refine m_iconst hc 0 dX9_common_119 (by decide) ?_
      refine m_iconst hc 0 dX9_common_120 (by decide) ?_
      refine c_callSi hc hr mt_X6_key lm_X9_157 (ok_X6_key hw) (Nat.le_of_ble_eq_true rfl) dX9_common_121 rfl (rest := [.ref b3]) rfl (Nat.le_of_ble_eq_true rfl) (fun r4 S4 hw => ?_)
      refine m_aload_n hc 1 dX9_common_124 rfl rfl ?_
      refine m_iload hc 3 dX9_common_125 rfl ?_
      obtain ⟨ht, hi, hw⟩ := hw
      refine c_iald hc hr ht hi dX9_common_127 ?_
      refine m_iload hc 2 dX9_common_128 rfl ?_
      refine m_imul hc dX9_common_130 ?_
      refine m_aload_n hc 0 dX9_common_131 rfl rfl ?_
      obtain ⟨ht, hw⟩ := hw
      refine c_geti hc hr ciX9 (Nat.le_of_ble_eq_true rfl) 0 (Nat.le_of_ble_eq_true rfl) rfl dX9_common_132 lf_X9_9 ht ?_
      obtain ⟨hq, hw⟩ := hw
      refine m_irem hc dX9_common_135 hq ?_
      obtain ⟨ht, hw⟩ := hw
      refine c_callVv hc hr ciX6 (Nat.le_of_ble_eq_true rfl) ht mt_X6_push rfl lm_X9_69 (ok_X6_push hw) (Nat.le_of_ble_eq_true rfl) dX9_common_136 rfl (rest := []) rfl (Nat.le_of_ble_eq_true rfl) (fun S5 hw => ?_)
      refine m_iinc hc 3 (x8 + (-1)) [(8, .int (x8 + (-1))), (0, .ref x0), (3, .ref x3), (7, .int x7)] dX9_common_139 rfl rfl (Nat.le_of_ble_eq_true rfl) rfl ?_
      refine m_goto hc 108 dX9_common_142 rfl ?_
      refine m_sub [1, 2, 3, 0] rfl ?_
      exact h108 x0 x3 x7 (x8 + (-1)) S5 hw
def w_X9_common_78 (M : Nat × Nat) (K : Option Nat → HS → Prop) (x0 x3 : Nat) (x5 : Int32) (S : HS) : Prop := hT S x0 = 10 ∧ ∃ b1 : Nat, hP S x0 1 = some b1 ∧ hT S b1 = 7 ∧ wp_X6_clear M b1 S (fun r2 S2 => (0 ≤ x5 → hT S2 x3 = 21 ∧ vp_in x5 (hN S2 x3) ∧ hT S2 x0 = 10 ∧ wp_X9_inverse M x0 (hI S2 x3 (Int32.toNatClampNeg x5)) S2 (fun r3 S3 => ∃ nn : Nat, wl_X9_common_108 M K nn x0 x3 r3 x5 S3)) ∧ (¬ (0 ≤ x5) → ∃ nn : Nat, wl_X9_common_108 M K nn x0 x3 0 x5 S2))
set_option maxHeartbeats 4000000 in
set_option maxRecDepth 100000 in
theorem b_X9_common_78 {G : CG} {S0 : HS} {X : Fx} {K : Option Nat → HS → Prop} (hc : Cx X RX9 cX9_common 10) (hr : Cc G S0 3 (some (.object "StraightPolys$Poly")) (kR K) X) : ∀ (x0 x3 : Nat) (x5 : Int32) (S : HS), w_X9_common_78 (gC G, gS G) K x0 x3 x5 S → MC G S0 X 10 S 78 [(0, .ref x0), (3, .ref x3), (5, .int x5)] [] := by
  intro x0 x3 x5 S hw
  unfold w_X9_common_78 at hw
  refine m_aload_n hc 0 dX9_common_78 rfl rfl ?_
  obtain ⟨ht, b1, e_b1, hw⟩ := hw
  refine c_getr hc hr ciX9 (Nat.le_of_ble_eq_true rfl) 1 (Nat.le_of_ble_eq_true rfl) rfl dX9_common_79 lf_X9_20 ht e_b1 ?_
  obtain ⟨ht, hw⟩ := hw
  refine c_callVv hc hr ciX6 (Nat.le_of_ble_eq_true rfl) ht mt_X6_clear rfl lm_X9_57 (ok_X6_clear hw) (Nat.le_of_ble_eq_true rfl) dX9_common_82 rfl (rest := []) rfl (Nat.le_of_ble_eq_true rfl) (fun S2 hw => ?_)
  refine m_iload hc 2 dX9_common_85 rfl ?_
  refine m_if_ge hc 94 dX9_common_87 rfl (fun cq => ?_) (fun cq => ?_)
  · have hw := hw.1 cq
    refine m_aload_n hc 0 dX9_common_94 rfl rfl ?_
    refine m_aload_n hc 1 dX9_common_95 rfl rfl ?_
    refine m_iload hc 2 dX9_common_96 rfl ?_
    obtain ⟨ht, hi, hw⟩ := hw
    refine c_iald hc hr ht hi dX9_common_98 ?_
    obtain ⟨ht, hw⟩ := hw
    refine c_callVi hc hr ciX9 (Nat.le_of_ble_eq_true rfl) ht mt_X9_inverse rfl lm_X9_154 (ok_X9_inverse hw) (Nat.le_of_ble_eq_true rfl) dX9_common_99 rfl (rest := []) rfl (Nat.le_of_ble_eq_true rfl) (fun r3 S3 hw => ?_)
    refine m_istore hc [(7, .int r3), (0, .ref x0), (3, .ref x3), (5, .int x5)] dX9_common_102 (Nat.le_of_ble_eq_true rfl) rfl ?_
    refine m_iload hc 3 dX9_common_104 rfl ?_
    refine m_istore hc [(8, .int x5), (7, .int r3), (0, .ref x0), (3, .ref x3), (5, .int x5)] dX9_common_106 (Nat.le_of_ble_eq_true rfl) rfl ?_
    refine m_sub [2, 3, 1, 0] rfl ?_
    obtain ⟨nn, hw⟩ := hw
    exact l_X9_common_108 hc hr nn x0 x3 r3 x5 S3 hw
  · have hw := hw.2 cq
    refine m_iconst hc 0 dX9_common_90 (by decide) ?_
    refine m_goto hc 102 dX9_common_91 rfl ?_
    refine m_istore hc [(7, .int 0), (0, .ref x0), (3, .ref x3), (5, .int x5)] dX9_common_102 (Nat.le_of_ble_eq_true rfl) rfl ?_
    refine m_iload hc 3 dX9_common_104 rfl ?_
    refine m_istore hc [(8, .int x5), (7, .int 0), (0, .ref x0), (3, .ref x3), (5, .int x5)] dX9_common_106 (Nat.le_of_ble_eq_true rfl) rfl ?_
    refine m_sub [2, 3, 1, 0] rfl ?_
    obtain ⟨nn, hw⟩ := hw
    exact l_X9_common_108 hc hr nn x0 x3 0 x5 S2 hw
def wb_X9_common_29 (M : Nat × Nat) (K29 : Nat → Nat → Nat → Int32 → Int32 → Int32 → HS → Prop) (K : Option Nat → HS → Prop) (x0 x3 x4 : Nat) (x5 x6 x7 : Int32) (S : HS) : Prop := (82 < x7 → w_X9_common_78 M K x0 x3 x5 S) ∧ (¬ (82 < x7) → (x6 < 0 → w_X9_common_78 M K x0 x3 x5 S) ∧ (¬ (x6 < 0) → hT S x0 = 10 ∧ wp_X9_takeRemainder M x0 x3 x5 x4 x6 S (fun r1 S1 => K29 x0 x4 x3 x6 r1 (x7 + 1) S1)))
def wl_X9_common_29 (M : Nat × Nat) (K : Option Nat → HS → Prop) : Nat → Nat → Nat → Nat → Int32 → Int32 → Int32 → HS → Prop
  | 0 => fun _ _ _ _ _ _ _ => False
  | nn + 1 => wb_X9_common_29 M (wl_X9_common_29 M K nn) K
set_option maxHeartbeats 4000000 in
set_option maxRecDepth 100000 in
theorem l_X9_common_29 {G : CG} {S0 : HS} {X : Fx} {K : Option Nat → HS → Prop} (hc : Cx X RX9 cX9_common 10) (hr : Cc G S0 3 (some (.object "StraightPolys$Poly")) (kR K) X) : ∀ (nn : Nat) (x0 x3 x4 : Nat) (x5 x6 x7 : Int32) (S : HS), wl_X9_common_29 (gC G, gS G) K nn x0 x3 x4 x5 x6 x7 S → MC G S0 X 10 S 29 [(0, .ref x0), (3, .ref x3), (4, .ref x4), (5, .int x5), (6, .int x6), (7, .int x7)] [] := by
  intro nn
  induction nn with
  | zero => intro x0 x3 x4 x5 x6 x7 S hw; exact False.elim hw
  | succ nn ih =>
    intro x0 x3 x4 x5 x6 x7 S hw
    have hw : wb_X9_common_29 (gC G, gS G) (wl_X9_common_29 (gC G, gS G) K nn) K x0 x3 x4 x5 x6 x7 S := hw
    have h29 := ih
    generalize wl_X9_common_29 (gC G, gS G) K nn = K29 at hw h29
    unfold wb_X9_common_29 at hw
    refine m_iload hc 5 dX9_common_29 rfl ?_
    refine m_bipush hc 82 dX9_common_31 (by decide) ?_
    refine m_icmp_gt hc 78 dX9_common_33 rfl (fun cq => ?_) (fun cq => ?_)
    · have hw := hw.1 cq
      refine m_sub [0, 1, 3] rfl ?_
      exact b_X9_common_78 hc hr x0 x3 x5 S hw
    · have hw := hw.2 cq
      refine m_iload hc 4 dX9_common_36 rfl ?_
      refine m_if_lt hc 78 dX9_common_38 rfl (fun cq => ?_) (fun cq => ?_)
      · have hw := hw.1 cq
        refine m_sub [0, 1, 3] rfl ?_
        exact b_X9_common_78 hc hr x0 x3 x5 S hw
      · have hw := hw.2 cq
        refine m_aload_n hc 0 dX9_common_41 rfl rfl ?_
        refine m_aload_n hc 1 dX9_common_42 rfl rfl ?_
        refine m_iload hc 3 dX9_common_43 rfl ?_
        refine m_aload hc 2 dX9_common_45 rfl ?_
        refine m_iload hc 4 dX9_common_47 rfl ?_
        obtain ⟨ht, hw⟩ := hw
        refine c_callVi hc hr ciX9 (Nat.le_of_ble_eq_true rfl) ht mt_X9_takeRemainder rfl lm_X9_150 (ok_X9_takeRemainder hw) (Nat.le_of_ble_eq_true rfl) dX9_common_49 rfl (rest := []) rfl (Nat.le_of_ble_eq_true rfl) (fun r1 S1 hw => ?_)
        refine m_istore hc [(8, .int r1), (0, .ref x0), (3, .ref x3), (4, .ref x4), (5, .int x5), (6, .int x6), (7, .int x7)] dX9_common_52 (Nat.le_of_ble_eq_true rfl) rfl ?_
        refine m_aload_n hc 2 dX9_common_54 rfl rfl ?_
        refine m_astore hc [(9, .ref x3), (8, .int r1), (0, .ref x0), (3, .ref x3), (4, .ref x4), (5, .int x5), (6, .int x6), (7, .int x7)] dX9_common_55 (Nat.le_of_ble_eq_true rfl) rfl ?_
        refine m_aload hc 4 dX9_common_57 rfl ?_
        refine m_astore_n hc [(3, .ref x4), (9, .ref x3), (8, .int r1), (0, .ref x0), (4, .ref x4), (5, .int x5), (6, .int x6), (7, .int x7)] dX9_common_59 rfl (Nat.le_of_ble_eq_true rfl) rfl ?_
        refine m_aload hc 1 dX9_common_60 rfl ?_
        refine m_astore hc [(4, .ref x3), (3, .ref x4), (9, .ref x3), (8, .int r1), (0, .ref x0), (5, .int x5), (6, .int x6), (7, .int x7)] dX9_common_62 (Nat.le_of_ble_eq_true rfl) rfl ?_
        refine m_iload hc 6 dX9_common_64 rfl ?_
        refine m_istore hc [(5, .int x6), (4, .ref x3), (3, .ref x4), (9, .ref x3), (8, .int r1), (0, .ref x0), (6, .int x6), (7, .int x7)] dX9_common_66 (Nat.le_of_ble_eq_true rfl) rfl ?_
        refine m_iload hc 4 dX9_common_68 rfl ?_
        refine m_istore hc [(6, .int r1), (5, .int x6), (4, .ref x3), (3, .ref x4), (9, .ref x3), (8, .int r1), (0, .ref x0), (7, .int x7)] dX9_common_70 (Nat.le_of_ble_eq_true rfl) rfl ?_
        refine m_iinc hc 7 (x7 + 1) [(7, .int (x7 + 1)), (6, .int r1), (5, .int x6), (4, .ref x3), (3, .ref x4), (9, .ref x3), (8, .int r1), (0, .ref x0)] dX9_common_72 rfl rfl (Nat.le_of_ble_eq_true rfl) rfl ?_
        refine m_goto hc 29 dX9_common_75 rfl ?_
        refine m_sub [7, 4, 3, 2, 1, 0] rfl ?_
        exact h29 x0 x4 x3 x6 r1 (x7 + 1) S1 hw
def wp_X9_common (M : Nat × Nat) (x0 x1 x2 : Nat) (S : HS) (K : Option Nat → HS → Prop) : Prop := hT S x0 = 10 ∧ ∃ b1 : Nat, hP S x0 7 = some b1 ∧ hT S x0 = 10 ∧ ∃ b2 : Nat, hP S x0 8 = some b2 ∧ wp_X9_layOut M x1 b1 S (fun r3 S3 => wp_X9_layOut M x2 b2 S3 (fun r4 S4 => ∃ nn : Nat, wl_X9_common_29 M K nn x0 b1 b2 r3 r4 0 S4))
set_option maxHeartbeats 4000000 in
set_option maxRecDepth 100000 in
theorem ok_X9_common {G : CG} {x0 : Nat} {x1 : Nat} {x2 : Nat} {S : HS} {K : Option Nat → HS → Prop} (hw : wp_X9_common (gC G, gS G) x0 x1 x2 S K) : CC 3 yX9_common cX9_common 10 (some (.object "StraightPolys$Poly")) [.ref x0, .ref x1, .ref x2] G S (kR K) := by
  refine CC.of (by decide +kernel) (Nat.le_of_ble_eq_true rfl) (fun X hc hr hname => ?_)
  show MC G S X 10 S 0 [(0, .ref x0), (1, .ref x1), (2, .ref x2)] []
  unfold wp_X9_common at hw
  refine m_aload_n hc 0 dX9_common_0 rfl rfl ?_
  obtain ⟨ht, b1, e_b1, hw⟩ := hw
  refine c_getr hc hr ciX9 (Nat.le_of_ble_eq_true rfl) 7 (Nat.le_of_ble_eq_true rfl) rfl dX9_common_1 lf_X9_44 ht e_b1 ?_
  refine m_astore_n hc [(3, .ref b1), (0, .ref x0), (1, .ref x1), (2, .ref x2)] dX9_common_4 rfl (Nat.le_of_ble_eq_true rfl) rfl ?_
  refine m_aload_n hc 1 dX9_common_5 rfl rfl ?_
  obtain ⟨ht, b2, e_b2, hw⟩ := hw
  refine c_getr hc hr ciX9 (Nat.le_of_ble_eq_true rfl) 8 (Nat.le_of_ble_eq_true rfl) rfl dX9_common_6 lf_X9_47 ht e_b2 ?_
  refine m_astore hc [(4, .ref b2), (3, .ref b1), (0, .ref x0), (1, .ref x1), (2, .ref x2)] dX9_common_9 (Nat.le_of_ble_eq_true rfl) rfl ?_
  refine m_aload_n hc 3 dX9_common_11 rfl rfl ?_
  refine m_aload_n hc 1 dX9_common_12 rfl rfl ?_
  refine c_callSi hc hr mt_X9_layOut lm_X9_146 (ok_X9_layOut hw) (Nat.le_of_ble_eq_true rfl) dX9_common_13 rfl (rest := []) rfl (Nat.le_of_ble_eq_true rfl) (fun r3 S3 hw => ?_)
  refine m_istore hc [(5, .int r3), (4, .ref b2), (3, .ref b1), (0, .ref x0), (1, .ref x1), (2, .ref x2)] dX9_common_16 (Nat.le_of_ble_eq_true rfl) rfl ?_
  refine m_aload_n hc 5 dX9_common_18 rfl rfl ?_
  refine m_aload hc 1 dX9_common_19 rfl ?_
  refine c_callSi hc hr mt_X9_layOut lm_X9_146 (ok_X9_layOut hw) (Nat.le_of_ble_eq_true rfl) dX9_common_21 rfl (rest := []) rfl (Nat.le_of_ble_eq_true rfl) (fun r4 S4 hw => ?_)
  refine m_istore hc [(6, .int r4), (5, .int r3), (4, .ref b2), (3, .ref b1), (0, .ref x0), (1, .ref x1), (2, .ref x2)] dX9_common_24 (Nat.le_of_ble_eq_true rfl) rfl ?_
  refine m_iconst hc 0 dX9_common_26 (by decide) ?_
  refine m_istore hc [(7, .int 0), (6, .int r4), (5, .int r3), (4, .ref b2), (3, .ref b1), (0, .ref x0), (1, .ref x1), (2, .ref x2)] dX9_common_27 (Nat.le_of_ble_eq_true rfl) rfl ?_
  refine m_sub [5, 4, 3, 2, 1, 0] rfl ?_
  obtain ⟨nn, hw⟩ := hw
  exact l_X9_common_29 hc hr nn x0 b1 b2 r3 r4 0 S4 hw
def wb_X9_fitTo_23 (M : Nat × Nat) (K14 : Nat → Nat → Int32 → HS → Prop) (K23 : Nat → Nat → Int32 → Int32 → Int32 → HS → Prop) (K : Option Nat → HS → Prop) (x0 x1 : Nat) (x2 x3 x4 : Int32) (S : HS) : Prop := hT S x0 = 10 ∧ ((hI S x0 0) ≤ x4 → hT S x0 = 10 ∧ ∃ b1 : Nat, hP S x0 1 = some b1 ∧ wp_X6_key M x2 0 0 S (fun r2 S2 => hT S2 x0 = 10 ∧ hT S2 x0 = 10 ∧ ¬ (hI S2 x0 0) = 0 ∧ (hT S2 x0 = 10 ∧ ¬ (hI S2 x0 0) = 0 ∧ (hT S2 b1 = 7 ∧ wp_X6_push M b1 r2 (iRem ((hI S2 x0 0) - (iRem x3 (hI S2 x0 0))) (hI S2 x0 0)) S2 (fun r3 S3 => K14 x0 x1 (x2 + (-1)) S3))))) ∧ (¬ ((hI S x0 0) ≤ x4) → hT S x1 = 21 ∧ vp_in x4 (hN S x1) ∧ hT S x0 = 10 ∧ hT S x0 = 10 ∧ wp_X9_raised M x4 (((hI S x0 0) - 1) - x2) (hI S x0 0) S (fun r4 S4 => ∀ v5 : Int32, v5 = (x3 + ((hI S x1 (Int32.toNatClampNeg x4)) * r4)) → K23 x0 x1 x2 v5 (x4 + 1) S4))
def wl_X9_fitTo_23 (M : Nat × Nat) (K14 : Nat → Nat → Int32 → HS → Prop) (K : Option Nat → HS → Prop) : Nat → Nat → Nat → Int32 → Int32 → Int32 → HS → Prop
  | 0 => fun _ _ _ _ _ _ => False
  | nn + 1 => wb_X9_fitTo_23 M K14 (wl_X9_fitTo_23 M K14 K nn) K
set_option maxHeartbeats 4000000 in
set_option maxRecDepth 100000 in
theorem l_X9_fitTo_23 {G : CG} {S0 : HS} {X : Fx} {K : Option Nat → HS → Prop} (hc : Cx X RX9 cX9_fitTo 5) (hr : Cc G S0 3 (some (.object "StraightPolys$Poly")) (kR K) X) (K14 : Nat → Nat → Int32 → HS → Prop) (h14 : ∀ (x0 x1 : Nat) (x2 : Int32) (S : HS), K14 x0 x1 x2 S → MC G S0 X 5 S 14 [(0, .ref x0), (1, .ref x1), (2, .int x2)] []) : ∀ (nn : Nat) (x0 x1 : Nat) (x2 x3 x4 : Int32) (S : HS), wl_X9_fitTo_23 (gC G, gS G) K14 K nn x0 x1 x2 x3 x4 S → MC G S0 X 5 S 23 [(0, .ref x0), (1, .ref x1), (2, .int x2), (3, .int x3), (4, .int x4)] [] := by
  intro nn
  induction nn with
  | zero => intro x0 x1 x2 x3 x4 S hw; exact False.elim hw
  | succ nn ih =>
    intro x0 x1 x2 x3 x4 S hw
    have hw : wb_X9_fitTo_23 (gC G, gS G) K14 (wl_X9_fitTo_23 (gC G, gS G) K14 K nn) K x0 x1 x2 x3 x4 S := hw
    have h23 := ih
    generalize wl_X9_fitTo_23 (gC G, gS G) K14 K nn = K23 at hw h23
    unfold wb_X9_fitTo_23 at hw
    refine m_iload hc 4 dX9_fitTo_23 rfl ?_
    refine m_aload_n hc 0 dX9_fitTo_25 rfl rfl ?_
    obtain ⟨ht, hw⟩ := hw
    refine c_geti hc hr ciX9 (Nat.le_of_ble_eq_true rfl) 0 (Nat.le_of_ble_eq_true rfl) rfl dX9_fitTo_26 lf_X9_9 ht ?_
    refine m_icmp_ge hc 63 dX9_fitTo_29 rfl (fun cq => ?_) (fun cq => ?_)
    · have hw := hw.1 cq
      refine m_aload_n hc 0 dX9_fitTo_63 rfl rfl ?_
      obtain ⟨ht, b1, e_b1, hw⟩ := hw
      refine c_getr hc hr ciX9 (Nat.le_of_ble_eq_true rfl) 1 (Nat.le_of_ble_eq_true rfl) rfl dX9_fitTo_64 lf_X9_20 ht e_b1 ?_
      refine m_iload_n hc 2 dX9_fitTo_67 rfl rfl ?_
      refine m_iconst hc 0 dX9_fitTo_68 (by decide) ?_
      refine m_iconst hc 0 dX9_fitTo_69 (by decide) ?_
      refine c_callSi hc hr mt_X6_key lm_X9_157 (ok_X6_key hw) (Nat.le_of_ble_eq_true rfl) dX9_fitTo_70 rfl (rest := [.ref b1]) rfl (Nat.le_of_ble_eq_true rfl) (fun r2 S2 hw => ?_)
      refine m_aload_n hc 0 dX9_fitTo_73 rfl rfl ?_
      obtain ⟨ht, hw⟩ := hw
      refine c_geti hc hr ciX9 (Nat.le_of_ble_eq_true rfl) 0 (Nat.le_of_ble_eq_true rfl) rfl dX9_fitTo_74 lf_X9_9 ht ?_
      refine m_iload_n hc 3 dX9_fitTo_77 rfl rfl ?_
      refine m_aload_n hc 0 dX9_fitTo_78 rfl rfl ?_
      obtain ⟨ht, hw⟩ := hw
      refine c_geti hc hr ciX9 (Nat.le_of_ble_eq_true rfl) 0 (Nat.le_of_ble_eq_true rfl) rfl dX9_fitTo_79 lf_X9_9 ht ?_
      obtain ⟨hq, hw⟩ := hw
      refine m_irem hc dX9_fitTo_82 hq ?_
      refine m_isub hc dX9_fitTo_83 ?_
      refine m_aload_n hc 0 dX9_fitTo_84 rfl rfl ?_
      obtain ⟨ht, hw⟩ := hw
      refine c_geti hc hr ciX9 (Nat.le_of_ble_eq_true rfl) 0 (Nat.le_of_ble_eq_true rfl) rfl dX9_fitTo_85 lf_X9_9 ht ?_
      obtain ⟨hq, hw⟩ := hw
      refine m_irem hc dX9_fitTo_88 hq ?_
      obtain ⟨ht, hw⟩ := hw
      refine c_callVv hc hr ciX6 (Nat.le_of_ble_eq_true rfl) ht mt_X6_push rfl lm_X9_69 (ok_X6_push hw) (Nat.le_of_ble_eq_true rfl) dX9_fitTo_89 rfl (rest := []) rfl (Nat.le_of_ble_eq_true rfl) (fun S3 hw => ?_)
      refine m_iinc hc 2 (x2 + (-1)) [(2, .int (x2 + (-1))), (0, .ref x0), (1, .ref x1), (3, .int x3), (4, .int x4)] dX9_fitTo_92 rfl rfl (Nat.le_of_ble_eq_true rfl) rfl ?_
      refine m_goto hc 14 dX9_fitTo_95 rfl ?_
      refine m_sub [1, 2, 0] rfl ?_
      exact h14 x0 x1 (x2 + (-1)) S3 hw
    · have hw := hw.2 cq
      refine m_iload_n hc 3 dX9_fitTo_32 rfl rfl ?_
      refine m_aload_n hc 1 dX9_fitTo_33 rfl rfl ?_
      refine m_iload hc 4 dX9_fitTo_34 rfl ?_
      obtain ⟨ht, hi, hw⟩ := hw
      refine c_iald hc hr ht hi dX9_fitTo_36 ?_
      refine m_iload hc 4 dX9_fitTo_37 rfl ?_
      refine m_aload_n hc 0 dX9_fitTo_39 rfl rfl ?_
      obtain ⟨ht, hw⟩ := hw
      refine c_geti hc hr ciX9 (Nat.le_of_ble_eq_true rfl) 0 (Nat.le_of_ble_eq_true rfl) rfl dX9_fitTo_40 lf_X9_9 ht ?_
      refine m_iconst hc 1 dX9_fitTo_43 (by decide) ?_
      refine m_isub hc dX9_fitTo_44 ?_
      refine m_iload_n hc 2 dX9_fitTo_45 rfl rfl ?_
      refine m_isub hc dX9_fitTo_46 ?_
      refine m_aload_n hc 0 dX9_fitTo_47 rfl rfl ?_
      obtain ⟨ht, hw⟩ := hw
      refine c_geti hc hr ciX9 (Nat.le_of_ble_eq_true rfl) 0 (Nat.le_of_ble_eq_true rfl) rfl dX9_fitTo_48 lf_X9_9 ht ?_
      refine c_callSi hc hr mt_X9_raised lm_X9_167 (ok_X9_raised hw) (Nat.le_of_ble_eq_true rfl) dX9_fitTo_51 rfl (rest := [.int (hI S x1 (Int32.toNatClampNeg x4)), .int x3]) rfl (Nat.le_of_ble_eq_true rfl) (fun r4 S4 hw => ?_)
      refine m_imul hc dX9_fitTo_54 ?_
      refine m_iadd hc dX9_fitTo_55 ?_
      refine m_topi (fun v5 e_v5 => ?_)
      have hw := hw v5 e_v5
      refine m_istore_n hc [(3, .int v5), (0, .ref x0), (1, .ref x1), (2, .int x2), (4, .int x4)] dX9_fitTo_56 rfl (Nat.le_of_ble_eq_true rfl) rfl ?_
      refine m_iinc hc 4 (x4 + 1) [(4, .int (x4 + 1)), (3, .int v5), (0, .ref x0), (1, .ref x1), (2, .int x2)] dX9_fitTo_57 rfl rfl (Nat.le_of_ble_eq_true rfl) rfl ?_
      refine m_goto hc 23 dX9_fitTo_60 rfl ?_
      refine m_sub [2, 3, 4, 1, 0] rfl ?_
      exact h23 x0 x1 x2 v5 (x4 + 1) S4 hw
def wb_X9_fitTo_14 (M : Nat × Nat) (K14 : Nat → Nat → Int32 → HS → Prop) (K : Option Nat → HS → Prop) (x0 x1 : Nat) (x2 : Int32) (S : HS) : Prop := (x2 ≤ 0 → hT S x0 = 10 ∧ ∃ b1 : Nat, hP S x0 1 = some b1 ∧ hT S x1 = 21 ∧ vp_in 0 (hN S x1) ∧ hT S b1 = 7 ∧ wp_X6_push M b1 0 (hI S x1 (Int32.toNatClampNeg 0)) S (fun r2 S2 => hT S2 x0 = 10 ∧ ∃ b3 : Nat, hP S2 x0 1 = some b3 ∧ hT S2 b3 = 7 ∧ wp_X6_kept M b3 S2 (fun r4 S4 => K r4 S4))) ∧ (¬ (x2 ≤ 0) → ∃ nn : Nat, wl_X9_fitTo_23 M K14 K nn x0 x1 x2 0 0 S)
def wl_X9_fitTo_14 (M : Nat × Nat) (K : Option Nat → HS → Prop) : Nat → Nat → Nat → Int32 → HS → Prop
  | 0 => fun _ _ _ _ => False
  | nn + 1 => wb_X9_fitTo_14 M (wl_X9_fitTo_14 M K nn) K
set_option maxHeartbeats 4000000 in
set_option maxRecDepth 100000 in
theorem l_X9_fitTo_14 {G : CG} {S0 : HS} {X : Fx} {K : Option Nat → HS → Prop} (hc : Cx X RX9 cX9_fitTo 5) (hr : Cc G S0 3 (some (.object "StraightPolys$Poly")) (kR K) X) : ∀ (nn : Nat) (x0 x1 : Nat) (x2 : Int32) (S : HS), wl_X9_fitTo_14 (gC G, gS G) K nn x0 x1 x2 S → MC G S0 X 5 S 14 [(0, .ref x0), (1, .ref x1), (2, .int x2)] [] := by
  intro nn
  induction nn with
  | zero => intro x0 x1 x2 S hw; exact False.elim hw
  | succ nn ih =>
    intro x0 x1 x2 S hw
    have hw : wb_X9_fitTo_14 (gC G, gS G) (wl_X9_fitTo_14 (gC G, gS G) K nn) K x0 x1 x2 S := hw
    have h14 := ih
    generalize wl_X9_fitTo_14 (gC G, gS G) K nn = K14 at hw h14
    unfold wb_X9_fitTo_14 at hw
    refine m_iload_n hc 2 dX9_fitTo_14 rfl rfl ?_
    refine m_if_le hc 98 dX9_fitTo_15 rfl (fun cq => ?_) (fun cq => ?_)
    · have hw := hw.1 cq
      refine m_aload_n hc 0 dX9_fitTo_98 rfl rfl ?_
      obtain ⟨ht, b1, e_b1, hw⟩ := hw
      refine c_getr hc hr ciX9 (Nat.le_of_ble_eq_true rfl) 1 (Nat.le_of_ble_eq_true rfl) rfl dX9_fitTo_99 lf_X9_20 ht e_b1 ?_
      refine m_iconst hc 0 dX9_fitTo_102 (by decide) ?_
      refine m_aload_n hc 1 dX9_fitTo_103 rfl rfl ?_
      refine m_iconst hc 0 dX9_fitTo_104 (by decide) ?_
      obtain ⟨ht, hi, hw⟩ := hw
      refine c_iald hc hr ht hi dX9_fitTo_105 ?_
      obtain ⟨ht, hw⟩ := hw
      refine c_callVv hc hr ciX6 (Nat.le_of_ble_eq_true rfl) ht mt_X6_push rfl lm_X9_69 (ok_X6_push hw) (Nat.le_of_ble_eq_true rfl) dX9_fitTo_106 rfl (rest := []) rfl (Nat.le_of_ble_eq_true rfl) (fun S2 hw => ?_)
      refine m_aload_n hc 0 dX9_fitTo_109 rfl rfl ?_
      obtain ⟨ht, b3, e_b3, hw⟩ := hw
      refine c_getr hc hr ciX9 (Nat.le_of_ble_eq_true rfl) 1 (Nat.le_of_ble_eq_true rfl) rfl dX9_fitTo_110 lf_X9_20 ht e_b3 ?_
      obtain ⟨ht, hw⟩ := hw
      refine c_callVq hc hr ciX6 (Nat.le_of_ble_eq_true rfl) ht mt_X6_kept rfl lm_X9_73 (ok_X6_kept hw) (Nat.le_of_ble_eq_true rfl) dX9_fitTo_113 rfl (rest := []) rfl (Nat.le_of_ble_eq_true rfl) (fun r4 S4 hw => ?_)
      skip
      exact c_aret hc hr (r := r4) dX9_fitTo_116 hw
    · have hw := hw.2 cq
      refine m_iconst hc 0 dX9_fitTo_18 (by decide) ?_
      refine m_istore_n hc [(3, .int 0), (0, .ref x0), (1, .ref x1), (2, .int x2)] dX9_fitTo_19 rfl (Nat.le_of_ble_eq_true rfl) rfl ?_
      refine m_iconst hc 0 dX9_fitTo_20 (by decide) ?_
      refine m_istore hc [(4, .int 0), (3, .int 0), (0, .ref x0), (1, .ref x1), (2, .int x2)] dX9_fitTo_21 (Nat.le_of_ble_eq_true rfl) rfl ?_
      refine m_sub [2, 3, 4, 1, 0] rfl ?_
      obtain ⟨nn, hw⟩ := hw
      exact l_X9_fitTo_23 hc hr K14 h14 nn x0 x1 x2 0 0 S hw
def wp_X9_fitTo (M : Nat × Nat) (x0 x1 : Nat) (S : HS) (K : Option Nat → HS → Prop) : Prop := hT S x0 = 10 ∧ ∃ b1 : Nat, hP S x0 1 = some b1 ∧ hT S b1 = 7 ∧ wp_X6_clear M b1 S (fun r2 S2 => hT S2 x0 = 10 ∧ ∃ nn : Nat, wl_X9_fitTo_14 M K nn x0 x1 ((hI S2 x0 0) - 1) S2)
set_option maxHeartbeats 4000000 in
set_option maxRecDepth 100000 in
theorem ok_X9_fitTo {G : CG} {x0 : Nat} {x1 : Nat} {S : HS} {K : Option Nat → HS → Prop} (hw : wp_X9_fitTo (gC G, gS G) x0 x1 S K) : CC 3 yX9_fitTo cX9_fitTo 5 (some (.object "StraightPolys$Poly")) [.ref x0, .ref x1] G S (kR K) := by
  refine CC.of (by decide +kernel) (Nat.le_of_ble_eq_true rfl) (fun X hc hr hname => ?_)
  show MC G S X 5 S 0 [(0, .ref x0), (1, .ref x1)] []
  unfold wp_X9_fitTo at hw
  refine m_aload_n hc 0 dX9_fitTo_0 rfl rfl ?_
  obtain ⟨ht, b1, e_b1, hw⟩ := hw
  refine c_getr hc hr ciX9 (Nat.le_of_ble_eq_true rfl) 1 (Nat.le_of_ble_eq_true rfl) rfl dX9_fitTo_1 lf_X9_20 ht e_b1 ?_
  obtain ⟨ht, hw⟩ := hw
  refine c_callVv hc hr ciX6 (Nat.le_of_ble_eq_true rfl) ht mt_X6_clear rfl lm_X9_57 (ok_X6_clear hw) (Nat.le_of_ble_eq_true rfl) dX9_fitTo_4 rfl (rest := []) rfl (Nat.le_of_ble_eq_true rfl) (fun S2 hw => ?_)
  refine m_aload_n hc 0 dX9_fitTo_7 rfl rfl ?_
  obtain ⟨ht, hw⟩ := hw
  refine c_geti hc hr ciX9 (Nat.le_of_ble_eq_true rfl) 0 (Nat.le_of_ble_eq_true rfl) rfl dX9_fitTo_8 lf_X9_9 ht ?_
  refine m_iconst hc 1 dX9_fitTo_11 (by decide) ?_
  refine m_isub hc dX9_fitTo_12 ?_
  refine m_istore_n hc [(2, .int ((hI S2 x0 0) - 1)), (0, .ref x0), (1, .ref x1)] dX9_fitTo_13 rfl (Nat.le_of_ble_eq_true rfl) rfl ?_
  refine m_sub [1, 2, 0] rfl ?_
  obtain ⟨nn, hw⟩ := hw
  exact l_X9_fitTo_14 hc hr nn x0 x1 ((hI S2 x0 0) - 1) S2 hw
def wb_X9_findPowers_9 (M : Nat × Nat) (K9 : Nat → Int32 → Int32 → Int32 → HS → Prop) (K : Int32 → HS → Prop) (x0 : Nat) (x1 x2 x3 : Int32) (S : HS) : Prop := (40 < x3 → K 0 S) ∧ (¬ (40 < x3) → hT S x0 = 10 ∧ ∃ b1 : Nat, hP S x0 6 = some b1 ∧ hT S x0 = 10 ∧ ∃ b2 : Nat, hP S x0 6 = some b2 ∧ hT S b2 = 21 ∧ vp_in ((x2 + x3) - 1) (hN S b2) ∧ hT S x0 = 10 ∧ ¬ (hI S x0 0) = 0 ∧ (hT S b1 = 21 ∧ vp_in (x2 + x3) (hN S b1) ∧ K9 x0 x1 x2 (x3 + 1) (sI S b1 (Int32.toNatClampNeg (x2 + x3)) (iRem ((hI S b2 (Int32.toNatClampNeg ((x2 + x3) - 1))) * x1) (hI S x0 0)))))
def wl_X9_findPowers_9 (M : Nat × Nat) (K : Int32 → HS → Prop) : Nat → Nat → Int32 → Int32 → Int32 → HS → Prop
  | 0 => fun _ _ _ _ _ => False
  | nn + 1 => wb_X9_findPowers_9 M (wl_X9_findPowers_9 M K nn) K
set_option maxHeartbeats 4000000 in
set_option maxRecDepth 100000 in
theorem l_X9_findPowers_9 {G : CG} {S0 : HS} {X : Fx} {K : Int32 → HS → Prop} (hc : Cx X RX9 cX9_findPowers 4) (hr : Cc G S0 0 none (kV K) X) : ∀ (nn : Nat) (x0 : Nat) (x1 x2 x3 : Int32) (S : HS), wl_X9_findPowers_9 (gC G, gS G) K nn x0 x1 x2 x3 S → MC G S0 X 4 S 9 [(0, .ref x0), (1, .int x1), (2, .int x2), (3, .int x3)] [] := by
  intro nn
  induction nn with
  | zero => intro x0 x1 x2 x3 S hw; exact False.elim hw
  | succ nn ih =>
    intro x0 x1 x2 x3 S hw
    have hw : wb_X9_findPowers_9 (gC G, gS G) (wl_X9_findPowers_9 (gC G, gS G) K nn) K x0 x1 x2 x3 S := hw
    have h9 := ih
    generalize wl_X9_findPowers_9 (gC G, gS G) K nn = K9 at hw h9
    unfold wb_X9_findPowers_9 at hw
    refine m_iload_n hc 3 dX9_findPowers_9 rfl rfl ?_
    refine m_bipush hc 40 dX9_findPowers_10 (by decide) ?_
    refine m_icmp_gt hc 46 dX9_findPowers_12 rfl (fun cq => ?_) (fun cq => ?_)
    · have hw := hw.1 cq
      exact c_vret hc hr dX9_findPowers_46 hw
    · have hw := hw.2 cq
      refine m_aload_n hc 0 dX9_findPowers_15 rfl rfl ?_
      obtain ⟨ht, b1, e_b1, hw⟩ := hw
      refine c_getr hc hr ciX9 (Nat.le_of_ble_eq_true rfl) 6 (Nat.le_of_ble_eq_true rfl) rfl dX9_findPowers_16 lf_X9_41 ht e_b1 ?_
      refine m_iload_n hc 2 dX9_findPowers_19 rfl rfl ?_
      refine m_iload_n hc 3 dX9_findPowers_20 rfl rfl ?_
      refine m_iadd hc dX9_findPowers_21 ?_
      refine m_aload_n hc 0 dX9_findPowers_22 rfl rfl ?_
      obtain ⟨ht, b2, e_b2, hw⟩ := hw
      refine c_getr hc hr ciX9 (Nat.le_of_ble_eq_true rfl) 6 (Nat.le_of_ble_eq_true rfl) rfl dX9_findPowers_23 lf_X9_41 ht e_b2 ?_
      refine m_iload_n hc 2 dX9_findPowers_26 rfl rfl ?_
      refine m_iload_n hc 3 dX9_findPowers_27 rfl rfl ?_
      refine m_iadd hc dX9_findPowers_28 ?_
      refine m_iconst hc 1 dX9_findPowers_29 (by decide) ?_
      refine m_isub hc dX9_findPowers_30 ?_
      obtain ⟨ht, hi, hw⟩ := hw
      refine c_iald hc hr ht hi dX9_findPowers_31 ?_
      refine m_iload_n hc 1 dX9_findPowers_32 rfl rfl ?_
      refine m_imul hc dX9_findPowers_33 ?_
      refine m_aload_n hc 0 dX9_findPowers_34 rfl rfl ?_
      obtain ⟨ht, hw⟩ := hw
      refine c_geti hc hr ciX9 (Nat.le_of_ble_eq_true rfl) 0 (Nat.le_of_ble_eq_true rfl) rfl dX9_findPowers_35 lf_X9_9 ht ?_
      obtain ⟨hq, hw⟩ := hw
      refine m_irem hc dX9_findPowers_38 hq ?_
      obtain ⟨ht, hi, hw⟩ := hw
      refine c_iast hc hr ht hi dX9_findPowers_39 ?_
      refine m_iinc hc 3 (x3 + 1) [(3, .int (x3 + 1)), (0, .ref x0), (1, .int x1), (2, .int x2)] dX9_findPowers_40 rfl rfl (Nat.le_of_ble_eq_true rfl) rfl ?_
      refine m_goto hc 9 dX9_findPowers_43 rfl ?_
      refine m_sub [1, 2, 3, 0] rfl ?_
      exact h9 x0 x1 x2 (x3 + 1) (sI S b1 (Int32.toNatClampNeg (x2 + x3)) (iRem ((hI S b2 (Int32.toNatClampNeg ((x2 + x3) - 1))) * x1) (hI S x0 0))) hw
def wp_X9_findPowers (M : Nat × Nat) (x0 : Nat) (x1 x2 : Int32) (S : HS) (K : Int32 → HS → Prop) : Prop := hT S x0 = 10 ∧ ∃ b1 : Nat, hP S x0 6 = some b1 ∧ hT S b1 = 21 ∧ vp_in x2 (hN S b1) ∧ ∃ nn : Nat, wl_X9_findPowers_9 M K nn x0 x1 x2 1 (sI S b1 (Int32.toNatClampNeg x2) 1)
set_option maxHeartbeats 4000000 in
set_option maxRecDepth 100000 in
theorem ok_X9_findPowers {G : CG} {x0 : Nat} {x1 : Int32} {x2 : Int32} {S : HS} {K : Int32 → HS → Prop} (hw : wp_X9_findPowers (gC G, gS G) x0 x1 x2 S K) : CC 0 yX9_findPowers cX9_findPowers 4 none [.ref x0, .int x1, .int x2] G S (kV K) := by
  refine CC.of (by decide +kernel) (Nat.le_of_ble_eq_true rfl) (fun X hc hr hname => ?_)
  show MC G S X 4 S 0 [(0, .ref x0), (1, .int x1), (2, .int x2)] []
  unfold wp_X9_findPowers at hw
  refine m_aload_n hc 0 dX9_findPowers_0 rfl rfl ?_
  obtain ⟨ht, b1, e_b1, hw⟩ := hw
  refine c_getr hc hr ciX9 (Nat.le_of_ble_eq_true rfl) 6 (Nat.le_of_ble_eq_true rfl) rfl dX9_findPowers_1 lf_X9_41 ht e_b1 ?_
  refine m_iload_n hc 2 dX9_findPowers_4 rfl rfl ?_
  refine m_iconst hc 1 dX9_findPowers_5 (by decide) ?_
  obtain ⟨ht, hi, hw⟩ := hw
  refine c_iast hc hr ht hi dX9_findPowers_6 ?_
  refine m_iconst hc 1 dX9_findPowers_7 (by decide) ?_
  refine m_istore_n hc [(3, .int 1), (0, .ref x0), (1, .int x1), (2, .int x2)] dX9_findPowers_8 rfl (Nat.le_of_ble_eq_true rfl) rfl ?_
  refine m_sub [1, 2, 3, 0] rfl ?_
  obtain ⟨nn, hw⟩ := hw
  exact l_X9_findPowers_9 hc hr nn x0 x1 x2 1 (sI S b1 (Int32.toNatClampNeg x2) 1) hw
def wb_X9_valueAt_33 (M : Nat × Nat) (K33 : Nat → Nat → Int32 → Int32 → Int32 → HS → Prop) (K : Int32 → HS → Prop) (x0 x1 : Nat) (x5 x6 x7 : Int32) (S : HS) : Prop := hT S x1 = 7 ∧ ((hI S x1 2) ≤ x7 → hT S x0 = 10 ∧ ¬ (hI S x0 0) = 0 ∧ (K (iRem x6 (hI S x0 0)) S)) ∧ (¬ ((hI S x1 2) ≤ x7) → hT S x1 = 7 ∧ ∃ b1 : Nat, hP S x1 0 = some b1 ∧ hT S b1 = 21 ∧ vp_in x7 (hN S b1) ∧ ∀ v2 : Int32, v2 = (hI S b1 (Int32.toNatClampNeg x7)) → hT S x0 = 10 ∧ ∃ b3 : Nat, hP S x0 6 = some b3 ∧ wp_X6_exponent M v2 0 S (fun r4 S4 => hT S4 b3 = 21 ∧ vp_in r4 (hN S4 b3) ∧ ∀ v5 : Int32, v5 = (hI S4 b3 (Int32.toNatClampNeg r4)) → hT S4 x0 = 10 ∧ ∃ b6 : Nat, hP S4 x0 6 = some b6 ∧ wp_X6_exponent M v2 1 S4 (fun r7 S7 => hT S7 b6 = 21 ∧ vp_in (x5 + r7) (hN S7 b6) ∧ ∀ v8 : Int32, v8 = (hI S7 b6 (Int32.toNatClampNeg (x5 + r7))) → hT S7 x0 = 10 ∧ ∃ b9 : Nat, hP S7 x0 6 = some b9 ∧ wp_X6_exponent M v2 2 S7 (fun r10 S10 => hT S10 b9 = 21 ∧ vp_in ((2 * x5) + r10) (hN S10 b9) ∧ ∀ v11 : Int32, v11 = (hI S10 b9 (Int32.toNatClampNeg ((2 * x5) + r10))) → hT S10 x1 = 7 ∧ ∃ b12 : Nat, hP S10 x1 1 = some b12 ∧ hT S10 b12 = 21 ∧ vp_in x7 (hN S10 b12) ∧ ∀ v13 : Int32, v13 = (x6 + ((((hI S10 b12 (Int32.toNatClampNeg x7)) * v5) * v8) * v11)) → K33 x0 x1 x5 v13 (x7 + 1) S10))))
def wl_X9_valueAt_33 (M : Nat × Nat) (K : Int32 → HS → Prop) : Nat → Nat → Nat → Int32 → Int32 → Int32 → HS → Prop
  | 0 => fun _ _ _ _ _ _ => False
  | nn + 1 => wb_X9_valueAt_33 M (wl_X9_valueAt_33 M K nn) K
set_option maxHeartbeats 4000000 in
set_option maxRecDepth 100000 in
theorem l_X9_valueAt_33 {G : CG} {S0 : HS} {X : Fx} {K : Int32 → HS → Prop} (hc : Cx X RX9 cX9_valueAt 12) (hr : Cc G S0 1 (some .int) (kI K) X) : ∀ (nn : Nat) (x0 x1 : Nat) (x5 x6 x7 : Int32) (S : HS), wl_X9_valueAt_33 (gC G, gS G) K nn x0 x1 x5 x6 x7 S → MC G S0 X 12 S 33 [(0, .ref x0), (1, .ref x1), (5, .int x5), (6, .int x6), (7, .int x7)] [] := by
  intro nn
  induction nn with
  | zero => intro x0 x1 x5 x6 x7 S hw; exact False.elim hw
  | succ nn ih =>
    intro x0 x1 x5 x6 x7 S hw
    have hw : wb_X9_valueAt_33 (gC G, gS G) (wl_X9_valueAt_33 (gC G, gS G) K nn) K x0 x1 x5 x6 x7 S := hw
    have h33 := ih
    generalize wl_X9_valueAt_33 (gC G, gS G) K nn = K33 at hw h33
    unfold wb_X9_valueAt_33 at hw
    refine m_iload hc 4 dX9_valueAt_33 rfl ?_
    refine m_aload_n hc 1 dX9_valueAt_35 rfl rfl ?_
    obtain ⟨ht, hw⟩ := hw
    refine c_geti hc hr ciX6 (Nat.le_of_ble_eq_true rfl) 2 (Nat.le_of_ble_eq_true rfl) rfl dX9_valueAt_36 lf_X9_60 ht ?_
    refine m_icmp_ge hc 125 dX9_valueAt_39 rfl (fun cq => ?_) (fun cq => ?_)
    · have hw := hw.1 cq
      refine m_iload hc 3 dX9_valueAt_125 rfl ?_
      refine m_aload_n hc 0 dX9_valueAt_127 rfl rfl ?_
      obtain ⟨ht, hw⟩ := hw
      refine c_geti hc hr ciX9 (Nat.le_of_ble_eq_true rfl) 0 (Nat.le_of_ble_eq_true rfl) rfl dX9_valueAt_128 lf_X9_9 ht ?_
      obtain ⟨hq, hw⟩ := hw
      refine m_irem hc dX9_valueAt_131 hq ?_
      exact c_iret hc hr dX9_valueAt_132 hw
    · have hw := hw.2 cq
      refine m_aload_n hc 1 dX9_valueAt_42 rfl rfl ?_
      obtain ⟨ht, b1, e_b1, hw⟩ := hw
      refine c_getr hc hr ciX6 (Nat.le_of_ble_eq_true rfl) 0 (Nat.le_of_ble_eq_true rfl) rfl dX9_valueAt_43 lf_X9_63 ht e_b1 ?_
      refine m_iload hc 4 dX9_valueAt_46 rfl ?_
      obtain ⟨ht, hi, hw⟩ := hw
      refine c_iald hc hr ht hi dX9_valueAt_48 ?_
      refine m_topi (fun v2 e_v2 => ?_)
      have hw := hw v2 e_v2
      refine m_istore hc [(8, .int v2), (0, .ref x0), (1, .ref x1), (5, .int x5), (6, .int x6), (7, .int x7)] dX9_valueAt_49 (Nat.le_of_ble_eq_true rfl) rfl ?_
      refine m_aload_n hc 1 dX9_valueAt_51 rfl rfl ?_
      obtain ⟨ht, b3, e_b3, hw⟩ := hw
      refine c_getr hc hr ciX9 (Nat.le_of_ble_eq_true rfl) 6 (Nat.le_of_ble_eq_true rfl) rfl dX9_valueAt_52 lf_X9_41 ht e_b3 ?_
      refine m_iload hc 0 dX9_valueAt_55 rfl ?_
      refine m_iconst hc 0 dX9_valueAt_57 (by decide) ?_
      refine c_callSi hc hr mt_X6_exponent lm_X9_111 (ok_X6_exponent hw) (Nat.le_of_ble_eq_true rfl) dX9_valueAt_58 rfl (rest := [.ref b3]) rfl (Nat.le_of_ble_eq_true rfl) (fun r4 S4 hw => ?_)
      obtain ⟨ht, hi, hw⟩ := hw
      refine c_iald hc hr ht hi dX9_valueAt_61 ?_
      refine m_topi (fun v5 e_v5 => ?_)
      have hw := hw v5 e_v5
      refine m_istore hc [(9, .int v5), (8, .int v2), (0, .ref x0), (1, .ref x1), (5, .int x5), (6, .int x6), (7, .int x7)] dX9_valueAt_62 (Nat.le_of_ble_eq_true rfl) rfl ?_
      refine m_aload_n hc 2 dX9_valueAt_64 rfl rfl ?_
      obtain ⟨ht, b6, e_b6, hw⟩ := hw
      refine c_getr hc hr ciX9 (Nat.le_of_ble_eq_true rfl) 6 (Nat.le_of_ble_eq_true rfl) rfl dX9_valueAt_65 lf_X9_41 ht e_b6 ?_
      refine m_iload hc 4 dX9_valueAt_68 rfl ?_
      refine m_iload hc 1 dX9_valueAt_70 rfl ?_
      refine m_iconst hc 1 dX9_valueAt_72 (by decide) ?_
      refine c_callSi hc hr mt_X6_exponent lm_X9_111 (ok_X6_exponent hw) (Nat.le_of_ble_eq_true rfl) dX9_valueAt_73 rfl (rest := [.int x5, .ref b6]) rfl (Nat.le_of_ble_eq_true rfl) (fun r7 S7 hw => ?_)
      refine m_iadd hc dX9_valueAt_76 ?_
      obtain ⟨ht, hi, hw⟩ := hw
      refine c_iald hc hr ht hi dX9_valueAt_77 ?_
      refine m_topi (fun v8 e_v8 => ?_)
      have hw := hw v8 e_v8
      refine m_istore hc [(10, .int v8), (9, .int v5), (8, .int v2), (0, .ref x0), (1, .ref x1), (5, .int x5), (6, .int x6), (7, .int x7)] dX9_valueAt_78 (Nat.le_of_ble_eq_true rfl) rfl ?_
      refine m_aload_n hc 3 dX9_valueAt_80 rfl rfl ?_
      obtain ⟨ht, b9, e_b9, hw⟩ := hw
      refine c_getr hc hr ciX9 (Nat.le_of_ble_eq_true rfl) 6 (Nat.le_of_ble_eq_true rfl) rfl dX9_valueAt_81 lf_X9_41 ht e_b9 ?_
      refine m_iconst hc 2 dX9_valueAt_84 (by decide) ?_
      refine m_iload hc 5 dX9_valueAt_85 rfl ?_
      refine m_imul hc dX9_valueAt_87 ?_
      refine m_iload hc 2 dX9_valueAt_88 rfl ?_
      refine m_iconst hc 2 dX9_valueAt_90 (by decide) ?_
      refine c_callSi hc hr mt_X6_exponent lm_X9_111 (ok_X6_exponent hw) (Nat.le_of_ble_eq_true rfl) dX9_valueAt_91 rfl (rest := [.int (2 * x5), .ref b9]) rfl (Nat.le_of_ble_eq_true rfl) (fun r10 S10 hw => ?_)
      refine m_iadd hc dX9_valueAt_94 ?_
      obtain ⟨ht, hi, hw⟩ := hw
      refine c_iald hc hr ht hi dX9_valueAt_95 ?_
      refine m_topi (fun v11 e_v11 => ?_)
      have hw := hw v11 e_v11
      refine m_istore hc [(11, .int v11), (10, .int v8), (9, .int v5), (8, .int v2), (0, .ref x0), (1, .ref x1), (5, .int x5), (6, .int x6), (7, .int x7)] dX9_valueAt_96 (Nat.le_of_ble_eq_true rfl) rfl ?_
      refine m_iload hc 7 dX9_valueAt_98 rfl ?_
      refine m_aload_n hc 5 dX9_valueAt_100 rfl rfl ?_
      obtain ⟨ht, b12, e_b12, hw⟩ := hw
      refine c_getr hc hr ciX6 (Nat.le_of_ble_eq_true rfl) 1 (Nat.le_of_ble_eq_true rfl) rfl dX9_valueAt_101 lf_X9_66 ht e_b12 ?_
      refine m_iload hc 8 dX9_valueAt_104 rfl ?_
      obtain ⟨ht, hi, hw⟩ := hw
      refine c_iald hc hr ht hi dX9_valueAt_106 ?_
      refine m_iload hc 2 dX9_valueAt_107 rfl ?_
      refine m_imul hc dX9_valueAt_109 ?_
      refine m_iload hc 1 dX9_valueAt_110 rfl ?_
      refine m_imul hc dX9_valueAt_112 ?_
      refine m_iload hc 0 dX9_valueAt_113 rfl ?_
      refine m_imul hc dX9_valueAt_115 ?_
      refine m_iadd hc dX9_valueAt_116 ?_
      refine m_topi (fun v13 e_v13 => ?_)
      have hw := hw v13 e_v13
      refine m_istore hc [(6, .int v13), (11, .int v11), (10, .int v8), (9, .int v5), (8, .int v2), (0, .ref x0), (1, .ref x1), (5, .int x5), (7, .int x7)] dX9_valueAt_117 (Nat.le_of_ble_eq_true rfl) rfl ?_
      refine m_iinc hc 8 (x7 + 1) [(7, .int (x7 + 1)), (6, .int v13), (11, .int v11), (10, .int v8), (9, .int v5), (8, .int v2), (0, .ref x0), (1, .ref x1), (5, .int x5)] dX9_valueAt_119 rfl rfl (Nat.le_of_ble_eq_true rfl) rfl ?_
      refine m_goto hc 33 dX9_valueAt_122 rfl ?_
      refine m_sub [6, 7, 8, 1, 0] rfl ?_
      exact h33 x0 x1 x5 v13 (x7 + 1) S10 hw
def wp_X9_valueAt (M : Nat × Nat) (x0 x1 : Nat) (x2 x3 x4 : Int32) (S : HS) (K : Int32 → HS → Prop) : Prop := hT S x0 = 10 ∧ wp_X9_findPowers M x0 x2 0 S (fun r1 S1 => hT S1 x0 = 10 ∧ wp_X9_findPowers M x0 x3 41 S1 (fun r2 S2 => hT S2 x0 = 10 ∧ wp_X9_findPowers M x0 x4 (2 * 41) S2 (fun r3 S3 => ∃ nn : Nat, wl_X9_valueAt_33 M K nn x0 x1 41 0 0 S3)))
set_option maxHeartbeats 4000000 in
set_option maxRecDepth 100000 in
theorem ok_X9_valueAt {G : CG} {x0 : Nat} {x1 : Nat} {x2 : Int32} {x3 : Int32} {x4 : Int32} {S : HS} {K : Int32 → HS → Prop} (hw : wp_X9_valueAt (gC G, gS G) x0 x1 x2 x3 x4 S K) : CC 1 yX9_valueAt cX9_valueAt 12 (some .int) [.ref x0, .ref x1, .int x2, .int x3, .int x4] G S (kI K) := by
  refine CC.of (by decide +kernel) (Nat.le_of_ble_eq_true rfl) (fun X hc hr hname => ?_)
  show MC G S X 12 S 0 [(0, .ref x0), (1, .ref x1), (2, .int x2), (3, .int x3), (4, .int x4)] []
  unfold wp_X9_valueAt at hw
  refine m_bipush hc 41 dX9_valueAt_0 (by decide) ?_
  refine m_istore hc [(5, .int 41), (0, .ref x0), (1, .ref x1), (2, .int x2), (3, .int x3), (4, .int x4)] dX9_valueAt_2 (Nat.le_of_ble_eq_true rfl) rfl ?_
  refine m_aload_n hc 1 dX9_valueAt_4 rfl rfl ?_
  refine m_iload_n hc 3 dX9_valueAt_5 rfl rfl ?_
  refine m_iconst hc 0 dX9_valueAt_6 (by decide) ?_
  obtain ⟨ht, hw⟩ := hw
  refine c_callVv hc hr ciX9 (Nat.le_of_ble_eq_true rfl) ht mt_X9_findPowers rfl lm_X9_170 (ok_X9_findPowers hw) (Nat.le_of_ble_eq_true rfl) dX9_valueAt_7 rfl (rest := []) rfl (Nat.le_of_ble_eq_true rfl) (fun S1 hw => ?_)
  refine m_aload_n hc 1 dX9_valueAt_10 rfl rfl ?_
  refine m_iload_n hc 4 dX9_valueAt_11 rfl rfl ?_
  refine m_iload hc 0 dX9_valueAt_12 rfl ?_
  obtain ⟨ht, hw⟩ := hw
  refine c_callVv hc hr ciX9 (Nat.le_of_ble_eq_true rfl) ht mt_X9_findPowers rfl lm_X9_170 (ok_X9_findPowers hw) (Nat.le_of_ble_eq_true rfl) dX9_valueAt_14 rfl (rest := []) rfl (Nat.le_of_ble_eq_true rfl) (fun S2 hw => ?_)
  refine m_aload_n hc 1 dX9_valueAt_17 rfl rfl ?_
  refine m_iload hc 5 dX9_valueAt_18 rfl ?_
  refine m_iconst hc 2 dX9_valueAt_20 (by decide) ?_
  refine m_iload hc 0 dX9_valueAt_21 rfl ?_
  refine m_imul hc dX9_valueAt_23 ?_
  obtain ⟨ht, hw⟩ := hw
  refine c_callVv hc hr ciX9 (Nat.le_of_ble_eq_true rfl) ht mt_X9_findPowers rfl lm_X9_170 (ok_X9_findPowers hw) (Nat.le_of_ble_eq_true rfl) dX9_valueAt_24 rfl (rest := []) rfl (Nat.le_of_ble_eq_true rfl) (fun S3 hw => ?_)
  refine m_iconst hc 0 dX9_valueAt_27 (by decide) ?_
  refine m_istore hc [(6, .int 0), (5, .int 41), (0, .ref x0), (1, .ref x1), (2, .int x2), (3, .int x3), (4, .int x4)] dX9_valueAt_28 (Nat.le_of_ble_eq_true rfl) rfl ?_
  refine m_iconst hc 0 dX9_valueAt_30 (by decide) ?_
  refine m_istore hc [(7, .int 0), (6, .int 0), (5, .int 41), (0, .ref x0), (1, .ref x1), (2, .int x2), (3, .int x3), (4, .int x4)] dX9_valueAt_31 (Nat.le_of_ble_eq_true rfl) rfl ?_
  refine m_sub [3, 4, 2, 1, 0] rfl ?_
  obtain ⟨nn, hw⟩ := hw
  exact l_X9_valueAt_33 hc hr nn x0 x1 41 0 0 S3 hw
def wp_X10_init (M : Nat × Nat) (x0 : Nat) (S : HS) (K : Int32 → HS → Prop) : Prop := hT S x0 = 11 ∧ ¬ (5400 : Int32) < 0 ∧ (Int32.toNatClampNeg 5400) ≤ 100000000 ∧ hX (sI S x0 0 0) + 1 ≤ M.1 ∧ hS (sI S x0 0 0) + (Int32.toNatClampNeg 5400) ≤ M.2 ∧ ∀ (b1 : Nat) (S1 : HS), b1 = hX (sI S x0 0 0) → S1 = nO (sI S x0 0 0) 22 (Int32.toNatClampNeg 5400) → hT S1 x0 = 11 ∧ K 0 (sP S1 x0 1 (some b1))
set_option maxHeartbeats 4000000 in
set_option maxRecDepth 100000 in
theorem ok_X10_init {G : CG} {x0 : Nat} {S : HS} {K : Int32 → HS → Prop} (hw : wp_X10_init (gC G, gS G) x0 S K) : CC 1 yX10_init cX10_init 1 none [.ref x0] G S (kV K) := by
  refine CC.of (by decide +kernel) (Nat.le_of_ble_eq_true rfl) (fun X hc hr hname => ?_)
  have hnm : Ci X := hname
  show MC G S X 1 S 0 [(0, .ref x0)] []
  unfold wp_X10_init at hw
  refine m_aload_n hc 0 dX10_init_0 rfl rfl ?_
  refine c_bnd (fun g1 g2 => ?_)
  refine q_objinit hc dX10_init_1 lm_X10_3 lObj (c_room hr g1 g2) (Nat.le_of_ble_eq_true rfl) ?_
  refine m_aload_n hc 0 dX10_init_4 rfl rfl ?_
  refine m_iconst hc 0 dX10_init_5 (by decide) ?_
  obtain ⟨ht, hw⟩ := hw
  refine c_puti hc hr ciX10 (Nat.le_of_ble_eq_true rfl) 0 (Nat.le_of_ble_eq_true rfl) rfl dX10_init_6 lf_X10_9 ht (Or.inl rfl) ⟨rfl, rfl⟩ ?_
  refine m_aload_n hc 0 dX10_init_9 rfl rfl ?_
  refine m_sipush hc 5400 dX10_init_10 (by decide) ?_
  obtain ⟨hn0, hn1, hm, hm2, hw⟩ := hw
  refine n_newb hc hr dX10_init_13 laB hn0 hn1 hm hm2 (fun b1 S1 e_b1 e_S1 => ?_)
  have hw := hw b1 S1 e_b1 e_S1
  obtain ⟨ht, hw⟩ := hw
  refine c_putr hc hr ciX10 (Nat.le_of_ble_eq_true rfl) 1 (Nat.le_of_ble_eq_true rfl) rfl dX10_init_15 lf_X10_15 ht (Or.inr ⟨rfl, hnm, rfl⟩) (Or.inr ⟨_, rfl⟩) ?_
  exact c_vret hc hr dX10_init_18 hw
def wp_X10_writeByte (M : Nat × Nat) (x0 : Nat) (x1 : Int32) (S : HS) (K : Int32 → HS → Prop) : Prop := hT S x0 = 11 ∧ hT S x0 = 11 ∧ ∃ b1 : Nat, hP S x0 1 = some b1 ∧ (hT S b1 = 21 ∨ hT S b1 = 22 ∨ hT S b1 = 23) ∧ ((Int32.ofNat (hN S b1)) ≤ (hI S x0 0) → K 0 S) ∧ (¬ ((Int32.ofNat (hN S b1)) ≤ (hI S x0 0)) → hT S x0 = 11 ∧ ∃ b2 : Nat, hP S x0 1 = some b2 ∧ hT S x0 = 11 ∧ hT S b2 = 22 ∧ vp_in (hI S x0 0) (hN S b2) ∧ hT (sI S b2 (Int32.toNatClampNeg (hI S x0 0)) (vp_nar .byte (Int8.toInt32 (Int32.toInt8 x1)))) x0 = 11 ∧ hT (sI S b2 (Int32.toNatClampNeg (hI S x0 0)) (vp_nar .byte (Int8.toInt32 (Int32.toInt8 x1)))) x0 = 11 ∧ K 0 (sI (sI S b2 (Int32.toNatClampNeg (hI S x0 0)) (vp_nar .byte (Int8.toInt32 (Int32.toInt8 x1)))) x0 0 ((hI (sI S b2 (Int32.toNatClampNeg (hI S x0 0)) (vp_nar .byte (Int8.toInt32 (Int32.toInt8 x1)))) x0 0) + 1)))
set_option maxHeartbeats 4000000 in
set_option maxRecDepth 100000 in
theorem ok_X10_writeByte {G : CG} {x0 : Nat} {x1 : Int32} {S : HS} {K : Int32 → HS → Prop} (hw : wp_X10_writeByte (gC G, gS G) x0 x1 S K) : CC 0 yX10_writeByte cX10_writeByte 2 none [.ref x0, .int x1] G S (kV K) := by
  refine CC.of (by decide +kernel) (Nat.le_of_ble_eq_true rfl) (fun X hc hr hname => ?_)
  show MC G S X 2 S 0 [(0, .ref x0), (1, .int x1)] []
  unfold wp_X10_writeByte at hw
  refine m_aload_n hc 0 dX10_writeByte_0 rfl rfl ?_
  obtain ⟨ht, hw⟩ := hw
  refine c_geti hc hr ciX10 (Nat.le_of_ble_eq_true rfl) 0 (Nat.le_of_ble_eq_true rfl) rfl dX10_writeByte_1 lf_X10_9 ht ?_
  refine m_aload_n hc 0 dX10_writeByte_4 rfl rfl ?_
  obtain ⟨ht, b1, e_b1, hw⟩ := hw
  refine c_getr hc hr ciX10 (Nat.le_of_ble_eq_true rfl) 1 (Nat.le_of_ble_eq_true rfl) rfl dX10_writeByte_5 lf_X10_15 ht e_b1 ?_
  obtain ⟨ht, hw⟩ := hw
  refine c_alen hc hr ht dX10_writeByte_8 ?_
  refine m_icmp_ge hc 33 dX10_writeByte_9 rfl (fun cq => ?_) (fun cq => ?_)
  · have hw := hw.1 cq
    exact c_vret hc hr dX10_writeByte_33 hw
  · have hw := hw.2 cq
    refine m_aload_n hc 0 dX10_writeByte_12 rfl rfl ?_
    obtain ⟨ht, b2, e_b2, hw⟩ := hw
    refine c_getr hc hr ciX10 (Nat.le_of_ble_eq_true rfl) 1 (Nat.le_of_ble_eq_true rfl) rfl dX10_writeByte_13 lf_X10_15 ht e_b2 ?_
    refine m_aload_n hc 0 dX10_writeByte_16 rfl rfl ?_
    obtain ⟨ht, hw⟩ := hw
    refine c_geti hc hr ciX10 (Nat.le_of_ble_eq_true rfl) 0 (Nat.le_of_ble_eq_true rfl) rfl dX10_writeByte_17 lf_X10_9 ht ?_
    refine m_iload_n hc 1 dX10_writeByte_20 rfl rfl ?_
    refine m_i2b hc dX10_writeByte_21 ?_
    obtain ⟨ht, hi, hw⟩ := hw
    refine c_bast hc hr ht hi dX10_writeByte_22 ?_
    refine m_aload_n hc 0 dX10_writeByte_23 rfl rfl ?_
    refine m_dup hc dX10_writeByte_24 rfl ?_
    obtain ⟨ht, hw⟩ := hw
    refine c_geti hc hr ciX10 (Nat.le_of_ble_eq_true rfl) 0 (Nat.le_of_ble_eq_true rfl) rfl dX10_writeByte_25 lf_X10_9 ht ?_
    refine m_iconst hc 1 dX10_writeByte_28 (by decide) ?_
    refine m_iadd hc dX10_writeByte_29 ?_
    obtain ⟨ht, hw⟩ := hw
    refine c_puti hc hr ciX10 (Nat.le_of_ble_eq_true rfl) 0 (Nat.le_of_ble_eq_true rfl) rfl dX10_writeByte_30 lf_X10_9 ht (Or.inl rfl) ⟨rfl, rfl⟩ ?_
    exact c_vret hc hr dX10_writeByte_33 hw
def w_X10_writeNumber_17 (M : Nat × Nat) (K : Int32 → HS → Prop) (x0 : Nat) (x1 : Int32) (S : HS) : Prop := hT S x0 = 11 ∧ wp_X10_writeByte M x0 (48 + (iRem x1 10)) S (fun r1 S1 => K 0 S1)
set_option maxHeartbeats 4000000 in
set_option maxRecDepth 100000 in
theorem b_X10_writeNumber_17 {G : CG} {S0 : HS} {X : Fx} {K : Int32 → HS → Prop} (hc : Cx X RX10 cX10_writeNumber 2) (hr : Cc G S0 1 none (kV K) X) : ∀ (x0 : Nat) (x1 : Int32) (S : HS), w_X10_writeNumber_17 (gC G, gS G) K x0 x1 S → MC G S0 X 2 S 17 [(0, .ref x0), (1, .int x1)] [] := by
  intro x0 x1 S hw
  unfold w_X10_writeNumber_17 at hw
  refine m_aload_n hc 0 dX10_writeNumber_17 rfl rfl ?_
  refine m_bipush hc 48 dX10_writeNumber_18 (by decide) ?_
  refine m_iload_n hc 1 dX10_writeNumber_20 rfl rfl ?_
  refine m_bipush hc 10 dX10_writeNumber_21 (by decide) ?_
  refine m_irem hc dX10_writeNumber_23 (by decide) ?_
  refine m_iadd hc dX10_writeNumber_24 ?_
  obtain ⟨ht, hw⟩ := hw
  refine c_callVv hc hr ciX10 (Nat.le_of_ble_eq_true rfl) ht mt_X10_writeByte rfl lm_X10_24 (ok_X10_writeByte hw) (Nat.le_of_ble_eq_true rfl) dX10_writeNumber_25 rfl (rest := []) rfl (Nat.le_of_ble_eq_true rfl) (fun S1 hw => ?_)
  exact c_vret hc hr dX10_writeNumber_28 hw
def wp_X10_writeNumber (M : Nat × Nat) (x0 : Nat) (x1 : Int32) (S : HS) (K : Int32 → HS → Prop) : Prop := (x1 < 10 → w_X10_writeNumber_17 M K x0 x1 S) ∧ (¬ (x1 < 10) → hT S x0 = 11 ∧ wp_X10_writeByte M x0 (48 + (x1 / 10)) S (fun r1 S1 => w_X10_writeNumber_17 M K x0 x1 S1))
set_option maxHeartbeats 4000000 in
set_option maxRecDepth 100000 in
theorem ok_X10_writeNumber {G : CG} {x0 : Nat} {x1 : Int32} {S : HS} {K : Int32 → HS → Prop} (hw : wp_X10_writeNumber (gC G, gS G) x0 x1 S K) : CC 1 yX10_writeNumber cX10_writeNumber 2 none [.ref x0, .int x1] G S (kV K) := by
  refine CC.of (by decide +kernel) (Nat.le_of_ble_eq_true rfl) (fun X hc hr hname => ?_)
  show MC G S X 2 S 0 [(0, .ref x0), (1, .int x1)] []
  unfold wp_X10_writeNumber at hw
  refine m_iload_n hc 1 dX10_writeNumber_0 rfl rfl ?_
  refine m_bipush hc 10 dX10_writeNumber_1 (by decide) ?_
  refine m_icmp_lt hc 17 dX10_writeNumber_3 rfl (fun cq => ?_) (fun cq => ?_)
  · have hw := hw.1 cq
    exact b_X10_writeNumber_17 hc hr x0 x1 S hw
  · have hw := hw.2 cq
    refine m_aload_n hc 0 dX10_writeNumber_6 rfl rfl ?_
    refine m_bipush hc 48 dX10_writeNumber_7 (by decide) ?_
    refine m_iload_n hc 1 dX10_writeNumber_9 rfl rfl ?_
    refine m_bipush hc 10 dX10_writeNumber_10 (by decide) ?_
    refine m_idiv hc dX10_writeNumber_12 (by decide) ?_
    refine m_iadd hc dX10_writeNumber_13 ?_
    obtain ⟨ht, hw⟩ := hw
    refine c_callVv hc hr ciX10 (Nat.le_of_ble_eq_true rfl) ht mt_X10_writeByte rfl lm_X10_24 (ok_X10_writeByte hw) (Nat.le_of_ble_eq_true rfl) dX10_writeNumber_14 rfl (rest := []) rfl (Nat.le_of_ble_eq_true rfl) (fun S1 hw => ?_)
    exact b_X10_writeNumber_17 hc hr x0 x1 S1 hw
def w_X10_writeTerm_59 (M : Nat × Nat) (K27 : Nat → Int32 → Int32 → Int32 → HS → Prop) (K : Int32 → HS → Prop) (x0 : Nat) (x1 x4 x5 : Int32) (S : HS) : Prop := hT S x0 = 11 ∧ wp_X10_writeByte M x0 (120 + x4) S (fun r1 S1 => (x5 ≤ 1 → K27 x0 x1 1 (x4 + 1) S1) ∧ (¬ (x5 ≤ 1) → hT S1 x0 = 11 ∧ wp_X10_writeByte M x0 94 S1 (fun r2 S2 => hT S2 x0 = 11 ∧ wp_X10_writeNumber M x0 x5 S2 (fun r3 S3 => K27 x0 x1 1 (x4 + 1) S3))))
set_option maxHeartbeats 4000000 in
set_option maxRecDepth 100000 in
theorem b_X10_writeTerm_59 {G : CG} {S0 : HS} {X : Fx} {K : Int32 → HS → Prop} (hc : Cx X RX10 cX10_writeTerm 6) (hr : Cc G S0 2 none (kV K) X) (K27 : Nat → Int32 → Int32 → Int32 → HS → Prop) (h27 : ∀ (x0 : Nat) (x1 x3 x4 : Int32) (S : HS), K27 x0 x1 x3 x4 S → MC G S0 X 6 S 27 [(0, .ref x0), (1, .int x1), (3, .int x3), (4, .int x4)] []) : ∀ (x0 : Nat) (x1 x4 x5 : Int32) (S : HS), w_X10_writeTerm_59 (gC G, gS G) K27 K x0 x1 x4 x5 S → MC G S0 X 6 S 59 [(0, .ref x0), (1, .int x1), (4, .int x4), (5, .int x5)] [] := by
  intro x0 x1 x4 x5 S hw
  unfold w_X10_writeTerm_59 at hw
  refine m_iconst hc 1 dX10_writeTerm_59 (by decide) ?_
  refine m_istore_n hc [(3, .int 1), (0, .ref x0), (1, .int x1), (4, .int x4), (5, .int x5)] dX10_writeTerm_60 rfl (Nat.le_of_ble_eq_true rfl) rfl ?_
  refine m_aload_n hc 1 dX10_writeTerm_61 rfl rfl ?_
  refine m_bipush hc 120 dX10_writeTerm_62 (by decide) ?_
  refine m_iload hc 3 dX10_writeTerm_64 rfl ?_
  refine m_iadd hc dX10_writeTerm_66 ?_
  obtain ⟨ht, hw⟩ := hw
  refine c_callVv hc hr ciX10 (Nat.le_of_ble_eq_true rfl) ht mt_X10_writeByte rfl lm_X10_24 (ok_X10_writeByte hw) (Nat.le_of_ble_eq_true rfl) dX10_writeTerm_67 rfl (rest := []) rfl (Nat.le_of_ble_eq_true rfl) (fun S1 hw => ?_)
  refine m_iload hc 4 dX10_writeTerm_70 rfl ?_
  refine m_iconst hc 1 dX10_writeTerm_72 (by decide) ?_
  refine m_icmp_le hc 88 dX10_writeTerm_73 rfl (fun cq => ?_) (fun cq => ?_)
  · have hw := hw.1 cq
    refine m_iinc hc 3 (x4 + 1) [(4, .int (x4 + 1)), (3, .int 1), (0, .ref x0), (1, .int x1), (5, .int x5)] dX10_writeTerm_88 rfl rfl (Nat.le_of_ble_eq_true rfl) rfl ?_
    refine m_goto hc 27 dX10_writeTerm_91 rfl ?_
    refine m_sub [2, 3, 1, 0] rfl ?_
    exact h27 x0 x1 1 (x4 + 1) S1 hw
  · have hw := hw.2 cq
    refine m_aload_n hc 1 dX10_writeTerm_76 rfl rfl ?_
    refine m_bipush hc 94 dX10_writeTerm_77 (by decide) ?_
    obtain ⟨ht, hw⟩ := hw
    refine c_callVv hc hr ciX10 (Nat.le_of_ble_eq_true rfl) ht mt_X10_writeByte rfl lm_X10_24 (ok_X10_writeByte hw) (Nat.le_of_ble_eq_true rfl) dX10_writeTerm_79 rfl (rest := []) rfl (Nat.le_of_ble_eq_true rfl) (fun S2 hw => ?_)
    refine m_aload_n hc 1 dX10_writeTerm_82 rfl rfl ?_
    refine m_iload hc 4 dX10_writeTerm_83 rfl ?_
    obtain ⟨ht, hw⟩ := hw
    refine c_callVv hc hr ciX10 (Nat.le_of_ble_eq_true rfl) ht mt_X10_writeNumber rfl lm_X10_45 (ok_X10_writeNumber hw) (Nat.le_of_ble_eq_true rfl) dX10_writeTerm_85 rfl (rest := []) rfl (Nat.le_of_ble_eq_true rfl) (fun S3 hw => ?_)
    refine m_iinc hc 3 (x4 + 1) [(4, .int (x4 + 1)), (3, .int 1), (0, .ref x0), (1, .int x1), (5, .int x5)] dX10_writeTerm_88 rfl rfl (Nat.le_of_ble_eq_true rfl) rfl ?_
    refine m_goto hc 27 dX10_writeTerm_91 rfl ?_
    refine m_sub [2, 3, 1, 0] rfl ?_
    exact h27 x0 x1 1 (x4 + 1) S3 hw
def wb_X10_writeTerm_27 (M : Nat × Nat) (K27 : Nat → Int32 → Int32 → Int32 → HS → Prop) (K : Int32 → HS → Prop) (x0 : Nat) (x1 x3 x4 : Int32) (S : HS) : Prop := (3 ≤ x4 → K 0 S) ∧ (¬ (3 ≤ x4) → wp_X6_exponent M x1 x4 S (fun r1 S1 => (¬ r1 = 0 → (x3 = 0 → w_X10_writeTerm_59 M K27 K x0 x1 x4 r1 S1) ∧ (¬ (x3 = 0) → hT S1 x0 = 11 ∧ wp_X10_writeByte M x0 42 S1 (fun r2 S2 => w_X10_writeTerm_59 M K27 K x0 x1 x4 r1 S2))) ∧ (r1 = 0 → K27 x0 x1 x3 (x4 + 1) S1)))
def wl_X10_writeTerm_27 (M : Nat × Nat) (K : Int32 → HS → Prop) : Nat → Nat → Int32 → Int32 → Int32 → HS → Prop
  | 0 => fun _ _ _ _ _ => False
  | nn + 1 => wb_X10_writeTerm_27 M (wl_X10_writeTerm_27 M K nn) K
set_option maxHeartbeats 4000000 in
set_option maxRecDepth 100000 in
theorem l_X10_writeTerm_27 {G : CG} {S0 : HS} {X : Fx} {K : Int32 → HS → Prop} (hc : Cx X RX10 cX10_writeTerm 6) (hr : Cc G S0 2 none (kV K) X) : ∀ (nn : Nat) (x0 : Nat) (x1 x3 x4 : Int32) (S : HS), wl_X10_writeTerm_27 (gC G, gS G) K nn x0 x1 x3 x4 S → MC G S0 X 6 S 27 [(0, .ref x0), (1, .int x1), (3, .int x3), (4, .int x4)] [] := by
  intro nn
  induction nn with
  | zero => intro x0 x1 x3 x4 S hw; exact False.elim hw
  | succ nn ih =>
    intro x0 x1 x3 x4 S hw
    have hw : wb_X10_writeTerm_27 (gC G, gS G) (wl_X10_writeTerm_27 (gC G, gS G) K nn) K x0 x1 x3 x4 S := hw
    have h27 := ih
    generalize wl_X10_writeTerm_27 (gC G, gS G) K nn = K27 at hw h27
    unfold wb_X10_writeTerm_27 at hw
    refine m_iload hc 3 dX10_writeTerm_27 rfl ?_
    refine m_iconst hc 3 dX10_writeTerm_29 (by decide) ?_
    refine m_icmp_ge hc 94 dX10_writeTerm_30 rfl (fun cq => ?_) (fun cq => ?_)
    · have hw := hw.1 cq
      exact c_vret hc hr dX10_writeTerm_94 hw
    · have hw := hw.2 cq
      refine m_iload_n hc 1 dX10_writeTerm_33 rfl rfl ?_
      refine m_iload hc 3 dX10_writeTerm_34 rfl ?_
      refine c_callSi hc hr mt_X6_exponent lm_X10_48 (ok_X6_exponent hw) (Nat.le_of_ble_eq_true rfl) dX10_writeTerm_36 rfl (rest := []) rfl (Nat.le_of_ble_eq_true rfl) (fun r1 S1 hw => ?_)
      refine m_istore hc [(5, .int r1), (0, .ref x0), (1, .int x1), (3, .int x3), (4, .int x4)] dX10_writeTerm_39 (Nat.le_of_ble_eq_true rfl) rfl ?_
      refine m_iload hc 0 dX10_writeTerm_41 rfl ?_
      refine m_if_ne hc 49 dX10_writeTerm_43 rfl (fun cq => ?_) (fun cq => ?_)
      · have hw := hw.1 cq
        refine m_iload_n hc 3 dX10_writeTerm_49 rfl rfl ?_
        refine m_if_eq hc 59 dX10_writeTerm_50 rfl (fun cq => ?_) (fun cq => ?_)
        · have hw := hw.1 cq
          refine m_sub [1, 2, 4, 0] rfl ?_
          exact b_X10_writeTerm_59 hc hr K27 h27 x0 x1 x4 r1 S1 hw
        · have hw := hw.2 cq
          refine m_aload_n hc 1 dX10_writeTerm_53 rfl rfl ?_
          refine m_bipush hc 42 dX10_writeTerm_54 (by decide) ?_
          obtain ⟨ht, hw⟩ := hw
          refine c_callVv hc hr ciX10 (Nat.le_of_ble_eq_true rfl) ht mt_X10_writeByte rfl lm_X10_24 (ok_X10_writeByte hw) (Nat.le_of_ble_eq_true rfl) dX10_writeTerm_56 rfl (rest := []) rfl (Nat.le_of_ble_eq_true rfl) (fun S2 hw => ?_)
          refine m_sub [1, 2, 4, 0] rfl ?_
          exact b_X10_writeTerm_59 hc hr K27 h27 x0 x1 x4 r1 S2 hw
      · have hw := hw.2 cq
        refine m_goto hc 88 dX10_writeTerm_46 rfl ?_
        refine m_iinc hc 4 (x4 + 1) [(4, .int (x4 + 1)), (5, .int r1), (0, .ref x0), (1, .int x1), (3, .int x3)] dX10_writeTerm_88 rfl rfl (Nat.le_of_ble_eq_true rfl) rfl ?_
        refine m_goto hc 27 dX10_writeTerm_91 rfl ?_
        refine m_sub [2, 3, 4, 0] rfl ?_
        exact h27 x0 x1 x3 (x4 + 1) S1 hw
def w_X10_writeTerm_14 (M : Nat × Nat) (K : Int32 → HS → Prop) (x0 : Nat) (x1 x2 s0 : Int32) (S : HS) : Prop := (s0 = 0 → ∃ nn : Nat, wl_X10_writeTerm_27 M K nn x0 x1 s0 0 S) ∧ (¬ (s0 = 0) → hT S x0 = 11 ∧ wp_X10_writeNumber M x0 x2 S (fun r1 S1 => ∃ nn : Nat, wl_X10_writeTerm_27 M K nn x0 x1 s0 0 S1))
set_option maxHeartbeats 4000000 in
set_option maxRecDepth 100000 in
theorem b_X10_writeTerm_14 {G : CG} {S0 : HS} {X : Fx} {K : Int32 → HS → Prop} (hc : Cx X RX10 cX10_writeTerm 6) (hr : Cc G S0 2 none (kV K) X) : ∀ (x0 : Nat) (x1 x2 s0 : Int32) (S : HS), w_X10_writeTerm_14 (gC G, gS G) K x0 x1 x2 s0 S → MC G S0 X 6 S 14 [(0, .ref x0), (1, .int x1), (2, .int x2)] [.int s0] := by
  intro x0 x1 x2 s0 S hw
  unfold w_X10_writeTerm_14 at hw
  refine m_istore_n hc [(3, .int s0), (0, .ref x0), (1, .int x1), (2, .int x2)] dX10_writeTerm_14 rfl (Nat.le_of_ble_eq_true rfl) rfl ?_
  refine m_iload_n hc 0 dX10_writeTerm_15 rfl rfl ?_
  refine m_if_eq hc 24 dX10_writeTerm_16 rfl (fun cq => ?_) (fun cq => ?_)
  · have hw := hw.1 cq
    refine m_iconst hc 0 dX10_writeTerm_24 (by decide) ?_
    refine m_istore hc [(4, .int 0), (3, .int s0), (0, .ref x0), (1, .int x1), (2, .int x2)] dX10_writeTerm_25 (Nat.le_of_ble_eq_true rfl) rfl ?_
    refine m_sub [2, 3, 1, 0] rfl ?_
    obtain ⟨nn, hw⟩ := hw
    exact l_X10_writeTerm_27 hc hr nn x0 x1 s0 0 S hw
  · have hw := hw.2 cq
    refine m_aload_n hc 1 dX10_writeTerm_19 rfl rfl ?_
    refine m_iload_n hc 3 dX10_writeTerm_20 rfl rfl ?_
    obtain ⟨ht, hw⟩ := hw
    refine c_callVv hc hr ciX10 (Nat.le_of_ble_eq_true rfl) ht mt_X10_writeNumber rfl lm_X10_45 (ok_X10_writeNumber hw) (Nat.le_of_ble_eq_true rfl) dX10_writeTerm_21 rfl (rest := []) rfl (Nat.le_of_ble_eq_true rfl) (fun S1 hw => ?_)
    refine m_iconst hc 0 dX10_writeTerm_24 (by decide) ?_
    refine m_istore hc [(4, .int 0), (3, .int s0), (0, .ref x0), (1, .int x1), (2, .int x2)] dX10_writeTerm_25 (Nat.le_of_ble_eq_true rfl) rfl ?_
    refine m_sub [2, 3, 1, 0] rfl ?_
    obtain ⟨nn, hw⟩ := hw
    exact l_X10_writeTerm_27 hc hr nn x0 x1 s0 0 S1 hw
def wp_X10_writeTerm (M : Nat × Nat) (x0 : Nat) (x1 x2 : Int32) (S : HS) (K : Int32 → HS → Prop) : Prop := (¬ x2 = 1 → w_X10_writeTerm_14 M K x0 x1 x2 1 S) ∧ (x2 = 1 → (¬ x1 = 0 → w_X10_writeTerm_14 M K x0 x1 x2 0 S) ∧ (x1 = 0 → w_X10_writeTerm_14 M K x0 x1 x2 1 S))
set_option maxHeartbeats 4000000 in
set_option maxRecDepth 100000 in
theorem ok_X10_writeTerm {G : CG} {x0 : Nat} {x1 : Int32} {x2 : Int32} {S : HS} {K : Int32 → HS → Prop} (hw : wp_X10_writeTerm (gC G, gS G) x0 x1 x2 S K) : CC 2 yX10_writeTerm cX10_writeTerm 6 none [.ref x0, .int x1, .int x2] G S (kV K) := by
  refine CC.of (by decide +kernel) (Nat.le_of_ble_eq_true rfl) (fun X hc hr hname => ?_)
  show MC G S X 6 S 0 [(0, .ref x0), (1, .int x1), (2, .int x2)] []
  unfold wp_X10_writeTerm at hw
  refine m_iload_n hc 2 dX10_writeTerm_0 rfl rfl ?_
  refine m_iconst hc 1 dX10_writeTerm_1 (by decide) ?_
  refine m_icmp_ne hc 9 dX10_writeTerm_2 rfl (fun cq => ?_) (fun cq => ?_)
  · have hw := hw.1 cq
    refine m_iconst hc 1 dX10_writeTerm_9 (by decide) ?_
    refine m_goto hc 14 dX10_writeTerm_10 rfl ?_
    exact b_X10_writeTerm_14 hc hr x0 x1 x2 1 S hw
  · have hw := hw.2 cq
    refine m_iload_n hc 1 dX10_writeTerm_5 rfl rfl ?_
    refine m_if_ne hc 13 dX10_writeTerm_6 rfl (fun cq => ?_) (fun cq => ?_)
    · have hw := hw.1 cq
      refine m_iconst hc 0 dX10_writeTerm_13 (by decide) ?_
      exact b_X10_writeTerm_14 hc hr x0 x1 x2 0 S hw
    · have hw := hw.2 cq
      refine m_iconst hc 1 dX10_writeTerm_9 (by decide) ?_
      refine m_goto hc 14 dX10_writeTerm_10 rfl ?_
      exact b_X10_writeTerm_14 hc hr x0 x1 x2 1 S hw
def w_X10_write_25 (M : Nat × Nat) (K7 : Nat → Nat → Nat → Int32 → HS → Prop) (K : Int32 → HS → Prop) (x0 x1 x2 : Nat) (x3 : Int32) (S : HS) : Prop := hT S x2 = 5 ∧ wp_X4_indexOf M x2 x3 S (fun r1 S1 => hT S1 x1 = 7 ∧ ∃ b2 : Nat, hP S1 x1 0 = some b2 ∧ hT S1 b2 = 21 ∧ vp_in r1 (hN S1 b2) ∧ hT S1 x1 = 7 ∧ ∃ b3 : Nat, hP S1 x1 1 = some b3 ∧ hT S1 b3 = 21 ∧ vp_in r1 (hN S1 b3) ∧ hT S1 x0 = 11 ∧ wp_X10_writeTerm M x0 (hI S1 b2 (Int32.toNatClampNeg r1)) (hI S1 b3 (Int32.toNatClampNeg r1)) S1 (fun r4 S4 => K7 x0 x1 x2 (x3 + 1) S4))
set_option maxHeartbeats 4000000 in
set_option maxRecDepth 100000 in
theorem b_X10_write_25 {G : CG} {S0 : HS} {X : Fx} {K : Int32 → HS → Prop} (hc : Cx X RX10 cX10_write 5) (hr : Cc G S0 3 none (kV K) X) (K7 : Nat → Nat → Nat → Int32 → HS → Prop) (h7 : ∀ (x0 x1 x2 : Nat) (x3 : Int32) (S : HS), K7 x0 x1 x2 x3 S → MC G S0 X 5 S 7 [(0, .ref x0), (1, .ref x1), (2, .ref x2), (3, .int x3)] []) : ∀ (x0 x1 x2 : Nat) (x3 : Int32) (S : HS), w_X10_write_25 (gC G, gS G) K7 K x0 x1 x2 x3 S → MC G S0 X 5 S 25 [(0, .ref x0), (1, .ref x1), (2, .ref x2), (3, .int x3)] [] := by
  intro x0 x1 x2 x3 S hw
  unfold w_X10_write_25 at hw
  refine m_aload_n hc 2 dX10_write_25 rfl rfl ?_
  refine m_iload_n hc 3 dX10_write_26 rfl rfl ?_
  obtain ⟨ht, hw⟩ := hw
  refine c_callVi hc hr ciX4 (Nat.le_of_ble_eq_true rfl) ht mt_X4_indexOf rfl lm_X10_28 (ok_X4_indexOf hw) (Nat.le_of_ble_eq_true rfl) dX10_write_27 rfl (rest := []) rfl (Nat.le_of_ble_eq_true rfl) (fun r1 S1 hw => ?_)
  refine m_istore hc [(4, .int r1), (0, .ref x0), (1, .ref x1), (2, .ref x2), (3, .int x3)] dX10_write_30 (Nat.le_of_ble_eq_true rfl) rfl ?_
  refine m_aload_n hc 1 dX10_write_32 rfl rfl ?_
  refine m_aload_n hc 2 dX10_write_33 rfl rfl ?_
  obtain ⟨ht, b2, e_b2, hw⟩ := hw
  refine c_getr hc hr ciX6 (Nat.le_of_ble_eq_true rfl) 0 (Nat.le_of_ble_eq_true rfl) rfl dX10_write_34 lf_X10_34 ht e_b2 ?_
  refine m_iload hc 0 dX10_write_37 rfl ?_
  obtain ⟨ht, hi, hw⟩ := hw
  refine c_iald hc hr ht hi dX10_write_39 ?_
  refine m_aload_n hc 2 dX10_write_40 rfl rfl ?_
  obtain ⟨ht, b3, e_b3, hw⟩ := hw
  refine c_getr hc hr ciX6 (Nat.le_of_ble_eq_true rfl) 1 (Nat.le_of_ble_eq_true rfl) rfl dX10_write_41 lf_X10_38 ht e_b3 ?_
  refine m_iload hc 0 dX10_write_44 rfl ?_
  obtain ⟨ht, hi, hw⟩ := hw
  refine c_iald hc hr ht hi dX10_write_46 ?_
  obtain ⟨ht, hw⟩ := hw
  refine c_callVv hc hr ciX10 (Nat.le_of_ble_eq_true rfl) ht mt_X10_writeTerm rfl lm_X10_41 (ok_X10_writeTerm hw) (Nat.le_of_ble_eq_true rfl) dX10_write_47 rfl (rest := []) rfl (Nat.le_of_ble_eq_true rfl) (fun S4 hw => ?_)
  refine m_iinc hc 4 (x3 + 1) [(3, .int (x3 + 1)), (4, .int r1), (0, .ref x0), (1, .ref x1), (2, .ref x2)] dX10_write_50 rfl rfl (Nat.le_of_ble_eq_true rfl) rfl ?_
  refine m_goto hc 7 dX10_write_53 rfl ?_
  refine m_sub [2, 3, 4, 0] rfl ?_
  exact h7 x0 x1 x2 (x3 + 1) S4 hw
def wb_X10_write_7 (M : Nat × Nat) (K7 : Nat → Nat → Nat → Int32 → HS → Prop) (K : Int32 → HS → Prop) (x0 x1 x2 : Nat) (x3 : Int32) (S : HS) : Prop := hT S x1 = 7 ∧ ((hI S x1 2) ≤ x3 → hT S x1 = 7 ∧ (¬ (hI S x1 2) = 0 → K 0 S) ∧ ((hI S x1 2) = 0 → hT S x0 = 11 ∧ wp_X10_writeByte M x0 48 S (fun r1 S1 => K 0 S1))) ∧ (¬ ((hI S x1 2) ≤ x3) → (x3 ≤ 0 → w_X10_write_25 M K7 K x0 x1 x2 x3 S) ∧ (¬ (x3 ≤ 0) → hT S x0 = 11 ∧ wp_X10_writeByte M x0 43 S (fun r2 S2 => w_X10_write_25 M K7 K x0 x1 x2 x3 S2)))
def wl_X10_write_7 (M : Nat × Nat) (K : Int32 → HS → Prop) : Nat → Nat → Nat → Nat → Int32 → HS → Prop
  | 0 => fun _ _ _ _ _ => False
  | nn + 1 => wb_X10_write_7 M (wl_X10_write_7 M K nn) K
set_option maxHeartbeats 4000000 in
set_option maxRecDepth 100000 in
theorem l_X10_write_7 {G : CG} {S0 : HS} {X : Fx} {K : Int32 → HS → Prop} (hc : Cx X RX10 cX10_write 5) (hr : Cc G S0 3 none (kV K) X) : ∀ (nn : Nat) (x0 x1 x2 : Nat) (x3 : Int32) (S : HS), wl_X10_write_7 (gC G, gS G) K nn x0 x1 x2 x3 S → MC G S0 X 5 S 7 [(0, .ref x0), (1, .ref x1), (2, .ref x2), (3, .int x3)] [] := by
  intro nn
  induction nn with
  | zero => intro x0 x1 x2 x3 S hw; exact False.elim hw
  | succ nn ih =>
    intro x0 x1 x2 x3 S hw
    have hw : wb_X10_write_7 (gC G, gS G) (wl_X10_write_7 (gC G, gS G) K nn) K x0 x1 x2 x3 S := hw
    have h7 := ih
    generalize wl_X10_write_7 (gC G, gS G) K nn = K7 at hw h7
    unfold wb_X10_write_7 at hw
    refine m_iload_n hc 3 dX10_write_7 rfl rfl ?_
    refine m_aload_n hc 1 dX10_write_8 rfl rfl ?_
    obtain ⟨ht, hw⟩ := hw
    refine c_geti hc hr ciX6 (Nat.le_of_ble_eq_true rfl) 2 (Nat.le_of_ble_eq_true rfl) rfl dX10_write_9 lf_X10_19 ht ?_
    refine m_icmp_ge hc 56 dX10_write_12 rfl (fun cq => ?_) (fun cq => ?_)
    · have hw := hw.1 cq
      refine m_aload_n hc 1 dX10_write_56 rfl rfl ?_
      obtain ⟨ht, hw⟩ := hw
      refine c_geti hc hr ciX6 (Nat.le_of_ble_eq_true rfl) 2 (Nat.le_of_ble_eq_true rfl) rfl dX10_write_57 lf_X10_19 ht ?_
      refine m_if_ne hc 69 dX10_write_60 rfl (fun cq => ?_) (fun cq => ?_)
      · have hw := hw.1 cq
        exact c_vret hc hr dX10_write_69 hw
      · have hw := hw.2 cq
        refine m_aload_n hc 0 dX10_write_63 rfl rfl ?_
        refine m_bipush hc 48 dX10_write_64 (by decide) ?_
        obtain ⟨ht, hw⟩ := hw
        refine c_callVv hc hr ciX10 (Nat.le_of_ble_eq_true rfl) ht mt_X10_writeByte rfl lm_X10_24 (ok_X10_writeByte hw) (Nat.le_of_ble_eq_true rfl) dX10_write_66 rfl (rest := []) rfl (Nat.le_of_ble_eq_true rfl) (fun S1 hw => ?_)
        exact c_vret hc hr dX10_write_69 hw
    · have hw := hw.2 cq
      refine m_iload_n hc 3 dX10_write_15 rfl rfl ?_
      refine m_if_le hc 25 dX10_write_16 rfl (fun cq => ?_) (fun cq => ?_)
      · have hw := hw.1 cq
        exact b_X10_write_25 hc hr K7 h7 x0 x1 x2 x3 S hw
      · have hw := hw.2 cq
        refine m_aload_n hc 0 dX10_write_19 rfl rfl ?_
        refine m_bipush hc 43 dX10_write_20 (by decide) ?_
        obtain ⟨ht, hw⟩ := hw
        refine c_callVv hc hr ciX10 (Nat.le_of_ble_eq_true rfl) ht mt_X10_writeByte rfl lm_X10_24 (ok_X10_writeByte hw) (Nat.le_of_ble_eq_true rfl) dX10_write_22 rfl (rest := []) rfl (Nat.le_of_ble_eq_true rfl) (fun S2 hw => ?_)
        exact b_X10_write_25 hc hr K7 h7 x0 x1 x2 x3 S2 hw
def wp_X10_write (M : Nat × Nat) (x0 x1 x2 : Nat) (S : HS) (K : Int32 → HS → Prop) : Prop := hT S x0 = 11 ∧ ∃ nn : Nat, wl_X10_write_7 M K nn x0 x1 x2 0 (sI S x0 0 0)
set_option maxHeartbeats 4000000 in
set_option maxRecDepth 100000 in
theorem ok_X10_write {G : CG} {x0 : Nat} {x1 : Nat} {x2 : Nat} {S : HS} {K : Int32 → HS → Prop} (hw : wp_X10_write (gC G, gS G) x0 x1 x2 S K) : CC 3 yX10_write cX10_write 5 none [.ref x0, .ref x1, .ref x2] G S (kV K) := by
  refine CC.of (by decide +kernel) (Nat.le_of_ble_eq_true rfl) (fun X hc hr hname => ?_)
  show MC G S X 5 S 0 [(0, .ref x0), (1, .ref x1), (2, .ref x2)] []
  unfold wp_X10_write at hw
  refine m_aload_n hc 0 dX10_write_0 rfl rfl ?_
  refine m_iconst hc 0 dX10_write_1 (by decide) ?_
  obtain ⟨ht, hw⟩ := hw
  refine c_puti hc hr ciX10 (Nat.le_of_ble_eq_true rfl) 0 (Nat.le_of_ble_eq_true rfl) rfl dX10_write_2 lf_X10_9 ht (Or.inl rfl) ⟨rfl, rfl⟩ ?_
  refine m_iconst hc 0 dX10_write_5 (by decide) ?_
  refine m_istore_n hc [(3, .int 0), (0, .ref x0), (1, .ref x1), (2, .ref x2)] dX10_write_6 rfl (Nat.le_of_ble_eq_true rfl) rfl ?_
  refine m_sub [1, 2, 3, 0] rfl ?_
  obtain ⟨nn, hw⟩ := hw
  exact l_X10_write_7 hc hr nn x0 x1 x2 0 (sI S x0 0 0) hw
