def wp_X6_degreeOf (M : Nat × Nat) (x0 : Int32) (S : HS) (K : Int32 → HS → Prop) : Prop := wp_X6_exponent M x0 0 S (fun r1 S1 => wp_X6_exponent M x0 1 S1 (fun r2 S2 => wp_X6_exponent M x0 2 S2 (fun r3 S3 => K ((r1 + r2) + r3) S3)))
set_option maxHeartbeats 4000000 in
set_option maxRecDepth 100000 in
theorem ok_X6_degreeOf {G : CG} {x0 : Int32} {S : HS} {K : Int32 → HS → Prop} (hw : wp_X6_degreeOf (gC G, gS G) x0 S K) : CC 1 yX6_degreeOf cX6_degreeOf 1 (some .int) [.int x0] G S (kI K) := by
  refine CC.of (by decide +kernel) (Nat.le_of_ble_eq_true rfl) (fun X hc hr hname => ?_)
  show MC G S X 1 S 0 [(0, .int x0)] []
  unfold wp_X6_degreeOf at hw
  refine m_iload_n hc 0 dX6_degreeOf_0 rfl rfl ?_
  refine m_iconst hc 0 dX6_degreeOf_1 (by decide) ?_
  refine c_callSi hc hr mt_X6_exponent lm_X6_26 (ok_X6_exponent hw) (Nat.le_of_ble_eq_true rfl) dX6_degreeOf_2 rfl (rest := []) rfl (Nat.le_of_ble_eq_true rfl) (fun r1 S1 hw => ?_)
  refine m_iload_n hc 0 dX6_degreeOf_5 rfl rfl ?_
  refine m_iconst hc 1 dX6_degreeOf_6 (by decide) ?_
  refine c_callSi hc hr mt_X6_exponent lm_X6_26 (ok_X6_exponent hw) (Nat.le_of_ble_eq_true rfl) dX6_degreeOf_7 rfl (rest := [.int r1]) rfl (Nat.le_of_ble_eq_true rfl) (fun r2 S2 hw => ?_)
  refine m_iadd hc dX6_degreeOf_10 ?_
  refine m_iload_n hc 0 dX6_degreeOf_11 rfl rfl ?_
  refine m_iconst hc 2 dX6_degreeOf_12 (by decide) ?_
  refine c_callSi hc hr mt_X6_exponent lm_X6_26 (ok_X6_exponent hw) (Nat.le_of_ble_eq_true rfl) dX6_degreeOf_13 rfl (rest := [.int (r1 + r2)]) rfl (Nat.le_of_ble_eq_true rfl) (fun r3 S3 hw => ?_)
  refine m_iadd hc dX6_degreeOf_16 ?_
  exact c_iret hc hr dX6_degreeOf_17 hw
def wb_X6_degree_4 (M : Nat × Nat) (K4 : Nat → Int32 → Int32 → HS → Prop) (K : Int32 → HS → Prop) (x0 : Nat) (x1 x2 : Int32) (S : HS) : Prop := hT S x0 = 7 ∧ ((hI S x0 2) ≤ x2 → K x1 S) ∧ (¬ ((hI S x0 2) ≤ x2) → hT S x0 = 7 ∧ ∃ b1 : Nat, hP S x0 0 = some b1 ∧ hT S b1 = 21 ∧ vp_in x2 (hN S b1) ∧ wp_X6_degreeOf M (hI S b1 (Int32.toNatClampNeg x2)) S (fun r2 S2 => ∀ v3 : Int32, v3 = (if x1 < r2 then r2 else x1) → K4 x0 v3 (x2 + 1) S2))
def wl_X6_degree_4 (M : Nat × Nat) (K : Int32 → HS → Prop) : Nat → Nat → Int32 → Int32 → HS → Prop
  | 0 => fun _ _ _ _ => False
  | nn + 1 => wb_X6_degree_4 M (wl_X6_degree_4 M K nn) K
set_option maxHeartbeats 4000000 in
set_option maxRecDepth 100000 in
theorem l_X6_degree_4 {G : CG} {S0 : HS} {X : Fx} {K : Int32 → HS → Prop} (hc : Cx X RX6 cX6_degree 3) (hr : Cc G S0 2 (some .int) (kI K) X) : ∀ (nn : Nat) (x0 : Nat) (x1 x2 : Int32) (S : HS), wl_X6_degree_4 (gC G, gS G) K nn x0 x1 x2 S → MC G S0 X 3 S 4 [(0, .ref x0), (1, .int x1), (2, .int x2)] [] := by
  intro nn
  induction nn with
  | zero => intro x0 x1 x2 S hw; exact False.elim hw
  | succ nn ih =>
    intro x0 x1 x2 S hw
    have hw : wb_X6_degree_4 (gC G, gS G) (wl_X6_degree_4 (gC G, gS G) K nn) K x0 x1 x2 S := hw
    have h4 := ih
    generalize wl_X6_degree_4 (gC G, gS G) K nn = K4 at hw h4
    unfold wb_X6_degree_4 at hw
    refine m_iload_n hc 2 dX6_degree_4 rfl rfl ?_
    refine m_aload_n hc 0 dX6_degree_5 rfl rfl ?_
    obtain ⟨ht, hw⟩ := hw
    refine c_geti hc hr ciX6 (Nat.le_of_ble_eq_true rfl) 2 (Nat.le_of_ble_eq_true rfl) rfl dX6_degree_6 lf_X6_9 ht ?_
    refine m_icmp_ge hc 32 dX6_degree_9 rfl (fun cq => ?_) (fun cq => ?_)
    · have hw := hw.1 cq
      refine m_iload_n hc 1 dX6_degree_32 rfl rfl ?_
      exact c_iret hc hr dX6_degree_33 hw
    · have hw := hw.2 cq
      refine m_iload_n hc 1 dX6_degree_12 rfl rfl ?_
      refine m_aload_n hc 0 dX6_degree_13 rfl rfl ?_
      obtain ⟨ht, b1, e_b1, hw⟩ := hw
      refine c_getr hc hr ciX6 (Nat.le_of_ble_eq_true rfl) 0 (Nat.le_of_ble_eq_true rfl) rfl dX6_degree_14 lf_X6_19 ht e_b1 ?_
      refine m_iload_n hc 2 dX6_degree_17 rfl rfl ?_
      obtain ⟨ht, hi, hw⟩ := hw
      refine c_iald hc hr ht hi dX6_degree_18 ?_
      refine c_callSi hc hr mt_X6_degreeOf lm_X6_43 (ok_X6_degreeOf hw) (Nat.le_of_ble_eq_true rfl) dX6_degree_19 rfl (rest := [.int x1]) rfl (Nat.le_of_ble_eq_true rfl) (fun r2 S2 hw => ?_)
      refine c_bnd (fun g1 g2 => ?_)
      refine m_mmax hc dX6_degree_22 lm_X6_47 lM_max (c_room hr g1 g2) (Nat.le_of_ble_eq_true rfl) ?_
      refine m_topi (fun v3 e_v3 => ?_)
      have hw := hw v3 e_v3
      refine m_istore_n hc [(1, .int v3), (0, .ref x0), (2, .int x2)] dX6_degree_25 rfl (Nat.le_of_ble_eq_true rfl) rfl ?_
      refine m_iinc hc 2 (x2 + 1) [(2, .int (x2 + 1)), (1, .int v3), (0, .ref x0)] dX6_degree_26 rfl rfl (Nat.le_of_ble_eq_true rfl) rfl ?_
      refine m_goto hc 4 dX6_degree_29 rfl ?_
      refine m_sub [2, 1, 0] rfl ?_
      exact h4 x0 v3 (x2 + 1) S2 hw
def wp_X6_degree (M : Nat × Nat) (x0 : Nat) (S : HS) (K : Int32 → HS → Prop) : Prop := ∃ nn : Nat, wl_X6_degree_4 M K nn x0 (-1) 0 S
set_option maxHeartbeats 4000000 in
set_option maxRecDepth 100000 in
theorem ok_X6_degree {G : CG} {x0 : Nat} {S : HS} {K : Int32 → HS → Prop} (hw : wp_X6_degree (gC G, gS G) x0 S K) : CC 2 yX6_degree cX6_degree 3 (some .int) [.ref x0] G S (kI K) := by
  refine CC.of (by decide +kernel) (Nat.le_of_ble_eq_true rfl) (fun X hc hr hname => ?_)
  show MC G S X 3 S 0 [(0, .ref x0)] []
  unfold wp_X6_degree at hw
  refine m_iconst hc (-1) dX6_degree_0 (by decide) ?_
  refine m_istore_n hc [(1, .int (-1)), (0, .ref x0)] dX6_degree_1 rfl (Nat.le_of_ble_eq_true rfl) rfl ?_
  refine m_iconst hc 0 dX6_degree_2 (by decide) ?_
  refine m_istore_n hc [(2, .int 0), (1, .int (-1)), (0, .ref x0)] dX6_degree_3 rfl (Nat.le_of_ble_eq_true rfl) rfl ?_
  refine m_sub [2, 1, 0] rfl ?_
  obtain ⟨nn, hw⟩ := hw
  exact l_X6_degree_4 hc hr nn x0 (-1) 0 S hw
def wb_X2_loadHighest_14 (M : Nat × Nat) (K14 : Nat → Nat → Int32 → Int32 → HS → Prop) (K : Int32 → HS → Prop) (x0 x1 : Nat) (x2 x3 : Int32) (S : HS) : Prop := hT S x1 = 7 ∧ ((hI S x1 2) ≤ x3 → hT S x0 = 3 ∧ ∃ b1 : Nat, hP S x0 5 = some b1 ∧ hT S x0 = 3 ∧ ∃ b2 : Nat, hP S x0 3 = some b2 ∧ hT S x0 = 3 ∧ ∃ b3 : Nat, hP S x0 2 = some b3 ∧ hT S x0 = 3 ∧ hT S b1 = 6 ∧ wp_X5_load M b1 b2 b3 (hI S x0 10) S (fun r4 S4 => K 0 S4)) ∧ (¬ ((hI S x1 2) ≤ x3) → hT S x1 = 7 ∧ ∃ b5 : Nat, hP S x1 0 = some b5 ∧ hT S b5 = 21 ∧ vp_in x3 (hN S b5) ∧ wp_X6_degreeOf M (hI S b5 (Int32.toNatClampNeg x3)) S (fun r6 S6 => (¬ r6 = x2 → K14 x0 x1 x2 (x3 + 1) S6) ∧ (r6 = x2 → hT S6 x0 = 3 ∧ ∃ b7 : Nat, hP S6 x0 3 = some b7 ∧ hT S6 x1 = 7 ∧ ∃ b8 : Nat, hP S6 x1 0 = some b8 ∧ hT S6 b8 = 21 ∧ vp_in x3 (hN S6 b8) ∧ hT S6 x1 = 7 ∧ ∃ b9 : Nat, hP S6 x1 1 = some b9 ∧ hT S6 b9 = 21 ∧ vp_in x3 (hN S6 b9) ∧ hT S6 b7 = 7 ∧ wp_X6_push M b7 (hI S6 b8 (Int32.toNatClampNeg x3)) (hI S6 b9 (Int32.toNatClampNeg x3)) S6 (fun r10 S10 => K14 x0 x1 x2 (x3 + 1) S10))))
def wl_X2_loadHighest_14 (M : Nat × Nat) (K : Int32 → HS → Prop) : Nat → Nat → Nat → Int32 → Int32 → HS → Prop
  | 0 => fun _ _ _ _ _ => False
  | nn + 1 => wb_X2_loadHighest_14 M (wl_X2_loadHighest_14 M K nn) K
set_option maxHeartbeats 4000000 in
set_option maxRecDepth 100000 in
theorem l_X2_loadHighest_14 {G : CG} {S0 : HS} {X : Fx} {K : Int32 → HS → Prop} (hc : Cx X RX2 cX2_loadHighest 4) (hr : Cc G S0 3 none (kV K) X) : ∀ (nn : Nat) (x0 x1 : Nat) (x2 x3 : Int32) (S : HS), wl_X2_loadHighest_14 (gC G, gS G) K nn x0 x1 x2 x3 S → MC G S0 X 4 S 14 [(0, .ref x0), (1, .ref x1), (2, .int x2), (3, .int x3)] [] := by
  intro nn
  induction nn with
  | zero => intro x0 x1 x2 x3 S hw; exact False.elim hw
  | succ nn ih =>
    intro x0 x1 x2 x3 S hw
    have hw : wb_X2_loadHighest_14 (gC G, gS G) (wl_X2_loadHighest_14 (gC G, gS G) K nn) K x0 x1 x2 x3 S := hw
    have h14 := ih
    generalize wl_X2_loadHighest_14 (gC G, gS G) K nn = K14 at hw h14
    unfold wb_X2_loadHighest_14 at hw
    refine m_iload_n hc 3 dX2_loadHighest_14 rfl rfl ?_
    refine m_aload_n hc 1 dX2_loadHighest_15 rfl rfl ?_
    obtain ⟨ht, hw⟩ := hw
    refine c_geti hc hr ciX6 (Nat.le_of_ble_eq_true rfl) 2 (Nat.le_of_ble_eq_true rfl) rfl dX2_loadHighest_16 lf_X2_107 ht ?_
    refine m_icmp_ge hc 60 dX2_loadHighest_19 rfl (fun cq => ?_) (fun cq => ?_)
    · have hw := hw.1 cq
      refine m_aload_n hc 0 dX2_loadHighest_60 rfl rfl ?_
      obtain ⟨ht, b1, e_b1, hw⟩ := hw
      refine c_getr hc hr ciX2 (Nat.le_of_ble_eq_true rfl) 5 (Nat.le_of_ble_eq_true rfl) rfl dX2_loadHighest_61 lf_X2_38 ht e_b1 ?_
      refine m_aload_n hc 0 dX2_loadHighest_64 rfl rfl ?_
      obtain ⟨ht, b2, e_b2, hw⟩ := hw
      refine c_getr hc hr ciX2 (Nat.le_of_ble_eq_true rfl) 3 (Nat.le_of_ble_eq_true rfl) rfl dX2_loadHighest_65 lf_X2_28 ht e_b2 ?_
      refine m_aload_n hc 0 dX2_loadHighest_68 rfl rfl ?_
      obtain ⟨ht, b3, e_b3, hw⟩ := hw
      refine c_getr hc hr ciX2 (Nat.le_of_ble_eq_true rfl) 2 (Nat.le_of_ble_eq_true rfl) rfl dX2_loadHighest_69 lf_X2_24 ht e_b3 ?_
      refine m_aload_n hc 0 dX2_loadHighest_72 rfl rfl ?_
      obtain ⟨ht, hw⟩ := hw
      refine c_geti hc hr ciX2 (Nat.le_of_ble_eq_true rfl) 10 (Nat.le_of_ble_eq_true rfl) rfl dX2_loadHighest_73 lf_X2_63 ht ?_
      obtain ⟨ht, hw⟩ := hw
      refine c_callVv hc hr ciX5 (Nat.le_of_ble_eq_true rfl) ht mt_X5_load rfl lm_X2_77 (ok_X5_load hw) (Nat.le_of_ble_eq_true rfl) dX2_loadHighest_76 rfl (rest := []) rfl (Nat.le_of_ble_eq_true rfl) (fun S4 hw => ?_)
      exact c_vret hc hr dX2_loadHighest_79 hw
    · have hw := hw.2 cq
      refine m_aload_n hc 1 dX2_loadHighest_22 rfl rfl ?_
      obtain ⟨ht, b5, e_b5, hw⟩ := hw
      refine c_getr hc hr ciX6 (Nat.le_of_ble_eq_true rfl) 0 (Nat.le_of_ble_eq_true rfl) rfl dX2_loadHighest_23 lf_X2_111 ht e_b5 ?_
      refine m_iload_n hc 3 dX2_loadHighest_26 rfl rfl ?_
      obtain ⟨ht, hi, hw⟩ := hw
      refine c_iald hc hr ht hi dX2_loadHighest_27 ?_
      refine c_callSi hc hr mt_X6_degreeOf lm_X2_123 (ok_X6_degreeOf hw) (Nat.le_of_ble_eq_true rfl) dX2_loadHighest_28 rfl (rest := []) rfl (Nat.le_of_ble_eq_true rfl) (fun r6 S6 hw => ?_)
      refine m_iload_n hc 2 dX2_loadHighest_31 rfl rfl ?_
      refine m_icmp_ne hc 54 dX2_loadHighest_32 rfl (fun cq => ?_) (fun cq => ?_)
      · have hw := hw.1 cq
        refine m_iinc hc 3 (x3 + 1) [(3, .int (x3 + 1)), (0, .ref x0), (1, .ref x1), (2, .int x2)] dX2_loadHighest_54 rfl rfl (Nat.le_of_ble_eq_true rfl) rfl ?_
        refine m_goto hc 14 dX2_loadHighest_57 rfl ?_
        refine m_sub [1, 2, 3, 0] rfl ?_
        exact h14 x0 x1 x2 (x3 + 1) S6 hw
      · have hw := hw.2 cq
        refine m_aload_n hc 0 dX2_loadHighest_35 rfl rfl ?_
        obtain ⟨ht, b7, e_b7, hw⟩ := hw
        refine c_getr hc hr ciX2 (Nat.le_of_ble_eq_true rfl) 3 (Nat.le_of_ble_eq_true rfl) rfl dX2_loadHighest_36 lf_X2_28 ht e_b7 ?_
        refine m_aload_n hc 1 dX2_loadHighest_39 rfl rfl ?_
        obtain ⟨ht, b8, e_b8, hw⟩ := hw
        refine c_getr hc hr ciX6 (Nat.le_of_ble_eq_true rfl) 0 (Nat.le_of_ble_eq_true rfl) rfl dX2_loadHighest_40 lf_X2_111 ht e_b8 ?_
        refine m_iload_n hc 3 dX2_loadHighest_43 rfl rfl ?_
        obtain ⟨ht, hi, hw⟩ := hw
        refine c_iald hc hr ht hi dX2_loadHighest_44 ?_
        refine m_aload_n hc 1 dX2_loadHighest_45 rfl rfl ?_
        obtain ⟨ht, b9, e_b9, hw⟩ := hw
        refine c_getr hc hr ciX6 (Nat.le_of_ble_eq_true rfl) 1 (Nat.le_of_ble_eq_true rfl) rfl dX2_loadHighest_46 lf_X2_117 ht e_b9 ?_
        refine m_iload_n hc 3 dX2_loadHighest_49 rfl rfl ?_
        obtain ⟨ht, hi, hw⟩ := hw
        refine c_iald hc hr ht hi dX2_loadHighest_50 ?_
        obtain ⟨ht, hw⟩ := hw
        refine c_callVv hc hr ciX6 (Nat.le_of_ble_eq_true rfl) ht mt_X6_push rfl lm_X2_126 (ok_X6_push hw) (Nat.le_of_ble_eq_true rfl) dX2_loadHighest_51 rfl (rest := []) rfl (Nat.le_of_ble_eq_true rfl) (fun S10 hw => ?_)
        refine m_iinc hc 3 (x3 + 1) [(3, .int (x3 + 1)), (0, .ref x0), (1, .ref x1), (2, .int x2)] dX2_loadHighest_54 rfl rfl (Nat.le_of_ble_eq_true rfl) rfl ?_
        refine m_goto hc 14 dX2_loadHighest_57 rfl ?_
        refine m_sub [1, 2, 3, 0] rfl ?_
        exact h14 x0 x1 x2 (x3 + 1) S10 hw
def wp_X2_loadHighest (M : Nat × Nat) (x0 x1 : Nat) (S : HS) (K : Int32 → HS → Prop) : Prop := hT S x1 = 7 ∧ wp_X6_degree M x1 S (fun r1 S1 => hT S1 x0 = 3 ∧ ∃ b2 : Nat, hP S1 x0 3 = some b2 ∧ hT S1 b2 = 7 ∧ wp_X6_clear M b2 S1 (fun r3 S3 => ∃ nn : Nat, wl_X2_loadHighest_14 M K nn x0 x1 r1 0 S3))
set_option maxHeartbeats 4000000 in
set_option maxRecDepth 100000 in
theorem ok_X2_loadHighest {G : CG} {x0 : Nat} {x1 : Nat} {S : HS} {K : Int32 → HS → Prop} (hw : wp_X2_loadHighest (gC G, gS G) x0 x1 S K) : CC 3 yX2_loadHighest cX2_loadHighest 4 none [.ref x0, .ref x1] G S (kV K) := by
  refine CC.of (by decide +kernel) (Nat.le_of_ble_eq_true rfl) (fun X hc hr hname => ?_)
  show MC G S X 4 S 0 [(0, .ref x0), (1, .ref x1)] []
  unfold wp_X2_loadHighest at hw
  refine m_aload_n hc 1 dX2_loadHighest_0 rfl rfl ?_
  obtain ⟨ht, hw⟩ := hw
  refine c_callVi hc hr ciX6 (Nat.le_of_ble_eq_true rfl) ht mt_X6_degree rfl lm_X2_73 (ok_X6_degree hw) (Nat.le_of_ble_eq_true rfl) dX2_loadHighest_1 rfl (rest := []) rfl (Nat.le_of_ble_eq_true rfl) (fun r1 S1 hw => ?_)
  refine m_istore_n hc [(2, .int r1), (0, .ref x0), (1, .ref x1)] dX2_loadHighest_4 rfl (Nat.le_of_ble_eq_true rfl) rfl ?_
  refine m_aload_n hc 1 dX2_loadHighest_5 rfl rfl ?_
  obtain ⟨ht, b2, e_b2, hw⟩ := hw
  refine c_getr hc hr ciX2 (Nat.le_of_ble_eq_true rfl) 3 (Nat.le_of_ble_eq_true rfl) rfl dX2_loadHighest_6 lf_X2_28 ht e_b2 ?_
  obtain ⟨ht, hw⟩ := hw
  refine c_callVv hc hr ciX6 (Nat.le_of_ble_eq_true rfl) ht mt_X6_clear rfl lm_X2_120 (ok_X6_clear hw) (Nat.le_of_ble_eq_true rfl) dX2_loadHighest_9 rfl (rest := []) rfl (Nat.le_of_ble_eq_true rfl) (fun S3 hw => ?_)
  refine m_iconst hc 0 dX2_loadHighest_12 (by decide) ?_
  refine m_istore_n hc [(3, .int 0), (2, .int r1), (0, .ref x0), (1, .ref x1)] dX2_loadHighest_13 rfl (Nat.le_of_ble_eq_true rfl) rfl ?_
  refine m_sub [2, 3, 1, 0] rfl ?_
  obtain ⟨nn, hw⟩ := hw
  exact l_X2_loadHighest_14 hc hr nn x0 x1 r1 0 S3 hw
def w_X2_canGoIn_31 (M : Nat × Nat) (K : Int32 → HS → Prop) (x0 x1 : Nat) (S : HS) : Prop := hT S x1 = 4 ∧ ((hI S x1 4) = 0 → K 1 S) ∧ (¬ ((hI S x1 4) = 0) → hT S x0 = 3 ∧ ∃ b1 : Nat, hP S x0 8 = some b1 ∧ hT S x1 = 4 ∧ hT S b1 = 21 ∧ vp_in (hI S x1 2) (hN S b1) ∧ ((hI S b1 (Int32.toNatClampNeg (hI S x1 2))) ≤ 0 → K 0 S) ∧ (¬ ((hI S b1 (Int32.toNatClampNeg (hI S x1 2))) ≤ 0) → K 1 S))
set_option maxHeartbeats 4000000 in
set_option maxRecDepth 100000 in
theorem b_X2_canGoIn_31 {G : CG} {S0 : HS} {X : Fx} {K : Int32 → HS → Prop} (hc : Cx X RX2 cX2_canGoIn 2) (hr : Cc G S0 0 (some .boolean) (kI K) X) : ∀ (x0 x1 : Nat) (S : HS), w_X2_canGoIn_31 (gC G, gS G) K x0 x1 S → MC G S0 X 2 S 31 [(0, .ref x0), (1, .ref x1)] [] := by
  intro x0 x1 S hw
  unfold w_X2_canGoIn_31 at hw
  refine m_aload_n hc 1 dX2_canGoIn_31 rfl rfl ?_
  obtain ⟨ht, hw⟩ := hw
  refine c_geti hc hr ciX3 (Nat.le_of_ble_eq_true rfl) 4 (Nat.le_of_ble_eq_true rfl) rfl dX2_canGoIn_32 lf_X2_156 ht ?_
  refine m_if_eq hc 50 dX2_canGoIn_35 rfl (fun cq => ?_) (fun cq => ?_)
  · have hw := hw.1 cq
    refine m_iconst hc 1 dX2_canGoIn_50 (by decide) ?_
    refine m_goto hc 55 dX2_canGoIn_51 rfl ?_
    exact c_zret hc hr dX2_canGoIn_55 (by decide) hw
  · have hw := hw.2 cq
    refine m_aload_n hc 0 dX2_canGoIn_38 rfl rfl ?_
    obtain ⟨ht, b1, e_b1, hw⟩ := hw
    refine c_getr hc hr ciX2 (Nat.le_of_ble_eq_true rfl) 8 (Nat.le_of_ble_eq_true rfl) rfl dX2_canGoIn_39 lf_X2_51 ht e_b1 ?_
    refine m_aload_n hc 1 dX2_canGoIn_42 rfl rfl ?_
    obtain ⟨ht, hw⟩ := hw
    refine c_geti hc hr ciX3 (Nat.le_of_ble_eq_true rfl) 2 (Nat.le_of_ble_eq_true rfl) rfl dX2_canGoIn_43 lf_X2_159 ht ?_
    obtain ⟨ht, hi, hw⟩ := hw
    refine c_iald hc hr ht hi dX2_canGoIn_46 ?_
    refine m_if_le hc 54 dX2_canGoIn_47 rfl (fun cq => ?_) (fun cq => ?_)
    · have hw := hw.1 cq
      refine m_iconst hc 0 dX2_canGoIn_54 (by decide) ?_
      exact c_zret hc hr dX2_canGoIn_55 (by decide) hw
    · have hw := hw.2 cq
      refine m_iconst hc 1 dX2_canGoIn_50 (by decide) ?_
      refine m_goto hc 55 dX2_canGoIn_51 rfl ?_
      exact c_zret hc hr dX2_canGoIn_55 (by decide) hw
def wp_X2_canGoIn (M : Nat × Nat) (x0 x1 : Nat) (S : HS) (K : Int32 → HS → Prop) : Prop := hT S x0 = 3 ∧ ∃ b1 : Nat, hP S x0 8 = some b1 ∧ hT S x1 = 4 ∧ hT S b1 = 21 ∧ vp_in (hI S x1 0) (hN S b1) ∧ ((hI S b1 (Int32.toNatClampNeg (hI S x1 0))) ≤ 0 → K 0 S) ∧ (¬ ((hI S b1 (Int32.toNatClampNeg (hI S x1 0))) ≤ 0) → hT S x1 = 4 ∧ ((hI S x1 3) = 0 → w_X2_canGoIn_31 M K x0 x1 S) ∧ (¬ ((hI S x1 3) = 0) → hT S x0 = 3 ∧ ∃ b2 : Nat, hP S x0 8 = some b2 ∧ hT S x1 = 4 ∧ hT S b2 = 21 ∧ vp_in (hI S x1 1) (hN S b2) ∧ ((hI S b2 (Int32.toNatClampNeg (hI S x1 1))) ≤ 0 → K 0 S) ∧ (¬ ((hI S b2 (Int32.toNatClampNeg (hI S x1 1))) ≤ 0) → w_X2_canGoIn_31 M K x0 x1 S)))
set_option maxHeartbeats 4000000 in
set_option maxRecDepth 100000 in
theorem ok_X2_canGoIn {G : CG} {x0 : Nat} {x1 : Nat} {S : HS} {K : Int32 → HS → Prop} (hw : wp_X2_canGoIn (gC G, gS G) x0 x1 S K) : CC 0 yX2_canGoIn cX2_canGoIn 2 (some .boolean) [.ref x0, .ref x1] G S (kI K) := by
  refine CC.of (by decide +kernel) (Nat.le_of_ble_eq_true rfl) (fun X hc hr hname => ?_)
  show MC G S X 2 S 0 [(0, .ref x0), (1, .ref x1)] []
  unfold wp_X2_canGoIn at hw
  refine m_aload_n hc 0 dX2_canGoIn_0 rfl rfl ?_
  obtain ⟨ht, b1, e_b1, hw⟩ := hw
  refine c_getr hc hr ciX2 (Nat.le_of_ble_eq_true rfl) 8 (Nat.le_of_ble_eq_true rfl) rfl dX2_canGoIn_1 lf_X2_51 ht e_b1 ?_
  refine m_aload_n hc 1 dX2_canGoIn_4 rfl rfl ?_
  obtain ⟨ht, hw⟩ := hw
  refine c_geti hc hr ciX3 (Nat.le_of_ble_eq_true rfl) 0 (Nat.le_of_ble_eq_true rfl) rfl dX2_canGoIn_5 lf_X2_147 ht ?_
  obtain ⟨ht, hi, hw⟩ := hw
  refine c_iald hc hr ht hi dX2_canGoIn_8 ?_
  refine m_if_le hc 54 dX2_canGoIn_9 rfl (fun cq => ?_) (fun cq => ?_)
  · have hw := hw.1 cq
    refine m_iconst hc 0 dX2_canGoIn_54 (by decide) ?_
    exact c_zret hc hr dX2_canGoIn_55 (by decide) hw
  · have hw := hw.2 cq
    refine m_aload_n hc 1 dX2_canGoIn_12 rfl rfl ?_
    obtain ⟨ht, hw⟩ := hw
    refine c_geti hc hr ciX3 (Nat.le_of_ble_eq_true rfl) 3 (Nat.le_of_ble_eq_true rfl) rfl dX2_canGoIn_13 lf_X2_150 ht ?_
    refine m_if_eq hc 31 dX2_canGoIn_16 rfl (fun cq => ?_) (fun cq => ?_)
    · have hw := hw.1 cq
      exact b_X2_canGoIn_31 hc hr x0 x1 S hw
    · have hw := hw.2 cq
      refine m_aload_n hc 0 dX2_canGoIn_19 rfl rfl ?_
      obtain ⟨ht, b2, e_b2, hw⟩ := hw
      refine c_getr hc hr ciX2 (Nat.le_of_ble_eq_true rfl) 8 (Nat.le_of_ble_eq_true rfl) rfl dX2_canGoIn_20 lf_X2_51 ht e_b2 ?_
      refine m_aload_n hc 1 dX2_canGoIn_23 rfl rfl ?_
      obtain ⟨ht, hw⟩ := hw
      refine c_geti hc hr ciX3 (Nat.le_of_ble_eq_true rfl) 1 (Nat.le_of_ble_eq_true rfl) rfl dX2_canGoIn_24 lf_X2_153 ht ?_
      obtain ⟨ht, hi, hw⟩ := hw
      refine c_iald hc hr ht hi dX2_canGoIn_27 ?_
      refine m_if_le hc 54 dX2_canGoIn_28 rfl (fun cq => ?_) (fun cq => ?_)
      · have hw := hw.1 cq
        refine m_iconst hc 0 dX2_canGoIn_54 (by decide) ?_
        exact c_zret hc hr dX2_canGoIn_55 (by decide) hw
      · have hw := hw.2 cq
        exact b_X2_canGoIn_31 hc hr x0 x1 S hw
def wp_X2_note (M : Nat × Nat) (x0 : Nat) (x1 x2 x3 x4 x5 : Int32) (S : HS) (K : Int32 → HS → Prop) : Prop := hT S x0 = 3 ∧ hT S x0 = 3 ∧ ∃ b1 : Nat, hP S x0 0 = some b1 ∧ hT S b1 = 21 ∧ vp_in ((hI S x0 1) * 5) (hN S b1) ∧ hT (sI S b1 (Int32.toNatClampNeg ((hI S x0 1) * 5)) x1) x0 = 3 ∧ ∃ b2 : Nat, hP (sI S b1 (Int32.toNatClampNeg ((hI S x0 1) * 5)) x1) x0 0 = some b2 ∧ hT (sI S b1 (Int32.toNatClampNeg ((hI S x0 1) * 5)) x1) b2 = 21 ∧ vp_in (((hI S x0 1) * 5) + 1) (hN (sI S b1 (Int32.toNatClampNeg ((hI S x0 1) * 5)) x1) b2) ∧ hT (sI (sI S b1 (Int32.toNatClampNeg ((hI S x0 1) * 5)) x1) b2 (Int32.toNatClampNeg (((hI S x0 1) * 5) + 1)) x2) x0 = 3 ∧ ∃ b3 : Nat, hP (sI (sI S b1 (Int32.toNatClampNeg ((hI S x0 1) * 5)) x1) b2 (Int32.toNatClampNeg (((hI S x0 1) * 5) + 1)) x2) x0 0 = some b3 ∧ hT (sI (sI S b1 (Int32.toNatClampNeg ((hI S x0 1) * 5)) x1) b2 (Int32.toNatClampNeg (((hI S x0 1) * 5) + 1)) x2) b3 = 21 ∧ vp_in (((hI S x0 1) * 5) + 2) (hN (sI (sI S b1 (Int32.toNatClampNeg ((hI S x0 1) * 5)) x1) b2 (Int32.toNatClampNeg (((hI S x0 1) * 5) + 1)) x2) b3) ∧ hT (sI (sI (sI S b1 (Int32.toNatClampNeg ((hI S x0 1) * 5)) x1) b2 (Int32.toNatClampNeg (((hI S x0 1) * 5) + 1)) x2) b3 (Int32.toNatClampNeg (((hI S x0 1) * 5) + 2)) x3) x0 = 3 ∧ ∃ b4 : Nat, hP (sI (sI (sI S b1 (Int32.toNatClampNeg ((hI S x0 1) * 5)) x1) b2 (Int32.toNatClampNeg (((hI S x0 1) * 5) + 1)) x2) b3 (Int32.toNatClampNeg (((hI S x0 1) * 5) + 2)) x3) x0 0 = some b4 ∧ hT (sI (sI (sI S b1 (Int32.toNatClampNeg ((hI S x0 1) * 5)) x1) b2 (Int32.toNatClampNeg (((hI S x0 1) * 5) + 1)) x2) b3 (Int32.toNatClampNeg (((hI S x0 1) * 5) + 2)) x3) b4 = 21 ∧ vp_in (((hI S x0 1) * 5) + 3) (hN (sI (sI (sI S b1 (Int32.toNatClampNeg ((hI S x0 1) * 5)) x1) b2 (Int32.toNatClampNeg (((hI S x0 1) * 5) + 1)) x2) b3 (Int32.toNatClampNeg (((hI S x0 1) * 5) + 2)) x3) b4) ∧ hT (sI (sI (sI (sI S b1 (Int32.toNatClampNeg ((hI S x0 1) * 5)) x1) b2 (Int32.toNatClampNeg (((hI S x0 1) * 5) + 1)) x2) b3 (Int32.toNatClampNeg (((hI S x0 1) * 5) + 2)) x3) b4 (Int32.toNatClampNeg (((hI S x0 1) * 5) + 3)) x4) x0 = 3 ∧ ∃ b5 : Nat, hP (sI (sI (sI (sI S b1 (Int32.toNatClampNeg ((hI S x0 1) * 5)) x1) b2 (Int32.toNatClampNeg (((hI S x0 1) * 5) + 1)) x2) b3 (Int32.toNatClampNeg (((hI S x0 1) * 5) + 2)) x3) b4 (Int32.toNatClampNeg (((hI S x0 1) * 5) + 3)) x4) x0 0 = some b5 ∧ hT (sI (sI (sI (sI S b1 (Int32.toNatClampNeg ((hI S x0 1) * 5)) x1) b2 (Int32.toNatClampNeg (((hI S x0 1) * 5) + 1)) x2) b3 (Int32.toNatClampNeg (((hI S x0 1) * 5) + 2)) x3) b4 (Int32.toNatClampNeg (((hI S x0 1) * 5) + 3)) x4) b5 = 21 ∧ vp_in (((hI S x0 1) * 5) + 4) (hN (sI (sI (sI (sI S b1 (Int32.toNatClampNeg ((hI S x0 1) * 5)) x1) b2 (Int32.toNatClampNeg (((hI S x0 1) * 5) + 1)) x2) b3 (Int32.toNatClampNeg (((hI S x0 1) * 5) + 2)) x3) b4 (Int32.toNatClampNeg (((hI S x0 1) * 5) + 3)) x4) b5) ∧ hT (sI (sI (sI (sI (sI S b1 (Int32.toNatClampNeg ((hI S x0 1) * 5)) x1) b2 (Int32.toNatClampNeg (((hI S x0 1) * 5) + 1)) x2) b3 (Int32.toNatClampNeg (((hI S x0 1) * 5) + 2)) x3) b4 (Int32.toNatClampNeg (((hI S x0 1) * 5) + 3)) x4) b5 (Int32.toNatClampNeg (((hI S x0 1) * 5) + 4)) x5) x0 = 3 ∧ hT (sI (sI (sI (sI (sI S b1 (Int32.toNatClampNeg ((hI S x0 1) * 5)) x1) b2 (Int32.toNatClampNeg (((hI S x0 1) * 5) + 1)) x2) b3 (Int32.toNatClampNeg (((hI S x0 1) * 5) + 2)) x3) b4 (Int32.toNatClampNeg (((hI S x0 1) * 5) + 3)) x4) b5 (Int32.toNatClampNeg (((hI S x0 1) * 5) + 4)) x5) x0 = 3 ∧ K 0 (sI (sI (sI (sI (sI (sI S b1 (Int32.toNatClampNeg ((hI S x0 1) * 5)) x1) b2 (Int32.toNatClampNeg (((hI S x0 1) * 5) + 1)) x2) b3 (Int32.toNatClampNeg (((hI S x0 1) * 5) + 2)) x3) b4 (Int32.toNatClampNeg (((hI S x0 1) * 5) + 3)) x4) b5 (Int32.toNatClampNeg (((hI S x0 1) * 5) + 4)) x5) x0 1 ((hI (sI (sI (sI (sI (sI S b1 (Int32.toNatClampNeg ((hI S x0 1) * 5)) x1) b2 (Int32.toNatClampNeg (((hI S x0 1) * 5) + 1)) x2) b3 (Int32.toNatClampNeg (((hI S x0 1) * 5) + 2)) x3) b4 (Int32.toNatClampNeg (((hI S x0 1) * 5) + 3)) x4) b5 (Int32.toNatClampNeg (((hI S x0 1) * 5) + 4)) x5) x0 1) + 1))
set_option maxHeartbeats 4000000 in
set_option maxRecDepth 100000 in
theorem ok_X2_note {G : CG} {x0 : Nat} {x1 : Int32} {x2 : Int32} {x3 : Int32} {x4 : Int32} {x5 : Int32} {S : HS} {K : Int32 → HS → Prop} (hw : wp_X2_note (gC G, gS G) x0 x1 x2 x3 x4 x5 S K) : CC 0 yX2_note cX2_note 7 none [.ref x0, .int x1, .int x2, .int x3, .int x4, .int x5] G S (kV K) := by
  refine CC.of (by decide +kernel) (Nat.le_of_ble_eq_true rfl) (fun X hc hr hname => ?_)
  show MC G S X 7 S 0 [(0, .ref x0), (1, .int x1), (2, .int x2), (3, .int x3), (4, .int x4), (5, .int x5)] []
  unfold wp_X2_note at hw
  refine m_aload_n hc 0 dX2_note_0 rfl rfl ?_
  obtain ⟨ht, hw⟩ := hw
  refine c_geti hc hr ciX2 (Nat.le_of_ble_eq_true rfl) 1 (Nat.le_of_ble_eq_true rfl) rfl dX2_note_1 lf_X2_15 ht ?_
  refine m_iconst hc 5 dX2_note_4 (by decide) ?_
  refine m_imul hc dX2_note_5 ?_
  refine m_istore hc [(6, .int ((hI S x0 1) * 5)), (0, .ref x0), (1, .int x1), (2, .int x2), (3, .int x3), (4, .int x4), (5, .int x5)] dX2_note_6 (Nat.le_of_ble_eq_true rfl) rfl ?_
  refine m_aload_n hc 1 dX2_note_8 rfl rfl ?_
  obtain ⟨ht, b1, e_b1, hw⟩ := hw
  refine c_getr hc hr ciX2 (Nat.le_of_ble_eq_true rfl) 0 (Nat.le_of_ble_eq_true rfl) rfl dX2_note_9 lf_X2_11 ht e_b1 ?_
  refine m_iload hc 0 dX2_note_12 rfl ?_
  refine m_iload_n hc 2 dX2_note_14 rfl rfl ?_
  obtain ⟨ht, hi, hw⟩ := hw
  refine c_iast hc hr ht hi dX2_note_15 ?_
  refine m_aload_n hc 1 dX2_note_16 rfl rfl ?_
  obtain ⟨ht, b2, e_b2, hw⟩ := hw
  refine c_getr hc hr ciX2 (Nat.le_of_ble_eq_true rfl) 0 (Nat.le_of_ble_eq_true rfl) rfl dX2_note_17 lf_X2_11 ht e_b2 ?_
  refine m_iload hc 0 dX2_note_20 rfl ?_
  refine m_iconst hc 1 dX2_note_22 (by decide) ?_
  refine m_iadd hc dX2_note_23 ?_
  refine m_iload_n hc 3 dX2_note_24 rfl rfl ?_
  obtain ⟨ht, hi, hw⟩ := hw
  refine c_iast hc hr ht hi dX2_note_25 ?_
  refine m_aload_n hc 1 dX2_note_26 rfl rfl ?_
  obtain ⟨ht, b3, e_b3, hw⟩ := hw
  refine c_getr hc hr ciX2 (Nat.le_of_ble_eq_true rfl) 0 (Nat.le_of_ble_eq_true rfl) rfl dX2_note_27 lf_X2_11 ht e_b3 ?_
  refine m_iload hc 0 dX2_note_30 rfl ?_
  refine m_iconst hc 2 dX2_note_32 (by decide) ?_
  refine m_iadd hc dX2_note_33 ?_
  refine m_iload_n hc 4 dX2_note_34 rfl rfl ?_
  obtain ⟨ht, hi, hw⟩ := hw
  refine c_iast hc hr ht hi dX2_note_35 ?_
  refine m_aload_n hc 1 dX2_note_36 rfl rfl ?_
  obtain ⟨ht, b4, e_b4, hw⟩ := hw
  refine c_getr hc hr ciX2 (Nat.le_of_ble_eq_true rfl) 0 (Nat.le_of_ble_eq_true rfl) rfl dX2_note_37 lf_X2_11 ht e_b4 ?_
  refine m_iload hc 0 dX2_note_40 rfl ?_
  refine m_iconst hc 3 dX2_note_42 (by decide) ?_
  refine m_iadd hc dX2_note_43 ?_
  refine m_iload hc 5 dX2_note_44 rfl ?_
  obtain ⟨ht, hi, hw⟩ := hw
  refine c_iast hc hr ht hi dX2_note_46 ?_
  refine m_aload_n hc 1 dX2_note_47 rfl rfl ?_
  obtain ⟨ht, b5, e_b5, hw⟩ := hw
  refine c_getr hc hr ciX2 (Nat.le_of_ble_eq_true rfl) 0 (Nat.le_of_ble_eq_true rfl) rfl dX2_note_48 lf_X2_11 ht e_b5 ?_
  refine m_iload hc 0 dX2_note_51 rfl ?_
  refine m_iconst hc 4 dX2_note_53 (by decide) ?_
  refine m_iadd hc dX2_note_54 ?_
  refine m_iload hc 6 dX2_note_55 rfl ?_
  obtain ⟨ht, hi, hw⟩ := hw
  refine c_iast hc hr ht hi dX2_note_57 ?_
  refine m_aload_n hc 1 dX2_note_58 rfl rfl ?_
  refine m_dup hc dX2_note_59 rfl ?_
  obtain ⟨ht, hw⟩ := hw
  refine c_geti hc hr ciX2 (Nat.le_of_ble_eq_true rfl) 1 (Nat.le_of_ble_eq_true rfl) rfl dX2_note_60 lf_X2_15 ht ?_
  refine m_iconst hc 1 dX2_note_63 (by decide) ?_
  refine m_iadd hc dX2_note_64 ?_
  obtain ⟨ht, hw⟩ := hw
  refine c_puti hc hr ciX2 (Nat.le_of_ble_eq_true rfl) 1 (Nat.le_of_ble_eq_true rfl) rfl dX2_note_65 lf_X2_15 ht (Or.inl rfl) ⟨rfl, rfl⟩ ?_
  exact c_vret hc hr dX2_note_68 hw
def w_X2_divideSlice_266 (M : Nat × Nat) (K141 : Nat → Int32 → Nat → Int32 → Int32 → Int32 → Int32 → Int32 → Int32 → Int32 → Int32 → Int32 → HS → Prop) (K151 : Nat → Int32 → Nat → Int32 → Int32 → Int32 → Int32 → Int32 → Int32 → Int32 → Int32 → Int32 → Int32 → HS → Prop) (K : Int32 → HS → Prop) (x0 : Nat) (x2 : Int32) (x3 : Nat) (x4 x5 x6 x7 x8 x9 x10 x11 x12 x13 x15 x16 : Int32) (S : HS) : Prop := (x8 = 0 → K151 x0 x2 x3 x4 x5 x6 x7 x8 x9 x10 x11 x12 (x13 + 1) S) ∧ (¬ (x8 = 0) → hT S x3 = 21 ∧ vp_in (x16 + x6) (hN S x3) ∧ hT S x3 = 21 ∧ vp_in (x16 + x6) (hN S x3) ∧ K151 x0 x2 x3 x4 x5 x6 x7 x8 x9 x10 x11 x12 (x13 + 1) (sI S x3 (Int32.toNatClampNeg (x16 + x6)) ((hI S x3 (Int32.toNatClampNeg (x16 + x6))) + (x8 * x15))))
set_option maxHeartbeats 4000000 in
set_option maxRecDepth 100000 in
theorem b_X2_divideSlice_266 {G : CG} {S0 : HS} {X : Fx} {K : Int32 → HS → Prop} (hc : Cx X RX2 cX2_divideSlice 17) (hr : Cc G S0 0 (some .boolean) (kI K) X) (K141 : Nat → Int32 → Nat → Int32 → Int32 → Int32 → Int32 → Int32 → Int32 → Int32 → Int32 → Int32 → HS → Prop) (K151 : Nat → Int32 → Nat → Int32 → Int32 → Int32 → Int32 → Int32 → Int32 → Int32 → Int32 → Int32 → Int32 → HS → Prop) (h141 : ∀ (x0 : Nat) (x2 : Int32) (x3 : Nat) (x4 x5 x6 x7 x8 x9 x10 x11 x12 : Int32) (S : HS), K141 x0 x2 x3 x4 x5 x6 x7 x8 x9 x10 x11 x12 S → MC G S0 X 17 S 141 [(0, .ref x0), (2, .int x2), (3, .ref x3), (4, .int x4), (5, .int x5), (6, .int x6), (7, .int x7), (8, .int x8), (9, .int x9), (10, .int x10), (11, .int x11), (12, .int x12)] []) (h151 : ∀ (x0 : Nat) (x2 : Int32) (x3 : Nat) (x4 x5 x6 x7 x8 x9 x10 x11 x12 x13 : Int32) (S : HS), K151 x0 x2 x3 x4 x5 x6 x7 x8 x9 x10 x11 x12 x13 S → MC G S0 X 17 S 151 [(0, .ref x0), (2, .int x2), (3, .ref x3), (4, .int x4), (5, .int x5), (6, .int x6), (7, .int x7), (8, .int x8), (9, .int x9), (10, .int x10), (11, .int x11), (12, .int x12), (13, .int x13)] []) : ∀ (x0 : Nat) (x2 : Int32) (x3 : Nat) (x4 x5 x6 x7 x8 x9 x10 x11 x12 x13 x15 x16 : Int32) (S : HS), w_X2_divideSlice_266 (gC G, gS G) K141 K151 K x0 x2 x3 x4 x5 x6 x7 x8 x9 x10 x11 x12 x13 x15 x16 S → MC G S0 X 17 S 266 [(0, .ref x0), (2, .int x2), (3, .ref x3), (4, .int x4), (5, .int x5), (6, .int x6), (7, .int x7), (8, .int x8), (9, .int x9), (10, .int x10), (11, .int x11), (12, .int x12), (13, .int x13), (15, .int x15), (16, .int x16)] [] := by
  intro x0 x2 x3 x4 x5 x6 x7 x8 x9 x10 x11 x12 x13 x15 x16 S hw
  unfold w_X2_divideSlice_266 at hw
  refine m_iload hc 7 dX2_divideSlice_266 rfl ?_
  refine m_if_eq hc 286 dX2_divideSlice_268 rfl (fun cq => ?_) (fun cq => ?_)
  · have hw := hw.1 cq
    refine m_iinc hc 12 (x13 + 1) [(13, .int (x13 + 1)), (0, .ref x0), (2, .int x2), (3, .ref x3), (4, .int x4), (5, .int x5), (6, .int x6), (7, .int x7), (8, .int x8), (9, .int x9), (10, .int x10), (11, .int x11), (12, .int x12), (15, .int x15), (16, .int x16)] dX2_divideSlice_286 rfl rfl (Nat.le_of_ble_eq_true rfl) rfl ?_
    refine m_goto hc 151 dX2_divideSlice_289 rfl ?_
    refine m_sub [1, 2, 3, 4, 5, 6, 7, 8, 9, 10, 11, 12, 0] rfl ?_
    exact h151 x0 x2 x3 x4 x5 x6 x7 x8 x9 x10 x11 x12 (x13 + 1) S hw
  · have hw := hw.2 cq
    refine m_aload_n hc 2 dX2_divideSlice_271 rfl rfl ?_
    refine m_iload hc 14 dX2_divideSlice_272 rfl ?_
    refine m_iload hc 5 dX2_divideSlice_274 rfl ?_
    refine m_iadd hc dX2_divideSlice_276 ?_
    refine m_dup2 hc dX2_divideSlice_277 rfl rfl ?_
    obtain ⟨ht, hi, hw⟩ := hw
    refine c_iald hc hr ht hi dX2_divideSlice_278 ?_
    refine m_iload hc 7 dX2_divideSlice_279 rfl ?_
    refine m_iload hc 13 dX2_divideSlice_281 rfl ?_
    refine m_imul hc dX2_divideSlice_283 ?_
    refine m_iadd hc dX2_divideSlice_284 ?_
    obtain ⟨ht, hi, hw⟩ := hw
    refine c_iast hc hr ht hi dX2_divideSlice_285 ?_
    refine m_iinc hc 12 (x13 + 1) [(13, .int (x13 + 1)), (0, .ref x0), (2, .int x2), (3, .ref x3), (4, .int x4), (5, .int x5), (6, .int x6), (7, .int x7), (8, .int x8), (9, .int x9), (10, .int x10), (11, .int x11), (12, .int x12), (15, .int x15), (16, .int x16)] dX2_divideSlice_286 rfl rfl (Nat.le_of_ble_eq_true rfl) rfl ?_
    refine m_goto hc 151 dX2_divideSlice_289 rfl ?_
    refine m_sub [1, 2, 3, 4, 5, 6, 7, 8, 9, 10, 11, 12, 0] rfl ?_
    exact h151 x0 x2 x3 x4 x5 x6 x7 x8 x9 x10 x11 x12 (x13 + 1) (sI S x3 (Int32.toNatClampNeg (x16 + x6)) ((hI S x3 (Int32.toNatClampNeg (x16 + x6))) + (x8 * x15))) hw
def w_X2_divideSlice_227 (M : Nat × Nat) (K141 : Nat → Int32 → Nat → Int32 → Int32 → Int32 → Int32 → Int32 → Int32 → Int32 → Int32 → Int32 → HS → Prop) (K151 : Nat → Int32 → Nat → Int32 → Int32 → Int32 → Int32 → Int32 → Int32 → Int32 → Int32 → Int32 → Int32 → HS → Prop) (K : Int32 → HS → Prop) (x0 : Nat) (x2 : Int32) (x3 : Nat) (x4 x5 x6 x7 x8 x9 x10 x11 x12 x13 x14 x15 : Int32) (S : HS) : Prop := hT S x3 = 21 ∧ vp_in (x14 - x4) (hN S x3) ∧ hT S x3 = 21 ∧ vp_in (x14 - x4) (hN S x3) ∧ (x7 = 0 → w_X2_divideSlice_266 M K141 K151 K x0 x2 x3 x4 x5 x6 x7 x8 x9 x10 x11 x12 x13 x15 (x14 - x4) (sI S x3 (Int32.toNatClampNeg (x14 - x4)) ((hI S x3 (Int32.toNatClampNeg (x14 - x4))) + (x9 * x15)))) ∧ (¬ (x7 = 0) → hT (sI S x3 (Int32.toNatClampNeg (x14 - x4)) ((hI S x3 (Int32.toNatClampNeg (x14 - x4))) + (x9 * x15))) x3 = 21 ∧ vp_in ((x14 - x4) + x5) (hN (sI S x3 (Int32.toNatClampNeg (x14 - x4)) ((hI S x3 (Int32.toNatClampNeg (x14 - x4))) + (x9 * x15))) x3) ∧ hT (sI S x3 (Int32.toNatClampNeg (x14 - x4)) ((hI S x3 (Int32.toNatClampNeg (x14 - x4))) + (x9 * x15))) x3 = 21 ∧ vp_in ((x14 - x4) + x5) (hN (sI S x3 (Int32.toNatClampNeg (x14 - x4)) ((hI S x3 (Int32.toNatClampNeg (x14 - x4))) + (x9 * x15))) x3) ∧ w_X2_divideSlice_266 M K141 K151 K x0 x2 x3 x4 x5 x6 x7 x8 x9 x10 x11 x12 x13 x15 (x14 - x4) (sI (sI S x3 (Int32.toNatClampNeg (x14 - x4)) ((hI S x3 (Int32.toNatClampNeg (x14 - x4))) + (x9 * x15))) x3 (Int32.toNatClampNeg ((x14 - x4) + x5)) ((hI (sI S x3 (Int32.toNatClampNeg (x14 - x4)) ((hI S x3 (Int32.toNatClampNeg (x14 - x4))) + (x9 * x15))) x3 (Int32.toNatClampNeg ((x14 - x4) + x5))) + (x7 * x15))))
set_option maxHeartbeats 4000000 in
set_option maxRecDepth 100000 in
theorem b_X2_divideSlice_227 {G : CG} {S0 : HS} {X : Fx} {K : Int32 → HS → Prop} (hc : Cx X RX2 cX2_divideSlice 17) (hr : Cc G S0 0 (some .boolean) (kI K) X) (K141 : Nat → Int32 → Nat → Int32 → Int32 → Int32 → Int32 → Int32 → Int32 → Int32 → Int32 → Int32 → HS → Prop) (K151 : Nat → Int32 → Nat → Int32 → Int32 → Int32 → Int32 → Int32 → Int32 → Int32 → Int32 → Int32 → Int32 → HS → Prop) (h141 : ∀ (x0 : Nat) (x2 : Int32) (x3 : Nat) (x4 x5 x6 x7 x8 x9 x10 x11 x12 : Int32) (S : HS), K141 x0 x2 x3 x4 x5 x6 x7 x8 x9 x10 x11 x12 S → MC G S0 X 17 S 141 [(0, .ref x0), (2, .int x2), (3, .ref x3), (4, .int x4), (5, .int x5), (6, .int x6), (7, .int x7), (8, .int x8), (9, .int x9), (10, .int x10), (11, .int x11), (12, .int x12)] []) (h151 : ∀ (x0 : Nat) (x2 : Int32) (x3 : Nat) (x4 x5 x6 x7 x8 x9 x10 x11 x12 x13 : Int32) (S : HS), K151 x0 x2 x3 x4 x5 x6 x7 x8 x9 x10 x11 x12 x13 S → MC G S0 X 17 S 151 [(0, .ref x0), (2, .int x2), (3, .ref x3), (4, .int x4), (5, .int x5), (6, .int x6), (7, .int x7), (8, .int x8), (9, .int x9), (10, .int x10), (11, .int x11), (12, .int x12), (13, .int x13)] []) : ∀ (x0 : Nat) (x2 : Int32) (x3 : Nat) (x4 x5 x6 x7 x8 x9 x10 x11 x12 x13 x14 x15 : Int32) (S : HS), w_X2_divideSlice_227 (gC G, gS G) K141 K151 K x0 x2 x3 x4 x5 x6 x7 x8 x9 x10 x11 x12 x13 x14 x15 S → MC G S0 X 17 S 227 [(0, .ref x0), (2, .int x2), (3, .ref x3), (4, .int x4), (5, .int x5), (6, .int x6), (7, .int x7), (8, .int x8), (9, .int x9), (10, .int x10), (11, .int x11), (12, .int x12), (13, .int x13), (14, .int x14), (15, .int x15)] [] := by
  intro x0 x2 x3 x4 x5 x6 x7 x8 x9 x10 x11 x12 x13 x14 x15 S hw
  unfold w_X2_divideSlice_227 at hw
  refine m_iload hc 13 dX2_divideSlice_227 rfl ?_
  refine m_iload hc 3 dX2_divideSlice_229 rfl ?_
  refine m_isub hc dX2_divideSlice_231 ?_
  refine m_istore hc [(16, .int (x14 - x4)), (0, .ref x0), (2, .int x2), (3, .ref x3), (4, .int x4), (5, .int x5), (6, .int x6), (7, .int x7), (8, .int x8), (9, .int x9), (10, .int x10), (11, .int x11), (12, .int x12), (13, .int x13), (14, .int x14), (15, .int x15)] dX2_divideSlice_232 (Nat.le_of_ble_eq_true rfl) rfl ?_
  refine m_aload_n hc 3 dX2_divideSlice_234 rfl rfl ?_
  refine m_iload hc 0 dX2_divideSlice_235 rfl ?_
  refine m_dup2 hc dX2_divideSlice_237 rfl rfl ?_
  obtain ⟨ht, hi, hw⟩ := hw
  refine c_iald hc hr ht hi dX2_divideSlice_238 ?_
  refine m_iload hc 9 dX2_divideSlice_239 rfl ?_
  refine m_iload hc 15 dX2_divideSlice_241 rfl ?_
  refine m_imul hc dX2_divideSlice_243 ?_
  refine m_iadd hc dX2_divideSlice_244 ?_
  obtain ⟨ht, hi, hw⟩ := hw
  refine c_iast hc hr ht hi dX2_divideSlice_245 ?_
  refine m_iload hc 7 dX2_divideSlice_246 rfl ?_
  refine m_if_eq hc 266 dX2_divideSlice_248 rfl (fun cq => ?_) (fun cq => ?_)
  · have hw := hw.1 cq
    refine m_sub [1, 2, 3, 4, 5, 6, 7, 8, 9, 10, 11, 12, 13, 15, 0] rfl ?_
    exact b_X2_divideSlice_266 hc hr K141 K151 h141 h151 x0 x2 x3 x4 x5 x6 x7 x8 x9 x10 x11 x12 x13 x15 (x14 - x4) (sI S x3 (Int32.toNatClampNeg (x14 - x4)) ((hI S x3 (Int32.toNatClampNeg (x14 - x4))) + (x9 * x15))) hw
  · have hw := hw.2 cq
    refine m_aload_n hc 3 dX2_divideSlice_251 rfl rfl ?_
    refine m_iload hc 0 dX2_divideSlice_252 rfl ?_
    refine m_iload hc 5 dX2_divideSlice_254 rfl ?_
    refine m_iadd hc dX2_divideSlice_256 ?_
    refine m_dup2 hc dX2_divideSlice_257 rfl rfl ?_
    obtain ⟨ht, hi, hw⟩ := hw
    refine c_iald hc hr ht hi dX2_divideSlice_258 ?_
    refine m_iload hc 7 dX2_divideSlice_259 rfl ?_
    refine m_iload hc 15 dX2_divideSlice_261 rfl ?_
    refine m_imul hc dX2_divideSlice_263 ?_
    refine m_iadd hc dX2_divideSlice_264 ?_
    obtain ⟨ht, hi, hw⟩ := hw
    refine c_iast hc hr ht hi dX2_divideSlice_265 ?_
    refine m_sub [1, 2, 3, 4, 5, 6, 7, 8, 9, 10, 11, 12, 13, 15, 0] rfl ?_
    exact b_X2_divideSlice_266 hc hr K141 K151 h141 h151 x0 x2 x3 x4 x5 x6 x7 x8 x9 x10 x11 x12 x13 x15 (x14 - x4) (sI (sI S x3 (Int32.toNatClampNeg (x14 - x4)) ((hI S x3 (Int32.toNatClampNeg (x14 - x4))) + (x9 * x15))) x3 (Int32.toNatClampNeg ((x14 - x4) + x5)) ((hI (sI S x3 (Int32.toNatClampNeg (x14 - x4)) ((hI S x3 (Int32.toNatClampNeg (x14 - x4))) + (x9 * x15))) x3 (Int32.toNatClampNeg ((x14 - x4) + x5))) + (x7 * x15))) hw
def w_X2_divideSlice_213 (M : Nat × Nat) (K141 : Nat → Int32 → Nat → Int32 → Int32 → Int32 → Int32 → Int32 → Int32 → Int32 → Int32 → Int32 → HS → Prop) (K151 : Nat → Int32 → Nat → Int32 → Int32 → Int32 → Int32 → Int32 → Int32 → Int32 → Int32 → Int32 → Int32 → HS → Prop) (K : Int32 → HS → Prop) (x0 : Nat) (x2 : Int32) (x3 : Nat) (x4 x5 x6 x7 x8 x9 x10 x11 x12 x13 x14 x15 : Int32) (S : HS) : Prop := (x8 = 0 → w_X2_divideSlice_227 M K141 K151 K x0 x2 x3 x4 x5 x6 x7 x8 x9 x10 x11 x12 x13 x14 x15 S) ∧ (¬ (x8 = 0) → (¬ x13 = x11 → w_X2_divideSlice_227 M K141 K151 K x0 x2 x3 x4 x5 x6 x7 x8 x9 x10 x11 x12 x13 x14 x15 S) ∧ (x13 = x11 → K 0 S))
set_option maxHeartbeats 4000000 in
set_option maxRecDepth 100000 in
theorem b_X2_divideSlice_213 {G : CG} {S0 : HS} {X : Fx} {K : Int32 → HS → Prop} (hc : Cx X RX2 cX2_divideSlice 17) (hr : Cc G S0 0 (some .boolean) (kI K) X) (K141 : Nat → Int32 → Nat → Int32 → Int32 → Int32 → Int32 → Int32 → Int32 → Int32 → Int32 → Int32 → HS → Prop) (K151 : Nat → Int32 → Nat → Int32 → Int32 → Int32 → Int32 → Int32 → Int32 → Int32 → Int32 → Int32 → Int32 → HS → Prop) (h141 : ∀ (x0 : Nat) (x2 : Int32) (x3 : Nat) (x4 x5 x6 x7 x8 x9 x10 x11 x12 : Int32) (S : HS), K141 x0 x2 x3 x4 x5 x6 x7 x8 x9 x10 x11 x12 S → MC G S0 X 17 S 141 [(0, .ref x0), (2, .int x2), (3, .ref x3), (4, .int x4), (5, .int x5), (6, .int x6), (7, .int x7), (8, .int x8), (9, .int x9), (10, .int x10), (11, .int x11), (12, .int x12)] []) (h151 : ∀ (x0 : Nat) (x2 : Int32) (x3 : Nat) (x4 x5 x6 x7 x8 x9 x10 x11 x12 x13 : Int32) (S : HS), K151 x0 x2 x3 x4 x5 x6 x7 x8 x9 x10 x11 x12 x13 S → MC G S0 X 17 S 151 [(0, .ref x0), (2, .int x2), (3, .ref x3), (4, .int x4), (5, .int x5), (6, .int x6), (7, .int x7), (8, .int x8), (9, .int x9), (10, .int x10), (11, .int x11), (12, .int x12), (13, .int x13)] []) : ∀ (x0 : Nat) (x2 : Int32) (x3 : Nat) (x4 x5 x6 x7 x8 x9 x10 x11 x12 x13 x14 x15 : Int32) (S : HS), w_X2_divideSlice_213 (gC G, gS G) K141 K151 K x0 x2 x3 x4 x5 x6 x7 x8 x9 x10 x11 x12 x13 x14 x15 S → MC G S0 X 17 S 213 [(0, .ref x0), (2, .int x2), (3, .ref x3), (4, .int x4), (5, .int x5), (6, .int x6), (7, .int x7), (8, .int x8), (9, .int x9), (10, .int x10), (11, .int x11), (12, .int x12), (13, .int x13), (14, .int x14), (15, .int x15)] [] := by
  intro x0 x2 x3 x4 x5 x6 x7 x8 x9 x10 x11 x12 x13 x14 x15 S hw
  unfold w_X2_divideSlice_213 at hw
  refine m_iload hc 7 dX2_divideSlice_213 rfl ?_
  refine m_if_eq hc 227 dX2_divideSlice_215 rfl (fun cq => ?_) (fun cq => ?_)
  · have hw := hw.1 cq
    exact b_X2_divideSlice_227 hc hr K141 K151 h141 h151 x0 x2 x3 x4 x5 x6 x7 x8 x9 x10 x11 x12 x13 x14 x15 S hw
  · have hw := hw.2 cq
    refine m_iload hc 12 dX2_divideSlice_218 rfl ?_
    refine m_iload hc 10 dX2_divideSlice_220 rfl ?_
    refine m_icmp_ne hc 227 dX2_divideSlice_222 rfl (fun cq => ?_) (fun cq => ?_)
    · have hw := hw.1 cq
      exact b_X2_divideSlice_227 hc hr K141 K151 h141 h151 x0 x2 x3 x4 x5 x6 x7 x8 x9 x10 x11 x12 x13 x14 x15 S hw
    · have hw := hw.2 cq
      refine m_iconst hc 0 dX2_divideSlice_225 (by decide) ?_
      exact c_zret hc hr dX2_divideSlice_226 (by decide) hw
def wb_X2_divideSlice_151 (M : Nat × Nat) (K141 : Nat → Int32 → Nat → Int32 → Int32 → Int32 → Int32 → Int32 → Int32 → Int32 → Int32 → Int32 → HS → Prop) (K151 : Nat → Int32 → Nat → Int32 → Int32 → Int32 → Int32 → Int32 → Int32 → Int32 → Int32 → Int32 → Int32 → HS → Prop) (K : Int32 → HS → Prop) (x0 : Nat) (x2 : Int32) (x3 : Nat) (x4 x5 x6 x7 x8 x9 x10 x11 x12 x13 : Int32) (S : HS) : Prop := (x11 < x13 → K141 x0 x2 x3 x4 x5 x6 x7 x8 x9 x10 x11 (x12 + 1) S) ∧ (¬ (x11 < x13) → ∀ v1 : Int32, v1 = (((x2 * x4) + (x12 * x5)) + (x13 * x6)) → hT S x3 = 21 ∧ vp_in v1 (hN S x3) ∧ hT S x0 = 3 ∧ ¬ (hI S x0 10) = 0 ∧ (∀ v2 : Int32, v2 = (iRem (hI S x3 (Int32.toNatClampNeg v1)) (hI S x0 10)) → hT S x3 = 21 ∧ vp_in v1 (hN S x3) ∧ (¬ v2 = 0 → (x7 = 0 → w_X2_divideSlice_213 M K141 K151 K x0 x2 x3 x4 x5 x6 x7 x8 x9 x10 x11 x12 x13 v1 v2 (sI S x3 (Int32.toNatClampNeg v1) v2)) ∧ (¬ (x7 = 0) → (x12 = x10 → K 0 (sI S x3 (Int32.toNatClampNeg v1) v2)) ∧ (¬ (x12 = x10) → w_X2_divideSlice_213 M K141 K151 K x0 x2 x3 x4 x5 x6 x7 x8 x9 x10 x11 x12 x13 v1 v2 (sI S x3 (Int32.toNatClampNeg v1) v2)))) ∧ (v2 = 0 → K151 x0 x2 x3 x4 x5 x6 x7 x8 x9 x10 x11 x12 (x13 + 1) (sI S x3 (Int32.toNatClampNeg v1) v2))))
def wl_X2_divideSlice_151 (M : Nat × Nat) (K141 : Nat → Int32 → Nat → Int32 → Int32 → Int32 → Int32 → Int32 → Int32 → Int32 → Int32 → Int32 → HS → Prop) (K : Int32 → HS → Prop) : Nat → Nat → Int32 → Nat → Int32 → Int32 → Int32 → Int32 → Int32 → Int32 → Int32 → Int32 → Int32 → Int32 → HS → Prop
  | 0 => fun _ _ _ _ _ _ _ _ _ _ _ _ _ _ => False
  | nn + 1 => wb_X2_divideSlice_151 M K141 (wl_X2_divideSlice_151 M K141 K nn) K
set_option maxHeartbeats 4000000 in
set_option maxRecDepth 100000 in
theorem l_X2_divideSlice_151 {G : CG} {S0 : HS} {X : Fx} {K : Int32 → HS → Prop} (hc : Cx X RX2 cX2_divideSlice 17) (hr : Cc G S0 0 (some .boolean) (kI K) X) (K141 : Nat → Int32 → Nat → Int32 → Int32 → Int32 → Int32 → Int32 → Int32 → Int32 → Int32 → Int32 → HS → Prop) (h141 : ∀ (x0 : Nat) (x2 : Int32) (x3 : Nat) (x4 x5 x6 x7 x8 x9 x10 x11 x12 : Int32) (S : HS), K141 x0 x2 x3 x4 x5 x6 x7 x8 x9 x10 x11 x12 S → MC G S0 X 17 S 141 [(0, .ref x0), (2, .int x2), (3, .ref x3), (4, .int x4), (5, .int x5), (6, .int x6), (7, .int x7), (8, .int x8), (9, .int x9), (10, .int x10), (11, .int x11), (12, .int x12)] []) : ∀ (nn : Nat) (x0 : Nat) (x2 : Int32) (x3 : Nat) (x4 x5 x6 x7 x8 x9 x10 x11 x12 x13 : Int32) (S : HS), wl_X2_divideSlice_151 (gC G, gS G) K141 K nn x0 x2 x3 x4 x5 x6 x7 x8 x9 x10 x11 x12 x13 S → MC G S0 X 17 S 151 [(0, .ref x0), (2, .int x2), (3, .ref x3), (4, .int x4), (5, .int x5), (6, .int x6), (7, .int x7), (8, .int x8), (9, .int x9), (10, .int x10), (11, .int x11), (12, .int x12), (13, .int x13)] [] := by
  intro nn
  induction nn with
  | zero => intro x0 x2 x3 x4 x5 x6 x7 x8 x9 x10 x11 x12 x13 S hw; exact False.elim hw
  | succ nn ih =>
    intro x0 x2 x3 x4 x5 x6 x7 x8 x9 x10 x11 x12 x13 S hw
    have hw : wb_X2_divideSlice_151 (gC G, gS G) K141 (wl_X2_divideSlice_151 (gC G, gS G) K141 K nn) K x0 x2 x3 x4 x5 x6 x7 x8 x9 x10 x11 x12 x13 S := hw
    have h151 := ih
    generalize wl_X2_divideSlice_151 (gC G, gS G) K141 K nn = K151 at hw h151
    unfold wb_X2_divideSlice_151 at hw
    refine m_iload hc 12 dX2_divideSlice_151 rfl ?_
    refine m_iload hc 10 dX2_divideSlice_153 rfl ?_
    refine m_icmp_gt hc 292 dX2_divideSlice_155 rfl (fun cq => ?_) (fun cq => ?_)
    · have hw := hw.1 cq
      refine m_iinc hc 11 (x12 + 1) [(12, .int (x12 + 1)), (0, .ref x0), (2, .int x2), (3, .ref x3), (4, .int x4), (5, .int x5), (6, .int x6), (7, .int x7), (8, .int x8), (9, .int x9), (10, .int x10), (11, .int x11), (13, .int x13)] dX2_divideSlice_292 rfl rfl (Nat.le_of_ble_eq_true rfl) rfl ?_
      refine m_goto hc 141 dX2_divideSlice_295 rfl ?_
      refine m_sub [1, 2, 3, 4, 5, 6, 7, 8, 9, 10, 11, 0] rfl ?_
      exact h141 x0 x2 x3 x4 x5 x6 x7 x8 x9 x10 x11 (x12 + 1) S hw
    · have hw := hw.2 cq
      refine m_iload_n hc 1 dX2_divideSlice_158 rfl rfl ?_
      refine m_iload hc 3 dX2_divideSlice_159 rfl ?_
      refine m_imul hc dX2_divideSlice_161 ?_
      refine m_iload hc 11 dX2_divideSlice_162 rfl ?_
      refine m_iload hc 4 dX2_divideSlice_164 rfl ?_
      refine m_imul hc dX2_divideSlice_166 ?_
      refine m_iadd hc dX2_divideSlice_167 ?_
      refine m_iload hc 12 dX2_divideSlice_168 rfl ?_
      refine m_iload hc 5 dX2_divideSlice_170 rfl ?_
      refine m_imul hc dX2_divideSlice_172 ?_
      refine m_iadd hc dX2_divideSlice_173 ?_
      refine m_topi (fun v1 e_v1 => ?_)
      have hw := hw v1 e_v1
      refine m_istore hc [(14, .int v1), (0, .ref x0), (2, .int x2), (3, .ref x3), (4, .int x4), (5, .int x5), (6, .int x6), (7, .int x7), (8, .int x8), (9, .int x9), (10, .int x10), (11, .int x11), (12, .int x12), (13, .int x13)] dX2_divideSlice_174 (Nat.le_of_ble_eq_true rfl) rfl ?_
      refine m_aload_n hc 3 dX2_divideSlice_176 rfl rfl ?_
      refine m_iload hc 0 dX2_divideSlice_177 rfl ?_
      obtain ⟨ht, hi, hw⟩ := hw
      refine c_iald hc hr ht hi dX2_divideSlice_179 ?_
      refine m_aload_n hc 1 dX2_divideSlice_180 rfl rfl ?_
      obtain ⟨ht, hw⟩ := hw
      refine c_geti hc hr ciX2 (Nat.le_of_ble_eq_true rfl) 10 (Nat.le_of_ble_eq_true rfl) rfl dX2_divideSlice_181 lf_X2_63 ht ?_
      obtain ⟨hq, hw⟩ := hw
      refine m_irem hc dX2_divideSlice_184 hq ?_
      refine m_topi (fun v2 e_v2 => ?_)
      have hw := hw v2 e_v2
      refine m_istore hc [(15, .int v2), (14, .int v1), (0, .ref x0), (2, .int x2), (3, .ref x3), (4, .int x4), (5, .int x5), (6, .int x6), (7, .int x7), (8, .int x8), (9, .int x9), (10, .int x10), (11, .int x11), (12, .int x12), (13, .int x13)] dX2_divideSlice_185 (Nat.le_of_ble_eq_true rfl) rfl ?_
      refine m_aload_n hc 4 dX2_divideSlice_187 rfl rfl ?_
      refine m_iload hc 1 dX2_divideSlice_188 rfl ?_
      refine m_iload hc 0 dX2_divideSlice_190 rfl ?_
      obtain ⟨ht, hi, hw⟩ := hw
      refine c_iast hc hr ht hi dX2_divideSlice_192 ?_
      refine m_iload hc 0 dX2_divideSlice_193 rfl ?_
      refine m_if_ne hc 201 dX2_divideSlice_195 rfl (fun cq => ?_) (fun cq => ?_)
      · have hw := hw.1 cq
        refine m_iload hc 8 dX2_divideSlice_201 rfl ?_
        refine m_if_eq hc 213 dX2_divideSlice_203 rfl (fun cq => ?_) (fun cq => ?_)
        · have hw := hw.1 cq
          refine m_sub [2, 3, 4, 5, 6, 7, 8, 9, 10, 11, 12, 13, 14, 1, 0] rfl ?_
          exact b_X2_divideSlice_213 hc hr K141 K151 h141 h151 x0 x2 x3 x4 x5 x6 x7 x8 x9 x10 x11 x12 x13 v1 v2 (sI S x3 (Int32.toNatClampNeg v1) v2) hw
        · have hw := hw.2 cq
          refine m_iload hc 13 dX2_divideSlice_206 rfl ?_
          refine m_iload hc 11 dX2_divideSlice_208 rfl ?_
          refine m_icmp_eq hc 225 dX2_divideSlice_210 rfl (fun cq => ?_) (fun cq => ?_)
          · have hw := hw.1 cq
            refine m_iconst hc 0 dX2_divideSlice_225 (by decide) ?_
            exact c_zret hc hr dX2_divideSlice_226 (by decide) hw
          · have hw := hw.2 cq
            refine m_sub [2, 3, 4, 5, 6, 7, 8, 9, 10, 11, 12, 13, 14, 1, 0] rfl ?_
            exact b_X2_divideSlice_213 hc hr K141 K151 h141 h151 x0 x2 x3 x4 x5 x6 x7 x8 x9 x10 x11 x12 x13 v1 v2 (sI S x3 (Int32.toNatClampNeg v1) v2) hw
      · have hw := hw.2 cq
        refine m_goto hc 286 dX2_divideSlice_198 rfl ?_
        refine m_iinc hc 14 (x13 + 1) [(13, .int (x13 + 1)), (15, .int v2), (14, .int v1), (0, .ref x0), (2, .int x2), (3, .ref x3), (4, .int x4), (5, .int x5), (6, .int x6), (7, .int x7), (8, .int x8), (9, .int x9), (10, .int x10), (11, .int x11), (12, .int x12)] dX2_divideSlice_286 rfl rfl (Nat.le_of_ble_eq_true rfl) rfl ?_
        refine m_goto hc 151 dX2_divideSlice_289 rfl ?_
        refine m_sub [3, 4, 5, 6, 7, 8, 9, 10, 11, 12, 13, 14, 0] rfl ?_
        exact h151 x0 x2 x3 x4 x5 x6 x7 x8 x9 x10 x11 x12 (x13 + 1) (sI S x3 (Int32.toNatClampNeg v1) v2) hw
def wb_X2_divideSlice_141 (M : Nat × Nat) (K141 : Nat → Int32 → Nat → Int32 → Int32 → Int32 → Int32 → Int32 → Int32 → Int32 → Int32 → Int32 → HS → Prop) (K : Int32 → HS → Prop) (x0 : Nat) (x2 : Int32) (x3 : Nat) (x4 x5 x6 x7 x8 x9 x10 x11 x12 : Int32) (S : HS) : Prop := (x10 < x12 → K 1 S) ∧ (¬ (x10 < x12) → ∃ nn : Nat, wl_X2_divideSlice_151 M K141 K nn x0 x2 x3 x4 x5 x6 x7 x8 x9 x10 x11 x12 0 S)
def wl_X2_divideSlice_141 (M : Nat × Nat) (K : Int32 → HS → Prop) : Nat → Nat → Int32 → Nat → Int32 → Int32 → Int32 → Int32 → Int32 → Int32 → Int32 → Int32 → Int32 → HS → Prop
  | 0 => fun _ _ _ _ _ _ _ _ _ _ _ _ _ => False
  | nn + 1 => wb_X2_divideSlice_141 M (wl_X2_divideSlice_141 M K nn) K
set_option maxHeartbeats 4000000 in
set_option maxRecDepth 100000 in
theorem l_X2_divideSlice_141 {G : CG} {S0 : HS} {X : Fx} {K : Int32 → HS → Prop} (hc : Cx X RX2 cX2_divideSlice 17) (hr : Cc G S0 0 (some .boolean) (kI K) X) : ∀ (nn : Nat) (x0 : Nat) (x2 : Int32) (x3 : Nat) (x4 x5 x6 x7 x8 x9 x10 x11 x12 : Int32) (S : HS), wl_X2_divideSlice_141 (gC G, gS G) K nn x0 x2 x3 x4 x5 x6 x7 x8 x9 x10 x11 x12 S → MC G S0 X 17 S 141 [(0, .ref x0), (2, .int x2), (3, .ref x3), (4, .int x4), (5, .int x5), (6, .int x6), (7, .int x7), (8, .int x8), (9, .int x9), (10, .int x10), (11, .int x11), (12, .int x12)] [] := by
  intro nn
  induction nn with
  | zero => intro x0 x2 x3 x4 x5 x6 x7 x8 x9 x10 x11 x12 S hw; exact False.elim hw
  | succ nn ih =>
    intro x0 x2 x3 x4 x5 x6 x7 x8 x9 x10 x11 x12 S hw
    have hw : wb_X2_divideSlice_141 (gC G, gS G) (wl_X2_divideSlice_141 (gC G, gS G) K nn) K x0 x2 x3 x4 x5 x6 x7 x8 x9 x10 x11 x12 S := hw
    have h141 := ih
    generalize wl_X2_divideSlice_141 (gC G, gS G) K nn = K141 at hw h141
    unfold wb_X2_divideSlice_141 at hw
    refine m_iload hc 11 dX2_divideSlice_141 rfl ?_
    refine m_iload hc 9 dX2_divideSlice_143 rfl ?_
    refine m_icmp_gt hc 298 dX2_divideSlice_145 rfl (fun cq => ?_) (fun cq => ?_)
    · have hw := hw.1 cq
      refine m_iconst hc 1 dX2_divideSlice_298 (by decide) ?_
      exact c_zret hc hr dX2_divideSlice_299 (by decide) hw
    · have hw := hw.2 cq
      refine m_iconst hc 0 dX2_divideSlice_148 (by decide) ?_
      refine m_istore hc [(13, .int 0), (0, .ref x0), (2, .int x2), (3, .ref x3), (4, .int x4), (5, .int x5), (6, .int x6), (7, .int x7), (8, .int x8), (9, .int x9), (10, .int x10), (11, .int x11), (12, .int x12)] dX2_divideSlice_149 (Nat.le_of_ble_eq_true rfl) rfl ?_
      refine m_sub [1, 2, 3, 4, 5, 6, 7, 8, 9, 10, 11, 12, 0] rfl ?_
      obtain ⟨nn, hw⟩ := hw
      exact l_X2_divideSlice_151 hc hr K141 h141 nn x0 x2 x3 x4 x5 x6 x7 x8 x9 x10 x11 x12 0 S hw
def w_X2_divideSlice_114 (M : Nat × Nat) (K : Int32 → HS → Prop) (x0 x1 : Nat) (x2 : Int32) (x3 : Nat) (x4 x5 x6 x7 x8 s0 : Int32) (S : HS) : Prop := hT S x0 = 3 ∧ ∃ b1 : Nat, hP S x0 8 = some b1 ∧ hT S x1 = 4 ∧ hT S b1 = 21 ∧ vp_in (hI S x1 1) (hN S b1) ∧ ∀ v2 : Int32, v2 = (hI S b1 (Int32.toNatClampNeg (hI S x1 1))) → hT S x0 = 3 ∧ ∃ b3 : Nat, hP S x0 8 = some b3 ∧ hT S x1 = 4 ∧ hT S b3 = 21 ∧ vp_in (hI S x1 2) (hN S b3) ∧ ∀ v4 : Int32, v4 = (hI S b3 (Int32.toNatClampNeg (hI S x1 2))) → ∃ nn : Nat, wl_X2_divideSlice_141 M K nn x0 x2 x3 x4 x5 x6 x7 x8 s0 v2 v4 0 S
set_option maxHeartbeats 4000000 in
set_option maxRecDepth 100000 in
theorem b_X2_divideSlice_114 {G : CG} {S0 : HS} {X : Fx} {K : Int32 → HS → Prop} (hc : Cx X RX2 cX2_divideSlice 17) (hr : Cc G S0 0 (some .boolean) (kI K) X) : ∀ (x0 x1 : Nat) (x2 : Int32) (x3 : Nat) (x4 x5 x6 x7 x8 s0 : Int32) (S : HS), w_X2_divideSlice_114 (gC G, gS G) K x0 x1 x2 x3 x4 x5 x6 x7 x8 s0 S → MC G S0 X 17 S 114 [(0, .ref x0), (1, .ref x1), (2, .int x2), (3, .ref x3), (4, .int x4), (5, .int x5), (6, .int x6), (7, .int x7), (8, .int x8)] [.int s0] := by
  intro x0 x1 x2 x3 x4 x5 x6 x7 x8 s0 S hw
  unfold w_X2_divideSlice_114 at hw
  refine m_istore hc [(9, .int s0), (0, .ref x0), (1, .ref x1), (2, .int x2), (3, .ref x3), (4, .int x4), (5, .int x5), (6, .int x6), (7, .int x7), (8, .int x8)] dX2_divideSlice_114 (Nat.le_of_ble_eq_true rfl) rfl ?_
  refine m_aload_n hc 1 dX2_divideSlice_116 rfl rfl ?_
  obtain ⟨ht, b1, e_b1, hw⟩ := hw
  refine c_getr hc hr ciX2 (Nat.le_of_ble_eq_true rfl) 8 (Nat.le_of_ble_eq_true rfl) rfl dX2_divideSlice_117 lf_X2_51 ht e_b1 ?_
  refine m_aload_n hc 2 dX2_divideSlice_120 rfl rfl ?_
  obtain ⟨ht, hw⟩ := hw
  refine c_geti hc hr ciX3 (Nat.le_of_ble_eq_true rfl) 1 (Nat.le_of_ble_eq_true rfl) rfl dX2_divideSlice_121 lf_X2_153 ht ?_
  obtain ⟨ht, hi, hw⟩ := hw
  refine c_iald hc hr ht hi dX2_divideSlice_124 ?_
  refine m_topi (fun v2 e_v2 => ?_)
  have hw := hw v2 e_v2
  refine m_istore hc [(10, .int v2), (9, .int s0), (0, .ref x0), (1, .ref x1), (2, .int x2), (3, .ref x3), (4, .int x4), (5, .int x5), (6, .int x6), (7, .int x7), (8, .int x8)] dX2_divideSlice_125 (Nat.le_of_ble_eq_true rfl) rfl ?_
  refine m_aload_n hc 2 dX2_divideSlice_127 rfl rfl ?_
  obtain ⟨ht, b3, e_b3, hw⟩ := hw
  refine c_getr hc hr ciX2 (Nat.le_of_ble_eq_true rfl) 8 (Nat.le_of_ble_eq_true rfl) rfl dX2_divideSlice_128 lf_X2_51 ht e_b3 ?_
  refine m_aload_n hc 3 dX2_divideSlice_131 rfl rfl ?_
  obtain ⟨ht, hw⟩ := hw
  refine c_geti hc hr ciX3 (Nat.le_of_ble_eq_true rfl) 2 (Nat.le_of_ble_eq_true rfl) rfl dX2_divideSlice_132 lf_X2_159 ht ?_
  obtain ⟨ht, hi, hw⟩ := hw
  refine c_iald hc hr ht hi dX2_divideSlice_135 ?_
  refine m_topi (fun v4 e_v4 => ?_)
  have hw := hw v4 e_v4
  refine m_istore hc [(11, .int v4), (10, .int v2), (9, .int s0), (0, .ref x0), (1, .ref x1), (2, .int x2), (3, .ref x3), (4, .int x4), (5, .int x5), (6, .int x6), (7, .int x7), (8, .int x8)] dX2_divideSlice_136 (Nat.le_of_ble_eq_true rfl) rfl ?_
  refine m_iconst hc 0 dX2_divideSlice_138 (by decide) ?_
  refine m_istore hc [(12, .int 0), (11, .int v4), (10, .int v2), (9, .int s0), (0, .ref x0), (1, .ref x1), (2, .int x2), (3, .ref x3), (4, .int x4), (5, .int x5), (6, .int x6), (7, .int x7), (8, .int x8)] dX2_divideSlice_139 (Nat.le_of_ble_eq_true rfl) rfl ?_
  refine m_sub [4, 6, 7, 8, 9, 10, 11, 12, 3, 2, 1, 0] rfl ?_
  obtain ⟨nn, hw⟩ := hw
  exact l_X2_divideSlice_141 hc hr nn x0 x2 x3 x4 x5 x6 x7 x8 s0 v2 v4 0 S hw
def w_X2_divideSlice_92 (M : Nat × Nat) (K : Int32 → HS → Prop) (x0 x1 : Nat) (x2 : Int32) (x3 : Nat) (x4 x5 x6 x7 s0 : Int32) (S : HS) : Prop := hT S x1 = 4 ∧ (¬ (hI S x1 5) = 0 → hT S x0 = 3 ∧ hT S x1 = 4 ∧ w_X2_divideSlice_114 M K x0 x1 x2 x3 x4 x5 x6 x7 s0 ((hI S x0 10) - (hI S x1 5)) S) ∧ ((hI S x1 5) = 0 → w_X2_divideSlice_114 M K x0 x1 x2 x3 x4 x5 x6 x7 s0 0 S)
set_option maxHeartbeats 4000000 in
set_option maxRecDepth 100000 in
theorem b_X2_divideSlice_92 {G : CG} {S0 : HS} {X : Fx} {K : Int32 → HS → Prop} (hc : Cx X RX2 cX2_divideSlice 17) (hr : Cc G S0 0 (some .boolean) (kI K) X) : ∀ (x0 x1 : Nat) (x2 : Int32) (x3 : Nat) (x4 x5 x6 x7 s0 : Int32) (S : HS), w_X2_divideSlice_92 (gC G, gS G) K x0 x1 x2 x3 x4 x5 x6 x7 s0 S → MC G S0 X 17 S 92 [(0, .ref x0), (1, .ref x1), (2, .int x2), (3, .ref x3), (4, .int x4), (5, .int x5), (6, .int x6), (7, .int x7)] [.int s0] := by
  intro x0 x1 x2 x3 x4 x5 x6 x7 s0 S hw
  unfold w_X2_divideSlice_92 at hw
  refine m_istore hc [(8, .int s0), (0, .ref x0), (1, .ref x1), (2, .int x2), (3, .ref x3), (4, .int x4), (5, .int x5), (6, .int x6), (7, .int x7)] dX2_divideSlice_92 (Nat.le_of_ble_eq_true rfl) rfl ?_
  refine m_aload_n hc 2 dX2_divideSlice_94 rfl rfl ?_
  obtain ⟨ht, hw⟩ := hw
  refine c_geti hc hr ciX3 (Nat.le_of_ble_eq_true rfl) 5 (Nat.le_of_ble_eq_true rfl) rfl dX2_divideSlice_95 lf_X2_180 ht ?_
  refine m_if_ne hc 105 dX2_divideSlice_98 rfl (fun cq => ?_) (fun cq => ?_)
  · have hw := hw.1 cq
    refine m_aload_n hc 1 dX2_divideSlice_105 rfl rfl ?_
    obtain ⟨ht, hw⟩ := hw
    refine c_geti hc hr ciX2 (Nat.le_of_ble_eq_true rfl) 10 (Nat.le_of_ble_eq_true rfl) rfl dX2_divideSlice_106 lf_X2_63 ht ?_
    refine m_aload_n hc 2 dX2_divideSlice_109 rfl rfl ?_
    obtain ⟨ht, hw⟩ := hw
    refine c_geti hc hr ciX3 (Nat.le_of_ble_eq_true rfl) 5 (Nat.le_of_ble_eq_true rfl) rfl dX2_divideSlice_110 lf_X2_180 ht ?_
    refine m_isub hc dX2_divideSlice_113 ?_
    refine m_sub [1, 2, 3, 4, 5, 6, 7, 8, 0] rfl ?_
    exact b_X2_divideSlice_114 hc hr x0 x1 x2 x3 x4 x5 x6 x7 s0 ((hI S x0 10) - (hI S x1 5)) S hw
  · have hw := hw.2 cq
    refine m_iconst hc 0 dX2_divideSlice_101 (by decide) ?_
    refine m_goto hc 114 dX2_divideSlice_102 rfl ?_
    refine m_sub [1, 2, 3, 4, 5, 6, 7, 8, 0] rfl ?_
    exact b_X2_divideSlice_114 hc hr x0 x1 x2 x3 x4 x5 x6 x7 s0 0 S hw
def w_X2_divideSlice_70 (M : Nat × Nat) (K : Int32 → HS → Prop) (x0 x1 : Nat) (x2 : Int32) (x3 : Nat) (x4 x5 x6 s0 : Int32) (S : HS) : Prop := hT S x1 = 4 ∧ (¬ (hI S x1 4) = 0 → hT S x0 = 3 ∧ hT S x1 = 4 ∧ w_X2_divideSlice_92 M K x0 x1 x2 x3 x4 x5 x6 s0 ((hI S x0 10) - (hI S x1 4)) S) ∧ ((hI S x1 4) = 0 → w_X2_divideSlice_92 M K x0 x1 x2 x3 x4 x5 x6 s0 0 S)
set_option maxHeartbeats 4000000 in
set_option maxRecDepth 100000 in
theorem b_X2_divideSlice_70 {G : CG} {S0 : HS} {X : Fx} {K : Int32 → HS → Prop} (hc : Cx X RX2 cX2_divideSlice 17) (hr : Cc G S0 0 (some .boolean) (kI K) X) : ∀ (x0 x1 : Nat) (x2 : Int32) (x3 : Nat) (x4 x5 x6 s0 : Int32) (S : HS), w_X2_divideSlice_70 (gC G, gS G) K x0 x1 x2 x3 x4 x5 x6 s0 S → MC G S0 X 17 S 70 [(0, .ref x0), (1, .ref x1), (2, .int x2), (3, .ref x3), (4, .int x4), (5, .int x5), (6, .int x6)] [.int s0] := by
  intro x0 x1 x2 x3 x4 x5 x6 s0 S hw
  unfold w_X2_divideSlice_70 at hw
  refine m_istore hc [(7, .int s0), (0, .ref x0), (1, .ref x1), (2, .int x2), (3, .ref x3), (4, .int x4), (5, .int x5), (6, .int x6)] dX2_divideSlice_70 (Nat.le_of_ble_eq_true rfl) rfl ?_
  refine m_aload_n hc 2 dX2_divideSlice_72 rfl rfl ?_
  obtain ⟨ht, hw⟩ := hw
  refine c_geti hc hr ciX3 (Nat.le_of_ble_eq_true rfl) 4 (Nat.le_of_ble_eq_true rfl) rfl dX2_divideSlice_73 lf_X2_156 ht ?_
  refine m_if_ne hc 83 dX2_divideSlice_76 rfl (fun cq => ?_) (fun cq => ?_)
  · have hw := hw.1 cq
    refine m_aload_n hc 1 dX2_divideSlice_83 rfl rfl ?_
    obtain ⟨ht, hw⟩ := hw
    refine c_geti hc hr ciX2 (Nat.le_of_ble_eq_true rfl) 10 (Nat.le_of_ble_eq_true rfl) rfl dX2_divideSlice_84 lf_X2_63 ht ?_
    refine m_aload_n hc 2 dX2_divideSlice_87 rfl rfl ?_
    obtain ⟨ht, hw⟩ := hw
    refine c_geti hc hr ciX3 (Nat.le_of_ble_eq_true rfl) 4 (Nat.le_of_ble_eq_true rfl) rfl dX2_divideSlice_88 lf_X2_156 ht ?_
    refine m_isub hc dX2_divideSlice_91 ?_
    refine m_sub [1, 2, 3, 4, 5, 6, 7, 0] rfl ?_
    exact b_X2_divideSlice_92 hc hr x0 x1 x2 x3 x4 x5 x6 s0 ((hI S x0 10) - (hI S x1 4)) S hw
  · have hw := hw.2 cq
    refine m_iconst hc 0 dX2_divideSlice_79 (by decide) ?_
    refine m_goto hc 92 dX2_divideSlice_80 rfl ?_
    refine m_sub [1, 2, 3, 4, 5, 6, 7, 0] rfl ?_
    exact b_X2_divideSlice_92 hc hr x0 x1 x2 x3 x4 x5 x6 s0 0 S hw
def wp_X2_divideSlice (M : Nat × Nat) (x0 x1 : Nat) (x2 : Int32) (S : HS) (K : Int32 → HS → Prop) : Prop := hT S x0 = 3 ∧ ∃ b1 : Nat, hP S x0 7 = some b1 ∧ hT S b1 = 2 ∧ ∃ b2 : Nat, hP S b1 0 = some b2 ∧ hT S x0 = 3 ∧ ∃ b3 : Nat, hP S x0 7 = some b3 ∧ hT S b3 = 2 ∧ ∃ b4 : Nat, hP S b3 2 = some b4 ∧ hT S x1 = 4 ∧ hT S b4 = 21 ∧ vp_in (hI S x1 0) (hN S b4) ∧ ∀ v5 : Int32, v5 = (hI S b4 (Int32.toNatClampNeg (hI S x1 0))) → hT S x0 = 3 ∧ ∃ b6 : Nat, hP S x0 7 = some b6 ∧ hT S b6 = 2 ∧ ∃ b7 : Nat, hP S b6 2 = some b7 ∧ hT S x1 = 4 ∧ hT S b7 = 21 ∧ vp_in (hI S x1 1) (hN S b7) ∧ ∀ v8 : Int32, v8 = (hI S b7 (Int32.toNatClampNeg (hI S x1 1))) → hT S x0 = 3 ∧ ∃ b9 : Nat, hP S x0 7 = some b9 ∧ hT S b9 = 2 ∧ ∃ b10 : Nat, hP S b9 2 = some b10 ∧ hT S x1 = 4 ∧ hT S b10 = 21 ∧ vp_in (hI S x1 2) (hN S b10) ∧ ∀ v11 : Int32, v11 = (hI S b10 (Int32.toNatClampNeg (hI S x1 2))) → hT S x1 = 4 ∧ (¬ (hI S x1 3) = 0 → hT S x0 = 3 ∧ hT S x1 = 4 ∧ w_X2_divideSlice_70 M K x0 x1 x2 b2 v5 v8 v11 ((hI S x0 10) - (hI S x1 3)) S) ∧ ((hI S x1 3) = 0 → w_X2_divideSlice_70 M K x0 x1 x2 b2 v5 v8 v11 0 S)
set_option maxHeartbeats 4000000 in
set_option maxRecDepth 100000 in
theorem ok_X2_divideSlice {G : CG} {x0 : Nat} {x1 : Nat} {x2 : Int32} {S : HS} {K : Int32 → HS → Prop} (hw : wp_X2_divideSlice (gC G, gS G) x0 x1 x2 S K) : CC 0 yX2_divideSlice cX2_divideSlice 17 (some .boolean) [.ref x0, .ref x1, .int x2] G S (kI K) := by
  refine CC.of (by decide +kernel) (Nat.le_of_ble_eq_true rfl) (fun X hc hr hname => ?_)
  show MC G S X 17 S 0 [(0, .ref x0), (1, .ref x1), (2, .int x2)] []
  unfold wp_X2_divideSlice at hw
  refine m_aload_n hc 0 dX2_divideSlice_0 rfl rfl ?_
  obtain ⟨ht, b1, e_b1, hw⟩ := hw
  refine c_getr hc hr ciX2 (Nat.le_of_ble_eq_true rfl) 7 (Nat.le_of_ble_eq_true rfl) rfl dX2_divideSlice_1 lf_X2_48 ht e_b1 ?_
  obtain ⟨ht, b2, e_b2, hw⟩ := hw
  refine c_getr hc hr ciX1 (Nat.le_of_ble_eq_true rfl) 0 (Nat.le_of_ble_eq_true rfl) rfl dX2_divideSlice_4 lf_X2_108 ht e_b2 ?_
  refine m_astore_n hc [(3, .ref b2), (0, .ref x0), (1, .ref x1), (2, .int x2)] dX2_divideSlice_7 rfl (Nat.le_of_ble_eq_true rfl) rfl ?_
  refine m_aload_n hc 1 dX2_divideSlice_8 rfl rfl ?_
  obtain ⟨ht, b3, e_b3, hw⟩ := hw
  refine c_getr hc hr ciX2 (Nat.le_of_ble_eq_true rfl) 7 (Nat.le_of_ble_eq_true rfl) rfl dX2_divideSlice_9 lf_X2_48 ht e_b3 ?_
  obtain ⟨ht, b4, e_b4, hw⟩ := hw
  refine c_getr hc hr ciX1 (Nat.le_of_ble_eq_true rfl) 2 (Nat.le_of_ble_eq_true rfl) rfl dX2_divideSlice_12 lf_X2_177 ht e_b4 ?_
  refine m_aload_n hc 2 dX2_divideSlice_15 rfl rfl ?_
  obtain ⟨ht, hw⟩ := hw
  refine c_geti hc hr ciX3 (Nat.le_of_ble_eq_true rfl) 0 (Nat.le_of_ble_eq_true rfl) rfl dX2_divideSlice_16 lf_X2_147 ht ?_
  obtain ⟨ht, hi, hw⟩ := hw
  refine c_iald hc hr ht hi dX2_divideSlice_19 ?_
  refine m_topi (fun v5 e_v5 => ?_)
  have hw := hw v5 e_v5
  refine m_istore hc [(4, .int v5), (3, .ref b2), (0, .ref x0), (1, .ref x1), (2, .int x2)] dX2_divideSlice_20 (Nat.le_of_ble_eq_true rfl) rfl ?_
  refine m_aload_n hc 2 dX2_divideSlice_22 rfl rfl ?_
  obtain ⟨ht, b6, e_b6, hw⟩ := hw
  refine c_getr hc hr ciX2 (Nat.le_of_ble_eq_true rfl) 7 (Nat.le_of_ble_eq_true rfl) rfl dX2_divideSlice_23 lf_X2_48 ht e_b6 ?_
  obtain ⟨ht, b7, e_b7, hw⟩ := hw
  refine c_getr hc hr ciX1 (Nat.le_of_ble_eq_true rfl) 2 (Nat.le_of_ble_eq_true rfl) rfl dX2_divideSlice_26 lf_X2_177 ht e_b7 ?_
  refine m_aload_n hc 3 dX2_divideSlice_29 rfl rfl ?_
  obtain ⟨ht, hw⟩ := hw
  refine c_geti hc hr ciX3 (Nat.le_of_ble_eq_true rfl) 1 (Nat.le_of_ble_eq_true rfl) rfl dX2_divideSlice_30 lf_X2_153 ht ?_
  obtain ⟨ht, hi, hw⟩ := hw
  refine c_iald hc hr ht hi dX2_divideSlice_33 ?_
  refine m_topi (fun v8 e_v8 => ?_)
  have hw := hw v8 e_v8
  refine m_istore hc [(5, .int v8), (4, .int v5), (3, .ref b2), (0, .ref x0), (1, .ref x1), (2, .int x2)] dX2_divideSlice_34 (Nat.le_of_ble_eq_true rfl) rfl ?_
  refine m_aload_n hc 3 dX2_divideSlice_36 rfl rfl ?_
  obtain ⟨ht, b9, e_b9, hw⟩ := hw
  refine c_getr hc hr ciX2 (Nat.le_of_ble_eq_true rfl) 7 (Nat.le_of_ble_eq_true rfl) rfl dX2_divideSlice_37 lf_X2_48 ht e_b9 ?_
  obtain ⟨ht, b10, e_b10, hw⟩ := hw
  refine c_getr hc hr ciX1 (Nat.le_of_ble_eq_true rfl) 2 (Nat.le_of_ble_eq_true rfl) rfl dX2_divideSlice_40 lf_X2_177 ht e_b10 ?_
  refine m_aload_n hc 4 dX2_divideSlice_43 rfl rfl ?_
  obtain ⟨ht, hw⟩ := hw
  refine c_geti hc hr ciX3 (Nat.le_of_ble_eq_true rfl) 2 (Nat.le_of_ble_eq_true rfl) rfl dX2_divideSlice_44 lf_X2_159 ht ?_
  obtain ⟨ht, hi, hw⟩ := hw
  refine c_iald hc hr ht hi dX2_divideSlice_47 ?_
  refine m_topi (fun v11 e_v11 => ?_)
  have hw := hw v11 e_v11
  refine m_istore hc [(6, .int v11), (5, .int v8), (4, .int v5), (3, .ref b2), (0, .ref x0), (1, .ref x1), (2, .int x2)] dX2_divideSlice_48 (Nat.le_of_ble_eq_true rfl) rfl ?_
  refine m_aload_n hc 5 dX2_divideSlice_50 rfl rfl ?_
  obtain ⟨ht, hw⟩ := hw
  refine c_geti hc hr ciX3 (Nat.le_of_ble_eq_true rfl) 3 (Nat.le_of_ble_eq_true rfl) rfl dX2_divideSlice_51 lf_X2_150 ht ?_
  refine m_if_ne hc 61 dX2_divideSlice_54 rfl (fun cq => ?_) (fun cq => ?_)
  · have hw := hw.1 cq
    refine m_aload_n hc 4 dX2_divideSlice_61 rfl rfl ?_
    obtain ⟨ht, hw⟩ := hw
    refine c_geti hc hr ciX2 (Nat.le_of_ble_eq_true rfl) 10 (Nat.le_of_ble_eq_true rfl) rfl dX2_divideSlice_62 lf_X2_63 ht ?_
    refine m_aload_n hc 5 dX2_divideSlice_65 rfl rfl ?_
    obtain ⟨ht, hw⟩ := hw
    refine c_geti hc hr ciX3 (Nat.le_of_ble_eq_true rfl) 3 (Nat.le_of_ble_eq_true rfl) rfl dX2_divideSlice_66 lf_X2_150 ht ?_
    refine m_isub hc dX2_divideSlice_69 ?_
    refine m_sub [4, 5, 6, 3, 2, 1, 0] rfl ?_
    exact b_X2_divideSlice_70 hc hr x0 x1 x2 b2 v5 v8 v11 ((hI S x0 10) - (hI S x1 3)) S hw
  · have hw := hw.2 cq
    refine m_iconst hc 0 dX2_divideSlice_57 (by decide) ?_
    refine m_goto hc 70 dX2_divideSlice_58 rfl ?_
    refine m_sub [4, 5, 6, 3, 2, 1, 0] rfl ?_
    exact b_X2_divideSlice_70 hc hr x0 x1 x2 b2 v5 v8 v11 0 S hw
def wb_X2_isSliceZero_46 (M : Nat × Nat) (K29 : Nat → Nat → Int32 → Int32 → Int32 → HS → Prop) (K46 : Nat → Nat → Int32 → Int32 → Int32 → Int32 → HS → Prop) (K : Int32 → HS → Prop) (x0 x1 : Nat) (x2 x3 x4 x5 : Int32) (S : HS) : Prop := hT S x0 = 3 ∧ ∃ b1 : Nat, hP S x0 8 = some b1 ∧ hT S x1 = 4 ∧ hT S b1 = 21 ∧ vp_in (hI S x1 2) (hN S b1) ∧ ((hI S b1 (Int32.toNatClampNeg (hI S x1 2))) < x5 → K29 x0 x1 x2 x3 (x4 + 1) S) ∧ (¬ ((hI S b1 (Int32.toNatClampNeg (hI S x1 2))) < x5) → hT S x0 = 3 ∧ ∃ b2 : Nat, hP S x0 7 = some b2 ∧ hT S b2 = 2 ∧ ∃ b3 : Nat, hP S b2 0 = some b3 ∧ hT S b3 = 21 ∧ vp_in ((x4 * x2) + (x5 * x3)) (hN S b3) ∧ hT S x0 = 3 ∧ ¬ (hI S x0 10) = 0 ∧ (((iRem (hI S b3 (Int32.toNatClampNeg ((x4 * x2) + (x5 * x3)))) (hI S x0 10)) = 0 → K46 x0 x1 x2 x3 x4 (x5 + 1) S) ∧ (¬ ((iRem (hI S b3 (Int32.toNatClampNeg ((x4 * x2) + (x5 * x3)))) (hI S x0 10)) = 0) → K 0 S)))
def wl_X2_isSliceZero_46 (M : Nat × Nat) (K29 : Nat → Nat → Int32 → Int32 → Int32 → HS → Prop) (K : Int32 → HS → Prop) : Nat → Nat → Nat → Int32 → Int32 → Int32 → Int32 → HS → Prop
  | 0 => fun _ _ _ _ _ _ _ => False
  | nn + 1 => wb_X2_isSliceZero_46 M K29 (wl_X2_isSliceZero_46 M K29 K nn) K
set_option maxHeartbeats 4000000 in
set_option maxRecDepth 100000 in
theorem l_X2_isSliceZero_46 {G : CG} {S0 : HS} {X : Fx} {K : Int32 → HS → Prop} (hc : Cx X RX2 cX2_isSliceZero 6) (hr : Cc G S0 0 (some .boolean) (kI K) X) (K29 : Nat → Nat → Int32 → Int32 → Int32 → HS → Prop) (h29 : ∀ (x0 x1 : Nat) (x2 x3 x4 : Int32) (S : HS), K29 x0 x1 x2 x3 x4 S → MC G S0 X 6 S 29 [(0, .ref x0), (1, .ref x1), (2, .int x2), (3, .int x3), (4, .int x4)] []) : ∀ (nn : Nat) (x0 x1 : Nat) (x2 x3 x4 x5 : Int32) (S : HS), wl_X2_isSliceZero_46 (gC G, gS G) K29 K nn x0 x1 x2 x3 x4 x5 S → MC G S0 X 6 S 46 [(0, .ref x0), (1, .ref x1), (2, .int x2), (3, .int x3), (4, .int x4), (5, .int x5)] [] := by
  intro nn
  induction nn with
  | zero => intro x0 x1 x2 x3 x4 x5 S hw; exact False.elim hw
  | succ nn ih =>
    intro x0 x1 x2 x3 x4 x5 S hw
    have hw : wb_X2_isSliceZero_46 (gC G, gS G) K29 (wl_X2_isSliceZero_46 (gC G, gS G) K29 K nn) K x0 x1 x2 x3 x4 x5 S := hw
    have h46 := ih
    generalize wl_X2_isSliceZero_46 (gC G, gS G) K29 K nn = K46 at hw h46
    unfold wb_X2_isSliceZero_46 at hw
    refine m_iload hc 5 dX2_isSliceZero_46 rfl ?_
    refine m_aload_n hc 0 dX2_isSliceZero_48 rfl rfl ?_
    obtain ⟨ht, b1, e_b1, hw⟩ := hw
    refine c_getr hc hr ciX2 (Nat.le_of_ble_eq_true rfl) 8 (Nat.le_of_ble_eq_true rfl) rfl dX2_isSliceZero_49 lf_X2_51 ht e_b1 ?_
    refine m_aload_n hc 1 dX2_isSliceZero_52 rfl rfl ?_
    obtain ⟨ht, hw⟩ := hw
    refine c_geti hc hr ciX3 (Nat.le_of_ble_eq_true rfl) 2 (Nat.le_of_ble_eq_true rfl) rfl dX2_isSliceZero_53 lf_X2_159 ht ?_
    obtain ⟨ht, hi, hw⟩ := hw
    refine c_iald hc hr ht hi dX2_isSliceZero_56 ?_
    refine m_icmp_gt hc 93 dX2_isSliceZero_57 rfl (fun cq => ?_) (fun cq => ?_)
    · have hw := hw.1 cq
      refine m_iinc hc 4 (x4 + 1) [(4, .int (x4 + 1)), (0, .ref x0), (1, .ref x1), (2, .int x2), (3, .int x3), (5, .int x5)] dX2_isSliceZero_93 rfl rfl (Nat.le_of_ble_eq_true rfl) rfl ?_
      refine m_goto hc 29 dX2_isSliceZero_96 rfl ?_
      refine m_sub [1, 2, 3, 4, 0] rfl ?_
      exact h29 x0 x1 x2 x3 (x4 + 1) S hw
    · have hw := hw.2 cq
      refine m_aload_n hc 0 dX2_isSliceZero_60 rfl rfl ?_
      obtain ⟨ht, b2, e_b2, hw⟩ := hw
      refine c_getr hc hr ciX2 (Nat.le_of_ble_eq_true rfl) 7 (Nat.le_of_ble_eq_true rfl) rfl dX2_isSliceZero_61 lf_X2_48 ht e_b2 ?_
      obtain ⟨ht, b3, e_b3, hw⟩ := hw
      refine c_getr hc hr ciX1 (Nat.le_of_ble_eq_true rfl) 0 (Nat.le_of_ble_eq_true rfl) rfl dX2_isSliceZero_64 lf_X2_108 ht e_b3 ?_
      refine m_iload hc 4 dX2_isSliceZero_67 rfl ?_
      refine m_iload_n hc 2 dX2_isSliceZero_69 rfl rfl ?_
      refine m_imul hc dX2_isSliceZero_70 ?_
      refine m_iload hc 5 dX2_isSliceZero_71 rfl ?_
      refine m_iload_n hc 3 dX2_isSliceZero_73 rfl rfl ?_
      refine m_imul hc dX2_isSliceZero_74 ?_
      refine m_iadd hc dX2_isSliceZero_75 ?_
      obtain ⟨ht, hi, hw⟩ := hw
      refine c_iald hc hr ht hi dX2_isSliceZero_76 ?_
      refine m_aload_n hc 0 dX2_isSliceZero_77 rfl rfl ?_
      obtain ⟨ht, hw⟩ := hw
      refine c_geti hc hr ciX2 (Nat.le_of_ble_eq_true rfl) 10 (Nat.le_of_ble_eq_true rfl) rfl dX2_isSliceZero_78 lf_X2_63 ht ?_
      obtain ⟨hq, hw⟩ := hw
      refine m_irem hc dX2_isSliceZero_81 hq ?_
      refine m_if_eq hc 87 dX2_isSliceZero_82 rfl (fun cq => ?_) (fun cq => ?_)
      · have hw := hw.1 cq
        refine m_iinc hc 5 (x5 + 1) [(5, .int (x5 + 1)), (0, .ref x0), (1, .ref x1), (2, .int x2), (3, .int x3), (4, .int x4)] dX2_isSliceZero_87 rfl rfl (Nat.le_of_ble_eq_true rfl) rfl ?_
        refine m_goto hc 46 dX2_isSliceZero_90 rfl ?_
        refine m_sub [1, 2, 3, 4, 5, 0] rfl ?_
        exact h46 x0 x1 x2 x3 x4 (x5 + 1) S hw
      · have hw := hw.2 cq
        refine m_iconst hc 0 dX2_isSliceZero_85 (by decide) ?_
        exact c_zret hc hr dX2_isSliceZero_86 (by decide) hw
def wb_X2_isSliceZero_29 (M : Nat × Nat) (K29 : Nat → Nat → Int32 → Int32 → Int32 → HS → Prop) (K : Int32 → HS → Prop) (x0 x1 : Nat) (x2 x3 x4 : Int32) (S : HS) : Prop := hT S x0 = 3 ∧ ∃ b1 : Nat, hP S x0 8 = some b1 ∧ hT S x1 = 4 ∧ hT S b1 = 21 ∧ vp_in (hI S x1 1) (hN S b1) ∧ ((hI S b1 (Int32.toNatClampNeg (hI S x1 1))) < x4 → K 1 S) ∧ (¬ ((hI S b1 (Int32.toNatClampNeg (hI S x1 1))) < x4) → ∃ nn : Nat, wl_X2_isSliceZero_46 M K29 K nn x0 x1 x2 x3 x4 0 S)
def wl_X2_isSliceZero_29 (M : Nat × Nat) (K : Int32 → HS → Prop) : Nat → Nat → Nat → Int32 → Int32 → Int32 → HS → Prop
  | 0 => fun _ _ _ _ _ _ => False
  | nn + 1 => wb_X2_isSliceZero_29 M (wl_X2_isSliceZero_29 M K nn) K
set_option maxHeartbeats 4000000 in
set_option maxRecDepth 100000 in
theorem l_X2_isSliceZero_29 {G : CG} {S0 : HS} {X : Fx} {K : Int32 → HS → Prop} (hc : Cx X RX2 cX2_isSliceZero 6) (hr : Cc G S0 0 (some .boolean) (kI K) X) : ∀ (nn : Nat) (x0 x1 : Nat) (x2 x3 x4 : Int32) (S : HS), wl_X2_isSliceZero_29 (gC G, gS G) K nn x0 x1 x2 x3 x4 S → MC G S0 X 6 S 29 [(0, .ref x0), (1, .ref x1), (2, .int x2), (3, .int x3), (4, .int x4)] [] := by
  intro nn
  induction nn with
  | zero => intro x0 x1 x2 x3 x4 S hw; exact False.elim hw
  | succ nn ih =>
    intro x0 x1 x2 x3 x4 S hw
    have hw : wb_X2_isSliceZero_29 (gC G, gS G) (wl_X2_isSliceZero_29 (gC G, gS G) K nn) K x0 x1 x2 x3 x4 S := hw
    have h29 := ih
    generalize wl_X2_isSliceZero_29 (gC G, gS G) K nn = K29 at hw h29
    unfold wb_X2_isSliceZero_29 at hw
    refine m_iload hc 4 dX2_isSliceZero_29 rfl ?_
    refine m_aload_n hc 0 dX2_isSliceZero_31 rfl rfl ?_
    obtain ⟨ht, b1, e_b1, hw⟩ := hw
    refine c_getr hc hr ciX2 (Nat.le_of_ble_eq_true rfl) 8 (Nat.le_of_ble_eq_true rfl) rfl dX2_isSliceZero_32 lf_X2_51 ht e_b1 ?_
    refine m_aload_n hc 1 dX2_isSliceZero_35 rfl rfl ?_
    obtain ⟨ht, hw⟩ := hw
    refine c_geti hc hr ciX3 (Nat.le_of_ble_eq_true rfl) 1 (Nat.le_of_ble_eq_true rfl) rfl dX2_isSliceZero_36 lf_X2_153 ht ?_
    obtain ⟨ht, hi, hw⟩ := hw
    refine c_iald hc hr ht hi dX2_isSliceZero_39 ?_
    refine m_icmp_gt hc 99 dX2_isSliceZero_40 rfl (fun cq => ?_) (fun cq => ?_)
    · have hw := hw.1 cq
      refine m_iconst hc 1 dX2_isSliceZero_99 (by decide) ?_
      exact c_zret hc hr dX2_isSliceZero_100 (by decide) hw
    · have hw := hw.2 cq
      refine m_iconst hc 0 dX2_isSliceZero_43 (by decide) ?_
      refine m_istore hc [(5, .int 0), (0, .ref x0), (1, .ref x1), (2, .int x2), (3, .int x3), (4, .int x4)] dX2_isSliceZero_44 (Nat.le_of_ble_eq_true rfl) rfl ?_
      refine m_sub [1, 2, 3, 4, 5, 0] rfl ?_
      obtain ⟨nn, hw⟩ := hw
      exact l_X2_isSliceZero_46 hc hr K29 h29 nn x0 x1 x2 x3 x4 0 S hw
def wp_X2_isSliceZero (M : Nat × Nat) (x0 x1 : Nat) (S : HS) (K : Int32 → HS → Prop) : Prop := hT S x0 = 3 ∧ ∃ b1 : Nat, hP S x0 7 = some b1 ∧ hT S b1 = 2 ∧ ∃ b2 : Nat, hP S b1 2 = some b2 ∧ hT S x1 = 4 ∧ hT S b2 = 21 ∧ vp_in (hI S x1 1) (hN S b2) ∧ ∀ v3 : Int32, v3 = (hI S b2 (Int32.toNatClampNeg (hI S x1 1))) → hT S x0 = 3 ∧ ∃ b4 : Nat, hP S x0 7 = some b4 ∧ hT S b4 = 2 ∧ ∃ b5 : Nat, hP S b4 2 = some b5 ∧ hT S x1 = 4 ∧ hT S b5 = 21 ∧ vp_in (hI S x1 2) (hN S b5) ∧ ∀ v6 : Int32, v6 = (hI S b5 (Int32.toNatClampNeg (hI S x1 2))) → ∃ nn : Nat, wl_X2_isSliceZero_29 M K nn x0 x1 v3 v6 0 S
set_option maxHeartbeats 4000000 in
set_option maxRecDepth 100000 in
theorem ok_X2_isSliceZero {G : CG} {x0 : Nat} {x1 : Nat} {S : HS} {K : Int32 → HS → Prop} (hw : wp_X2_isSliceZero (gC G, gS G) x0 x1 S K) : CC 0 yX2_isSliceZero cX2_isSliceZero 6 (some .boolean) [.ref x0, .ref x1] G S (kI K) := by
  refine CC.of (by decide +kernel) (Nat.le_of_ble_eq_true rfl) (fun X hc hr hname => ?_)
  show MC G S X 6 S 0 [(0, .ref x0), (1, .ref x1)] []
  unfold wp_X2_isSliceZero at hw
  refine m_aload_n hc 0 dX2_isSliceZero_0 rfl rfl ?_
  obtain ⟨ht, b1, e_b1, hw⟩ := hw
  refine c_getr hc hr ciX2 (Nat.le_of_ble_eq_true rfl) 7 (Nat.le_of_ble_eq_true rfl) rfl dX2_isSliceZero_1 lf_X2_48 ht e_b1 ?_
  obtain ⟨ht, b2, e_b2, hw⟩ := hw
  refine c_getr hc hr ciX1 (Nat.le_of_ble_eq_true rfl) 2 (Nat.le_of_ble_eq_true rfl) rfl dX2_isSliceZero_4 lf_X2_177 ht e_b2 ?_
  refine m_aload_n hc 1 dX2_isSliceZero_7 rfl rfl ?_
  obtain ⟨ht, hw⟩ := hw
  refine c_geti hc hr ciX3 (Nat.le_of_ble_eq_true rfl) 1 (Nat.le_of_ble_eq_true rfl) rfl dX2_isSliceZero_8 lf_X2_153 ht ?_
  obtain ⟨ht, hi, hw⟩ := hw
  refine c_iald hc hr ht hi dX2_isSliceZero_11 ?_
  refine m_topi (fun v3 e_v3 => ?_)
  have hw := hw v3 e_v3
  refine m_istore_n hc [(2, .int v3), (0, .ref x0), (1, .ref x1)] dX2_isSliceZero_12 rfl (Nat.le_of_ble_eq_true rfl) rfl ?_
  refine m_aload_n hc 1 dX2_isSliceZero_13 rfl rfl ?_
  obtain ⟨ht, b4, e_b4, hw⟩ := hw
  refine c_getr hc hr ciX2 (Nat.le_of_ble_eq_true rfl) 7 (Nat.le_of_ble_eq_true rfl) rfl dX2_isSliceZero_14 lf_X2_48 ht e_b4 ?_
  obtain ⟨ht, b5, e_b5, hw⟩ := hw
  refine c_getr hc hr ciX1 (Nat.le_of_ble_eq_true rfl) 2 (Nat.le_of_ble_eq_true rfl) rfl dX2_isSliceZero_17 lf_X2_177 ht e_b5 ?_
  refine m_aload_n hc 2 dX2_isSliceZero_20 rfl rfl ?_
  obtain ⟨ht, hw⟩ := hw
  refine c_geti hc hr ciX3 (Nat.le_of_ble_eq_true rfl) 2 (Nat.le_of_ble_eq_true rfl) rfl dX2_isSliceZero_21 lf_X2_159 ht ?_
  obtain ⟨ht, hi, hw⟩ := hw
  refine c_iald hc hr ht hi dX2_isSliceZero_24 ?_
  refine m_topi (fun v6 e_v6 => ?_)
  have hw := hw v6 e_v6
  refine m_istore_n hc [(3, .int v6), (2, .int v3), (0, .ref x0), (1, .ref x1)] dX2_isSliceZero_25 rfl (Nat.le_of_ble_eq_true rfl) rfl ?_
  refine m_iconst hc 0 dX2_isSliceZero_26 (by decide) ?_
  refine m_istore hc [(4, .int 0), (3, .int v6), (2, .int v3), (0, .ref x0), (1, .ref x1)] dX2_isSliceZero_27 (Nat.le_of_ble_eq_true rfl) rfl ?_
  refine m_sub [3, 4, 2, 1, 0] rfl ?_
  obtain ⟨nn, hw⟩ := hw
  exact l_X2_isSliceZero_29 hc hr nn x0 x1 v3 v6 0 S hw
def wb_X2_takeQuotient_98 (M : Nat × Nat) (K43 : Nat → Nat → Int32 → Int32 → Int32 → Int32 → HS → Prop) (K81 : Nat → Nat → Int32 → Int32 → Int32 → Int32 → Int32 → Int32 → HS → Prop) (K98 : Nat → Nat → Int32 → Int32 → Int32 → Int32 → Int32 → Int32 → Int32 → HS → Prop) (K : Int32 → HS → Prop) (x0 x1 : Nat) (x2 x3 x4 x5 x6 x7 x8 : Int32) (S : HS) : Prop := hT S x0 = 3 ∧ ∃ b1 : Nat, hP S x0 8 = some b1 ∧ hT S x1 = 4 ∧ hT S b1 = 21 ∧ vp_in (hI S x1 2) (hN S b1) ∧ ((hI S b1 (Int32.toNatClampNeg (hI S x1 2))) < x8 → K81 x0 x1 x2 x3 x4 x5 x6 (x7 + 1) S) ∧ (¬ ((hI S b1 (Int32.toNatClampNeg (hI S x1 2))) < x8) → ∀ v2 : Int32, v2 = (((x5 * x2) + (x7 * x3)) + (x8 * x4)) → hT S x0 = 3 ∧ ∃ b3 : Nat, hP S x0 6 = some b3 ∧ hT S b3 = 2 ∧ ∃ b4 : Nat, hP S b3 0 = some b4 ∧ (x6 = 0 → hT S x0 = 3 ∧ ∃ b5 : Nat, hP S x0 7 = some b5 ∧ hT S b5 = 2 ∧ ∃ b6 : Nat, hP S b5 0 = some b6 ∧ hT S b6 = 21 ∧ vp_in (v2 + x2) (hN S b6) ∧ hT S b4 = 21 ∧ vp_in v2 (hN S b4) ∧ K98 x0 x1 x2 x3 x4 x5 x6 x7 (x8 + 1) (sI S b4 (Int32.toNatClampNeg v2) (hI S b6 (Int32.toNatClampNeg (v2 + x2))))) ∧ (¬ (x6 = 0) → hT S b4 = 21 ∧ vp_in v2 (hN S b4) ∧ K98 x0 x1 x2 x3 x4 x5 x6 x7 (x8 + 1) (sI S b4 (Int32.toNatClampNeg v2) 0)))
def wl_X2_takeQuotient_98 (M : Nat × Nat) (K43 : Nat → Nat → Int32 → Int32 → Int32 → Int32 → HS → Prop) (K81 : Nat → Nat → Int32 → Int32 → Int32 → Int32 → Int32 → Int32 → HS → Prop) (K : Int32 → HS → Prop) : Nat → Nat → Nat → Int32 → Int32 → Int32 → Int32 → Int32 → Int32 → Int32 → HS → Prop
  | 0 => fun _ _ _ _ _ _ _ _ _ _ => False
  | nn + 1 => wb_X2_takeQuotient_98 M K43 K81 (wl_X2_takeQuotient_98 M K43 K81 K nn) K
set_option maxHeartbeats 4000000 in
set_option maxRecDepth 100000 in
theorem l_X2_takeQuotient_98 {G : CG} {S0 : HS} {X : Fx} {K : Int32 → HS → Prop} (hc : Cx X RX2 cX2_takeQuotient 10) (hr : Cc G S0 0 none (kV K) X) (K43 : Nat → Nat → Int32 → Int32 → Int32 → Int32 → HS → Prop) (K81 : Nat → Nat → Int32 → Int32 → Int32 → Int32 → Int32 → Int32 → HS → Prop) (h43 : ∀ (x0 x1 : Nat) (x2 x3 x4 x5 : Int32) (S : HS), K43 x0 x1 x2 x3 x4 x5 S → MC G S0 X 10 S 43 [(0, .ref x0), (1, .ref x1), (2, .int x2), (3, .int x3), (4, .int x4), (5, .int x5)] []) (h81 : ∀ (x0 x1 : Nat) (x2 x3 x4 x5 x6 x7 : Int32) (S : HS), K81 x0 x1 x2 x3 x4 x5 x6 x7 S → MC G S0 X 10 S 81 [(0, .ref x0), (1, .ref x1), (2, .int x2), (3, .int x3), (4, .int x4), (5, .int x5), (6, .int x6), (7, .int x7)] []) : ∀ (nn : Nat) (x0 x1 : Nat) (x2 x3 x4 x5 x6 x7 x8 : Int32) (S : HS), wl_X2_takeQuotient_98 (gC G, gS G) K43 K81 K nn x0 x1 x2 x3 x4 x5 x6 x7 x8 S → MC G S0 X 10 S 98 [(0, .ref x0), (1, .ref x1), (2, .int x2), (3, .int x3), (4, .int x4), (5, .int x5), (6, .int x6), (7, .int x7), (8, .int x8)] [] := by
  intro nn
  induction nn with
  | zero => intro x0 x1 x2 x3 x4 x5 x6 x7 x8 S hw; exact False.elim hw
  | succ nn ih =>
    intro x0 x1 x2 x3 x4 x5 x6 x7 x8 S hw
    have hw : wb_X2_takeQuotient_98 (gC G, gS G) K43 K81 (wl_X2_takeQuotient_98 (gC G, gS G) K43 K81 K nn) K x0 x1 x2 x3 x4 x5 x6 x7 x8 S := hw
    have h98 := ih
    generalize wl_X2_takeQuotient_98 (gC G, gS G) K43 K81 K nn = K98 at hw h98
    unfold wb_X2_takeQuotient_98 at hw
    refine m_iload hc 8 dX2_takeQuotient_98 rfl ?_
    refine m_aload_n hc 0 dX2_takeQuotient_100 rfl rfl ?_
    obtain ⟨ht, b1, e_b1, hw⟩ := hw
    refine c_getr hc hr ciX2 (Nat.le_of_ble_eq_true rfl) 8 (Nat.le_of_ble_eq_true rfl) rfl dX2_takeQuotient_101 lf_X2_51 ht e_b1 ?_
    refine m_aload_n hc 1 dX2_takeQuotient_104 rfl rfl ?_
    obtain ⟨ht, hw⟩ := hw
    refine c_geti hc hr ciX3 (Nat.le_of_ble_eq_true rfl) 2 (Nat.le_of_ble_eq_true rfl) rfl dX2_takeQuotient_105 lf_X2_159 ht ?_
    obtain ⟨ht, hi, hw⟩ := hw
    refine c_iald hc hr ht hi dX2_takeQuotient_108 ?_
    refine m_icmp_gt hc 166 dX2_takeQuotient_109 rfl (fun cq => ?_) (fun cq => ?_)
    · have hw := hw.1 cq
      refine m_iinc hc 7 (x7 + 1) [(7, .int (x7 + 1)), (0, .ref x0), (1, .ref x1), (2, .int x2), (3, .int x3), (4, .int x4), (5, .int x5), (6, .int x6), (8, .int x8)] dX2_takeQuotient_166 rfl rfl (Nat.le_of_ble_eq_true rfl) rfl ?_
      refine m_goto hc 81 dX2_takeQuotient_169 rfl ?_
      refine m_sub [1, 2, 3, 4, 5, 6, 7, 0] rfl ?_
      exact h81 x0 x1 x2 x3 x4 x5 x6 (x7 + 1) S hw
    · have hw := hw.2 cq
      refine m_iload hc 5 dX2_takeQuotient_112 rfl ?_
      refine m_iload_n hc 2 dX2_takeQuotient_114 rfl rfl ?_
      refine m_imul hc dX2_takeQuotient_115 ?_
      refine m_iload hc 7 dX2_takeQuotient_116 rfl ?_
      refine m_iload_n hc 3 dX2_takeQuotient_118 rfl rfl ?_
      refine m_imul hc dX2_takeQuotient_119 ?_
      refine m_iadd hc dX2_takeQuotient_120 ?_
      refine m_iload hc 8 dX2_takeQuotient_121 rfl ?_
      refine m_iload hc 4 dX2_takeQuotient_123 rfl ?_
      refine m_imul hc dX2_takeQuotient_125 ?_
      refine m_iadd hc dX2_takeQuotient_126 ?_
      refine m_topi (fun v2 e_v2 => ?_)
      have hw := hw v2 e_v2
      refine m_istore hc [(9, .int v2), (0, .ref x0), (1, .ref x1), (2, .int x2), (3, .int x3), (4, .int x4), (5, .int x5), (6, .int x6), (7, .int x7), (8, .int x8)] dX2_takeQuotient_127 (Nat.le_of_ble_eq_true rfl) rfl ?_
      refine m_aload_n hc 1 dX2_takeQuotient_129 rfl rfl ?_
      obtain ⟨ht, b3, e_b3, hw⟩ := hw
      refine c_getr hc hr ciX2 (Nat.le_of_ble_eq_true rfl) 6 (Nat.le_of_ble_eq_true rfl) rfl dX2_takeQuotient_130 lf_X2_44 ht e_b3 ?_
      obtain ⟨ht, b4, e_b4, hw⟩ := hw
      refine c_getr hc hr ciX1 (Nat.le_of_ble_eq_true rfl) 0 (Nat.le_of_ble_eq_true rfl) rfl dX2_takeQuotient_133 lf_X2_108 ht e_b4 ?_
      refine m_iload hc 0 dX2_takeQuotient_136 rfl ?_
      refine m_iload hc 7 dX2_takeQuotient_138 rfl ?_
      refine m_if_eq hc 147 dX2_takeQuotient_140 rfl (fun cq => ?_) (fun cq => ?_)
      · have hw := hw.1 cq
        refine m_aload_n hc 1 dX2_takeQuotient_147 rfl rfl ?_
        obtain ⟨ht, b5, e_b5, hw⟩ := hw
        refine c_getr hc hr ciX2 (Nat.le_of_ble_eq_true rfl) 7 (Nat.le_of_ble_eq_true rfl) rfl dX2_takeQuotient_148 lf_X2_48 ht e_b5 ?_
        obtain ⟨ht, b6, e_b6, hw⟩ := hw
        refine c_getr hc hr ciX1 (Nat.le_of_ble_eq_true rfl) 0 (Nat.le_of_ble_eq_true rfl) rfl dX2_takeQuotient_151 lf_X2_108 ht e_b6 ?_
        refine m_iload hc 0 dX2_takeQuotient_154 rfl ?_
        refine m_iload_n hc 3 dX2_takeQuotient_156 rfl rfl ?_
        refine m_iadd hc dX2_takeQuotient_157 ?_
        obtain ⟨ht, hi, hw⟩ := hw
        refine c_iald hc hr ht hi dX2_takeQuotient_158 ?_
        obtain ⟨ht, hi, hw⟩ := hw
        refine c_iast hc hr ht hi dX2_takeQuotient_159 ?_
        refine m_iinc hc 9 (x8 + 1) [(8, .int (x8 + 1)), (9, .int v2), (0, .ref x0), (1, .ref x1), (2, .int x2), (3, .int x3), (4, .int x4), (5, .int x5), (6, .int x6), (7, .int x7)] dX2_takeQuotient_160 rfl rfl (Nat.le_of_ble_eq_true rfl) rfl ?_
        refine m_goto hc 98 dX2_takeQuotient_163 rfl ?_
        refine m_sub [2, 3, 4, 5, 6, 7, 8, 9, 0] rfl ?_
        exact h98 x0 x1 x2 x3 x4 x5 x6 x7 (x8 + 1) (sI S b4 (Int32.toNatClampNeg v2) (hI S b6 (Int32.toNatClampNeg (v2 + x2)))) hw
      · have hw := hw.2 cq
        refine m_iconst hc 0 dX2_takeQuotient_143 (by decide) ?_
        refine m_goto hc 159 dX2_takeQuotient_144 rfl ?_
        obtain ⟨ht, hi, hw⟩ := hw
        refine c_iast hc hr ht hi dX2_takeQuotient_159 ?_
        refine m_iinc hc 9 (x8 + 1) [(8, .int (x8 + 1)), (9, .int v2), (0, .ref x0), (1, .ref x1), (2, .int x2), (3, .int x3), (4, .int x4), (5, .int x5), (6, .int x6), (7, .int x7)] dX2_takeQuotient_160 rfl rfl (Nat.le_of_ble_eq_true rfl) rfl ?_
        refine m_goto hc 98 dX2_takeQuotient_163 rfl ?_
        refine m_sub [2, 3, 4, 5, 6, 7, 8, 9, 0] rfl ?_
        exact h98 x0 x1 x2 x3 x4 x5 x6 x7 (x8 + 1) (sI S b4 (Int32.toNatClampNeg v2) 0) hw
def wb_X2_takeQuotient_81 (M : Nat × Nat) (K43 : Nat → Nat → Int32 → Int32 → Int32 → Int32 → HS → Prop) (K81 : Nat → Nat → Int32 → Int32 → Int32 → Int32 → Int32 → Int32 → HS → Prop) (K : Int32 → HS → Prop) (x0 x1 : Nat) (x2 x3 x4 x5 x6 x7 : Int32) (S : HS) : Prop := hT S x0 = 3 ∧ ∃ b1 : Nat, hP S x0 8 = some b1 ∧ hT S x1 = 4 ∧ hT S b1 = 21 ∧ vp_in (hI S x1 1) (hN S b1) ∧ ((hI S b1 (Int32.toNatClampNeg (hI S x1 1))) < x7 → K43 x0 x1 x2 x3 x4 (x5 + 1) S) ∧ (¬ ((hI S b1 (Int32.toNatClampNeg (hI S x1 1))) < x7) → ∃ nn : Nat, wl_X2_takeQuotient_98 M K43 K81 K nn x0 x1 x2 x3 x4 x5 x6 x7 0 S)
def wl_X2_takeQuotient_81 (M : Nat × Nat) (K43 : Nat → Nat → Int32 → Int32 → Int32 → Int32 → HS → Prop) (K : Int32 → HS → Prop) : Nat → Nat → Nat → Int32 → Int32 → Int32 → Int32 → Int32 → Int32 → HS → Prop
  | 0 => fun _ _ _ _ _ _ _ _ _ => False
  | nn + 1 => wb_X2_takeQuotient_81 M K43 (wl_X2_takeQuotient_81 M K43 K nn) K
set_option maxHeartbeats 4000000 in
set_option maxRecDepth 100000 in
theorem l_X2_takeQuotient_81 {G : CG} {S0 : HS} {X : Fx} {K : Int32 → HS → Prop} (hc : Cx X RX2 cX2_takeQuotient 10) (hr : Cc G S0 0 none (kV K) X) (K43 : Nat → Nat → Int32 → Int32 → Int32 → Int32 → HS → Prop) (h43 : ∀ (x0 x1 : Nat) (x2 x3 x4 x5 : Int32) (S : HS), K43 x0 x1 x2 x3 x4 x5 S → MC G S0 X 10 S 43 [(0, .ref x0), (1, .ref x1), (2, .int x2), (3, .int x3), (4, .int x4), (5, .int x5)] []) : ∀ (nn : Nat) (x0 x1 : Nat) (x2 x3 x4 x5 x6 x7 : Int32) (S : HS), wl_X2_takeQuotient_81 (gC G, gS G) K43 K nn x0 x1 x2 x3 x4 x5 x6 x7 S → MC G S0 X 10 S 81 [(0, .ref x0), (1, .ref x1), (2, .int x2), (3, .int x3), (4, .int x4), (5, .int x5), (6, .int x6), (7, .int x7)] [] := by
  intro nn
  induction nn with
  | zero => intro x0 x1 x2 x3 x4 x5 x6 x7 S hw; exact False.elim hw
  | succ nn ih =>
    intro x0 x1 x2 x3 x4 x5 x6 x7 S hw
    have hw : wb_X2_takeQuotient_81 (gC G, gS G) K43 (wl_X2_takeQuotient_81 (gC G, gS G) K43 K nn) K x0 x1 x2 x3 x4 x5 x6 x7 S := hw
    have h81 := ih
    generalize wl_X2_takeQuotient_81 (gC G, gS G) K43 K nn = K81 at hw h81
    unfold wb_X2_takeQuotient_81 at hw
    refine m_iload hc 7 dX2_takeQuotient_81 rfl ?_
    refine m_aload_n hc 0 dX2_takeQuotient_83 rfl rfl ?_
    obtain ⟨ht, b1, e_b1, hw⟩ := hw
    refine c_getr hc hr ciX2 (Nat.le_of_ble_eq_true rfl) 8 (Nat.le_of_ble_eq_true rfl) rfl dX2_takeQuotient_84 lf_X2_51 ht e_b1 ?_
    refine m_aload_n hc 1 dX2_takeQuotient_87 rfl rfl ?_
    obtain ⟨ht, hw⟩ := hw
    refine c_geti hc hr ciX3 (Nat.le_of_ble_eq_true rfl) 1 (Nat.le_of_ble_eq_true rfl) rfl dX2_takeQuotient_88 lf_X2_153 ht ?_
    obtain ⟨ht, hi, hw⟩ := hw
    refine c_iald hc hr ht hi dX2_takeQuotient_91 ?_
    refine m_icmp_gt hc 172 dX2_takeQuotient_92 rfl (fun cq => ?_) (fun cq => ?_)
    · have hw := hw.1 cq
      refine m_iinc hc 5 (x5 + 1) [(5, .int (x5 + 1)), (0, .ref x0), (1, .ref x1), (2, .int x2), (3, .int x3), (4, .int x4), (6, .int x6), (7, .int x7)] dX2_takeQuotient_172 rfl rfl (Nat.le_of_ble_eq_true rfl) rfl ?_
      refine m_goto hc 43 dX2_takeQuotient_175 rfl ?_
      refine m_sub [1, 2, 3, 4, 5, 0] rfl ?_
      exact h43 x0 x1 x2 x3 x4 (x5 + 1) S hw
    · have hw := hw.2 cq
      refine m_iconst hc 0 dX2_takeQuotient_95 (by decide) ?_
      refine m_istore hc [(8, .int 0), (0, .ref x0), (1, .ref x1), (2, .int x2), (3, .int x3), (4, .int x4), (5, .int x5), (6, .int x6), (7, .int x7)] dX2_takeQuotient_96 (Nat.le_of_ble_eq_true rfl) rfl ?_
      refine m_sub [1, 2, 3, 4, 5, 6, 7, 8, 0] rfl ?_
      obtain ⟨nn, hw⟩ := hw
      exact l_X2_takeQuotient_98 hc hr K43 K81 h43 h81 nn x0 x1 x2 x3 x4 x5 x6 x7 0 S hw
def wb_X2_takeQuotient_43 (M : Nat × Nat) (K43 : Nat → Nat → Int32 → Int32 → Int32 → Int32 → HS → Prop) (K : Int32 → HS → Prop) (x0 x1 : Nat) (x2 x3 x4 x5 : Int32) (S : HS) : Prop := hT S x0 = 3 ∧ ∃ b1 : Nat, hP S x0 8 = some b1 ∧ hT S x1 = 4 ∧ hT S b1 = 21 ∧ vp_in (hI S x1 0) (hN S b1) ∧ ((hI S b1 (Int32.toNatClampNeg (hI S x1 0))) < x5 → K 0 S) ∧ (¬ ((hI S b1 (Int32.toNatClampNeg (hI S x1 0))) < x5) → hT S x0 = 3 ∧ ∃ b2 : Nat, hP S x0 8 = some b2 ∧ hT S x1 = 4 ∧ hT S b2 = 21 ∧ vp_in (hI S x1 0) (hN S b2) ∧ (¬ x5 = (hI S b2 (Int32.toNatClampNeg (hI S x1 0))) → ∃ nn : Nat, wl_X2_takeQuotient_81 M K43 K nn x0 x1 x2 x3 x4 x5 0 0 S) ∧ (x5 = (hI S b2 (Int32.toNatClampNeg (hI S x1 0))) → ∃ nn : Nat, wl_X2_takeQuotient_81 M K43 K nn x0 x1 x2 x3 x4 x5 1 0 S))
def wl_X2_takeQuotient_43 (M : Nat × Nat) (K : Int32 → HS → Prop) : Nat → Nat → Nat → Int32 → Int32 → Int32 → Int32 → HS → Prop
  | 0 => fun _ _ _ _ _ _ _ => False
  | nn + 1 => wb_X2_takeQuotient_43 M (wl_X2_takeQuotient_43 M K nn) K
set_option maxHeartbeats 4000000 in
set_option maxRecDepth 100000 in
theorem l_X2_takeQuotient_43 {G : CG} {S0 : HS} {X : Fx} {K : Int32 → HS → Prop} (hc : Cx X RX2 cX2_takeQuotient 10) (hr : Cc G S0 0 none (kV K) X) : ∀ (nn : Nat) (x0 x1 : Nat) (x2 x3 x4 x5 : Int32) (S : HS), wl_X2_takeQuotient_43 (gC G, gS G) K nn x0 x1 x2 x3 x4 x5 S → MC G S0 X 10 S 43 [(0, .ref x0), (1, .ref x1), (2, .int x2), (3, .int x3), (4, .int x4), (5, .int x5)] [] := by
  intro nn
  induction nn with
  | zero => intro x0 x1 x2 x3 x4 x5 S hw; exact False.elim hw
  | succ nn ih =>
    intro x0 x1 x2 x3 x4 x5 S hw
    have hw : wb_X2_takeQuotient_43 (gC G, gS G) (wl_X2_takeQuotient_43 (gC G, gS G) K nn) K x0 x1 x2 x3 x4 x5 S := hw
    have h43 := ih
    generalize wl_X2_takeQuotient_43 (gC G, gS G) K nn = K43 at hw h43
    unfold wb_X2_takeQuotient_43 at hw
    refine m_iload hc 5 dX2_takeQuotient_43 rfl ?_
    refine m_aload_n hc 0 dX2_takeQuotient_45 rfl rfl ?_
    obtain ⟨ht, b1, e_b1, hw⟩ := hw
    refine c_getr hc hr ciX2 (Nat.le_of_ble_eq_true rfl) 8 (Nat.le_of_ble_eq_true rfl) rfl dX2_takeQuotient_46 lf_X2_51 ht e_b1 ?_
    refine m_aload_n hc 1 dX2_takeQuotient_49 rfl rfl ?_
    obtain ⟨ht, hw⟩ := hw
    refine c_geti hc hr ciX3 (Nat.le_of_ble_eq_true rfl) 0 (Nat.le_of_ble_eq_true rfl) rfl dX2_takeQuotient_50 lf_X2_147 ht ?_
    obtain ⟨ht, hi, hw⟩ := hw
    refine c_iald hc hr ht hi dX2_takeQuotient_53 ?_
    refine m_icmp_gt hc 178 dX2_takeQuotient_54 rfl (fun cq => ?_) (fun cq => ?_)
    · have hw := hw.1 cq
      exact c_vret hc hr dX2_takeQuotient_178 hw
    · have hw := hw.2 cq
      refine m_iload hc 5 dX2_takeQuotient_57 rfl ?_
      refine m_aload_n hc 0 dX2_takeQuotient_59 rfl rfl ?_
      obtain ⟨ht, b2, e_b2, hw⟩ := hw
      refine c_getr hc hr ciX2 (Nat.le_of_ble_eq_true rfl) 8 (Nat.le_of_ble_eq_true rfl) rfl dX2_takeQuotient_60 lf_X2_51 ht e_b2 ?_
      refine m_aload_n hc 1 dX2_takeQuotient_63 rfl rfl ?_
      obtain ⟨ht, hw⟩ := hw
      refine c_geti hc hr ciX3 (Nat.le_of_ble_eq_true rfl) 0 (Nat.le_of_ble_eq_true rfl) rfl dX2_takeQuotient_64 lf_X2_147 ht ?_
      obtain ⟨ht, hi, hw⟩ := hw
      refine c_iald hc hr ht hi dX2_takeQuotient_67 ?_
      refine m_icmp_ne hc 75 dX2_takeQuotient_68 rfl (fun cq => ?_) (fun cq => ?_)
      · have hw := hw.1 cq
        refine m_iconst hc 0 dX2_takeQuotient_75 (by decide) ?_
        refine m_istore hc [(6, .int 0), (0, .ref x0), (1, .ref x1), (2, .int x2), (3, .int x3), (4, .int x4), (5, .int x5)] dX2_takeQuotient_76 (Nat.le_of_ble_eq_true rfl) rfl ?_
        refine m_iconst hc 0 dX2_takeQuotient_78 (by decide) ?_
        refine m_istore hc [(7, .int 0), (6, .int 0), (0, .ref x0), (1, .ref x1), (2, .int x2), (3, .int x3), (4, .int x4), (5, .int x5)] dX2_takeQuotient_79 (Nat.le_of_ble_eq_true rfl) rfl ?_
        refine m_sub [2, 3, 4, 5, 6, 7, 1, 0] rfl ?_
        obtain ⟨nn, hw⟩ := hw
        exact l_X2_takeQuotient_81 hc hr K43 h43 nn x0 x1 x2 x3 x4 x5 0 0 S hw
      · have hw := hw.2 cq
        refine m_iconst hc 1 dX2_takeQuotient_71 (by decide) ?_
        refine m_goto hc 76 dX2_takeQuotient_72 rfl ?_
        refine m_istore hc [(6, .int 1), (0, .ref x0), (1, .ref x1), (2, .int x2), (3, .int x3), (4, .int x4), (5, .int x5)] dX2_takeQuotient_76 (Nat.le_of_ble_eq_true rfl) rfl ?_
        refine m_iconst hc 0 dX2_takeQuotient_78 (by decide) ?_
        refine m_istore hc [(7, .int 0), (6, .int 1), (0, .ref x0), (1, .ref x1), (2, .int x2), (3, .int x3), (4, .int x4), (5, .int x5)] dX2_takeQuotient_79 (Nat.le_of_ble_eq_true rfl) rfl ?_
        refine m_sub [2, 3, 4, 5, 6, 7, 1, 0] rfl ?_
        obtain ⟨nn, hw⟩ := hw
        exact l_X2_takeQuotient_81 hc hr K43 h43 nn x0 x1 x2 x3 x4 x5 1 0 S hw
def wp_X2_takeQuotient (M : Nat × Nat) (x0 x1 : Nat) (S : HS) (K : Int32 → HS → Prop) : Prop := hT S x0 = 3 ∧ ∃ b1 : Nat, hP S x0 7 = some b1 ∧ hT S b1 = 2 ∧ ∃ b2 : Nat, hP S b1 2 = some b2 ∧ hT S x1 = 4 ∧ hT S b2 = 21 ∧ vp_in (hI S x1 0) (hN S b2) ∧ ∀ v3 : Int32, v3 = (hI S b2 (Int32.toNatClampNeg (hI S x1 0))) → hT S x0 = 3 ∧ ∃ b4 : Nat, hP S x0 7 = some b4 ∧ hT S b4 = 2 ∧ ∃ b5 : Nat, hP S b4 2 = some b5 ∧ hT S x1 = 4 ∧ hT S b5 = 21 ∧ vp_in (hI S x1 1) (hN S b5) ∧ ∀ v6 : Int32, v6 = (hI S b5 (Int32.toNatClampNeg (hI S x1 1))) → hT S x0 = 3 ∧ ∃ b7 : Nat, hP S x0 7 = some b7 ∧ hT S b7 = 2 ∧ ∃ b8 : Nat, hP S b7 2 = some b8 ∧ hT S x1 = 4 ∧ hT S b8 = 21 ∧ vp_in (hI S x1 2) (hN S b8) ∧ ∀ v9 : Int32, v9 = (hI S b8 (Int32.toNatClampNeg (hI S x1 2))) → ∃ nn : Nat, wl_X2_takeQuotient_43 M K nn x0 x1 v3 v6 v9 0 S
set_option maxHeartbeats 4000000 in
set_option maxRecDepth 100000 in
theorem ok_X2_takeQuotient {G : CG} {x0 : Nat} {x1 : Nat} {S : HS} {K : Int32 → HS → Prop} (hw : wp_X2_takeQuotient (gC G, gS G) x0 x1 S K) : CC 0 yX2_takeQuotient cX2_takeQuotient 10 none [.ref x0, .ref x1] G S (kV K) := by
  refine CC.of (by decide +kernel) (Nat.le_of_ble_eq_true rfl) (fun X hc hr hname => ?_)
  show MC G S X 10 S 0 [(0, .ref x0), (1, .ref x1)] []
  unfold wp_X2_takeQuotient at hw
  refine m_aload_n hc 0 dX2_takeQuotient_0 rfl rfl ?_
  obtain ⟨ht, b1, e_b1, hw⟩ := hw
  refine c_getr hc hr ciX2 (Nat.le_of_ble_eq_true rfl) 7 (Nat.le_of_ble_eq_true rfl) rfl dX2_takeQuotient_1 lf_X2_48 ht e_b1 ?_
  obtain ⟨ht, b2, e_b2, hw⟩ := hw
  refine c_getr hc hr ciX1 (Nat.le_of_ble_eq_true rfl) 2 (Nat.le_of_ble_eq_true rfl) rfl dX2_takeQuotient_4 lf_X2_177 ht e_b2 ?_
  refine m_aload_n hc 1 dX2_takeQuotient_7 rfl rfl ?_
  obtain ⟨ht, hw⟩ := hw
  refine c_geti hc hr ciX3 (Nat.le_of_ble_eq_true rfl) 0 (Nat.le_of_ble_eq_true rfl) rfl dX2_takeQuotient_8 lf_X2_147 ht ?_
  obtain ⟨ht, hi, hw⟩ := hw
  refine c_iald hc hr ht hi dX2_takeQuotient_11 ?_
  refine m_topi (fun v3 e_v3 => ?_)
  have hw := hw v3 e_v3
  refine m_istore_n hc [(2, .int v3), (0, .ref x0), (1, .ref x1)] dX2_takeQuotient_12 rfl (Nat.le_of_ble_eq_true rfl) rfl ?_
  refine m_aload_n hc 1 dX2_takeQuotient_13 rfl rfl ?_
  obtain ⟨ht, b4, e_b4, hw⟩ := hw
  refine c_getr hc hr ciX2 (Nat.le_of_ble_eq_true rfl) 7 (Nat.le_of_ble_eq_true rfl) rfl dX2_takeQuotient_14 lf_X2_48 ht e_b4 ?_
  obtain ⟨ht, b5, e_b5, hw⟩ := hw
  refine c_getr hc hr ciX1 (Nat.le_of_ble_eq_true rfl) 2 (Nat.le_of_ble_eq_true rfl) rfl dX2_takeQuotient_17 lf_X2_177 ht e_b5 ?_
  refine m_aload_n hc 2 dX2_takeQuotient_20 rfl rfl ?_
  obtain ⟨ht, hw⟩ := hw
  refine c_geti hc hr ciX3 (Nat.le_of_ble_eq_true rfl) 1 (Nat.le_of_ble_eq_true rfl) rfl dX2_takeQuotient_21 lf_X2_153 ht ?_
  obtain ⟨ht, hi, hw⟩ := hw
  refine c_iald hc hr ht hi dX2_takeQuotient_24 ?_
  refine m_topi (fun v6 e_v6 => ?_)
  have hw := hw v6 e_v6
  refine m_istore_n hc [(3, .int v6), (2, .int v3), (0, .ref x0), (1, .ref x1)] dX2_takeQuotient_25 rfl (Nat.le_of_ble_eq_true rfl) rfl ?_
  refine m_aload_n hc 2 dX2_takeQuotient_26 rfl rfl ?_
  obtain ⟨ht, b7, e_b7, hw⟩ := hw
  refine c_getr hc hr ciX2 (Nat.le_of_ble_eq_true rfl) 7 (Nat.le_of_ble_eq_true rfl) rfl dX2_takeQuotient_27 lf_X2_48 ht e_b7 ?_
  obtain ⟨ht, b8, e_b8, hw⟩ := hw
  refine c_getr hc hr ciX1 (Nat.le_of_ble_eq_true rfl) 2 (Nat.le_of_ble_eq_true rfl) rfl dX2_takeQuotient_30 lf_X2_177 ht e_b8 ?_
  refine m_aload_n hc 3 dX2_takeQuotient_33 rfl rfl ?_
  obtain ⟨ht, hw⟩ := hw
  refine c_geti hc hr ciX3 (Nat.le_of_ble_eq_true rfl) 2 (Nat.le_of_ble_eq_true rfl) rfl dX2_takeQuotient_34 lf_X2_159 ht ?_
  obtain ⟨ht, hi, hw⟩ := hw
  refine c_iald hc hr ht hi dX2_takeQuotient_37 ?_
  refine m_topi (fun v9 e_v9 => ?_)
  have hw := hw v9 e_v9
  refine m_istore hc [(4, .int v9), (3, .int v6), (2, .int v3), (0, .ref x0), (1, .ref x1)] dX2_takeQuotient_38 (Nat.le_of_ble_eq_true rfl) rfl ?_
  refine m_iconst hc 0 dX2_takeQuotient_40 (by decide) ?_
  refine m_istore hc [(5, .int 0), (4, .int v9), (3, .int v6), (2, .int v3), (0, .ref x0), (1, .ref x1)] dX2_takeQuotient_41 (Nat.le_of_ble_eq_true rfl) rfl ?_
  refine m_sub [4, 5, 3, 2, 1, 0] rfl ?_
  obtain ⟨nn, hw⟩ := hw
  exact l_X2_takeQuotient_43 hc hr nn x0 x1 v3 v6 v9 0 S hw
