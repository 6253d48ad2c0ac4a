def wp_X7_atomPoly (M : Nat × Nat) (x0 : Nat) (x1 x2 : Int32) (S : HS) (K : Option Nat → HS → Prop) : Prop := (100 ≤ x1 → (103 ≤ x1 → hT S x0 = 8 ∧ ∃ b1 : Nat, hP S x0 6 = some b1 ∧ hT S b1 = 23 ∧ vp_in (x1 - 103) (hN S b1) ∧ ∃ b2 : Nat, hP S b1 (Int32.toNatClampNeg (x1 - 103)) = some b2 ∧ K (some b2) S) ∧ (¬ (103 ≤ x1) → wp_X6_unit M (x1 - 100) S (fun r3 S3 => wp_X6_single M r3 1 S3 (fun r4 S4 => K r4 S4)))) ∧ (¬ (100 ≤ x1) → ¬ x2 = 0 ∧ (wp_X6_single M 0 (iRem x1 x2) S (fun r5 S5 => K r5 S5)))
set_option maxHeartbeats 4000000 in
set_option maxRecDepth 100000 in
theorem ok_X7_atomPoly {G : CG} {x0 : Nat} {x1 : Int32} {x2 : Int32} {S : HS} {K : Option Nat → HS → Prop} (hw : wp_X7_atomPoly (gC G, gS G) x0 x1 x2 S K) : CC 3 yX7_atomPoly cX7_atomPoly 3 (some (.object "StraightPolys$Poly")) [.ref x0, .int x1, .int x2] G S (kR K) := by
  refine CC.of (by decide +kernel) (Nat.le_of_ble_eq_true rfl) (fun X hc hr hname => ?_)
  show MC G S X 3 S 0 [(0, .ref x0), (1, .int x1), (2, .int x2)] []
  unfold wp_X7_atomPoly at hw
  refine m_iload_n hc 1 dX7_atomPoly_0 rfl rfl ?_
  refine m_bipush hc 100 dX7_atomPoly_1 (by decide) ?_
  refine m_icmp_ge hc 14 dX7_atomPoly_3 rfl (fun cq => ?_) (fun cq => ?_)
  · have hw := hw.1 cq
    refine m_iload_n hc 1 dX7_atomPoly_14 rfl rfl ?_
    refine m_bipush hc 103 dX7_atomPoly_15 (by decide) ?_
    refine m_icmp_ge hc 34 dX7_atomPoly_17 rfl (fun cq => ?_) (fun cq => ?_)
    · have hw := hw.1 cq
      refine m_aload_n hc 0 dX7_atomPoly_34 rfl rfl ?_
      obtain ⟨ht, b1, e_b1, hw⟩ := hw
      refine c_getr hc hr ciX7 (Nat.le_of_ble_eq_true rfl) 6 (Nat.le_of_ble_eq_true rfl) rfl dX7_atomPoly_35 lf_X7_33 ht e_b1 ?_
      refine m_iload_n hc 1 dX7_atomPoly_38 rfl rfl ?_
      refine m_bipush hc 103 dX7_atomPoly_39 (by decide) ?_
      refine m_isub hc dX7_atomPoly_41 ?_
      obtain ⟨ht, hi, b2, e_b2, hw⟩ := hw
      refine c_aald hc hr ht hi e_b2 dX7_atomPoly_42 ?_
      exact c_aret hc hr (r := (some b2)) dX7_atomPoly_43 hw
    · have hw := hw.2 cq
      refine m_iload_n hc 1 dX7_atomPoly_20 rfl rfl ?_
      refine m_bipush hc 100 dX7_atomPoly_21 (by decide) ?_
      refine m_isub hc dX7_atomPoly_23 ?_
      refine c_callSi hc hr mt_X6_unit lm_X7_87 (ok_X6_unit hw) (Nat.le_of_ble_eq_true rfl) dX7_atomPoly_24 rfl (rest := []) rfl (Nat.le_of_ble_eq_true rfl) (fun r3 S3 hw => ?_)
      refine m_iconst hc 1 dX7_atomPoly_27 (by decide) ?_
      refine c_callSq hc hr mt_X6_single lm_X7_84 (ok_X6_single hw) (Nat.le_of_ble_eq_true rfl) dX7_atomPoly_28 rfl (rest := []) rfl (Nat.le_of_ble_eq_true rfl) (fun r4 S4 hw => ?_)
      skip
      refine m_goto hc 43 dX7_atomPoly_31 rfl ?_
      exact c_aret hc hr (r := r4) dX7_atomPoly_43 hw
  · have hw := hw.2 cq
    refine m_iconst hc 0 dX7_atomPoly_6 (by decide) ?_
    refine m_iload_n hc 1 dX7_atomPoly_7 rfl rfl ?_
    refine m_iload_n hc 2 dX7_atomPoly_8 rfl rfl ?_
    obtain ⟨hq, hw⟩ := hw
    refine m_irem hc dX7_atomPoly_9 hq ?_
    refine c_callSq hc hr mt_X6_single lm_X7_84 (ok_X6_single hw) (Nat.le_of_ble_eq_true rfl) dX7_atomPoly_10 rfl (rest := []) rfl (Nat.le_of_ble_eq_true rfl) (fun r5 S5 hw => ?_)
    skip
    exact c_aret hc hr (r := r5) dX7_atomPoly_13 hw
def wp_X7_atomBound (M : Nat × Nat) (x0 : Nat) (x1 : Int32) (S : HS) (K : Int32 → HS → Prop) : Prop := (100 ≤ x1 → (103 ≤ x1 → hT S x0 = 8 ∧ ∃ b1 : Nat, hP S x0 5 = some b1 ∧ hT S b1 = 21 ∧ vp_in (x1 - 103) (hN S b1) ∧ K (hI S b1 (Int32.toNatClampNeg (x1 - 103))) S) ∧ (¬ (103 ≤ x1) → K 1 S)) ∧ (¬ (100 ≤ x1) → K 0 S)
set_option maxHeartbeats 4000000 in
set_option maxRecDepth 100000 in
theorem ok_X7_atomBound {G : CG} {x0 : Nat} {x1 : Int32} {S : HS} {K : Int32 → HS → Prop} (hw : wp_X7_atomBound (gC G, gS G) x0 x1 S K) : CC 0 yX7_atomBound cX7_atomBound 2 (some .int) [.ref x0, .int x1] G S (kI K) := by
  refine CC.of (by decide +kernel) (Nat.le_of_ble_eq_true rfl) (fun X hc hr hname => ?_)
  show MC G S X 2 S 0 [(0, .ref x0), (1, .int x1)] []
  unfold wp_X7_atomBound at hw
  refine m_iload_n hc 1 dX7_atomBound_0 rfl rfl ?_
  refine m_bipush hc 100 dX7_atomBound_1 (by decide) ?_
  refine m_icmp_ge hc 8 dX7_atomBound_3 rfl (fun cq => ?_) (fun cq => ?_)
  · have hw := hw.1 cq
    refine m_iload_n hc 1 dX7_atomBound_8 rfl rfl ?_
    refine m_bipush hc 103 dX7_atomBound_9 (by decide) ?_
    refine m_icmp_ge hc 18 dX7_atomBound_11 rfl (fun cq => ?_) (fun cq => ?_)
    · have hw := hw.1 cq
      refine m_aload_n hc 0 dX7_atomBound_18 rfl rfl ?_
      obtain ⟨ht, b1, e_b1, hw⟩ := hw
      refine c_getr hc hr ciX7 (Nat.le_of_ble_eq_true rfl) 5 (Nat.le_of_ble_eq_true rfl) rfl dX7_atomBound_19 lf_X7_28 ht e_b1 ?_
      refine m_iload_n hc 1 dX7_atomBound_22 rfl rfl ?_
      refine m_bipush hc 103 dX7_atomBound_23 (by decide) ?_
      refine m_isub hc dX7_atomBound_25 ?_
      obtain ⟨ht, hi, hw⟩ := hw
      refine c_iald hc hr ht hi dX7_atomBound_26 ?_
      exact c_iret hc hr dX7_atomBound_27 hw
    · have hw := hw.2 cq
      refine m_iconst hc 1 dX7_atomBound_14 (by decide) ?_
      refine m_goto hc 27 dX7_atomBound_15 rfl ?_
      exact c_iret hc hr dX7_atomBound_27 hw
  · have hw := hw.2 cq
    refine m_iconst hc 0 dX7_atomBound_6 (by decide) ?_
    exact c_iret hc hr dX7_atomBound_7 hw
def wp_X7_boundOf (M : Nat × Nat) (x0 : Nat) (x1 : Int32) (S : HS) (K : Int32 → HS → Prop) : Prop := hT S x0 = 8 ∧ ∃ b1 : Nat, hP S x0 3 = some b1 ∧ hT S b1 = 21 ∧ vp_in x1 (hN S b1) ∧ hT S x0 = 8 ∧ wp_X7_atomBound M x0 (hI S b1 (Int32.toNatClampNeg x1)) S (fun r2 S2 => hT S2 x0 = 8 ∧ ∃ b3 : Nat, hP S2 x0 4 = some b3 ∧ hT S2 b3 = 21 ∧ vp_in x1 (hN S2 b3) ∧ hT S2 x0 = 8 ∧ wp_X7_atomBound M x0 (hI S2 b3 (Int32.toNatClampNeg x1)) S2 (fun r4 S4 => hT S4 x0 = 8 ∧ ∃ b5 : Nat, hP S4 x0 2 = some b5 ∧ hT S4 b5 = 21 ∧ vp_in x1 (hN S4 b5) ∧ ((hI S4 b5 (Int32.toNatClampNeg x1)) = 42 → K (if 999999 < r2 + r4 then 999999 else r2 + r4) S4) ∧ ((hI S4 b5 (Int32.toNatClampNeg x1)) = 43 → K (if r2 < r4 then r4 else r2) S4) ∧ ((hI S4 b5 (Int32.toNatClampNeg x1)) = 45 → K (if r2 < r4 then r4 else r2) S4) ∧ ((hI S4 b5 (Int32.toNatClampNeg x1)) = 94 → hT S4 x0 = 8 ∧ ∃ b6 : Nat, hP S4 x0 4 = some b6 ∧ hT S4 b6 = 21 ∧ vp_in x1 (hN S4 b6) ∧ K (if 999999 < r2 * (hI S4 b6 (Int32.toNatClampNeg x1)) then 999999 else r2 * (hI S4 b6 (Int32.toNatClampNeg x1))) S4) ∧ (¬ (hI S4 b5 (Int32.toNatClampNeg x1)) = 42 ∧ ¬ (hI S4 b5 (Int32.toNatClampNeg x1)) = 43 ∧ ¬ (hI S4 b5 (Int32.toNatClampNeg x1)) = 45 ∧ ¬ (hI S4 b5 (Int32.toNatClampNeg x1)) = 94 → K r2 S4)))
set_option maxHeartbeats 4000000 in
set_option maxRecDepth 100000 in
theorem ok_X7_boundOf {G : CG} {x0 : Nat} {x1 : Int32} {S : HS} {K : Int32 → HS → Prop} (hw : wp_X7_boundOf (gC G, gS G) x0 x1 S K) : CC 1 yX7_boundOf cX7_boundOf 4 (some .int) [.ref x0, .int x1] G S (kI K) := by
  refine CC.of (by decide +kernel) (Nat.le_of_ble_eq_true rfl) (fun X hc hr hname => ?_)
  show MC G S X 4 S 0 [(0, .ref x0), (1, .int x1)] []
  unfold wp_X7_boundOf at hw
  refine m_aload_n hc 0 dX7_boundOf_0 rfl rfl ?_
  refine m_aload_n hc 0 dX7_boundOf_1 rfl rfl ?_
  obtain ⟨ht, b1, e_b1, hw⟩ := hw
  refine c_getr hc hr ciX7 (Nat.le_of_ble_eq_true rfl) 3 (Nat.le_of_ble_eq_true rfl) rfl dX7_boundOf_2 lf_X7_22 ht e_b1 ?_
  refine m_iload_n hc 1 dX7_boundOf_5 rfl rfl ?_
  obtain ⟨ht, hi, hw⟩ := hw
  refine c_iald hc hr ht hi dX7_boundOf_6 ?_
  obtain ⟨ht, hw⟩ := hw
  refine c_callVi hc hr ciX7 (Nat.le_of_ble_eq_true rfl) ht mt_X7_atomBound rfl lm_X7_71 (ok_X7_atomBound hw) (Nat.le_of_ble_eq_true rfl) dX7_boundOf_7 rfl (rest := []) rfl (Nat.le_of_ble_eq_true rfl) (fun r2 S2 hw => ?_)
  refine m_istore_n hc [(2, .int r2), (0, .ref x0), (1, .int x1)] dX7_boundOf_10 rfl (Nat.le_of_ble_eq_true rfl) rfl ?_
  refine m_aload_n hc 1 dX7_boundOf_11 rfl rfl ?_
  refine m_aload_n hc 1 dX7_boundOf_12 rfl rfl ?_
  obtain ⟨ht, b3, e_b3, hw⟩ := hw
  refine c_getr hc hr ciX7 (Nat.le_of_ble_eq_true rfl) 4 (Nat.le_of_ble_eq_true rfl) rfl dX7_boundOf_13 lf_X7_25 ht e_b3 ?_
  refine m_iload_n hc 2 dX7_boundOf_16 rfl rfl ?_
  obtain ⟨ht, hi, hw⟩ := hw
  refine c_iald hc hr ht hi dX7_boundOf_17 ?_
  obtain ⟨ht, hw⟩ := hw
  refine c_callVi hc hr ciX7 (Nat.le_of_ble_eq_true rfl) ht mt_X7_atomBound rfl lm_X7_71 (ok_X7_atomBound hw) (Nat.le_of_ble_eq_true rfl) dX7_boundOf_18 rfl (rest := []) rfl (Nat.le_of_ble_eq_true rfl) (fun r4 S4 hw => ?_)
  refine m_istore_n hc [(3, .int r4), (2, .int r2), (0, .ref x0), (1, .int x1)] dX7_boundOf_21 rfl (Nat.le_of_ble_eq_true rfl) rfl ?_
  refine m_aload_n hc 2 dX7_boundOf_22 rfl rfl ?_
  obtain ⟨ht, b5, e_b5, hw⟩ := hw
  refine c_getr hc hr ciX7 (Nat.le_of_ble_eq_true rfl) 2 (Nat.le_of_ble_eq_true rfl) rfl dX7_boundOf_23 lf_X7_19 ht e_b5 ?_
  refine m_iload_n hc 3 dX7_boundOf_26 rfl rfl ?_
  obtain ⟨ht, hi, hw⟩ := hw
  refine c_iald hc hr ht hi dX7_boundOf_27 ?_
  by_cases q0 : (hI S4 b5 (Int32.toNatClampNeg x1)) = 42
  · have hw := hw.1 q0
    refine m_look hc (off := 50) 78 dX7_boundOf_28 (by decide +kernel) (by rw [q0]; rfl) rfl ?_
    refine m_iload_n hc 1 dX7_boundOf_78 rfl rfl ?_
    refine m_iload_n hc 0 dX7_boundOf_79 rfl rfl ?_
    refine m_iadd hc dX7_boundOf_80 ?_
    refine m_ldc hc dX7_boundOf_81 lc_X7_80 ?_
    refine c_bnd (fun g1 g2 => ?_)
    refine m_mmin hc dX7_boundOf_83 lm_X7_81 lM_min (c_room hr g1 g2) (Nat.le_of_ble_eq_true rfl) ?_
    exact c_iret hc hr dX7_boundOf_86 hw
  · skip
    by_cases q1 : (hI S4 b5 (Int32.toNatClampNeg x1)) = 43
    · have hw := hw.2.1 q1
      refine m_look hc (off := 44) 72 dX7_boundOf_28 (by decide +kernel) (by rw [q1]; rfl) rfl ?_
      refine m_iload_n hc 1 dX7_boundOf_72 rfl rfl ?_
      refine m_iload_n hc 0 dX7_boundOf_73 rfl rfl ?_
      refine c_bnd (fun g1 g2 => ?_)
      refine m_mmax hc dX7_boundOf_74 lm_X7_74 lM_max (c_room hr g1 g2) (Nat.le_of_ble_eq_true rfl) ?_
      exact c_iret hc hr dX7_boundOf_77 hw
    · skip
      by_cases q2 : (hI S4 b5 (Int32.toNatClampNeg x1)) = 45
      · have hw := hw.2.2.1 q2
        refine m_look hc (off := 44) 72 dX7_boundOf_28 (by decide +kernel) (by rw [q2]; rfl) rfl ?_
        refine m_iload_n hc 1 dX7_boundOf_72 rfl rfl ?_
        refine m_iload_n hc 0 dX7_boundOf_73 rfl rfl ?_
        refine c_bnd (fun g1 g2 => ?_)
        refine m_mmax hc dX7_boundOf_74 lm_X7_74 lM_max (c_room hr g1 g2) (Nat.le_of_ble_eq_true rfl) ?_
        exact c_iret hc hr dX7_boundOf_77 hw
      · skip
        by_cases q3 : (hI S4 b5 (Int32.toNatClampNeg x1)) = 94
        · have hw := hw.2.2.2.1 q3
          refine m_look hc (off := 59) 87 dX7_boundOf_28 (by decide +kernel) (by rw [q3]; rfl) rfl ?_
          refine m_iload_n hc 1 dX7_boundOf_87 rfl rfl ?_
          refine m_aload_n hc 2 dX7_boundOf_88 rfl rfl ?_
          obtain ⟨ht, b6, e_b6, hw⟩ := hw
          refine c_getr hc hr ciX7 (Nat.le_of_ble_eq_true rfl) 4 (Nat.le_of_ble_eq_true rfl) rfl dX7_boundOf_89 lf_X7_25 ht e_b6 ?_
          refine m_iload_n hc 3 dX7_boundOf_92 rfl rfl ?_
          obtain ⟨ht, hi, hw⟩ := hw
          refine c_iald hc hr ht hi dX7_boundOf_93 ?_
          refine m_imul hc dX7_boundOf_94 ?_
          refine m_ldc hc dX7_boundOf_95 lc_X7_80 ?_
          refine c_bnd (fun g1 g2 => ?_)
          refine m_mmin hc dX7_boundOf_97 lm_X7_81 lM_min (c_room hr g1 g2) (Nat.le_of_ble_eq_true rfl) ?_
          exact c_iret hc hr dX7_boundOf_100 hw
        · skip
          have hw := hw.2.2.2.2 ⟨q0, q1, q2, q3⟩
          refine m_look hc (off := 73) 101 dX7_boundOf_28 (by decide +kernel) (lk_no 42 q0 rfl (lk_no 43 q1 rfl (lk_no 45 q2 rfl (lk_no 94 q3 rfl (rfl))))) rfl ?_
          refine m_iload_n hc 1 dX7_boundOf_101 rfl rfl ?_
          exact c_iret hc hr dX7_boundOf_102 hw
def wb_X9_addTimes_9 (M : Nat × Nat) (K9 : Nat → Int32 → Int32 → Nat → Nat → Int32 → HS → Prop) (K : Int32 → HS → Prop) (x0 : Nat) (x2 x3 : Int32) (x4 x5 : Nat) (x6 : Int32) (S : HS) : Prop := hT S x4 = 7 ∧ ((hI S x4 2) ≤ x6 → K 0 S) ∧ (¬ ((hI S x4 2) ≤ x6) → hT S x0 = 10 ∧ ∃ b1 : Nat, hP S x0 5 = some b1 ∧ hT S b1 = 21 ∧ vp_in x6 (hN S b1) ∧ hT S x5 = 21 ∧ vp_in (x2 + (hI S b1 (Int32.toNatClampNeg x6))) (hN S x5) ∧ hT S x4 = 7 ∧ ∃ b2 : Nat, hP S x4 1 = some b2 ∧ hT S b2 = 21 ∧ vp_in x6 (hN S b2) ∧ hT S x5 = 21 ∧ vp_in (x2 + (hI S b1 (Int32.toNatClampNeg x6))) (hN S x5) ∧ K9 x0 x2 x3 x4 x5 (x6 + 1) (sI S x5 (Int32.toNatClampNeg (x2 + (hI S b1 (Int32.toNatClampNeg x6)))) ((hI S x5 (Int32.toNatClampNeg (x2 + (hI S b1 (Int32.toNatClampNeg x6))))) + (x3 * (hI S b2 (Int32.toNatClampNeg x6))))))
def wl_X9_addTimes_9 (M : Nat × Nat) (K : Int32 → HS → Prop) : Nat → Nat → Int32 → Int32 → Nat → Nat → Int32 → HS → Prop
  | 0 => fun _ _ _ _ _ _ _ => False
  | nn + 1 => wb_X9_addTimes_9 M (wl_X9_addTimes_9 M K nn) K
set_option maxHeartbeats 4000000 in
set_option maxRecDepth 100000 in
theorem l_X9_addTimes_9 {G : CG} {S0 : HS} {X : Fx} {K : Int32 → HS → Prop} (hc : Cx X RX9 cX9_addTimes 7) (hr : Cc G S0 0 none (kV K) X) : ∀ (nn : Nat) (x0 : Nat) (x2 x3 : Int32) (x4 x5 : Nat) (x6 : Int32) (S : HS), wl_X9_addTimes_9 (gC G, gS G) K nn x0 x2 x3 x4 x5 x6 S → MC G S0 X 7 S 9 [(0, .ref x0), (2, .int x2), (3, .int x3), (4, .ref x4), (5, .ref x5), (6, .int x6)] [] := by
  intro nn
  induction nn with
  | zero => intro x0 x2 x3 x4 x5 x6 S hw; exact False.elim hw
  | succ nn ih =>
    intro x0 x2 x3 x4 x5 x6 S hw
    have hw : wb_X9_addTimes_9 (gC G, gS G) (wl_X9_addTimes_9 (gC G, gS G) K nn) K x0 x2 x3 x4 x5 x6 S := hw
    have h9 := ih
    generalize wl_X9_addTimes_9 (gC G, gS G) K nn = K9 at hw h9
    unfold wb_X9_addTimes_9 at hw
    refine m_iload hc 5 dX9_addTimes_9 rfl ?_
    refine m_aload hc 3 dX9_addTimes_11 rfl ?_
    obtain ⟨ht, hw⟩ := hw
    refine c_geti hc hr ciX6 (Nat.le_of_ble_eq_true rfl) 2 (Nat.le_of_ble_eq_true rfl) rfl dX9_addTimes_13 lf_X9_60 ht ?_
    refine m_icmp_ge hc 50 dX9_addTimes_16 rfl (fun cq => ?_) (fun cq => ?_)
    · have hw := hw.1 cq
      exact c_vret hc hr dX9_addTimes_50 hw
    · have hw := hw.2 cq
      refine m_aload hc 4 dX9_addTimes_19 rfl ?_
      refine m_iload_n hc 1 dX9_addTimes_21 rfl rfl ?_
      refine m_aload_n hc 0 dX9_addTimes_22 rfl rfl ?_
      obtain ⟨ht, b1, e_b1, hw⟩ := hw
      refine c_getr hc hr ciX9 (Nat.le_of_ble_eq_true rfl) 5 (Nat.le_of_ble_eq_true rfl) rfl dX9_addTimes_23 lf_X9_37 ht e_b1 ?_
      refine m_iload hc 5 dX9_addTimes_26 rfl ?_
      obtain ⟨ht, hi, hw⟩ := hw
      refine c_iald hc hr ht hi dX9_addTimes_28 ?_
      refine m_iadd hc dX9_addTimes_29 ?_
      refine m_dup2 hc dX9_addTimes_30 rfl rfl ?_
      obtain ⟨ht, hi, hw⟩ := hw
      refine c_iald hc hr ht hi dX9_addTimes_31 ?_
      refine m_iload_n hc 2 dX9_addTimes_32 rfl rfl ?_
      refine m_aload hc 3 dX9_addTimes_33 rfl ?_
      obtain ⟨ht, b2, e_b2, hw⟩ := hw
      refine c_getr hc hr ciX6 (Nat.le_of_ble_eq_true rfl) 1 (Nat.le_of_ble_eq_true rfl) rfl dX9_addTimes_35 lf_X9_66 ht e_b2 ?_
      refine m_iload hc 5 dX9_addTimes_38 rfl ?_
      obtain ⟨ht, hi, hw⟩ := hw
      refine c_iald hc hr ht hi dX9_addTimes_40 ?_
      refine m_imul hc dX9_addTimes_41 ?_
      refine m_iadd hc dX9_addTimes_42 ?_
      obtain ⟨ht, hi, hw⟩ := hw
      refine c_iast hc hr ht hi dX9_addTimes_43 ?_
      refine m_iinc hc 5 (x6 + 1) [(6, .int (x6 + 1)), (0, .ref x0), (2, .int x2), (3, .int x3), (4, .ref x4), (5, .ref x5)] dX9_addTimes_44 rfl rfl (Nat.le_of_ble_eq_true rfl) rfl ?_
      refine m_goto hc 9 dX9_addTimes_47 rfl ?_
      refine m_sub [1, 2, 3, 4, 5, 0] rfl ?_
      exact h9 x0 x2 x3 x4 x5 (x6 + 1) (sI S x5 (Int32.toNatClampNeg (x2 + (hI S b1 (Int32.toNatClampNeg x6)))) ((hI S x5 (Int32.toNatClampNeg (x2 + (hI S b1 (Int32.toNatClampNeg x6))))) + (x3 * (hI S b2 (Int32.toNatClampNeg x6))))) hw
def wp_X9_addTimes (M : Nat × Nat) (x0 x1 : Nat) (x2 x3 : Int32) (x4 : Nat) (S : HS) (K : Int32 → HS → Prop) : Prop := hT S x1 = 2 ∧ ∃ b1 : Nat, hP S x1 0 = some b1 ∧ ∃ nn : Nat, wl_X9_addTimes_9 M K nn x0 x2 x3 x4 b1 0 S
set_option maxHeartbeats 4000000 in
set_option maxRecDepth 100000 in
theorem ok_X9_addTimes {G : CG} {x0 : Nat} {x1 : Nat} {x2 : Int32} {x3 : Int32} {x4 : Nat} {S : HS} {K : Int32 → HS → Prop} (hw : wp_X9_addTimes (gC G, gS G) x0 x1 x2 x3 x4 S K) : CC 0 yX9_addTimes cX9_addTimes 7 none [.ref x0, .ref x1, .int x2, .int x3, .ref x4] G S (kV K) := by
  refine CC.of (by decide +kernel) (Nat.le_of_ble_eq_true rfl) (fun X hc hr hname => ?_)
  show MC G S X 7 S 0 [(0, .ref x0), (1, .ref x1), (2, .int x2), (3, .int x3), (4, .ref x4)] []
  unfold wp_X9_addTimes at hw
  refine m_aload_n hc 1 dX9_addTimes_0 rfl rfl ?_
  obtain ⟨ht, b1, e_b1, hw⟩ := hw
  refine c_getr hc hr ciX1 (Nat.le_of_ble_eq_true rfl) 0 (Nat.le_of_ble_eq_true rfl) rfl dX9_addTimes_1 lf_X9_108 ht e_b1 ?_
  refine m_astore hc [(5, .ref b1), (0, .ref x0), (1, .ref x1), (2, .int x2), (3, .int x3), (4, .ref x4)] dX9_addTimes_4 (Nat.le_of_ble_eq_true rfl) rfl ?_
  refine m_iconst hc 0 dX9_addTimes_6 (by decide) ?_
  refine m_istore hc [(6, .int 0), (5, .ref b1), (0, .ref x0), (1, .ref x1), (2, .int x2), (3, .int x3), (4, .ref x4)] dX9_addTimes_7 (Nat.le_of_ble_eq_true rfl) rfl ?_
  refine m_sub [2, 4, 5, 6, 1, 0] rfl ?_
  obtain ⟨nn, hw⟩ := hw
  exact l_X9_addTimes_9 hc hr nn x0 x2 x3 x4 b1 0 S hw
def wb_X9_findOffsets_2 (M : Nat × Nat) (K2 : Nat → Nat → Nat → Int32 → HS → Prop) (K : Int32 → HS → Prop) (x0 x1 x2 : Nat) (x3 : Int32) (S : HS) : Prop := hT S x1 = 7 ∧ ((hI S x1 2) ≤ x3 → K 0 S) ∧ (¬ ((hI S x1 2) ≤ x3) → hT S x0 = 10 ∧ ∃ b1 : Nat, hP S x0 5 = some b1 ∧ hT S x1 = 7 ∧ ∃ b2 : Nat, hP S x1 0 = some b2 ∧ hT S b2 = 21 ∧ vp_in x3 (hN S b2) ∧ hT S x2 = 2 ∧ wp_X1_cellOf M x2 (hI S b2 (Int32.toNatClampNeg x3)) S (fun r3 S3 => hT S3 b1 = 21 ∧ vp_in x3 (hN S3 b1) ∧ K2 x0 x1 x2 (x3 + 1) (sI S3 b1 (Int32.toNatClampNeg x3) r3)))
def wl_X9_findOffsets_2 (M : Nat × Nat) (K : Int32 → HS → Prop) : Nat → Nat → Nat → Nat → Int32 → HS → Prop
  | 0 => fun _ _ _ _ _ => False
  | nn + 1 => wb_X9_findOffsets_2 M (wl_X9_findOffsets_2 M K nn) K
set_option maxHeartbeats 4000000 in
set_option maxRecDepth 100000 in
theorem l_X9_findOffsets_2 {G : CG} {S0 : HS} {X : Fx} {K : Int32 → HS → Prop} (hc : Cx X RX9 cX9_findOffsets 4) (hr : Cc G S0 2 none (kV K) X) : ∀ (nn : Nat) (x0 x1 x2 : Nat) (x3 : Int32) (S : HS), wl_X9_findOffsets_2 (gC G, gS G) K nn x0 x1 x2 x3 S → MC G S0 X 4 S 2 [(0, .ref x0), (1, .ref x1), (2, .ref x2), (3, .int x3)] [] := by
  intro nn
  induction nn with
  | zero => intro x0 x1 x2 x3 S hw; exact False.elim hw
  | succ nn ih =>
    intro x0 x1 x2 x3 S hw
    have hw : wb_X9_findOffsets_2 (gC G, gS G) (wl_X9_findOffsets_2 (gC G, gS G) K nn) K x0 x1 x2 x3 S := hw
    have h2 := ih
    generalize wl_X9_findOffsets_2 (gC G, gS G) K nn = K2 at hw h2
    unfold wb_X9_findOffsets_2 at hw
    refine m_iload_n hc 3 dX9_findOffsets_2 rfl rfl ?_
    refine m_aload_n hc 1 dX9_findOffsets_3 rfl rfl ?_
    obtain ⟨ht, hw⟩ := hw
    refine c_geti hc hr ciX6 (Nat.le_of_ble_eq_true rfl) 2 (Nat.le_of_ble_eq_true rfl) rfl dX9_findOffsets_4 lf_X9_60 ht ?_
    refine m_icmp_ge hc 32 dX9_findOffsets_7 rfl (fun cq => ?_) (fun cq => ?_)
    · have hw := hw.1 cq
      exact c_vret hc hr dX9_findOffsets_32 hw
    · have hw := hw.2 cq
      refine m_aload_n hc 0 dX9_findOffsets_10 rfl rfl ?_
      obtain ⟨ht, b1, e_b1, hw⟩ := hw
      refine c_getr hc hr ciX9 (Nat.le_of_ble_eq_true rfl) 5 (Nat.le_of_ble_eq_true rfl) rfl dX9_findOffsets_11 lf_X9_37 ht e_b1 ?_
      refine m_iload_n hc 3 dX9_findOffsets_14 rfl rfl ?_
      refine m_aload_n hc 2 dX9_findOffsets_15 rfl rfl ?_
      refine m_aload_n hc 1 dX9_findOffsets_16 rfl rfl ?_
      obtain ⟨ht, b2, e_b2, hw⟩ := hw
      refine c_getr hc hr ciX6 (Nat.le_of_ble_eq_true rfl) 0 (Nat.le_of_ble_eq_true rfl) rfl dX9_findOffsets_17 lf_X9_63 ht e_b2 ?_
      refine m_iload_n hc 3 dX9_findOffsets_20 rfl rfl ?_
      obtain ⟨ht, hi, hw⟩ := hw
      refine c_iald hc hr ht hi dX9_findOffsets_21 ?_
      obtain ⟨ht, hw⟩ := hw
      refine c_callVi hc hr ciX1 (Nat.le_of_ble_eq_true rfl) ht mt_X1_cellOf rfl lm_X9_93 (ok_X1_cellOf hw) (Nat.le_of_ble_eq_true rfl) dX9_findOffsets_22 rfl (rest := [.int x3, .ref b1]) rfl (Nat.le_of_ble_eq_true rfl) (fun r3 S3 hw => ?_)
      obtain ⟨ht, hi, hw⟩ := hw
      refine c_iast hc hr ht hi dX9_findOffsets_25 ?_
      refine m_iinc hc 3 (x3 + 1) [(3, .int (x3 + 1)), (0, .ref x0), (1, .ref x1), (2, .ref x2)] dX9_findOffsets_26 rfl rfl (Nat.le_of_ble_eq_true rfl) rfl ?_
      refine m_goto hc 2 dX9_findOffsets_29 rfl ?_
      refine m_sub [1, 2, 3, 0] rfl ?_
      exact h2 x0 x1 x2 (x3 + 1) (sI S3 b1 (Int32.toNatClampNeg x3) r3) hw
def wp_X9_findOffsets (M : Nat × Nat) (x0 x1 x2 : Nat) (S : HS) (K : Int32 → HS → Prop) : Prop := ∃ nn : Nat, wl_X9_findOffsets_2 M K nn x0 x1 x2 0 S
set_option maxHeartbeats 4000000 in
set_option maxRecDepth 100000 in
theorem ok_X9_findOffsets {G : CG} {x0 : Nat} {x1 : Nat} {x2 : Nat} {S : HS} {K : Int32 → HS → Prop} (hw : wp_X9_findOffsets (gC G, gS G) x0 x1 x2 S K) : CC 2 yX9_findOffsets cX9_findOffsets 4 none [.ref x0, .ref x1, .ref x2] G S (kV K) := by
  refine CC.of (by decide +kernel) (Nat.le_of_ble_eq_true rfl) (fun X hc hr hname => ?_)
  show MC G S X 4 S 0 [(0, .ref x0), (1, .ref x1), (2, .ref x2)] []
  unfold wp_X9_findOffsets at hw
  refine m_iconst hc 0 dX9_findOffsets_0 (by decide) ?_
  refine m_istore_n hc [(3, .int 0), (0, .ref x0), (1, .ref x1), (2, .ref x2)] dX9_findOffsets_1 rfl (Nat.le_of_ble_eq_true rfl) rfl ?_
  refine m_sub [1, 2, 3, 0] rfl ?_
  obtain ⟨nn, hw⟩ := hw
  exact l_X9_findOffsets_2 hc hr nn x0 x1 x2 0 S hw
def wb_X9_multiply_107 (M : Nat × Nat) (K107 : Nat → Nat → Nat → Nat → Int32 → HS → Prop) (K : Int32 → HS → Prop) (x0 x1 x2 x3 : Nat) (x7 : Int32) (S : HS) : Prop := hT S x1 = 7 ∧ ((hI S x1 2) ≤ x7 → hT S x0 = 10 ∧ ∃ b1 : Nat, hP S x0 3 = some b1 ∧ hT S x0 = 10 ∧ hT S b1 = 2 ∧ wp_X1_readInto M b1 x3 (hI S x0 0) S (fun r2 S2 => hT S2 x3 = 7 ∧ (¬ (hI S2 x3 3) = 0 → K 0 S2) ∧ ((hI S2 x3 3) = 0 → K 1 S2))) ∧ (¬ ((hI S x1 2) ≤ x7) → hT S x0 = 10 ∧ ∃ b3 : Nat, hP S x0 3 = some b3 ∧ hT S x0 = 10 ∧ ∃ b4 : Nat, hP S x0 3 = some b4 ∧ hT S x1 = 7 ∧ ∃ b5 : Nat, hP S x1 0 = some b5 ∧ hT S b5 = 21 ∧ vp_in x7 (hN S b5) ∧ hT S b4 = 2 ∧ wp_X1_cellOf M b4 (hI S b5 (Int32.toNatClampNeg x7)) S (fun r6 S6 => hT S6 x1 = 7 ∧ ∃ b7 : Nat, hP S6 x1 1 = some b7 ∧ hT S6 b7 = 21 ∧ vp_in x7 (hN S6 b7) ∧ hT S6 x0 = 10 ∧ wp_X9_addTimes M x0 b3 r6 (hI S6 b7 (Int32.toNatClampNeg x7)) x2 S6 (fun r8 S8 => K107 x0 x1 x2 x3 (x7 + 1) S8)))
def wl_X9_multiply_107 (M : Nat × Nat) (K : Int32 → HS → Prop) : Nat → Nat → Nat → Nat → Nat → Int32 → HS → Prop
  | 0 => fun _ _ _ _ _ _ => False
  | nn + 1 => wb_X9_multiply_107 M (wl_X9_multiply_107 M K nn) K
set_option maxHeartbeats 4000000 in
set_option maxRecDepth 100000 in
theorem l_X9_multiply_107 {G : CG} {S0 : HS} {X : Fx} {K : Int32 → HS → Prop} (hc : Cx X RX9 cX9_multiply 8) (hr : Cc G S0 3 (some .boolean) (kI K) X) : ∀ (nn : Nat) (x0 x1 x2 x3 : Nat) (x7 : Int32) (S : HS), wl_X9_multiply_107 (gC G, gS G) K nn x0 x1 x2 x3 x7 S → MC G S0 X 8 S 107 [(0, .ref x0), (1, .ref x1), (2, .ref x2), (3, .ref x3), (7, .int x7)] [] := by
  intro nn
  induction nn with
  | zero => intro x0 x1 x2 x3 x7 S hw; exact False.elim hw
  | succ nn ih =>
    intro x0 x1 x2 x3 x7 S hw
    have hw : wb_X9_multiply_107 (gC G, gS G) (wl_X9_multiply_107 (gC G, gS G) K nn) K x0 x1 x2 x3 x7 S := hw
    have h107 := ih
    generalize wl_X9_multiply_107 (gC G, gS G) K nn = K107 at hw h107
    unfold wb_X9_multiply_107 at hw
    refine m_iload hc 4 dX9_multiply_107 rfl ?_
    refine m_aload_n hc 1 dX9_multiply_109 rfl rfl ?_
    obtain ⟨ht, hw⟩ := hw
    refine c_geti hc hr ciX6 (Nat.le_of_ble_eq_true rfl) 2 (Nat.le_of_ble_eq_true rfl) rfl dX9_multiply_110 lf_X9_60 ht ?_
    refine m_icmp_ge hc 152 dX9_multiply_113 rfl (fun cq => ?_) (fun cq => ?_)
    · have hw := hw.1 cq
      refine m_aload_n hc 0 dX9_multiply_152 rfl rfl ?_
      obtain ⟨ht, b1, e_b1, hw⟩ := hw
      refine c_getr hc hr ciX9 (Nat.le_of_ble_eq_true rfl) 3 (Nat.le_of_ble_eq_true rfl) rfl dX9_multiply_153 lf_X9_30 ht e_b1 ?_
      refine m_aload_n hc 3 dX9_multiply_156 rfl rfl ?_
      refine m_aload_n hc 0 dX9_multiply_157 rfl rfl ?_
      obtain ⟨ht, hw⟩ := hw
      refine c_geti hc hr ciX9 (Nat.le_of_ble_eq_true rfl) 0 (Nat.le_of_ble_eq_true rfl) rfl dX9_multiply_158 lf_X9_9 ht ?_
      obtain ⟨ht, hw⟩ := hw
      refine c_callVv hc hr ciX1 (Nat.le_of_ble_eq_true rfl) ht mt_X1_readInto rfl lm_X9_100 (ok_X1_readInto hw) (Nat.le_of_ble_eq_true rfl) dX9_multiply_161 rfl (rest := []) rfl (Nat.le_of_ble_eq_true rfl) (fun S2 hw => ?_)
      refine m_aload_n hc 3 dX9_multiply_164 rfl rfl ?_
      obtain ⟨ht, hw⟩ := hw
      refine c_geti hc hr ciX6 (Nat.le_of_ble_eq_true rfl) 3 (Nat.le_of_ble_eq_true rfl) rfl dX9_multiply_165 lf_X9_104 ht ?_
      refine m_if_ne hc 175 dX9_multiply_168 rfl (fun cq => ?_) (fun cq => ?_)
      · have hw := hw.1 cq
        refine m_iconst hc 0 dX9_multiply_175 (by decide) ?_
        exact c_zret hc hr dX9_multiply_176 (by decide) hw
      · have hw := hw.2 cq
        refine m_iconst hc 1 dX9_multiply_171 (by decide) ?_
        refine m_goto hc 176 dX9_multiply_172 rfl ?_
        exact c_zret hc hr dX9_multiply_176 (by decide) hw
    · have hw := hw.2 cq
      refine m_aload_n hc 0 dX9_multiply_116 rfl rfl ?_
      refine m_aload_n hc 0 dX9_multiply_117 rfl rfl ?_
      obtain ⟨ht, b3, e_b3, hw⟩ := hw
      refine c_getr hc hr ciX9 (Nat.le_of_ble_eq_true rfl) 3 (Nat.le_of_ble_eq_true rfl) rfl dX9_multiply_118 lf_X9_30 ht e_b3 ?_
      refine m_aload_n hc 0 dX9_multiply_121 rfl rfl ?_
      obtain ⟨ht, b4, e_b4, hw⟩ := hw
      refine c_getr hc hr ciX9 (Nat.le_of_ble_eq_true rfl) 3 (Nat.le_of_ble_eq_true rfl) rfl dX9_multiply_122 lf_X9_30 ht e_b4 ?_
      refine m_aload_n hc 1 dX9_multiply_125 rfl rfl ?_
      obtain ⟨ht, b5, e_b5, hw⟩ := hw
      refine c_getr hc hr ciX6 (Nat.le_of_ble_eq_true rfl) 0 (Nat.le_of_ble_eq_true rfl) rfl dX9_multiply_126 lf_X9_63 ht e_b5 ?_
      refine m_iload hc 4 dX9_multiply_129 rfl ?_
      obtain ⟨ht, hi, hw⟩ := hw
      refine c_iald hc hr ht hi dX9_multiply_131 ?_
      obtain ⟨ht, hw⟩ := hw
      refine c_callVi hc hr ciX1 (Nat.le_of_ble_eq_true rfl) ht mt_X1_cellOf rfl lm_X9_93 (ok_X1_cellOf hw) (Nat.le_of_ble_eq_true rfl) dX9_multiply_132 rfl (rest := [.ref b3, .ref x0]) rfl (Nat.le_of_ble_eq_true rfl) (fun r6 S6 hw => ?_)
      refine m_aload_n hc 1 dX9_multiply_135 rfl rfl ?_
      obtain ⟨ht, b7, e_b7, hw⟩ := hw
      refine c_getr hc hr ciX6 (Nat.le_of_ble_eq_true rfl) 1 (Nat.le_of_ble_eq_true rfl) rfl dX9_multiply_136 lf_X9_66 ht e_b7 ?_
      refine m_iload hc 4 dX9_multiply_139 rfl ?_
      obtain ⟨ht, hi, hw⟩ := hw
      refine c_iald hc hr ht hi dX9_multiply_141 ?_
      refine m_aload_n hc 2 dX9_multiply_142 rfl rfl ?_
      obtain ⟨ht, hw⟩ := hw
      refine c_callVv hc hr ciX9 (Nat.le_of_ble_eq_true rfl) ht mt_X9_addTimes rfl lm_X9_96 (ok_X9_addTimes hw) (Nat.le_of_ble_eq_true rfl) dX9_multiply_143 rfl (rest := []) rfl (Nat.le_of_ble_eq_true rfl) (fun S8 hw => ?_)
      refine m_iinc hc 4 (x7 + 1) [(7, .int (x7 + 1)), (0, .ref x0), (1, .ref x1), (2, .ref x2), (3, .ref x3)] dX9_multiply_146 rfl rfl (Nat.le_of_ble_eq_true rfl) rfl ?_
      refine m_goto hc 107 dX9_multiply_149 rfl ?_
      refine m_sub [1, 2, 3, 4, 0] rfl ?_
      exact h107 x0 x1 x2 x3 (x7 + 1) S8 hw
def w_X9_multiply_14 (M : Nat × Nat) (K : Int32 → HS → Prop) (x3 : Nat) (S : HS) : Prop := hT S x3 = 7 ∧ wp_X6_clear M x3 S (fun r1 S1 => K 1 S1)
set_option maxHeartbeats 4000000 in
set_option maxRecDepth 100000 in
theorem b_X9_multiply_14 {G : CG} {S0 : HS} {X : Fx} {K : Int32 → HS → Prop} (hc : Cx X RX9 cX9_multiply 8) (hr : Cc G S0 3 (some .boolean) (kI K) X) : ∀ (x3 : Nat) (S : HS), w_X9_multiply_14 (gC G, gS G) K x3 S → MC G S0 X 8 S 14 [(3, .ref x3)] [] := by
  intro x3 S hw
  unfold w_X9_multiply_14 at hw
  refine m_aload_n hc 0 dX9_multiply_14 rfl rfl ?_
  obtain ⟨ht, hw⟩ := hw
  refine c_callVv hc hr ciX6 (Nat.le_of_ble_eq_true rfl) ht mt_X6_clear rfl lm_X9_57 (ok_X6_clear hw) (Nat.le_of_ble_eq_true rfl) dX9_multiply_15 rfl (rest := []) rfl (Nat.le_of_ble_eq_true rfl) (fun S1 hw => ?_)
  refine m_iconst hc 1 dX9_multiply_18 (by decide) ?_
  exact c_zret hc hr dX9_multiply_19 (by decide) hw
def wp_X9_multiply (M : Nat × Nat) (x0 x1 x2 x3 : Nat) (S : HS) (K : Int32 → HS → Prop) : Prop := hT S x1 = 7 ∧ ((hI S x1 2) = 0 → w_X9_multiply_14 M K x3 S) ∧ (¬ ((hI S x1 2) = 0) → hT S x2 = 7 ∧ (¬ (hI S x2 2) = 0 → hT S x1 = 7 ∧ wp_X6_degreeIn M x1 0 S (fun r1 S1 => hT S1 x2 = 7 ∧ wp_X6_degreeIn M x2 0 S1 (fun r2 S2 => hT S2 x1 = 7 ∧ wp_X6_degreeIn M x1 1 S2 (fun r3 S3 => hT S3 x2 = 7 ∧ wp_X6_degreeIn M x2 1 S3 (fun r4 S4 => hT S4 x1 = 7 ∧ wp_X6_degreeIn M x1 2 S4 (fun r5 S5 => hT S5 x2 = 7 ∧ wp_X6_degreeIn M x2 2 S5 (fun r6 S6 => (40 < (r1 + r2) → K 0 S6) ∧ (¬ (40 < (r1 + r2)) → (40 < (r3 + r4) → K 0 S6) ∧ (¬ (40 < (r3 + r4)) → ((r5 + r6) ≤ 40 → hT S6 x0 = 10 ∧ ∃ b7 : Nat, hP S6 x0 3 = some b7 ∧ hT S6 b7 = 2 ∧ wp_X1_open M b7 (r1 + r2) (r3 + r4) (r5 + r6) S6 (fun r8 S8 => hT S8 x0 = 10 ∧ ∃ b9 : Nat, hP S8 x0 3 = some b9 ∧ hT S8 x0 = 10 ∧ wp_X9_findOffsets M x0 x2 b9 S8 (fun r10 S10 => ∃ nn : Nat, wl_X9_multiply_107 M K nn x0 x1 x2 x3 0 S10))) ∧ (¬ ((r5 + r6) ≤ 40) → K 0 S6)))))))))) ∧ ((hI S x2 2) = 0 → w_X9_multiply_14 M K x3 S))
set_option maxHeartbeats 4000000 in
set_option maxRecDepth 100000 in
theorem ok_X9_multiply {G : CG} {x0 : Nat} {x1 : Nat} {x2 : Nat} {x3 : Nat} {S : HS} {K : Int32 → HS → Prop} (hw : wp_X9_multiply (gC G, gS G) x0 x1 x2 x3 S K) : CC 3 yX9_multiply cX9_multiply 8 (some .boolean) [.ref x0, .ref x1, .ref x2, .ref x3] G S (kI K) := by
  refine CC.of (by decide +kernel) (Nat.le_of_ble_eq_true rfl) (fun X hc hr hname => ?_)
  show MC G S X 8 S 0 [(0, .ref x0), (1, .ref x1), (2, .ref x2), (3, .ref x3)] []
  unfold wp_X9_multiply at hw
  refine m_aload_n hc 1 dX9_multiply_0 rfl rfl ?_
  obtain ⟨ht, hw⟩ := hw
  refine c_geti hc hr ciX6 (Nat.le_of_ble_eq_true rfl) 2 (Nat.le_of_ble_eq_true rfl) rfl dX9_multiply_1 lf_X9_60 ht ?_
  refine m_if_eq hc 14 dX9_multiply_4 rfl (fun cq => ?_) (fun cq => ?_)
  · have hw := hw.1 cq
    refine m_sub [3] rfl ?_
    exact b_X9_multiply_14 hc hr x3 S hw
  · have hw := hw.2 cq
    refine m_aload_n hc 2 dX9_multiply_7 rfl rfl ?_
    obtain ⟨ht, hw⟩ := hw
    refine c_geti hc hr ciX6 (Nat.le_of_ble_eq_true rfl) 2 (Nat.le_of_ble_eq_true rfl) rfl dX9_multiply_8 lf_X9_60 ht ?_
    refine m_if_ne hc 20 dX9_multiply_11 rfl (fun cq => ?_) (fun cq => ?_)
    · have hw := hw.1 cq
      refine m_aload_n hc 1 dX9_multiply_20 rfl rfl ?_
      refine m_iconst hc 0 dX9_multiply_21 (by decide) ?_
      obtain ⟨ht, hw⟩ := hw
      refine c_callVi hc hr ciX6 (Nat.le_of_ble_eq_true rfl) ht mt_X6_degreeIn rfl lm_X9_81 (ok_X6_degreeIn hw) (Nat.le_of_ble_eq_true rfl) dX9_multiply_22 rfl (rest := []) rfl (Nat.le_of_ble_eq_true rfl) (fun r1 S1 hw => ?_)
      refine m_aload_n hc 2 dX9_multiply_25 rfl rfl ?_
      refine m_iconst hc 0 dX9_multiply_26 (by decide) ?_
      obtain ⟨ht, hw⟩ := hw
      refine c_callVi hc hr ciX6 (Nat.le_of_ble_eq_true rfl) ht mt_X6_degreeIn rfl lm_X9_81 (ok_X6_degreeIn hw) (Nat.le_of_ble_eq_true rfl) dX9_multiply_27 rfl (rest := [.int r1]) rfl (Nat.le_of_ble_eq_true rfl) (fun r2 S2 hw => ?_)
      refine m_iadd hc dX9_multiply_30 ?_
      refine m_istore hc [(4, .int (r1 + r2)), (0, .ref x0), (1, .ref x1), (2, .ref x2), (3, .ref x3)] dX9_multiply_31 (Nat.le_of_ble_eq_true rfl) rfl ?_
      refine m_aload_n hc 2 dX9_multiply_33 rfl rfl ?_
      refine m_iconst hc 1 dX9_multiply_34 (by decide) ?_
      obtain ⟨ht, hw⟩ := hw
      refine c_callVi hc hr ciX6 (Nat.le_of_ble_eq_true rfl) ht mt_X6_degreeIn rfl lm_X9_81 (ok_X6_degreeIn hw) (Nat.le_of_ble_eq_true rfl) dX9_multiply_35 rfl (rest := []) rfl (Nat.le_of_ble_eq_true rfl) (fun r3 S3 hw => ?_)
      refine m_aload_n hc 3 dX9_multiply_38 rfl rfl ?_
      refine m_iconst hc 1 dX9_multiply_39 (by decide) ?_
      obtain ⟨ht, hw⟩ := hw
      refine c_callVi hc hr ciX6 (Nat.le_of_ble_eq_true rfl) ht mt_X6_degreeIn rfl lm_X9_81 (ok_X6_degreeIn hw) (Nat.le_of_ble_eq_true rfl) dX9_multiply_40 rfl (rest := [.int r3]) rfl (Nat.le_of_ble_eq_true rfl) (fun r4 S4 hw => ?_)
      refine m_iadd hc dX9_multiply_43 ?_
      refine m_istore hc [(5, .int (r3 + r4)), (4, .int (r1 + r2)), (0, .ref x0), (1, .ref x1), (2, .ref x2), (3, .ref x3)] dX9_multiply_44 (Nat.le_of_ble_eq_true rfl) rfl ?_
      refine m_aload_n hc 3 dX9_multiply_46 rfl rfl ?_
      refine m_iconst hc 2 dX9_multiply_47 (by decide) ?_
      obtain ⟨ht, hw⟩ := hw
      refine c_callVi hc hr ciX6 (Nat.le_of_ble_eq_true rfl) ht mt_X6_degreeIn rfl lm_X9_81 (ok_X6_degreeIn hw) (Nat.le_of_ble_eq_true rfl) dX9_multiply_48 rfl (rest := []) rfl (Nat.le_of_ble_eq_true rfl) (fun r5 S5 hw => ?_)
      refine m_aload_n hc 4 dX9_multiply_51 rfl rfl ?_
      refine m_iconst hc 2 dX9_multiply_52 (by decide) ?_
      obtain ⟨ht, hw⟩ := hw
      refine c_callVi hc hr ciX6 (Nat.le_of_ble_eq_true rfl) ht mt_X6_degreeIn rfl lm_X9_81 (ok_X6_degreeIn hw) (Nat.le_of_ble_eq_true rfl) dX9_multiply_53 rfl (rest := [.int r5]) rfl (Nat.le_of_ble_eq_true rfl) (fun r6 S6 hw => ?_)
      refine m_iadd hc dX9_multiply_56 ?_
      refine m_istore hc [(6, .int (r5 + r6)), (5, .int (r3 + r4)), (4, .int (r1 + r2)), (0, .ref x0), (1, .ref x1), (2, .ref x2), (3, .ref x3)] dX9_multiply_57 (Nat.le_of_ble_eq_true rfl) rfl ?_
      refine m_iload hc 2 dX9_multiply_59 rfl ?_
      refine m_bipush hc 40 dX9_multiply_61 (by decide) ?_
      refine m_icmp_gt hc 80 dX9_multiply_63 rfl (fun cq => ?_) (fun cq => ?_)
      · have hw := hw.1 cq
        refine m_iconst hc 0 dX9_multiply_80 (by decide) ?_
        exact c_zret hc hr dX9_multiply_81 (by decide) hw
      · have hw := hw.2 cq
        refine m_iload hc 1 dX9_multiply_66 rfl ?_
        refine m_bipush hc 40 dX9_multiply_68 (by decide) ?_
        refine m_icmp_gt hc 80 dX9_multiply_70 rfl (fun cq => ?_) (fun cq => ?_)
        · have hw := hw.1 cq
          refine m_iconst hc 0 dX9_multiply_80 (by decide) ?_
          exact c_zret hc hr dX9_multiply_81 (by decide) hw
        · have hw := hw.2 cq
          refine m_iload hc 0 dX9_multiply_73 rfl ?_
          refine m_bipush hc 40 dX9_multiply_75 (by decide) ?_
          refine m_icmp_le hc 82 dX9_multiply_77 rfl (fun cq => ?_) (fun cq => ?_)
          · have hw := hw.1 cq
            refine m_aload_n hc 3 dX9_multiply_82 rfl rfl ?_
            obtain ⟨ht, b7, e_b7, hw⟩ := hw
            refine c_getr hc hr ciX9 (Nat.le_of_ble_eq_true rfl) 3 (Nat.le_of_ble_eq_true rfl) rfl dX9_multiply_83 lf_X9_30 ht e_b7 ?_
            refine m_iload hc 2 dX9_multiply_86 rfl ?_
            refine m_iload hc 1 dX9_multiply_88 rfl ?_
            refine m_iload hc 0 dX9_multiply_90 rfl ?_
            obtain ⟨ht, hw⟩ := hw
            refine c_callVv hc hr ciX1 (Nat.le_of_ble_eq_true rfl) ht mt_X1_open rfl lm_X9_85 (ok_X1_open hw) (Nat.le_of_ble_eq_true rfl) dX9_multiply_92 rfl (rest := []) rfl (Nat.le_of_ble_eq_true rfl) (fun S8 hw => ?_)
            refine m_aload_n hc 3 dX9_multiply_95 rfl rfl ?_
            refine m_aload_n hc 5 dX9_multiply_96 rfl rfl ?_
            refine m_aload_n hc 3 dX9_multiply_97 rfl rfl ?_
            obtain ⟨ht, b9, e_b9, hw⟩ := hw
            refine c_getr hc hr ciX9 (Nat.le_of_ble_eq_true rfl) 3 (Nat.le_of_ble_eq_true rfl) rfl dX9_multiply_98 lf_X9_30 ht e_b9 ?_
            obtain ⟨ht, hw⟩ := hw
            refine c_callVv hc hr ciX9 (Nat.le_of_ble_eq_true rfl) ht mt_X9_findOffsets rfl lm_X9_89 (ok_X9_findOffsets hw) (Nat.le_of_ble_eq_true rfl) dX9_multiply_101 rfl (rest := []) rfl (Nat.le_of_ble_eq_true rfl) (fun S10 hw => ?_)
            refine m_iconst hc 0 dX9_multiply_104 (by decide) ?_
            refine m_istore hc [(7, .int 0), (6, .int (r5 + r6)), (5, .int (r3 + r4)), (4, .int (r1 + r2)), (0, .ref x0), (1, .ref x1), (2, .ref x2), (3, .ref x3)] dX9_multiply_105 (Nat.le_of_ble_eq_true rfl) rfl ?_
            refine m_sub [4, 5, 6, 7, 0] rfl ?_
            obtain ⟨nn, hw⟩ := hw
            exact l_X9_multiply_107 hc hr nn x0 x1 x2 x3 0 S10 hw
          · have hw := hw.2 cq
            refine m_iconst hc 0 dX9_multiply_80 (by decide) ?_
            exact c_zret hc hr dX9_multiply_81 (by decide) hw
    · have hw := hw.2 cq
      refine m_sub [3] rfl ?_
      exact b_X9_multiply_14 hc hr x3 S hw
def wb_X9_power_18 (M : Nat × Nat) (K18 : Nat → Nat → Int32 → Int32 → HS → Prop) (K : Option Nat → HS → Prop) (x0 x1 : Nat) (x2 x3 : Int32) (S : HS) : Prop := (x2 < x3 → hT S x0 = 10 ∧ ∃ b1 : Nat, hP S x0 1 = some b1 ∧ hT S b1 = 7 ∧ wp_X6_kept M b1 S (fun r2 S2 => K r2 S2)) ∧ (¬ (x2 < x3) → hT S x0 = 10 ∧ ∃ b3 : Nat, hP S x0 1 = some b3 ∧ hT S x0 = 10 ∧ ∃ b4 : Nat, hP S x0 1 = some b4 ∧ hT S x0 = 10 ∧ wp_X9_multiply M x0 b3 x1 b4 S (fun r5 S5 => (¬ r5 = 0 → K18 x0 x1 x2 (x3 + 1) S5) ∧ (r5 = 0 → K none S5)))
def wl_X9_power_18 (M : Nat × Nat) (K : Option Nat → HS → Prop) : Nat → Nat → Nat → Int32 → Int32 → HS → Prop
  | 0 => fun _ _ _ _ _ => False
  | nn + 1 => wb_X9_power_18 M (wl_X9_power_18 M K nn) K
set_option maxHeartbeats 4000000 in
set_option maxRecDepth 100000 in
theorem l_X9_power_18 {G : CG} {S0 : HS} {X : Fx} {K : Option Nat → HS → Prop} (hc : Cx X RX9 cX9_power 4) (hr : Cc G S0 4 (some (.object "StraightPolys$Poly")) (kR K) X) : ∀ (nn : Nat) (x0 x1 : Nat) (x2 x3 : Int32) (S : HS), wl_X9_power_18 (gC G, gS G) K nn x0 x1 x2 x3 S → MC G S0 X 4 S 18 [(0, .ref x0), (1, .ref x1), (2, .int x2), (3, .int x3)] [] := by
  intro nn
  induction nn with
  | zero => intro x0 x1 x2 x3 S hw; exact False.elim hw
  | succ nn ih =>
    intro x0 x1 x2 x3 S hw
    have hw : wb_X9_power_18 (gC G, gS G) (wl_X9_power_18 (gC G, gS G) K nn) K x0 x1 x2 x3 S := hw
    have h18 := ih
    generalize wl_X9_power_18 (gC G, gS G) K nn = K18 at hw h18
    unfold wb_X9_power_18 at hw
    refine m_iload_n hc 3 dX9_power_18 rfl rfl ?_
    refine m_iload_n hc 2 dX9_power_19 rfl rfl ?_
    refine m_icmp_gt hc 47 dX9_power_20 rfl (fun cq => ?_) (fun cq => ?_)
    · have hw := hw.1 cq
      refine m_aload_n hc 0 dX9_power_47 rfl rfl ?_
      obtain ⟨ht, b1, e_b1, hw⟩ := hw
      refine c_getr hc hr ciX9 (Nat.le_of_ble_eq_true rfl) 1 (Nat.le_of_ble_eq_true rfl) rfl dX9_power_48 lf_X9_20 ht e_b1 ?_
      obtain ⟨ht, hw⟩ := hw
      refine c_callVq hc hr ciX6 (Nat.le_of_ble_eq_true rfl) ht mt_X6_kept rfl lm_X9_73 (ok_X6_kept hw) (Nat.le_of_ble_eq_true rfl) dX9_power_51 rfl (rest := []) rfl (Nat.le_of_ble_eq_true rfl) (fun r2 S2 hw => ?_)
      skip
      exact c_aret hc hr (r := r2) dX9_power_54 hw
    · have hw := hw.2 cq
      refine m_aload_n hc 0 dX9_power_23 rfl rfl ?_
      refine m_aload_n hc 0 dX9_power_24 rfl rfl ?_
      obtain ⟨ht, b3, e_b3, hw⟩ := hw
      refine c_getr hc hr ciX9 (Nat.le_of_ble_eq_true rfl) 1 (Nat.le_of_ble_eq_true rfl) rfl dX9_power_25 lf_X9_20 ht e_b3 ?_
      refine m_aload_n hc 1 dX9_power_28 rfl rfl ?_
      refine m_aload_n hc 0 dX9_power_29 rfl rfl ?_
      obtain ⟨ht, b4, e_b4, hw⟩ := hw
      refine c_getr hc hr ciX9 (Nat.le_of_ble_eq_true rfl) 1 (Nat.le_of_ble_eq_true rfl) rfl dX9_power_30 lf_X9_20 ht e_b4 ?_
      obtain ⟨ht, hw⟩ := hw
      refine c_callVi hc hr ciX9 (Nat.le_of_ble_eq_true rfl) ht mt_X9_multiply rfl lm_X9_77 (ok_X9_multiply hw) (Nat.le_of_ble_eq_true rfl) dX9_power_33 rfl (rest := []) rfl (Nat.le_of_ble_eq_true rfl) (fun r5 S5 hw => ?_)
      refine m_if_ne hc 41 dX9_power_36 rfl (fun cq => ?_) (fun cq => ?_)
      · have hw := hw.1 cq
        refine m_iinc hc 3 (x3 + 1) [(3, .int (x3 + 1)), (0, .ref x0), (1, .ref x1), (2, .int x2)] dX9_power_41 rfl rfl (Nat.le_of_ble_eq_true rfl) rfl ?_
        refine m_goto hc 18 dX9_power_44 rfl ?_
        refine m_sub [1, 2, 3, 0] rfl ?_
        exact h18 x0 x1 x2 (x3 + 1) S5 hw
      · have hw := hw.2 cq
        refine m_null hc dX9_power_39 ?_
        exact c_aret hc hr (r := none) dX9_power_40 hw
def wp_X9_power (M : Nat × Nat) (x0 x1 : Nat) (x2 : Int32) (S : HS) (K : Option Nat → HS → Prop) : Prop := hT S x0 = 10 ∧ ∃ b1 : Nat, hP S x0 1 = some b1 ∧ hT S b1 = 7 ∧ wp_X6_clear M b1 S (fun r2 S2 => hT S2 x0 = 10 ∧ ∃ b3 : Nat, hP S2 x0 1 = some b3 ∧ hT S2 b3 = 7 ∧ wp_X6_push M b3 0 1 S2 (fun r4 S4 => ∃ nn : Nat, wl_X9_power_18 M K nn x0 x1 x2 1 S4))
set_option maxHeartbeats 4000000 in
set_option maxRecDepth 100000 in
theorem ok_X9_power {G : CG} {x0 : Nat} {x1 : Nat} {x2 : Int32} {S : HS} {K : Option Nat → HS → Prop} (hw : wp_X9_power (gC G, gS G) x0 x1 x2 S K) : CC 4 yX9_power cX9_power 4 (some (.object "StraightPolys$Poly")) [.ref x0, .ref x1, .int x2] G S (kR K) := by
  refine CC.of (by decide +kernel) (Nat.le_of_ble_eq_true rfl) (fun X hc hr hname => ?_)
  show MC G S X 4 S 0 [(0, .ref x0), (1, .ref x1), (2, .int x2)] []
  unfold wp_X9_power at hw
  refine m_aload_n hc 0 dX9_power_0 rfl rfl ?_
  obtain ⟨ht, b1, e_b1, hw⟩ := hw
  refine c_getr hc hr ciX9 (Nat.le_of_ble_eq_true rfl) 1 (Nat.le_of_ble_eq_true rfl) rfl dX9_power_1 lf_X9_20 ht e_b1 ?_
  obtain ⟨ht, hw⟩ := hw
  refine c_callVv hc hr ciX6 (Nat.le_of_ble_eq_true rfl) ht mt_X6_clear rfl lm_X9_57 (ok_X6_clear hw) (Nat.le_of_ble_eq_true rfl) dX9_power_4 rfl (rest := []) rfl (Nat.le_of_ble_eq_true rfl) (fun S2 hw => ?_)
  refine m_aload_n hc 0 dX9_power_7 rfl rfl ?_
  obtain ⟨ht, b3, e_b3, hw⟩ := hw
  refine c_getr hc hr ciX9 (Nat.le_of_ble_eq_true rfl) 1 (Nat.le_of_ble_eq_true rfl) rfl dX9_power_8 lf_X9_20 ht e_b3 ?_
  refine m_iconst hc 0 dX9_power_11 (by decide) ?_
  refine m_iconst hc 1 dX9_power_12 (by decide) ?_
  obtain ⟨ht, hw⟩ := hw
  refine c_callVv hc hr ciX6 (Nat.le_of_ble_eq_true rfl) ht mt_X6_push rfl lm_X9_69 (ok_X6_push hw) (Nat.le_of_ble_eq_true rfl) dX9_power_13 rfl (rest := []) rfl (Nat.le_of_ble_eq_true rfl) (fun S4 hw => ?_)
  refine m_iconst hc 1 dX9_power_16 (by decide) ?_
  refine m_istore_n hc [(3, .int 1), (0, .ref x0), (1, .ref x1), (2, .int x2)] dX9_power_17 rfl (Nat.le_of_ble_eq_true rfl) rfl ?_
  refine m_sub [1, 2, 3, 0] rfl ?_
  obtain ⟨nn, hw⟩ := hw
  exact l_X9_power_18 hc hr nn x0 x1 x2 1 S4 hw
def wp_X9_product (M : Nat × Nat) (x0 x1 x2 : Nat) (S : HS) (K : Option Nat → HS → Prop) : Prop := hT S x0 = 10 ∧ ∃ b1 : Nat, hP S x0 1 = some b1 ∧ hT S x0 = 10 ∧ wp_X9_multiply M x0 x1 x2 b1 S (fun r2 S2 => (r2 = 0 → K none S2) ∧ (¬ (r2 = 0) → hT S2 x0 = 10 ∧ ∃ b3 : Nat, hP S2 x0 1 = some b3 ∧ hT S2 b3 = 7 ∧ wp_X6_kept M b3 S2 (fun r4 S4 => K r4 S4)))
set_option maxHeartbeats 4000000 in
set_option maxRecDepth 100000 in
theorem ok_X9_product {G : CG} {x0 : Nat} {x1 : Nat} {x2 : Nat} {S : HS} {K : Option Nat → HS → Prop} (hw : wp_X9_product (gC G, gS G) x0 x1 x2 S K) : CC 4 yX9_product cX9_product 3 (some (.object "StraightPolys$Poly")) [.ref x0, .ref x1, .ref x2] G S (kR K) := by
  refine CC.of (by decide +kernel) (Nat.le_of_ble_eq_true rfl) (fun X hc hr hname => ?_)
  show MC G S X 3 S 0 [(0, .ref x0), (1, .ref x1), (2, .ref x2)] []
  unfold wp_X9_product at hw
  refine m_aload_n hc 0 dX9_product_0 rfl rfl ?_
  refine m_aload_n hc 1 dX9_product_1 rfl rfl ?_
  refine m_aload_n hc 2 dX9_product_2 rfl rfl ?_
  refine m_aload_n hc 0 dX9_product_3 rfl rfl ?_
  obtain ⟨ht, b1, e_b1, hw⟩ := hw
  refine c_getr hc hr ciX9 (Nat.le_of_ble_eq_true rfl) 1 (Nat.le_of_ble_eq_true rfl) rfl dX9_product_4 lf_X9_20 ht e_b1 ?_
  obtain ⟨ht, hw⟩ := hw
  refine c_callVi hc hr ciX9 (Nat.le_of_ble_eq_true rfl) ht mt_X9_multiply rfl lm_X9_77 (ok_X9_multiply hw) (Nat.le_of_ble_eq_true rfl) dX9_product_7 rfl (rest := []) rfl (Nat.le_of_ble_eq_true rfl) (fun r2 S2 hw => ?_)
  refine m_if_eq hc 23 dX9_product_10 rfl (fun cq => ?_) (fun cq => ?_)
  · have hw := hw.1 cq
    refine m_null hc dX9_product_23 ?_
    exact c_aret hc hr (r := none) dX9_product_24 hw
  · have hw := hw.2 cq
    refine m_aload_n hc 0 dX9_product_13 rfl rfl ?_
    obtain ⟨ht, b3, e_b3, hw⟩ := hw
    refine c_getr hc hr ciX9 (Nat.le_of_ble_eq_true rfl) 1 (Nat.le_of_ble_eq_true rfl) rfl dX9_product_14 lf_X9_20 ht e_b3 ?_
    obtain ⟨ht, hw⟩ := hw
    refine c_callVq hc hr ciX6 (Nat.le_of_ble_eq_true rfl) ht mt_X6_kept rfl lm_X9_73 (ok_X6_kept hw) (Nat.le_of_ble_eq_true rfl) dX9_product_17 rfl (rest := []) rfl (Nat.le_of_ble_eq_true rfl) (fun r4 S4 hw => ?_)
    skip
    refine m_goto hc 24 dX9_product_20 rfl ?_
    exact c_aret hc hr (r := r4) dX9_product_24 hw
def wb_X9_sum_161 (M : Nat × Nat) (K161 : Nat → Nat → Int32 → Int32 → HS → Prop) (K : Option Nat → HS → Prop) (x0 x2 : Nat) (x3 x4 : Int32) (S : HS) : Prop := hT S x2 = 7 ∧ ((hI S x2 2) ≤ x4 → hT S x0 = 10 ∧ ∃ b1 : Nat, hP S x0 1 = some b1 ∧ hT S b1 = 7 ∧ wp_X6_kept M b1 S (fun r2 S2 => K r2 S2)) ∧ (¬ ((hI S x2 2) ≤ x4) → hT S x0 = 10 ∧ ∃ b3 : Nat, hP S x0 1 = some b3 ∧ hT S x2 = 7 ∧ ∃ b4 : Nat, hP S x2 0 = some b4 ∧ hT S b4 = 21 ∧ vp_in x4 (hN S b4) ∧ hT S x2 = 7 ∧ ∃ b5 : Nat, hP S x2 1 = some b5 ∧ hT S b5 = 21 ∧ vp_in x4 (hN S b5) ∧ hT S x0 = 10 ∧ ¬ (hI S x0 0) = 0 ∧ (hT S b3 = 7 ∧ wp_X6_push M b3 (hI S b4 (Int32.toNatClampNeg x4)) (iRem (x3 * (hI S b5 (Int32.toNatClampNeg x4))) (hI S x0 0)) S (fun r6 S6 => K161 x0 x2 x3 (x4 + 1) S6)))
def wl_X9_sum_161 (M : Nat × Nat) (K : Option Nat → HS → Prop) : Nat → Nat → Nat → Int32 → Int32 → HS → Prop
  | 0 => fun _ _ _ _ _ => False
  | nn + 1 => wb_X9_sum_161 M (wl_X9_sum_161 M K nn) K
set_option maxHeartbeats 4000000 in
set_option maxRecDepth 100000 in
theorem l_X9_sum_161 {G : CG} {S0 : HS} {X : Fx} {K : Option Nat → HS → Prop} (hc : Cx X RX9 cX9_sum 7) (hr : Cc G S0 3 (some (.object "StraightPolys$Poly")) (kR K) X) : ∀ (nn : Nat) (x0 x2 : Nat) (x3 x4 : Int32) (S : HS), wl_X9_sum_161 (gC G, gS G) K nn x0 x2 x3 x4 S → MC G S0 X 7 S 161 [(0, .ref x0), (2, .ref x2), (3, .int x3), (4, .int x4)] [] := by
  intro nn
  induction nn with
  | zero => intro x0 x2 x3 x4 S hw; exact False.elim hw
  | succ nn ih =>
    intro x0 x2 x3 x4 S hw
    have hw : wb_X9_sum_161 (gC G, gS G) (wl_X9_sum_161 (gC G, gS G) K nn) K x0 x2 x3 x4 S := hw
    have h161 := ih
    generalize wl_X9_sum_161 (gC G, gS G) K nn = K161 at hw h161
    unfold wb_X9_sum_161 at hw
    refine m_iload hc 3 dX9_sum_161 rfl ?_
    refine m_aload_n hc 1 dX9_sum_163 rfl rfl ?_
    obtain ⟨ht, hw⟩ := hw
    refine c_geti hc hr ciX6 (Nat.le_of_ble_eq_true rfl) 2 (Nat.le_of_ble_eq_true rfl) rfl dX9_sum_164 lf_X9_60 ht ?_
    refine m_icmp_ge hc 204 dX9_sum_167 rfl (fun cq => ?_) (fun cq => ?_)
    · have hw := hw.1 cq
      refine m_aload_n hc 0 dX9_sum_204 rfl rfl ?_
      obtain ⟨ht, b1, e_b1, hw⟩ := hw
      refine c_getr hc hr ciX9 (Nat.le_of_ble_eq_true rfl) 1 (Nat.le_of_ble_eq_true rfl) rfl dX9_sum_205 lf_X9_20 ht e_b1 ?_
      obtain ⟨ht, hw⟩ := hw
      refine c_callVq hc hr ciX6 (Nat.le_of_ble_eq_true rfl) ht mt_X6_kept rfl lm_X9_73 (ok_X6_kept hw) (Nat.le_of_ble_eq_true rfl) dX9_sum_208 rfl (rest := []) rfl (Nat.le_of_ble_eq_true rfl) (fun r2 S2 hw => ?_)
      skip
      exact c_aret hc hr (r := r2) dX9_sum_211 hw
    · have hw := hw.2 cq
      refine m_aload_n hc 0 dX9_sum_170 rfl rfl ?_
      obtain ⟨ht, b3, e_b3, hw⟩ := hw
      refine c_getr hc hr ciX9 (Nat.le_of_ble_eq_true rfl) 1 (Nat.le_of_ble_eq_true rfl) rfl dX9_sum_171 lf_X9_20 ht e_b3 ?_
      refine m_aload_n hc 1 dX9_sum_174 rfl rfl ?_
      obtain ⟨ht, b4, e_b4, hw⟩ := hw
      refine c_getr hc hr ciX6 (Nat.le_of_ble_eq_true rfl) 0 (Nat.le_of_ble_eq_true rfl) rfl dX9_sum_175 lf_X9_63 ht e_b4 ?_
      refine m_iload hc 3 dX9_sum_178 rfl ?_
      obtain ⟨ht, hi, hw⟩ := hw
      refine c_iald hc hr ht hi dX9_sum_180 ?_
      refine m_iload_n hc 2 dX9_sum_181 rfl rfl ?_
      refine m_aload_n hc 1 dX9_sum_182 rfl rfl ?_
      obtain ⟨ht, b5, e_b5, hw⟩ := hw
      refine c_getr hc hr ciX6 (Nat.le_of_ble_eq_true rfl) 1 (Nat.le_of_ble_eq_true rfl) rfl dX9_sum_183 lf_X9_66 ht e_b5 ?_
      refine m_iload hc 3 dX9_sum_186 rfl ?_
      obtain ⟨ht, hi, hw⟩ := hw
      refine c_iald hc hr ht hi dX9_sum_188 ?_
      refine m_imul hc dX9_sum_189 ?_
      refine m_aload_n hc 0 dX9_sum_190 rfl rfl ?_
      obtain ⟨ht, hw⟩ := hw
      refine c_geti hc hr ciX9 (Nat.le_of_ble_eq_true rfl) 0 (Nat.le_of_ble_eq_true rfl) rfl dX9_sum_191 lf_X9_9 ht ?_
      obtain ⟨hq, hw⟩ := hw
      refine m_irem hc dX9_sum_194 hq ?_
      obtain ⟨ht, hw⟩ := hw
      refine c_callVv hc hr ciX6 (Nat.le_of_ble_eq_true rfl) ht mt_X6_push rfl lm_X9_69 (ok_X6_push hw) (Nat.le_of_ble_eq_true rfl) dX9_sum_195 rfl (rest := []) rfl (Nat.le_of_ble_eq_true rfl) (fun S6 hw => ?_)
      refine m_iinc hc 3 (x4 + 1) [(4, .int (x4 + 1)), (0, .ref x0), (2, .ref x2), (3, .int x3)] dX9_sum_198 rfl rfl (Nat.le_of_ble_eq_true rfl) rfl ?_
      refine m_goto hc 161 dX9_sum_201 rfl ?_
      refine m_sub [1, 2, 3, 0] rfl ?_
      exact h161 x0 x2 x3 (x4 + 1) S6 hw
def w_X9_sum_134 (M : Nat × Nat) (K13 : Nat → Nat → Nat → Int32 → Int32 → Int32 → HS → Prop) (K : Option Nat → HS → Prop) (x0 x1 x2 : Nat) (x3 x4 x5 x6 : Int32) (S : HS) : Prop := hT S x0 = 10 ∧ ∃ b1 : Nat, hP S x0 1 = some b1 ∧ hT S x1 = 7 ∧ ∃ b2 : Nat, hP S x1 0 = some b2 ∧ hT S b2 = 21 ∧ vp_in x5 (hN S b2) ∧ hT S x0 = 10 ∧ ¬ (hI S x0 0) = 0 ∧ (hT S b1 = 7 ∧ wp_X6_push M b1 (hI S b2 (Int32.toNatClampNeg x5)) (iRem x6 (hI S x0 0)) S (fun r3 S3 => K13 x0 x1 x2 x3 x4 (x5 + 1) S3))
set_option maxHeartbeats 4000000 in
set_option maxRecDepth 100000 in
theorem b_X9_sum_134 {G : CG} {S0 : HS} {X : Fx} {K : Option Nat → HS → Prop} (hc : Cx X RX9 cX9_sum 7) (hr : Cc G S0 3 (some (.object "StraightPolys$Poly")) (kR K) X) (K13 : Nat → Nat → Nat → Int32 → Int32 → Int32 → HS → Prop) (h13 : ∀ (x0 x1 x2 : Nat) (x3 x4 x5 : Int32) (S : HS), K13 x0 x1 x2 x3 x4 x5 S → MC G S0 X 7 S 13 [(0, .ref x0), (1, .ref x1), (2, .ref x2), (3, .int x3), (4, .int x4), (5, .int x5)] []) : ∀ (x0 x1 x2 : Nat) (x3 x4 x5 x6 : Int32) (S : HS), w_X9_sum_134 (gC G, gS G) K13 K x0 x1 x2 x3 x4 x5 x6 S → MC G S0 X 7 S 134 [(0, .ref x0), (1, .ref x1), (2, .ref x2), (3, .int x3), (4, .int x4), (5, .int x5), (6, .int x6)] [] := by
  intro x0 x1 x2 x3 x4 x5 x6 S hw
  unfold w_X9_sum_134 at hw
  refine m_aload_n hc 0 dX9_sum_134 rfl rfl ?_
  obtain ⟨ht, b1, e_b1, hw⟩ := hw
  refine c_getr hc hr ciX9 (Nat.le_of_ble_eq_true rfl) 1 (Nat.le_of_ble_eq_true rfl) rfl dX9_sum_135 lf_X9_20 ht e_b1 ?_
  refine m_aload_n hc 1 dX9_sum_138 rfl rfl ?_
  obtain ⟨ht, b2, e_b2, hw⟩ := hw
  refine c_getr hc hr ciX6 (Nat.le_of_ble_eq_true rfl) 0 (Nat.le_of_ble_eq_true rfl) rfl dX9_sum_139 lf_X9_63 ht e_b2 ?_
  refine m_iload hc 5 dX9_sum_142 rfl ?_
  obtain ⟨ht, hi, hw⟩ := hw
  refine c_iald hc hr ht hi dX9_sum_144 ?_
  refine m_iload hc 6 dX9_sum_145 rfl ?_
  refine m_aload_n hc 0 dX9_sum_147 rfl rfl ?_
  obtain ⟨ht, hw⟩ := hw
  refine c_geti hc hr ciX9 (Nat.le_of_ble_eq_true rfl) 0 (Nat.le_of_ble_eq_true rfl) rfl dX9_sum_148 lf_X9_9 ht ?_
  obtain ⟨hq, hw⟩ := hw
  refine m_irem hc dX9_sum_151 hq ?_
  obtain ⟨ht, hw⟩ := hw
  refine c_callVv hc hr ciX6 (Nat.le_of_ble_eq_true rfl) ht mt_X6_push rfl lm_X9_69 (ok_X6_push hw) (Nat.le_of_ble_eq_true rfl) dX9_sum_152 rfl (rest := []) rfl (Nat.le_of_ble_eq_true rfl) (fun S3 hw => ?_)
  refine m_iinc hc 5 (x5 + 1) [(5, .int (x5 + 1)), (0, .ref x0), (1, .ref x1), (2, .ref x2), (3, .int x3), (4, .int x4), (6, .int x6)] dX9_sum_155 rfl rfl (Nat.le_of_ble_eq_true rfl) rfl ?_
  refine m_goto hc 13 dX9_sum_158 rfl ?_
  refine m_sub [1, 2, 3, 4, 5, 0] rfl ?_
  exact h13 x0 x1 x2 x3 x4 (x5 + 1) S3 hw
def w_X9_sum_82 (M : Nat × Nat) (K13 : Nat → Nat → Nat → Int32 → Int32 → Int32 → HS → Prop) (K : Option Nat → HS → Prop) (x0 x1 x2 : Nat) (x3 x4 x5 : Int32) (S : HS) : Prop := hT S x1 = 7 ∧ ∃ b1 : Nat, hP S x1 1 = some b1 ∧ hT S b1 = 21 ∧ vp_in x5 (hN S b1) ∧ ∀ v2 : Int32, v2 = (hI S b1 (Int32.toNatClampNeg x5)) → hT S x2 = 7 ∧ ((hI S x2 2) ≤ x4 → w_X9_sum_134 M K13 K x0 x1 x2 x3 x4 x5 v2 S) ∧ (¬ ((hI S x2 2) ≤ x4) → hT S x2 = 7 ∧ ∃ b3 : Nat, hP S x2 0 = some b3 ∧ hT S b3 = 21 ∧ vp_in x4 (hN S b3) ∧ hT S x1 = 7 ∧ ∃ b4 : Nat, hP S x1 0 = some b4 ∧ hT S b4 = 21 ∧ vp_in x5 (hN S b4) ∧ (¬ (hI S b3 (Int32.toNatClampNeg x4)) = (hI S b4 (Int32.toNatClampNeg x5)) → w_X9_sum_134 M K13 K x0 x1 x2 x3 x4 x5 v2 S) ∧ ((hI S b3 (Int32.toNatClampNeg x4)) = (hI S b4 (Int32.toNatClampNeg x5)) → hT S x2 = 7 ∧ ∃ b5 : Nat, hP S x2 1 = some b5 ∧ hT S b5 = 21 ∧ vp_in x4 (hN S b5) ∧ ∀ v6 : Int32, v6 = (v2 + (x3 * (hI S b5 (Int32.toNatClampNeg x4)))) → w_X9_sum_134 M K13 K x0 x1 x2 x3 (x4 + 1) x5 v6 S))
set_option maxHeartbeats 4000000 in
set_option maxRecDepth 100000 in
theorem b_X9_sum_82 {G : CG} {S0 : HS} {X : Fx} {K : Option Nat → HS → Prop} (hc : Cx X RX9 cX9_sum 7) (hr : Cc G S0 3 (some (.object "StraightPolys$Poly")) (kR K) X) (K13 : Nat → Nat → Nat → Int32 → Int32 → Int32 → HS → Prop) (h13 : ∀ (x0 x1 x2 : Nat) (x3 x4 x5 : Int32) (S : HS), K13 x0 x1 x2 x3 x4 x5 S → MC G S0 X 7 S 13 [(0, .ref x0), (1, .ref x1), (2, .ref x2), (3, .int x3), (4, .int x4), (5, .int x5)] []) : ∀ (x0 x1 x2 : Nat) (x3 x4 x5 : Int32) (S : HS), w_X9_sum_82 (gC G, gS G) K13 K x0 x1 x2 x3 x4 x5 S → MC G S0 X 7 S 82 [(0, .ref x0), (1, .ref x1), (2, .ref x2), (3, .int x3), (4, .int x4), (5, .int x5)] [] := by
  intro x0 x1 x2 x3 x4 x5 S hw
  unfold w_X9_sum_82 at hw
  refine m_aload_n hc 1 dX9_sum_82 rfl rfl ?_
  obtain ⟨ht, b1, e_b1, hw⟩ := hw
  refine c_getr hc hr ciX6 (Nat.le_of_ble_eq_true rfl) 1 (Nat.le_of_ble_eq_true rfl) rfl dX9_sum_83 lf_X9_66 ht e_b1 ?_
  refine m_iload hc 5 dX9_sum_86 rfl ?_
  obtain ⟨ht, hi, hw⟩ := hw
  refine c_iald hc hr ht hi dX9_sum_88 ?_
  refine m_topi (fun v2 e_v2 => ?_)
  have hw := hw v2 e_v2
  refine m_istore hc [(6, .int v2), (0, .ref x0), (1, .ref x1), (2, .ref x2), (3, .int x3), (4, .int x4), (5, .int x5)] dX9_sum_89 (Nat.le_of_ble_eq_true rfl) rfl ?_
  refine m_iload hc 5 dX9_sum_91 rfl ?_
  refine m_aload_n hc 3 dX9_sum_93 rfl rfl ?_
  obtain ⟨ht, hw⟩ := hw
  refine c_geti hc hr ciX6 (Nat.le_of_ble_eq_true rfl) 2 (Nat.le_of_ble_eq_true rfl) rfl dX9_sum_94 lf_X9_60 ht ?_
  refine m_icmp_ge hc 134 dX9_sum_97 rfl (fun cq => ?_) (fun cq => ?_)
  · have hw := hw.1 cq
    refine m_sub [1, 2, 3, 4, 5, 6, 0] rfl ?_
    exact b_X9_sum_134 hc hr K13 h13 x0 x1 x2 x3 x4 x5 v2 S hw
  · have hw := hw.2 cq
    refine m_aload_n hc 3 dX9_sum_100 rfl rfl ?_
    obtain ⟨ht, b3, e_b3, hw⟩ := hw
    refine c_getr hc hr ciX6 (Nat.le_of_ble_eq_true rfl) 0 (Nat.le_of_ble_eq_true rfl) rfl dX9_sum_101 lf_X9_63 ht e_b3 ?_
    refine m_iload hc 5 dX9_sum_104 rfl ?_
    obtain ⟨ht, hi, hw⟩ := hw
    refine c_iald hc hr ht hi dX9_sum_106 ?_
    refine m_aload_n hc 2 dX9_sum_107 rfl rfl ?_
    obtain ⟨ht, b4, e_b4, hw⟩ := hw
    refine c_getr hc hr ciX6 (Nat.le_of_ble_eq_true rfl) 0 (Nat.le_of_ble_eq_true rfl) rfl dX9_sum_108 lf_X9_63 ht e_b4 ?_
    refine m_iload hc 6 dX9_sum_111 rfl ?_
    obtain ⟨ht, hi, hw⟩ := hw
    refine c_iald hc hr ht hi dX9_sum_113 ?_
    refine m_icmp_ne hc 134 dX9_sum_114 rfl (fun cq => ?_) (fun cq => ?_)
    · have hw := hw.1 cq
      refine m_sub [1, 2, 3, 4, 5, 6, 0] rfl ?_
      exact b_X9_sum_134 hc hr K13 h13 x0 x1 x2 x3 x4 x5 v2 S hw
    · have hw := hw.2 cq
      refine m_iload hc 0 dX9_sum_117 rfl ?_
      refine m_iload_n hc 4 dX9_sum_119 rfl rfl ?_
      refine m_aload_n hc 3 dX9_sum_120 rfl rfl ?_
      obtain ⟨ht, b5, e_b5, hw⟩ := hw
      refine c_getr hc hr ciX6 (Nat.le_of_ble_eq_true rfl) 1 (Nat.le_of_ble_eq_true rfl) rfl dX9_sum_121 lf_X9_66 ht e_b5 ?_
      refine m_iload hc 5 dX9_sum_124 rfl ?_
      obtain ⟨ht, hi, hw⟩ := hw
      refine c_iald hc hr ht hi dX9_sum_126 ?_
      refine m_imul hc dX9_sum_127 ?_
      refine m_iadd hc dX9_sum_128 ?_
      refine m_topi (fun v6 e_v6 => ?_)
      have hw := hw v6 e_v6
      refine m_istore hc [(6, .int v6), (0, .ref x0), (1, .ref x1), (2, .ref x2), (3, .int x3), (4, .int x4), (5, .int x5)] dX9_sum_129 (Nat.le_of_ble_eq_true rfl) rfl ?_
      refine m_iinc hc 5 (x4 + 1) [(4, .int (x4 + 1)), (6, .int v6), (0, .ref x0), (1, .ref x1), (2, .ref x2), (3, .int x3), (5, .int x5)] dX9_sum_131 rfl rfl (Nat.le_of_ble_eq_true rfl) rfl ?_
      refine m_sub [2, 3, 4, 5, 0, 6, 1] rfl ?_
      exact b_X9_sum_134 hc hr K13 h13 x0 x1 x2 x3 (x4 + 1) x5 v6 S hw
def wb_X9_sum_22 (M : Nat × Nat) (K13 : Nat → Nat → Nat → Int32 → Int32 → Int32 → HS → Prop) (K22 : Nat → Nat → Nat → Int32 → Int32 → Int32 → HS → Prop) (K : Option Nat → HS → Prop) (x0 x1 x2 : Nat) (x3 x4 x5 : Int32) (S : HS) : Prop := hT S x2 = 7 ∧ ((hI S x2 2) ≤ x4 → w_X9_sum_82 M K13 K x0 x1 x2 x3 x4 x5 S) ∧ (¬ ((hI S x2 2) ≤ x4) → hT S x2 = 7 ∧ ∃ b1 : Nat, hP S x2 0 = some b1 ∧ hT S b1 = 21 ∧ vp_in x4 (hN S b1) ∧ hT S x1 = 7 ∧ ∃ b2 : Nat, hP S x1 0 = some b2 ∧ hT S b2 = 21 ∧ vp_in x5 (hN S b2) ∧ ((hI S b1 (Int32.toNatClampNeg x4)) ≤ (hI S b2 (Int32.toNatClampNeg x5)) → w_X9_sum_82 M K13 K x0 x1 x2 x3 x4 x5 S) ∧ (¬ ((hI S b1 (Int32.toNatClampNeg x4)) ≤ (hI S b2 (Int32.toNatClampNeg x5))) → hT S x0 = 10 ∧ ∃ b3 : Nat, hP S x0 1 = some b3 ∧ hT S x2 = 7 ∧ ∃ b4 : Nat, hP S x2 0 = some b4 ∧ hT S b4 = 21 ∧ vp_in x4 (hN S b4) ∧ hT S x2 = 7 ∧ ∃ b5 : Nat, hP S x2 1 = some b5 ∧ hT S b5 = 21 ∧ vp_in x4 (hN S b5) ∧ hT S x0 = 10 ∧ ¬ (hI S x0 0) = 0 ∧ (hT S b3 = 7 ∧ wp_X6_push M b3 (hI S b4 (Int32.toNatClampNeg x4)) (iRem (x3 * (hI S b5 (Int32.toNatClampNeg x4))) (hI S x0 0)) S (fun r6 S6 => K22 x0 x1 x2 x3 (x4 + 1) x5 S6))))
def wl_X9_sum_22 (M : Nat × Nat) (K13 : Nat → Nat → Nat → Int32 → Int32 → Int32 → HS → Prop) (K : Option Nat → HS → Prop) : Nat → Nat → Nat → Nat → Int32 → Int32 → Int32 → HS → Prop
  | 0 => fun _ _ _ _ _ _ _ => False
  | nn + 1 => wb_X9_sum_22 M K13 (wl_X9_sum_22 M K13 K nn) K
set_option maxHeartbeats 4000000 in
set_option maxRecDepth 100000 in
theorem l_X9_sum_22 {G : CG} {S0 : HS} {X : Fx} {K : Option Nat → HS → Prop} (hc : Cx X RX9 cX9_sum 7) (hr : Cc G S0 3 (some (.object "StraightPolys$Poly")) (kR K) X) (K13 : Nat → Nat → Nat → Int32 → Int32 → Int32 → HS → Prop) (h13 : ∀ (x0 x1 x2 : Nat) (x3 x4 x5 : Int32) (S : HS), K13 x0 x1 x2 x3 x4 x5 S → MC G S0 X 7 S 13 [(0, .ref x0), (1, .ref x1), (2, .ref x2), (3, .int x3), (4, .int x4), (5, .int x5)] []) : ∀ (nn : Nat) (x0 x1 x2 : Nat) (x3 x4 x5 : Int32) (S : HS), wl_X9_sum_22 (gC G, gS G) K13 K nn x0 x1 x2 x3 x4 x5 S → MC G S0 X 7 S 22 [(0, .ref x0), (1, .ref x1), (2, .ref x2), (3, .int x3), (4, .int x4), (5, .int x5)] [] := by
  intro nn
  induction nn with
  | zero => intro x0 x1 x2 x3 x4 x5 S hw; exact False.elim hw
  | succ nn ih =>
    intro x0 x1 x2 x3 x4 x5 S hw
    have hw : wb_X9_sum_22 (gC G, gS G) K13 (wl_X9_sum_22 (gC G, gS G) K13 K nn) K x0 x1 x2 x3 x4 x5 S := hw
    have h22 := ih
    generalize wl_X9_sum_22 (gC G, gS G) K13 K nn = K22 at hw h22
    unfold wb_X9_sum_22 at hw
    refine m_iload hc 4 dX9_sum_22 rfl ?_
    refine m_aload_n hc 2 dX9_sum_24 rfl rfl ?_
    obtain ⟨ht, hw⟩ := hw
    refine c_geti hc hr ciX6 (Nat.le_of_ble_eq_true rfl) 2 (Nat.le_of_ble_eq_true rfl) rfl dX9_sum_25 lf_X9_60 ht ?_
    refine m_icmp_ge hc 82 dX9_sum_28 rfl (fun cq => ?_) (fun cq => ?_)
    · have hw := hw.1 cq
      exact b_X9_sum_82 hc hr K13 h13 x0 x1 x2 x3 x4 x5 S hw
    · have hw := hw.2 cq
      refine m_aload_n hc 2 dX9_sum_31 rfl rfl ?_
      obtain ⟨ht, b1, e_b1, hw⟩ := hw
      refine c_getr hc hr ciX6 (Nat.le_of_ble_eq_true rfl) 0 (Nat.le_of_ble_eq_true rfl) rfl dX9_sum_32 lf_X9_63 ht e_b1 ?_
      refine m_iload hc 4 dX9_sum_35 rfl ?_
      obtain ⟨ht, hi, hw⟩ := hw
      refine c_iald hc hr ht hi dX9_sum_37 ?_
      refine m_aload_n hc 1 dX9_sum_38 rfl rfl ?_
      obtain ⟨ht, b2, e_b2, hw⟩ := hw
      refine c_getr hc hr ciX6 (Nat.le_of_ble_eq_true rfl) 0 (Nat.le_of_ble_eq_true rfl) rfl dX9_sum_39 lf_X9_63 ht e_b2 ?_
      refine m_iload hc 5 dX9_sum_42 rfl ?_
      obtain ⟨ht, hi, hw⟩ := hw
      refine c_iald hc hr ht hi dX9_sum_44 ?_
      refine m_icmp_le hc 82 dX9_sum_45 rfl (fun cq => ?_) (fun cq => ?_)
      · have hw := hw.1 cq
        exact b_X9_sum_82 hc hr K13 h13 x0 x1 x2 x3 x4 x5 S hw
      · have hw := hw.2 cq
        refine m_aload_n hc 0 dX9_sum_48 rfl rfl ?_
        obtain ⟨ht, b3, e_b3, hw⟩ := hw
        refine c_getr hc hr ciX9 (Nat.le_of_ble_eq_true rfl) 1 (Nat.le_of_ble_eq_true rfl) rfl dX9_sum_49 lf_X9_20 ht e_b3 ?_
        refine m_aload_n hc 2 dX9_sum_52 rfl rfl ?_
        obtain ⟨ht, b4, e_b4, hw⟩ := hw
        refine c_getr hc hr ciX6 (Nat.le_of_ble_eq_true rfl) 0 (Nat.le_of_ble_eq_true rfl) rfl dX9_sum_53 lf_X9_63 ht e_b4 ?_
        refine m_iload hc 4 dX9_sum_56 rfl ?_
        obtain ⟨ht, hi, hw⟩ := hw
        refine c_iald hc hr ht hi dX9_sum_58 ?_
        refine m_iload_n hc 3 dX9_sum_59 rfl rfl ?_
        refine m_aload_n hc 2 dX9_sum_60 rfl rfl ?_
        obtain ⟨ht, b5, e_b5, hw⟩ := hw
        refine c_getr hc hr ciX6 (Nat.le_of_ble_eq_true rfl) 1 (Nat.le_of_ble_eq_true rfl) rfl dX9_sum_61 lf_X9_66 ht e_b5 ?_
        refine m_iload hc 4 dX9_sum_64 rfl ?_
        obtain ⟨ht, hi, hw⟩ := hw
        refine c_iald hc hr ht hi dX9_sum_66 ?_
        refine m_imul hc dX9_sum_67 ?_
        refine m_aload_n hc 0 dX9_sum_68 rfl rfl ?_
        obtain ⟨ht, hw⟩ := hw
        refine c_geti hc hr ciX9 (Nat.le_of_ble_eq_true rfl) 0 (Nat.le_of_ble_eq_true rfl) rfl dX9_sum_69 lf_X9_9 ht ?_
        obtain ⟨hq, hw⟩ := hw
        refine m_irem hc dX9_sum_72 hq ?_
        obtain ⟨ht, hw⟩ := hw
        refine c_callVv hc hr ciX6 (Nat.le_of_ble_eq_true rfl) ht mt_X6_push rfl lm_X9_69 (ok_X6_push hw) (Nat.le_of_ble_eq_true rfl) dX9_sum_73 rfl (rest := []) rfl (Nat.le_of_ble_eq_true rfl) (fun S6 hw => ?_)
        refine m_iinc hc 4 (x4 + 1) [(4, .int (x4 + 1)), (0, .ref x0), (1, .ref x1), (2, .ref x2), (3, .int x3), (5, .int x5)] dX9_sum_76 rfl rfl (Nat.le_of_ble_eq_true rfl) rfl ?_
        refine m_goto hc 22 dX9_sum_79 rfl ?_
        refine m_sub [1, 2, 3, 4, 0, 5] rfl ?_
        exact h22 x0 x1 x2 x3 (x4 + 1) x5 S6 hw
def wb_X9_sum_13 (M : Nat × Nat) (K13 : Nat → Nat → Nat → Int32 → Int32 → Int32 → HS → Prop) (K : Option Nat → HS → Prop) (x0 x1 x2 : Nat) (x3 x4 x5 : Int32) (S : HS) : Prop := hT S x1 = 7 ∧ ((hI S x1 2) ≤ x5 → ∃ nn : Nat, wl_X9_sum_161 M K nn x0 x2 x3 x4 S) ∧ (¬ ((hI S x1 2) ≤ x5) → ∃ nn : Nat, wl_X9_sum_22 M K13 K nn x0 x1 x2 x3 x4 x5 S)
def wl_X9_sum_13 (M : Nat × Nat) (K : Option Nat → HS → Prop) : Nat → Nat → Nat → Nat → Int32 → Int32 → Int32 → HS → Prop
  | 0 => fun _ _ _ _ _ _ _ => False
  | nn + 1 => wb_X9_sum_13 M (wl_X9_sum_13 M K nn) K
set_option maxHeartbeats 4000000 in
set_option maxRecDepth 100000 in
theorem l_X9_sum_13 {G : CG} {S0 : HS} {X : Fx} {K : Option Nat → HS → Prop} (hc : Cx X RX9 cX9_sum 7) (hr : Cc G S0 3 (some (.object "StraightPolys$Poly")) (kR K) X) : ∀ (nn : Nat) (x0 x1 x2 : Nat) (x3 x4 x5 : Int32) (S : HS), wl_X9_sum_13 (gC G, gS G) K nn x0 x1 x2 x3 x4 x5 S → MC G S0 X 7 S 13 [(0, .ref x0), (1, .ref x1), (2, .ref x2), (3, .int x3), (4, .int x4), (5, .int x5)] [] := by
  intro nn
  induction nn with
  | zero => intro x0 x1 x2 x3 x4 x5 S hw; exact False.elim hw
  | succ nn ih =>
    intro x0 x1 x2 x3 x4 x5 S hw
    have hw : wb_X9_sum_13 (gC G, gS G) (wl_X9_sum_13 (gC G, gS G) K nn) K x0 x1 x2 x3 x4 x5 S := hw
    have h13 := ih
    generalize wl_X9_sum_13 (gC G, gS G) K nn = K13 at hw h13
    unfold wb_X9_sum_13 at hw
    refine m_iload hc 5 dX9_sum_13 rfl ?_
    refine m_aload_n hc 1 dX9_sum_15 rfl rfl ?_
    obtain ⟨ht, hw⟩ := hw
    refine c_geti hc hr ciX6 (Nat.le_of_ble_eq_true rfl) 2 (Nat.le_of_ble_eq_true rfl) rfl dX9_sum_16 lf_X9_60 ht ?_
    refine m_icmp_ge hc 161 dX9_sum_19 rfl (fun cq => ?_) (fun cq => ?_)
    · have hw := hw.1 cq
      refine m_sub [0, 2, 3, 4] rfl ?_
      obtain ⟨nn, hw⟩ := hw
      exact l_X9_sum_161 hc hr nn x0 x2 x3 x4 S hw
    · have hw := hw.2 cq
      obtain ⟨nn, hw⟩ := hw
      exact l_X9_sum_22 hc hr K13 h13 nn x0 x1 x2 x3 x4 x5 S hw
def wp_X9_sum (M : Nat × Nat) (x0 x1 x2 : Nat) (x3 : Int32) (S : HS) (K : Option Nat → HS → Prop) : Prop := hT S x0 = 10 ∧ ∃ b1 : Nat, hP S x0 1 = some b1 ∧ hT S b1 = 7 ∧ wp_X6_clear M b1 S (fun r2 S2 => ∃ nn : Nat, wl_X9_sum_13 M K nn x0 x1 x2 x3 0 0 S2)
set_option maxHeartbeats 4000000 in
set_option maxRecDepth 100000 in
theorem ok_X9_sum {G : CG} {x0 : Nat} {x1 : Nat} {x2 : Nat} {x3 : Int32} {S : HS} {K : Option Nat → HS → Prop} (hw : wp_X9_sum (gC G, gS G) x0 x1 x2 x3 S K) : CC 3 yX9_sum cX9_sum 7 (some (.object "StraightPolys$Poly")) [.ref x0, .ref x1, .ref x2, .int x3] G S (kR K) := by
  refine CC.of (by decide +kernel) (Nat.le_of_ble_eq_true rfl) (fun X hc hr hname => ?_)
  show MC G S X 7 S 0 [(0, .ref x0), (1, .ref x1), (2, .ref x2), (3, .int x3)] []
  unfold wp_X9_sum at hw
  refine m_aload_n hc 0 dX9_sum_0 rfl rfl ?_
  obtain ⟨ht, b1, e_b1, hw⟩ := hw
  refine c_getr hc hr ciX9 (Nat.le_of_ble_eq_true rfl) 1 (Nat.le_of_ble_eq_true rfl) rfl dX9_sum_1 lf_X9_20 ht e_b1 ?_
  obtain ⟨ht, hw⟩ := hw
  refine c_callVv hc hr ciX6 (Nat.le_of_ble_eq_true rfl) ht mt_X6_clear rfl lm_X9_57 (ok_X6_clear hw) (Nat.le_of_ble_eq_true rfl) dX9_sum_4 rfl (rest := []) rfl (Nat.le_of_ble_eq_true rfl) (fun S2 hw => ?_)
  refine m_iconst hc 0 dX9_sum_7 (by decide) ?_
  refine m_istore hc [(4, .int 0), (0, .ref x0), (1, .ref x1), (2, .ref x2), (3, .int x3)] dX9_sum_8 (Nat.le_of_ble_eq_true rfl) rfl ?_
  refine m_iconst hc 0 dX9_sum_10 (by decide) ?_
  refine m_istore hc [(5, .int 0), (4, .int 0), (0, .ref x0), (1, .ref x1), (2, .ref x2), (3, .int x3)] dX9_sum_11 (Nat.le_of_ble_eq_true rfl) rfl ?_
  refine m_sub [2, 3, 4, 5, 1, 0] rfl ?_
  obtain ⟨nn, hw⟩ := hw
  exact l_X9_sum_13 hc hr nn x0 x1 x2 x3 0 0 S2 hw
def w_X7_run_146 (M : Nat × Nat) (K2 : Nat → Nat → Int32 → HS → Prop) (K : Int32 → HS → Prop) (x0 x1 : Nat) (x2 : Int32) (x3 : Option Nat) (S : HS) : Prop := (∀ b1 : Nat, x3 = some b1 → hT S x0 = 8 ∧ ∃ b2 : Nat, hP S x0 6 = some b2 ∧ ∃ b3 : Nat, x3 = some b3 ∧ hT S b2 = 23 ∧ vp_in x2 (hN S b2) ∧ hT S b3 = 7 ∧ K2 x0 x1 (x2 + 1) (sP S b2 (Int32.toNatClampNeg x2) (some b3))) ∧ (x3 = none → K 0 S)
set_option maxHeartbeats 4000000 in
set_option maxRecDepth 100000 in
theorem b_X7_run_146 {G : CG} {S0 : HS} {X : Fx} {K : Int32 → HS → Prop} (hc : Cx X RX7 cX7_run 4) (hr : Cc G S0 5 (some .boolean) (kI K) X) (K2 : Nat → Nat → Int32 → HS → Prop) (h2 : ∀ (x0 x1 : Nat) (x2 : Int32) (S : HS), K2 x0 x1 x2 S → MC G S0 X 4 S 2 [(0, .ref x0), (1, .ref x1), (2, .int x2)] []) : ∀ (x0 x1 : Nat) (x2 : Int32) (x3 : Option Nat) (S : HS), w_X7_run_146 (gC G, gS G) K2 K x0 x1 x2 x3 S → MC G S0 X 4 S 146 [(0, .ref x0), (1, .ref x1), (2, .int x2), (3, va_rf x3)] [] := by
  intro x0 x1 x2 x3 S hw
  unfold w_X7_run_146 at hw
  refine q_aload_n hc 3 dX7_run_146 rfl rfl ?_
  refine q_ifnonnull hc 152 dX7_run_147 rfl (fun b1 cq => ?_) (fun cq => ?_)
  · have hw := hw.1 b1 cq
    refine m_aload_n hc 0 dX7_run_152 rfl rfl ?_
    obtain ⟨ht, b2, e_b2, hw⟩ := hw
    refine c_getr hc hr ciX7 (Nat.le_of_ble_eq_true rfl) 6 (Nat.le_of_ble_eq_true rfl) rfl dX7_run_153 lf_X7_33 ht e_b2 ?_
    refine m_iload_n hc 2 dX7_run_156 rfl rfl ?_
    refine q_aload_n hc 3 dX7_run_157 rfl rfl ?_
    obtain ⟨b3, e_b3, hw⟩ := hw
    refine q_some e_b3 ?_
    obtain ⟨ht, hi, hv, hw⟩ := hw
    refine c_aast hc hr ht hi hv dX7_run_158 ?_
    refine m_iinc hc 2 (x2 + 1) [(2, .int (x2 + 1)), (0, .ref x0), (1, .ref x1), (3, va_rf x3)] dX7_run_159 rfl rfl (Nat.le_of_ble_eq_true rfl) rfl ?_
    refine m_goto hc 2 dX7_run_162 rfl ?_
    refine m_sub [1, 2, 0] rfl ?_
    exact h2 x0 x1 (x2 + 1) (sP S b2 (Int32.toNatClampNeg x2) (some b3)) hw
  · have hw := hw.2 cq
    refine m_iconst hc 0 dX7_run_150 (by decide) ?_
    exact c_zret hc hr dX7_run_151 (by decide) hw
def w_X7_run_142 (M : Nat × Nat) (K2 : Nat → Nat → Int32 → HS → Prop) (K : Int32 → HS → Prop) (x0 x1 : Nat) (x2 s0 : Int32) (s1 s2 s3 : Nat) (S : HS) : Prop := hT S s3 = 10 ∧ wp_X9_sum M s3 s2 s1 s0 S (fun r1 S1 => w_X7_run_146 M K2 K x0 x1 x2 r1 S1)
set_option maxHeartbeats 4000000 in
set_option maxRecDepth 100000 in
theorem b_X7_run_142 {G : CG} {S0 : HS} {X : Fx} {K : Int32 → HS → Prop} (hc : Cx X RX7 cX7_run 4) (hr : Cc G S0 5 (some .boolean) (kI K) X) (K2 : Nat → Nat → Int32 → HS → Prop) (h2 : ∀ (x0 x1 : Nat) (x2 : Int32) (S : HS), K2 x0 x1 x2 S → MC G S0 X 4 S 2 [(0, .ref x0), (1, .ref x1), (2, .int x2)] []) : ∀ (x0 x1 : Nat) (x2 s0 : Int32) (s1 s2 s3 : Nat) (S : HS), w_X7_run_142 (gC G, gS G) K2 K x0 x1 x2 s0 s1 s2 s3 S → MC G S0 X 4 S 142 [(0, .ref x0), (1, .ref x1), (2, .int x2)] [.int s0, .ref s1, .ref s2, .ref s3] := by
  intro x0 x1 x2 s0 s1 s2 s3 S hw
  unfold w_X7_run_142 at hw
  obtain ⟨ht, hw⟩ := hw
  refine c_callVq hc hr ciX9 (Nat.le_of_ble_eq_true rfl) ht mt_X9_sum rfl lm_X7_67 (ok_X9_sum hw) (Nat.le_of_ble_eq_true rfl) dX7_run_142 rfl (rest := []) rfl (Nat.le_of_ble_eq_true rfl) (fun r1 S1 hw => ?_)
  skip
  refine q_astore_n hc [(3, va_rf r1), (0, .ref x0), (1, .ref x1), (2, .int x2)] dX7_run_145 rfl (Nat.le_of_ble_eq_true rfl) rfl ?_
  refine m_sub [1, 2, 3, 0] rfl ?_
  exact b_X7_run_146 hc hr K2 h2 x0 x1 x2 r1 S1 hw
def wb_X7_run_2 (M : Nat × Nat) (K2 : Nat → Nat → Int32 → HS → Prop) (K : Int32 → HS → Prop) (x0 x1 : Nat) (x2 : Int32) (S : HS) : Prop := hT S x0 = 8 ∧ ((hI S x0 0) ≤ x2 → K 1 S) ∧ (¬ ((hI S x0 0) ≤ x2) → hT S x0 = 8 ∧ ∃ b1 : Nat, hP S x0 5 = some b1 ∧ hT S x0 = 8 ∧ wp_X7_boundOf M x0 x2 S (fun r2 S2 => hT S2 b1 = 21 ∧ vp_in x2 (hN S2 b1) ∧ hT (sI S2 b1 (Int32.toNatClampNeg x2) r2) x0 = 8 ∧ ∃ b3 : Nat, hP (sI S2 b1 (Int32.toNatClampNeg x2) r2) x0 3 = some b3 ∧ hT (sI S2 b1 (Int32.toNatClampNeg x2) r2) b3 = 21 ∧ vp_in x2 (hN (sI S2 b1 (Int32.toNatClampNeg x2) r2) b3) ∧ hT (sI S2 b1 (Int32.toNatClampNeg x2) r2) x1 = 10 ∧ hT (sI S2 b1 (Int32.toNatClampNeg x2) r2) x0 = 8 ∧ wp_X7_atomPoly M x0 (hI (sI S2 b1 (Int32.toNatClampNeg x2) r2) b3 (Int32.toNatClampNeg x2)) (hI (sI S2 b1 (Int32.toNatClampNeg x2) r2) x1 0) (sI S2 b1 (Int32.toNatClampNeg x2) r2) (fun r4 S4 => hT S4 x0 = 8 ∧ ∃ b5 : Nat, hP S4 x0 2 = some b5 ∧ hT S4 b5 = 21 ∧ vp_in x2 (hN S4 b5) ∧ (¬ (hI S4 b5 (Int32.toNatClampNeg x2)) = 94 → hT S4 x0 = 8 ∧ ∃ b6 : Nat, hP S4 x0 2 = some b6 ∧ hT S4 b6 = 21 ∧ vp_in x2 (hN S4 b6) ∧ (¬ (hI S4 b6 (Int32.toNatClampNeg x2)) = 42 → hT S4 x0 = 8 ∧ ∃ b7 : Nat, hP S4 x0 2 = some b7 ∧ hT S4 b7 = 21 ∧ vp_in x2 (hN S4 b7) ∧ ((hI S4 b7 (Int32.toNatClampNeg x2)) = 0 → w_X7_run_146 M K2 K x0 x1 x2 r4 S4) ∧ (¬ ((hI S4 b7 (Int32.toNatClampNeg x2)) = 0) → ∃ b8 : Nat, r4 = some b8 ∧ hT S4 x0 = 8 ∧ ∃ b9 : Nat, hP S4 x0 4 = some b9 ∧ hT S4 b9 = 21 ∧ vp_in x2 (hN S4 b9) ∧ hT S4 x1 = 10 ∧ hT S4 x0 = 8 ∧ wp_X7_atomPoly M x0 (hI S4 b9 (Int32.toNatClampNeg x2)) (hI S4 x1 0) S4 (fun r10 S10 => ∃ b11 : Nat, r10 = some b11 ∧ hT S10 x0 = 8 ∧ ∃ b12 : Nat, hP S10 x0 2 = some b12 ∧ hT S10 b12 = 21 ∧ vp_in x2 (hN S10 b12) ∧ (¬ (hI S10 b12 (Int32.toNatClampNeg x2)) = 43 → hT S10 x1 = 10 ∧ w_X7_run_142 M K2 K x0 x1 x2 ((hI S10 x1 0) - 1) b11 b8 x1 S10) ∧ ((hI S10 b12 (Int32.toNatClampNeg x2)) = 43 → w_X7_run_142 M K2 K x0 x1 x2 1 b11 b8 x1 S10)))) ∧ ((hI S4 b6 (Int32.toNatClampNeg x2)) = 42 → ∃ b13 : Nat, r4 = some b13 ∧ hT S4 x0 = 8 ∧ ∃ b14 : Nat, hP S4 x0 4 = some b14 ∧ hT S4 b14 = 21 ∧ vp_in x2 (hN S4 b14) ∧ hT S4 x1 = 10 ∧ hT S4 x0 = 8 ∧ wp_X7_atomPoly M x0 (hI S4 b14 (Int32.toNatClampNeg x2)) (hI S4 x1 0) S4 (fun r15 S15 => ∃ b16 : Nat, r15 = some b16 ∧ hT S15 x1 = 10 ∧ wp_X9_product M x1 b13 b16 S15 (fun r17 S17 => w_X7_run_146 M K2 K x0 x1 x2 r17 S17)))) ∧ ((hI S4 b5 (Int32.toNatClampNeg x2)) = 94 → ∃ b18 : Nat, r4 = some b18 ∧ hT S4 x0 = 8 ∧ ∃ b19 : Nat, hP S4 x0 4 = some b19 ∧ hT S4 b19 = 21 ∧ vp_in x2 (hN S4 b19) ∧ hT S4 x1 = 10 ∧ wp_X9_power M x1 b18 (hI S4 b19 (Int32.toNatClampNeg x2)) S4 (fun r20 S20 => w_X7_run_146 M K2 K x0 x1 x2 r20 S20)))))
def wl_X7_run_2 (M : Nat × Nat) (K : Int32 → HS → Prop) : Nat → Nat → Nat → Int32 → HS → Prop
  | 0 => fun _ _ _ _ => False
  | nn + 1 => wb_X7_run_2 M (wl_X7_run_2 M K nn) K
set_option maxHeartbeats 4000000 in
set_option maxRecDepth 100000 in
theorem l_X7_run_2 {G : CG} {S0 : HS} {X : Fx} {K : Int32 → HS → Prop} (hc : Cx X RX7 cX7_run 4) (hr : Cc G S0 5 (some .boolean) (kI K) X) : ∀ (nn : Nat) (x0 x1 : Nat) (x2 : Int32) (S : HS), wl_X7_run_2 (gC G, gS G) K nn x0 x1 x2 S → MC G S0 X 4 S 2 [(0, .ref x0), (1, .ref x1), (2, .int x2)] [] := by
  intro nn
  induction nn with
  | zero => intro x0 x1 x2 S hw; exact False.elim hw
  | succ nn ih =>
    intro x0 x1 x2 S hw
    have hw : wb_X7_run_2 (gC G, gS G) (wl_X7_run_2 (gC G, gS G) K nn) K x0 x1 x2 S := hw
    have h2 := ih
    generalize wl_X7_run_2 (gC G, gS G) K nn = K2 at hw h2
    unfold wb_X7_run_2 at hw
    refine m_iload_n hc 2 dX7_run_2 rfl rfl ?_
    refine m_aload_n hc 0 dX7_run_3 rfl rfl ?_
    obtain ⟨ht, hw⟩ := hw
    refine c_geti hc hr ciX7 (Nat.le_of_ble_eq_true rfl) 0 (Nat.le_of_ble_eq_true rfl) rfl dX7_run_4 lf_X7_11 ht ?_
    refine m_icmp_ge hc 165 dX7_run_7 rfl (fun cq => ?_) (fun cq => ?_)
    · have hw := hw.1 cq
      refine m_iconst hc 1 dX7_run_165 (by decide) ?_
      exact c_zret hc hr dX7_run_166 (by decide) hw
    · have hw := hw.2 cq
      refine m_aload_n hc 0 dX7_run_10 rfl rfl ?_
      obtain ⟨ht, b1, e_b1, hw⟩ := hw
      refine c_getr hc hr ciX7 (Nat.le_of_ble_eq_true rfl) 5 (Nat.le_of_ble_eq_true rfl) rfl dX7_run_11 lf_X7_28 ht e_b1 ?_
      refine m_iload_n hc 2 dX7_run_14 rfl rfl ?_
      refine m_aload_n hc 0 dX7_run_15 rfl rfl ?_
      refine m_iload_n hc 2 dX7_run_16 rfl rfl ?_
      obtain ⟨ht, hw⟩ := hw
      refine c_callVi hc hr ciX7 (Nat.le_of_ble_eq_true rfl) ht mt_X7_boundOf rfl lm_X7_46 (ok_X7_boundOf hw) (Nat.le_of_ble_eq_true rfl) dX7_run_17 rfl (rest := [.int x2, .ref b1]) rfl (Nat.le_of_ble_eq_true rfl) (fun r2 S2 hw => ?_)
      obtain ⟨ht, hi, hw⟩ := hw
      refine c_iast hc hr ht hi dX7_run_20 ?_
      refine m_aload_n hc 0 dX7_run_21 rfl rfl ?_
      refine m_aload_n hc 0 dX7_run_22 rfl rfl ?_
      obtain ⟨ht, b3, e_b3, hw⟩ := hw
      refine c_getr hc hr ciX7 (Nat.le_of_ble_eq_true rfl) 3 (Nat.le_of_ble_eq_true rfl) rfl dX7_run_23 lf_X7_22 ht e_b3 ?_
      refine m_iload_n hc 2 dX7_run_26 rfl rfl ?_
      obtain ⟨ht, hi, hw⟩ := hw
      refine c_iald hc hr ht hi dX7_run_27 ?_
      refine m_aload_n hc 1 dX7_run_28 rfl rfl ?_
      obtain ⟨ht, hw⟩ := hw
      refine c_geti hc hr ciX9 (Nat.le_of_ble_eq_true rfl) 0 (Nat.le_of_ble_eq_true rfl) rfl dX7_run_29 lf_X7_50 ht ?_
      obtain ⟨ht, hw⟩ := hw
      refine c_callVq hc hr ciX7 (Nat.le_of_ble_eq_true rfl) ht mt_X7_atomPoly rfl lm_X7_55 (ok_X7_atomPoly hw) (Nat.le_of_ble_eq_true rfl) dX7_run_32 rfl (rest := []) rfl (Nat.le_of_ble_eq_true rfl) (fun r4 S4 hw => ?_)
      skip
      refine q_astore_n hc [(3, va_rf r4), (0, .ref x0), (1, .ref x1), (2, .int x2)] dX7_run_35 rfl (Nat.le_of_ble_eq_true rfl) rfl ?_
      refine m_aload_n hc 1 dX7_run_36 rfl rfl ?_
      obtain ⟨ht, b5, e_b5, hw⟩ := hw
      refine c_getr hc hr ciX7 (Nat.le_of_ble_eq_true rfl) 2 (Nat.le_of_ble_eq_true rfl) rfl dX7_run_37 lf_X7_19 ht e_b5 ?_
      refine m_iload_n hc 3 dX7_run_40 rfl rfl ?_
      obtain ⟨ht, hi, hw⟩ := hw
      refine c_iald hc hr ht hi dX7_run_41 ?_
      refine m_bipush hc 94 dX7_run_42 (by decide) ?_
      refine m_icmp_ne hc 62 dX7_run_44 rfl (fun cq => ?_) (fun cq => ?_)
      · have hw := hw.1 cq
        refine m_aload_n hc 1 dX7_run_62 rfl rfl ?_
        obtain ⟨ht, b6, e_b6, hw⟩ := hw
        refine c_getr hc hr ciX7 (Nat.le_of_ble_eq_true rfl) 2 (Nat.le_of_ble_eq_true rfl) rfl dX7_run_63 lf_X7_19 ht e_b6 ?_
        refine m_iload_n hc 3 dX7_run_66 rfl rfl ?_
        obtain ⟨ht, hi, hw⟩ := hw
        refine c_iald hc hr ht hi dX7_run_67 ?_
        refine m_bipush hc 42 dX7_run_68 (by decide) ?_
        refine m_icmp_ne hc 96 dX7_run_70 rfl (fun cq => ?_) (fun cq => ?_)
        · have hw := hw.1 cq
          refine m_aload_n hc 1 dX7_run_96 rfl rfl ?_
          obtain ⟨ht, b7, e_b7, hw⟩ := hw
          refine c_getr hc hr ciX7 (Nat.le_of_ble_eq_true rfl) 2 (Nat.le_of_ble_eq_true rfl) rfl dX7_run_97 lf_X7_19 ht e_b7 ?_
          refine m_iload_n hc 3 dX7_run_100 rfl rfl ?_
          obtain ⟨ht, hi, hw⟩ := hw
          refine c_iald hc hr ht hi dX7_run_101 ?_
          refine m_if_eq hc 146 dX7_run_102 rfl (fun cq => ?_) (fun cq => ?_)
          · have hw := hw.1 cq
            refine m_sub [1, 2, 3, 0] rfl ?_
            exact b_X7_run_146 hc hr K2 h2 x0 x1 x2 r4 S4 hw
          · have hw := hw.2 cq
            refine m_aload_n hc 2 dX7_run_105 rfl rfl ?_
            refine q_aload_n hc 0 dX7_run_106 rfl rfl ?_
            obtain ⟨b8, e_b8, hw⟩ := hw
            refine q_some e_b8 ?_
            refine m_aload_n hc 1 dX7_run_107 rfl rfl ?_
            refine m_aload_n hc 1 dX7_run_108 rfl rfl ?_
            obtain ⟨ht, b9, e_b9, hw⟩ := hw
            refine c_getr hc hr ciX7 (Nat.le_of_ble_eq_true rfl) 4 (Nat.le_of_ble_eq_true rfl) rfl dX7_run_109 lf_X7_25 ht e_b9 ?_
            refine m_iload_n hc 3 dX7_run_112 rfl rfl ?_
            obtain ⟨ht, hi, hw⟩ := hw
            refine c_iald hc hr ht hi dX7_run_113 ?_
            refine m_aload_n hc 2 dX7_run_114 rfl rfl ?_
            obtain ⟨ht, hw⟩ := hw
            refine c_geti hc hr ciX9 (Nat.le_of_ble_eq_true rfl) 0 (Nat.le_of_ble_eq_true rfl) rfl dX7_run_115 lf_X7_50 ht ?_
            obtain ⟨ht, hw⟩ := hw
            refine c_callVq hc hr ciX7 (Nat.le_of_ble_eq_true rfl) ht mt_X7_atomPoly rfl lm_X7_55 (ok_X7_atomPoly hw) (Nat.le_of_ble_eq_true rfl) dX7_run_118 rfl (rest := [.ref b8, .ref x1]) rfl (Nat.le_of_ble_eq_true rfl) (fun r10 S10 hw => ?_)
            skip
            obtain ⟨b11, e_b11, hw⟩ := hw
            refine q_some e_b11 ?_
            refine m_aload_n hc 1 dX7_run_121 rfl rfl ?_
            obtain ⟨ht, b12, e_b12, hw⟩ := hw
            refine c_getr hc hr ciX7 (Nat.le_of_ble_eq_true rfl) 2 (Nat.le_of_ble_eq_true rfl) rfl dX7_run_122 lf_X7_19 ht e_b12 ?_
            refine m_iload_n hc 3 dX7_run_125 rfl rfl ?_
            obtain ⟨ht, hi, hw⟩ := hw
            refine c_iald hc hr ht hi dX7_run_126 ?_
            refine m_bipush hc 43 dX7_run_127 (by decide) ?_
            refine m_icmp_ne hc 136 dX7_run_129 rfl (fun cq => ?_) (fun cq => ?_)
            · have hw := hw.1 cq
              refine m_aload_n hc 2 dX7_run_136 rfl rfl ?_
              obtain ⟨ht, hw⟩ := hw
              refine c_geti hc hr ciX9 (Nat.le_of_ble_eq_true rfl) 0 (Nat.le_of_ble_eq_true rfl) rfl dX7_run_137 lf_X7_50 ht ?_
              refine m_iconst hc 1 dX7_run_140 (by decide) ?_
              refine m_isub hc dX7_run_141 ?_
              refine m_sub [1, 2, 3] rfl ?_
              exact b_X7_run_142 hc hr K2 h2 x0 x1 x2 ((hI S10 x1 0) - 1) b11 b8 x1 S10 hw
            · have hw := hw.2 cq
              refine m_iconst hc 1 dX7_run_132 (by decide) ?_
              refine m_goto hc 142 dX7_run_133 rfl ?_
              refine m_sub [1, 2, 3] rfl ?_
              exact b_X7_run_142 hc hr K2 h2 x0 x1 x2 1 b11 b8 x1 S10 hw
        · have hw := hw.2 cq
          refine m_aload_n hc 2 dX7_run_73 rfl rfl ?_
          refine q_aload_n hc 0 dX7_run_74 rfl rfl ?_
          obtain ⟨b13, e_b13, hw⟩ := hw
          refine q_some e_b13 ?_
          refine m_aload_n hc 1 dX7_run_75 rfl rfl ?_
          refine m_aload_n hc 1 dX7_run_76 rfl rfl ?_
          obtain ⟨ht, b14, e_b14, hw⟩ := hw
          refine c_getr hc hr ciX7 (Nat.le_of_ble_eq_true rfl) 4 (Nat.le_of_ble_eq_true rfl) rfl dX7_run_77 lf_X7_25 ht e_b14 ?_
          refine m_iload_n hc 3 dX7_run_80 rfl rfl ?_
          obtain ⟨ht, hi, hw⟩ := hw
          refine c_iald hc hr ht hi dX7_run_81 ?_
          refine m_aload_n hc 2 dX7_run_82 rfl rfl ?_
          obtain ⟨ht, hw⟩ := hw
          refine c_geti hc hr ciX9 (Nat.le_of_ble_eq_true rfl) 0 (Nat.le_of_ble_eq_true rfl) rfl dX7_run_83 lf_X7_50 ht ?_
          obtain ⟨ht, hw⟩ := hw
          refine c_callVq hc hr ciX7 (Nat.le_of_ble_eq_true rfl) ht mt_X7_atomPoly rfl lm_X7_55 (ok_X7_atomPoly hw) (Nat.le_of_ble_eq_true rfl) dX7_run_86 rfl (rest := [.ref b13, .ref x1]) rfl (Nat.le_of_ble_eq_true rfl) (fun r15 S15 hw => ?_)
          skip
          obtain ⟨b16, e_b16, hw⟩ := hw
          refine q_some e_b16 ?_
          obtain ⟨ht, hw⟩ := hw
          refine c_callVq hc hr ciX9 (Nat.le_of_ble_eq_true rfl) ht mt_X9_product rfl lm_X7_63 (ok_X9_product hw) (Nat.le_of_ble_eq_true rfl) dX7_run_89 rfl (rest := []) rfl (Nat.le_of_ble_eq_true rfl) (fun r17 S17 hw => ?_)
          skip
          refine q_astore_n hc [(3, va_rf r17), (0, .ref x0), (1, .ref x1), (2, .int x2)] dX7_run_92 rfl (Nat.le_of_ble_eq_true rfl) rfl ?_
          refine m_goto hc 146 dX7_run_93 rfl ?_
          refine m_sub [1, 2, 3, 0] rfl ?_
          exact b_X7_run_146 hc hr K2 h2 x0 x1 x2 r17 S17 hw
      · have hw := hw.2 cq
        refine m_aload_n hc 2 dX7_run_47 rfl rfl ?_
        refine q_aload_n hc 0 dX7_run_48 rfl rfl ?_
        obtain ⟨b18, e_b18, hw⟩ := hw
        refine q_some e_b18 ?_
        refine m_aload_n hc 1 dX7_run_49 rfl rfl ?_
        obtain ⟨ht, b19, e_b19, hw⟩ := hw
        refine c_getr hc hr ciX7 (Nat.le_of_ble_eq_true rfl) 4 (Nat.le_of_ble_eq_true rfl) rfl dX7_run_50 lf_X7_25 ht e_b19 ?_
        refine m_iload_n hc 3 dX7_run_53 rfl rfl ?_
        obtain ⟨ht, hi, hw⟩ := hw
        refine c_iald hc hr ht hi dX7_run_54 ?_
        obtain ⟨ht, hw⟩ := hw
        refine c_callVq hc hr ciX9 (Nat.le_of_ble_eq_true rfl) ht mt_X9_power rfl lm_X7_59 (ok_X9_power hw) (Nat.le_of_ble_eq_true rfl) dX7_run_55 rfl (rest := []) rfl (Nat.le_of_ble_eq_true rfl) (fun r20 S20 hw => ?_)
        skip
        refine q_astore_n hc [(3, va_rf r20), (0, .ref x0), (1, .ref x1), (2, .int x2)] dX7_run_58 rfl (Nat.le_of_ble_eq_true rfl) rfl ?_
        refine m_goto hc 146 dX7_run_59 rfl ?_
        refine m_sub [1, 2, 3, 0] rfl ?_
        exact b_X7_run_146 hc hr K2 h2 x0 x1 x2 r20 S20 hw
def wp_X7_run (M : Nat × Nat) (x0 x1 : Nat) (S : HS) (K : Int32 → HS → Prop) : Prop := ∃ nn : Nat, wl_X7_run_2 M K nn x0 x1 0 S
set_option maxHeartbeats 4000000 in
set_option maxRecDepth 100000 in
theorem ok_X7_run {G : CG} {x0 : Nat} {x1 : Nat} {S : HS} {K : Int32 → HS → Prop} (hw : wp_X7_run (gC G, gS G) x0 x1 S K) : CC 5 yX7_run cX7_run 4 (some .boolean) [.ref x0, .ref x1] G S (kI K) := by
  refine CC.of (by decide +kernel) (Nat.le_of_ble_eq_true rfl) (fun X hc hr hname => ?_)
  show MC G S X 4 S 0 [(0, .ref x0), (1, .ref x1)] []
  unfold wp_X7_run at hw
  refine m_iconst hc 0 dX7_run_0 (by decide) ?_
  refine m_istore_n hc [(2, .int 0), (0, .ref x0), (1, .ref x1)] dX7_run_1 rfl (Nat.le_of_ble_eq_true rfl) rfl ?_
  refine m_sub [1, 2, 0] rfl ?_
  obtain ⟨nn, hw⟩ := hw
  exact l_X7_run_2 hc hr nn x0 x1 0 S hw
