def wb_X9_isSize_9 (M : Nat × Nat) (K9 : Int32 → Int32 → Int32 → HS → Prop) (K : Int32 → HS → Prop) (x0 x2 x3 : Int32) (S : HS) : Prop := (x2 ≤ x3 → K 0 S) ∧ (¬ (x2 ≤ x3) → vp_in x3 6 ∧ ∀ v1 : Int32, v1 = (([2, 3, 5, 7, 11, 13] : List Int32).getD (Int32.toNatClampNeg x3) 0) → (¬ v1 = x0 → K9 x0 x2 (x3 + 1) S) ∧ (v1 = x0 → K 1 S))
def wl_X9_isSize_9 (M : Nat × Nat) (K : Int32 → HS → Prop) : Nat → Int32 → Int32 → Int32 → HS → Prop
  | 0 => fun _ _ _ _ => False
  | nn + 1 => wb_X9_isSize_9 M (wl_X9_isSize_9 M K nn) K
set_option maxHeartbeats 4000000 in
set_option maxRecDepth 100000 in
theorem l_X9_isSize_9 {G : CG} {S0 : HS} {X : Fx} {K : Int32 → HS → Prop} (hc : Cx X RX9 cX9_isSize 5) (hr : Cc G S0 0 (some .boolean) (kI K) X) : ∀ (nn : Nat) (x0 x2 x3 : Int32) (S : HS), wl_X9_isSize_9 (gC G, gS G) K nn x0 x2 x3 S → MC G S0 X 5 S 9 [(0, .int x0), (1, .ref (gZ G)), (2, .int x2), (3, .int x3)] [] := by
  intro nn
  induction nn with
  | zero => intro x0 x2 x3 S hw; exact False.elim hw
  | succ nn ih =>
    intro x0 x2 x3 S hw
    have hw : wb_X9_isSize_9 (gC G, gS G) (wl_X9_isSize_9 (gC G, gS G) K nn) K x0 x2 x3 S := hw
    have h9 := ih
    generalize wl_X9_isSize_9 (gC G, gS G) K nn = K9 at hw h9
    unfold wb_X9_isSize_9 at hw
    refine m_iload_n hc 3 dX9_isSize_9 rfl rfl ?_
    refine m_iload_n hc 2 dX9_isSize_10 rfl rfl ?_
    refine m_icmp_ge hc 33 dX9_isSize_11 rfl (fun cq => ?_) (fun cq => ?_)
    · have hw := hw.1 cq
      refine m_iconst hc 0 dX9_isSize_33 (by decide) ?_
      exact c_zret hc hr dX9_isSize_34 (by decide) hw
    · have hw := hw.2 cq
      refine m_aload_n hc 1 dX9_isSize_14 rfl rfl ?_
      refine m_iload_n hc 3 dX9_isSize_15 rfl rfl ?_
      obtain ⟨hi, hw⟩ := hw
      refine c_zald hc hr hi dX9_isSize_16 ?_
      refine m_topi (fun v1 e_v1 => ?_)
      have hw := hw v1 e_v1
      refine m_istore hc [(4, .int v1), (0, .int x0), (1, .ref (gZ G)), (2, .int x2), (3, .int x3)] dX9_isSize_17 (Nat.le_of_ble_eq_true rfl) rfl ?_
      refine m_iload hc 0 dX9_isSize_19 rfl ?_
      refine m_iload_n hc 1 dX9_isSize_21 rfl rfl ?_
      refine m_icmp_ne hc 27 dX9_isSize_22 rfl (fun cq => ?_) (fun cq => ?_)
      · have hw := hw.1 cq
        refine m_iinc hc 4 (x3 + 1) [(3, .int (x3 + 1)), (4, .int v1), (0, .int x0), (1, .ref (gZ G)), (2, .int x2)] dX9_isSize_27 rfl rfl (Nat.le_of_ble_eq_true rfl) rfl ?_
        refine m_goto hc 9 dX9_isSize_30 rfl ?_
        refine m_sub [2, 3, 4, 0] rfl ?_
        exact h9 x0 x2 (x3 + 1) S hw
      · have hw := hw.2 cq
        refine m_iconst hc 1 dX9_isSize_25 (by decide) ?_
        exact c_zret hc hr dX9_isSize_26 (by decide) hw
def wp_X9_isSize (M : Nat × Nat) (x0 : Int32) (S : HS) (K : Int32 → HS → Prop) : Prop := ∃ nn : Nat, wl_X9_isSize_9 M K nn x0 6 0 S
set_option maxHeartbeats 4000000 in
set_option maxRecDepth 100000 in
theorem ok_X9_isSize {G : CG} {x0 : Int32} {S : HS} {K : Int32 → HS → Prop} (hw : wp_X9_isSize (gC G, gS G) x0 S K) : CC 0 yX9_isSize cX9_isSize 5 (some .boolean) [.int x0] G S (kI K) := by
  refine CC.of (by decide +kernel) (Nat.le_of_ble_eq_true rfl) (fun X hc hr hname => ?_)
  show MC G S X 5 S 0 [(0, .int x0)] []
  unfold wp_X9_isSize at hw
  refine c_gets hc hr dX9_isSize_0 lf_X9_50 ?_
  refine m_astore_n hc [(1, .ref (gZ G)), (0, .int x0)] dX9_isSize_3 rfl (Nat.le_of_ble_eq_true rfl) rfl ?_
  refine m_aload_n hc 0 dX9_isSize_4 rfl rfl ?_
  refine c_zlen hc hr dX9_isSize_5 ?_
  refine m_istore_n hc [(2, .int 6), (1, .ref (gZ G)), (0, .int x0)] dX9_isSize_6 rfl (Nat.le_of_ble_eq_true rfl) rfl ?_
  refine m_iconst hc 0 dX9_isSize_7 (by decide) ?_
  refine m_istore_n hc [(3, .int 0), (2, .int 6), (1, .ref (gZ G)), (0, .int x0)] dX9_isSize_8 rfl (Nat.le_of_ble_eq_true rfl) rfl ?_
  refine m_sub [3, 2, 1, 0] rfl ?_
  obtain ⟨nn, hw⟩ := hw
  exact l_X9_isSize_9 hc hr nn x0 6 0 S hw
def wp_X9_isNumber (M : Nat × Nat) (x0 : Nat) (x1 : Int32) (S : HS) (K : Int32 → HS → Prop) : Prop := (x1 < 0 → K 0 S) ∧ (¬ (x1 < 0) → hT S x0 = 10 ∧ ((hI S x0 0) ≤ x1 → K 0 S) ∧ (¬ ((hI S x0 0) ≤ x1) → K 1 S))
set_option maxHeartbeats 4000000 in
set_option maxRecDepth 100000 in
theorem ok_X9_isNumber {G : CG} {x0 : Nat} {x1 : Int32} {S : HS} {K : Int32 → HS → Prop} (hw : wp_X9_isNumber (gC G, gS G) x0 x1 S K) : CC 0 yX9_isNumber cX9_isNumber 2 (some .boolean) [.ref x0, .int x1] G S (kI K) := by
  refine CC.of (by decide +kernel) (Nat.le_of_ble_eq_true rfl) (fun X hc hr hname => ?_)
  show MC G S X 2 S 0 [(0, .ref x0), (1, .int x1)] []
  unfold wp_X9_isNumber at hw
  refine m_iload_n hc 1 dX9_isNumber_0 rfl rfl ?_
  refine m_if_lt hc 16 dX9_isNumber_1 rfl (fun cq => ?_) (fun cq => ?_)
  · have hw := hw.1 cq
    refine m_iconst hc 0 dX9_isNumber_16 (by decide) ?_
    exact c_zret hc hr dX9_isNumber_17 (by decide) hw
  · have hw := hw.2 cq
    refine m_iload_n hc 1 dX9_isNumber_4 rfl rfl ?_
    refine m_aload_n hc 0 dX9_isNumber_5 rfl rfl ?_
    obtain ⟨ht, hw⟩ := hw
    refine c_geti hc hr ciX9 (Nat.le_of_ble_eq_true rfl) 0 (Nat.le_of_ble_eq_true rfl) rfl dX9_isNumber_6 lf_X9_9 ht ?_
    refine m_icmp_ge hc 16 dX9_isNumber_9 rfl (fun cq => ?_) (fun cq => ?_)
    · have hw := hw.1 cq
      refine m_iconst hc 0 dX9_isNumber_16 (by decide) ?_
      exact c_zret hc hr dX9_isNumber_17 (by decide) hw
    · have hw := hw.2 cq
      refine m_iconst hc 1 dX9_isNumber_12 (by decide) ?_
      refine m_goto hc 17 dX9_isNumber_13 rfl ?_
      exact c_zret hc hr dX9_isNumber_17 (by decide) hw
def wp_X9_isPoint (M : Nat × Nat) (x0 : Nat) (x1 x2 x3 : Int32) (S : HS) (K : Int32 → HS → Prop) : Prop := hT S x0 = 10 ∧ wp_X9_isNumber M x0 x1 S (fun r1 S1 => (r1 = 0 → K 0 S1) ∧ (¬ (r1 = 0) → hT S1 x0 = 10 ∧ wp_X9_isNumber M x0 x2 S1 (fun r2 S2 => (r2 = 0 → K 0 S2) ∧ (¬ (r2 = 0) → hT S2 x0 = 10 ∧ wp_X9_isNumber M x0 x3 S2 (fun r3 S3 => (r3 = 0 → K 0 S3) ∧ (¬ (r3 = 0) → K 1 S3))))))
set_option maxHeartbeats 4000000 in
set_option maxRecDepth 100000 in
theorem ok_X9_isPoint {G : CG} {x0 : Nat} {x1 : Int32} {x2 : Int32} {x3 : Int32} {S : HS} {K : Int32 → HS → Prop} (hw : wp_X9_isPoint (gC G, gS G) x0 x1 x2 x3 S K) : CC 1 yX9_isPoint cX9_isPoint 4 (some .boolean) [.ref x0, .int x1, .int x2, .int x3] G S (kI K) := by
  refine CC.of (by decide +kernel) (Nat.le_of_ble_eq_true rfl) (fun X hc hr hname => ?_)
  show MC G S X 4 S 0 [(0, .ref x0), (1, .int x1), (2, .int x2), (3, .int x3)] []
  unfold wp_X9_isPoint at hw
  refine m_aload_n hc 0 dX9_isPoint_0 rfl rfl ?_
  refine m_iload_n hc 1 dX9_isPoint_1 rfl rfl ?_
  obtain ⟨ht, hw⟩ := hw
  refine c_callVi hc hr ciX9 (Nat.le_of_ble_eq_true rfl) ht mt_X9_isNumber rfl lm_X9_53 (ok_X9_isNumber hw) (Nat.le_of_ble_eq_true rfl) dX9_isPoint_2 rfl (rest := []) rfl (Nat.le_of_ble_eq_true rfl) (fun r1 S1 hw => ?_)
  refine m_if_eq hc 28 dX9_isPoint_5 rfl (fun cq => ?_) (fun cq => ?_)
  · have hw := hw.1 cq
    refine m_iconst hc 0 dX9_isPoint_28 (by decide) ?_
    exact c_zret hc hr dX9_isPoint_29 (by decide) hw
  · have hw := hw.2 cq
    refine m_aload_n hc 0 dX9_isPoint_8 rfl rfl ?_
    refine m_iload_n hc 2 dX9_isPoint_9 rfl rfl ?_
    obtain ⟨ht, hw⟩ := hw
    refine c_callVi hc hr ciX9 (Nat.le_of_ble_eq_true rfl) ht mt_X9_isNumber rfl lm_X9_53 (ok_X9_isNumber hw) (Nat.le_of_ble_eq_true rfl) dX9_isPoint_10 rfl (rest := []) rfl (Nat.le_of_ble_eq_true rfl) (fun r2 S2 hw => ?_)
    refine m_if_eq hc 28 dX9_isPoint_13 rfl (fun cq => ?_) (fun cq => ?_)
    · have hw := hw.1 cq
      refine m_iconst hc 0 dX9_isPoint_28 (by decide) ?_
      exact c_zret hc hr dX9_isPoint_29 (by decide) hw
    · have hw := hw.2 cq
      refine m_aload_n hc 0 dX9_isPoint_16 rfl rfl ?_
      refine m_iload_n hc 3 dX9_isPoint_17 rfl rfl ?_
      obtain ⟨ht, hw⟩ := hw
      refine c_callVi hc hr ciX9 (Nat.le_of_ble_eq_true rfl) ht mt_X9_isNumber rfl lm_X9_53 (ok_X9_isNumber hw) (Nat.le_of_ble_eq_true rfl) dX9_isPoint_18 rfl (rest := []) rfl (Nat.le_of_ble_eq_true rfl) (fun r3 S3 hw => ?_)
      refine m_if_eq hc 28 dX9_isPoint_21 rfl (fun cq => ?_) (fun cq => ?_)
      · have hw := hw.1 cq
        refine m_iconst hc 0 dX9_isPoint_28 (by decide) ?_
        exact c_zret hc hr dX9_isPoint_29 (by decide) hw
      · have hw := hw.2 cq
        refine m_iconst hc 1 dX9_isPoint_24 (by decide) ?_
        refine m_goto hc 29 dX9_isPoint_25 rfl ?_
        exact c_zret hc hr dX9_isPoint_29 (by decide) hw
def wp_X9_isLine (M : Nat × Nat) (x0 : Nat) (x1 x2 x3 x4 : Int32) (S : HS) (K : Int32 → HS → Prop) : Prop := hT S x0 = 10 ∧ wp_X9_isNumber M x0 x1 S (fun r1 S1 => (r1 = 0 → K 0 S1) ∧ (¬ (r1 = 0) → hT S1 x0 = 10 ∧ wp_X9_isNumber M x0 x2 S1 (fun r2 S2 => (r2 = 0 → K 0 S2) ∧ (¬ (r2 = 0) → hT S2 x0 = 10 ∧ wp_X9_isNumber M x0 x3 S2 (fun r3 S3 => (r3 = 0 → K 0 S3) ∧ (¬ (r3 = 0) → hT S3 x0 = 10 ∧ wp_X9_isNumber M x0 x4 S3 (fun r4 S4 => (¬ r4 = 0 → (x1 = 1 → K 1 S4) ∧ (¬ (x1 = 1) → (¬ x1 = 0 → K 0 S4) ∧ (x1 = 0 → (x2 = 1 → K 1 S4) ∧ (¬ (x2 = 1) → (¬ x2 = 0 → K 0 S4) ∧ (x2 = 0 → (¬ x3 = 1 → K 0 S4) ∧ (x3 = 1 → K 1 S4)))))) ∧ (r4 = 0 → K 0 S4))))))))
set_option maxHeartbeats 4000000 in
set_option maxRecDepth 100000 in
theorem ok_X9_isLine {G : CG} {x0 : Nat} {x1 : Int32} {x2 : Int32} {x3 : Int32} {x4 : Int32} {S : HS} {K : Int32 → HS → Prop} (hw : wp_X9_isLine (gC G, gS G) x0 x1 x2 x3 x4 S K) : CC 1 yX9_isLine cX9_isLine 5 (some .boolean) [.ref x0, .int x1, .int x2, .int x3, .int x4] G S (kI K) := by
  refine CC.of (by decide +kernel) (Nat.le_of_ble_eq_true rfl) (fun X hc hr hname => ?_)
  show MC G S X 5 S 0 [(0, .ref x0), (1, .int x1), (2, .int x2), (3, .int x3), (4, .int x4)] []
  unfold wp_X9_isLine at hw
  refine m_aload_n hc 0 dX9_isLine_0 rfl rfl ?_
  refine m_iload_n hc 1 dX9_isLine_1 rfl rfl ?_
  obtain ⟨ht, hw⟩ := hw
  refine c_callVi hc hr ciX9 (Nat.le_of_ble_eq_true rfl) ht mt_X9_isNumber rfl lm_X9_53 (ok_X9_isNumber hw) (Nat.le_of_ble_eq_true rfl) dX9_isLine_2 rfl (rest := []) rfl (Nat.le_of_ble_eq_true rfl) (fun r1 S1 hw => ?_)
  refine m_if_eq hc 33 dX9_isLine_5 rfl (fun cq => ?_) (fun cq => ?_)
  · have hw := hw.1 cq
    refine m_iconst hc 0 dX9_isLine_33 (by decide) ?_
    exact c_zret hc hr dX9_isLine_34 (by decide) hw
  · have hw := hw.2 cq
    refine m_aload_n hc 0 dX9_isLine_8 rfl rfl ?_
    refine m_iload_n hc 2 dX9_isLine_9 rfl rfl ?_
    obtain ⟨ht, hw⟩ := hw
    refine c_callVi hc hr ciX9 (Nat.le_of_ble_eq_true rfl) ht mt_X9_isNumber rfl lm_X9_53 (ok_X9_isNumber hw) (Nat.le_of_ble_eq_true rfl) dX9_isLine_10 rfl (rest := []) rfl (Nat.le_of_ble_eq_true rfl) (fun r2 S2 hw => ?_)
    refine m_if_eq hc 33 dX9_isLine_13 rfl (fun cq => ?_) (fun cq => ?_)
    · have hw := hw.1 cq
      refine m_iconst hc 0 dX9_isLine_33 (by decide) ?_
      exact c_zret hc hr dX9_isLine_34 (by decide) hw
    · have hw := hw.2 cq
      refine m_aload_n hc 0 dX9_isLine_16 rfl rfl ?_
      refine m_iload_n hc 3 dX9_isLine_17 rfl rfl ?_
      obtain ⟨ht, hw⟩ := hw
      refine c_callVi hc hr ciX9 (Nat.le_of_ble_eq_true rfl) ht mt_X9_isNumber rfl lm_X9_53 (ok_X9_isNumber hw) (Nat.le_of_ble_eq_true rfl) dX9_isLine_18 rfl (rest := []) rfl (Nat.le_of_ble_eq_true rfl) (fun r3 S3 hw => ?_)
      refine m_if_eq hc 33 dX9_isLine_21 rfl (fun cq => ?_) (fun cq => ?_)
      · have hw := hw.1 cq
        refine m_iconst hc 0 dX9_isLine_33 (by decide) ?_
        exact c_zret hc hr dX9_isLine_34 (by decide) hw
      · have hw := hw.2 cq
        refine m_aload_n hc 0 dX9_isLine_24 rfl rfl ?_
        refine m_iload hc 4 dX9_isLine_25 rfl ?_
        obtain ⟨ht, hw⟩ := hw
        refine c_callVi hc hr ciX9 (Nat.le_of_ble_eq_true rfl) ht mt_X9_isNumber rfl lm_X9_53 (ok_X9_isNumber hw) (Nat.le_of_ble_eq_true rfl) dX9_isLine_27 rfl (rest := []) rfl (Nat.le_of_ble_eq_true rfl) (fun r4 S4 hw => ?_)
        refine m_if_ne hc 35 dX9_isLine_30 rfl (fun cq => ?_) (fun cq => ?_)
        · have hw := hw.1 cq
          refine m_iload_n hc 1 dX9_isLine_35 rfl rfl ?_
          refine m_iconst hc 1 dX9_isLine_36 (by decide) ?_
          refine m_icmp_eq hc 58 dX9_isLine_37 rfl (fun cq => ?_) (fun cq => ?_)
          · have hw := hw.1 cq
            refine m_iconst hc 1 dX9_isLine_58 (by decide) ?_
            refine m_goto hc 63 dX9_isLine_59 rfl ?_
            exact c_zret hc hr dX9_isLine_63 (by decide) hw
          · have hw := hw.2 cq
            refine m_iload_n hc 1 dX9_isLine_40 rfl rfl ?_
            refine m_if_ne hc 62 dX9_isLine_41 rfl (fun cq => ?_) (fun cq => ?_)
            · have hw := hw.1 cq
              refine m_iconst hc 0 dX9_isLine_62 (by decide) ?_
              exact c_zret hc hr dX9_isLine_63 (by decide) hw
            · have hw := hw.2 cq
              refine m_iload_n hc 2 dX9_isLine_44 rfl rfl ?_
              refine m_iconst hc 1 dX9_isLine_45 (by decide) ?_
              refine m_icmp_eq hc 58 dX9_isLine_46 rfl (fun cq => ?_) (fun cq => ?_)
              · have hw := hw.1 cq
                refine m_iconst hc 1 dX9_isLine_58 (by decide) ?_
                refine m_goto hc 63 dX9_isLine_59 rfl ?_
                exact c_zret hc hr dX9_isLine_63 (by decide) hw
              · have hw := hw.2 cq
                refine m_iload_n hc 2 dX9_isLine_49 rfl rfl ?_
                refine m_if_ne hc 62 dX9_isLine_50 rfl (fun cq => ?_) (fun cq => ?_)
                · have hw := hw.1 cq
                  refine m_iconst hc 0 dX9_isLine_62 (by decide) ?_
                  exact c_zret hc hr dX9_isLine_63 (by decide) hw
                · have hw := hw.2 cq
                  refine m_iload_n hc 3 dX9_isLine_53 rfl rfl ?_
                  refine m_iconst hc 1 dX9_isLine_54 (by decide) ?_
                  refine m_icmp_ne hc 62 dX9_isLine_55 rfl (fun cq => ?_) (fun cq => ?_)
                  · have hw := hw.1 cq
                    refine m_iconst hc 0 dX9_isLine_62 (by decide) ?_
                    exact c_zret hc hr dX9_isLine_63 (by decide) hw
                  · have hw := hw.2 cq
                    refine m_iconst hc 1 dX9_isLine_58 (by decide) ?_
                    refine m_goto hc 63 dX9_isLine_59 rfl ?_
                    exact c_zret hc hr dX9_isLine_63 (by decide) hw
        · have hw := hw.2 cq
          refine m_iconst hc 0 dX9_isLine_33 (by decide) ?_
          exact c_zret hc hr dX9_isLine_34 (by decide) hw
def wb_X9_derivative_9 (M : Nat × Nat) (K9 : Nat → Nat → Int32 → Int32 → HS → Prop) (K : Option Nat → HS → Prop) (x0 x1 : Nat) (x2 x3 : Int32) (S : HS) : Prop := hT S x1 = 7 ∧ ((hI S x1 2) ≤ x3 → hT S x0 = 10 ∧ ∃ b1 : Nat, hP S x0 1 = some b1 ∧ hT S b1 = 7 ∧ wp_X6_kept M b1 S (fun r2 S2 => K r2 S2)) ∧ (¬ ((hI S x1 2) ≤ x3) → hT S x1 = 7 ∧ ∃ b3 : Nat, hP S x1 0 = some b3 ∧ hT S b3 = 21 ∧ vp_in x3 (hN S b3) ∧ wp_X6_exponent M (hI S b3 (Int32.toNatClampNeg x3)) x2 S (fun r4 S4 => (r4 ≤ 0 → K9 x0 x1 x2 (x3 + 1) S4) ∧ (¬ (r4 ≤ 0) → hT S4 x0 = 10 ∧ ∃ b5 : Nat, hP S4 x0 1 = some b5 ∧ hT S4 x1 = 7 ∧ ∃ b6 : Nat, hP S4 x1 0 = some b6 ∧ hT S4 b6 = 21 ∧ vp_in x3 (hN S4 b6) ∧ wp_X6_unit M x2 S4 (fun r7 S7 => hT S7 x1 = 7 ∧ ∃ b8 : Nat, hP S7 x1 1 = some b8 ∧ hT S7 b8 = 21 ∧ vp_in x3 (hN S7 b8) ∧ hT S7 x0 = 10 ∧ ¬ (hI S7 x0 0) = 0 ∧ (hT S7 b5 = 7 ∧ wp_X6_push M b5 ((hI S4 b6 (Int32.toNatClampNeg x3)) - r7) (iRem ((hI S7 b8 (Int32.toNatClampNeg x3)) * r4) (hI S7 x0 0)) S7 (fun r9 S9 => K9 x0 x1 x2 (x3 + 1) S9))))))
def wl_X9_derivative_9 (M : Nat × Nat) (K : Option Nat → HS → Prop) : Nat → Nat → Nat → Int32 → Int32 → HS → Prop
  | 0 => fun _ _ _ _ _ => False
  | nn + 1 => wb_X9_derivative_9 M (wl_X9_derivative_9 M K nn) K
set_option maxHeartbeats 4000000 in
set_option maxRecDepth 100000 in
theorem l_X9_derivative_9 {G : CG} {S0 : HS} {X : Fx} {K : Option Nat → HS → Prop} (hc : Cx X RX9 cX9_derivative 5) (hr : Cc G S0 3 (some (.object "StraightPolys$Poly")) (kR K) X) : ∀ (nn : Nat) (x0 x1 : Nat) (x2 x3 : Int32) (S : HS), wl_X9_derivative_9 (gC G, gS G) K nn x0 x1 x2 x3 S → MC G S0 X 5 S 9 [(0, .ref x0), (1, .ref x1), (2, .int x2), (3, .int x3)] [] := by
  intro nn
  induction nn with
  | zero => intro x0 x1 x2 x3 S hw; exact False.elim hw
  | succ nn ih =>
    intro x0 x1 x2 x3 S hw
    have hw : wb_X9_derivative_9 (gC G, gS G) (wl_X9_derivative_9 (gC G, gS G) K nn) K x0 x1 x2 x3 S := hw
    have h9 := ih
    generalize wl_X9_derivative_9 (gC G, gS G) K nn = K9 at hw h9
    unfold wb_X9_derivative_9 at hw
    refine m_iload_n hc 3 dX9_derivative_9 rfl rfl ?_
    refine m_aload_n hc 1 dX9_derivative_10 rfl rfl ?_
    obtain ⟨ht, hw⟩ := hw
    refine c_geti hc hr ciX6 (Nat.le_of_ble_eq_true rfl) 2 (Nat.le_of_ble_eq_true rfl) rfl dX9_derivative_11 lf_X9_60 ht ?_
    refine m_icmp_ge hc 72 dX9_derivative_14 rfl (fun cq => ?_) (fun cq => ?_)
    · have hw := hw.1 cq
      refine m_aload_n hc 0 dX9_derivative_72 rfl rfl ?_
      obtain ⟨ht, b1, e_b1, hw⟩ := hw
      refine c_getr hc hr ciX9 (Nat.le_of_ble_eq_true rfl) 1 (Nat.le_of_ble_eq_true rfl) rfl dX9_derivative_73 lf_X9_20 ht e_b1 ?_
      obtain ⟨ht, hw⟩ := hw
      refine c_callVq hc hr ciX6 (Nat.le_of_ble_eq_true rfl) ht mt_X6_kept rfl lm_X9_73 (ok_X6_kept hw) (Nat.le_of_ble_eq_true rfl) dX9_derivative_76 rfl (rest := []) rfl (Nat.le_of_ble_eq_true rfl) (fun r2 S2 hw => ?_)
      skip
      exact c_aret hc hr (r := r2) dX9_derivative_79 hw
    · have hw := hw.2 cq
      refine m_aload_n hc 1 dX9_derivative_17 rfl rfl ?_
      obtain ⟨ht, b3, e_b3, hw⟩ := hw
      refine c_getr hc hr ciX6 (Nat.le_of_ble_eq_true rfl) 0 (Nat.le_of_ble_eq_true rfl) rfl dX9_derivative_18 lf_X9_63 ht e_b3 ?_
      refine m_iload_n hc 3 dX9_derivative_21 rfl rfl ?_
      obtain ⟨ht, hi, hw⟩ := hw
      refine c_iald hc hr ht hi dX9_derivative_22 ?_
      refine m_iload_n hc 2 dX9_derivative_23 rfl rfl ?_
      refine c_callSi hc hr mt_X6_exponent lm_X9_111 (ok_X6_exponent hw) (Nat.le_of_ble_eq_true rfl) dX9_derivative_24 rfl (rest := []) rfl (Nat.le_of_ble_eq_true rfl) (fun r4 S4 hw => ?_)
      refine m_istore hc [(4, .int r4), (0, .ref x0), (1, .ref x1), (2, .int x2), (3, .int x3)] dX9_derivative_27 (Nat.le_of_ble_eq_true rfl) rfl ?_
      refine m_iload hc 0 dX9_derivative_29 rfl ?_
      refine m_if_le hc 66 dX9_derivative_31 rfl (fun cq => ?_) (fun cq => ?_)
      · have hw := hw.1 cq
        refine m_iinc hc 4 (x3 + 1) [(3, .int (x3 + 1)), (4, .int r4), (0, .ref x0), (1, .ref x1), (2, .int x2)] dX9_derivative_66 rfl rfl (Nat.le_of_ble_eq_true rfl) rfl ?_
        refine m_goto hc 9 dX9_derivative_69 rfl ?_
        refine m_sub [2, 3, 4, 0] rfl ?_
        exact h9 x0 x1 x2 (x3 + 1) S4 hw
      · have hw := hw.2 cq
        refine m_aload_n hc 1 dX9_derivative_34 rfl rfl ?_
        obtain ⟨ht, b5, e_b5, hw⟩ := hw
        refine c_getr hc hr ciX9 (Nat.le_of_ble_eq_true rfl) 1 (Nat.le_of_ble_eq_true rfl) rfl dX9_derivative_35 lf_X9_20 ht e_b5 ?_
        refine m_aload_n hc 2 dX9_derivative_38 rfl rfl ?_
        obtain ⟨ht, b6, e_b6, hw⟩ := hw
        refine c_getr hc hr ciX6 (Nat.le_of_ble_eq_true rfl) 0 (Nat.le_of_ble_eq_true rfl) rfl dX9_derivative_39 lf_X9_63 ht e_b6 ?_
        refine m_iload_n hc 4 dX9_derivative_42 rfl rfl ?_
        obtain ⟨ht, hi, hw⟩ := hw
        refine c_iald hc hr ht hi dX9_derivative_43 ?_
        refine m_iload_n hc 3 dX9_derivative_44 rfl rfl ?_
        refine c_callSi hc hr mt_X6_unit lm_X9_115 (ok_X6_unit hw) (Nat.le_of_ble_eq_true rfl) dX9_derivative_45 rfl (rest := [.int (hI S4 b6 (Int32.toNatClampNeg x3)), .ref b5]) rfl (Nat.le_of_ble_eq_true rfl) (fun r7 S7 hw => ?_)
        refine m_isub hc dX9_derivative_48 ?_
        refine m_aload_n hc 2 dX9_derivative_49 rfl rfl ?_
        obtain ⟨ht, b8, e_b8, hw⟩ := hw
        refine c_getr hc hr ciX6 (Nat.le_of_ble_eq_true rfl) 1 (Nat.le_of_ble_eq_true rfl) rfl dX9_derivative_50 lf_X9_66 ht e_b8 ?_
        refine m_iload_n hc 4 dX9_derivative_53 rfl rfl ?_
        obtain ⟨ht, hi, hw⟩ := hw
        refine c_iald hc hr ht hi dX9_derivative_54 ?_
        refine m_iload hc 0 dX9_derivative_55 rfl ?_
        refine m_imul hc dX9_derivative_57 ?_
        refine m_aload_n hc 1 dX9_derivative_58 rfl rfl ?_
        obtain ⟨ht, hw⟩ := hw
        refine c_geti hc hr ciX9 (Nat.le_of_ble_eq_true rfl) 0 (Nat.le_of_ble_eq_true rfl) rfl dX9_derivative_59 lf_X9_9 ht ?_
        obtain ⟨hq, hw⟩ := hw
        refine m_irem hc dX9_derivative_62 hq ?_
        obtain ⟨ht, hw⟩ := hw
        refine c_callVv hc hr ciX6 (Nat.le_of_ble_eq_true rfl) ht mt_X6_push rfl lm_X9_69 (ok_X6_push hw) (Nat.le_of_ble_eq_true rfl) dX9_derivative_63 rfl (rest := []) rfl (Nat.le_of_ble_eq_true rfl) (fun S9 hw => ?_)
        refine m_iinc hc 4 (x3 + 1) [(3, .int (x3 + 1)), (4, .int r4), (0, .ref x0), (1, .ref x1), (2, .int x2)] dX9_derivative_66 rfl rfl (Nat.le_of_ble_eq_true rfl) rfl ?_
        refine m_goto hc 9 dX9_derivative_69 rfl ?_
        refine m_sub [2, 3, 4, 0] rfl ?_
        exact h9 x0 x1 x2 (x3 + 1) S9 hw
def wp_X9_derivative (M : Nat × Nat) (x0 x1 : Nat) (x2 : Int32) (S : HS) (K : Option Nat → HS → Prop) : Prop := hT S x0 = 10 ∧ ∃ b1 : Nat, hP S x0 1 = some b1 ∧ hT S b1 = 7 ∧ wp_X6_clear M b1 S (fun r2 S2 => ∃ nn : Nat, wl_X9_derivative_9 M K nn x0 x1 x2 0 S2)
set_option maxHeartbeats 4000000 in
set_option maxRecDepth 100000 in
theorem ok_X9_derivative {G : CG} {x0 : Nat} {x1 : Nat} {x2 : Int32} {S : HS} {K : Option Nat → HS → Prop} (hw : wp_X9_derivative (gC G, gS G) x0 x1 x2 S K) : CC 3 yX9_derivative cX9_derivative 5 (some (.object "StraightPolys$Poly")) [.ref x0, .ref x1, .int x2] G S (kR K) := by
  refine CC.of (by decide +kernel) (Nat.le_of_ble_eq_true rfl) (fun X hc hr hname => ?_)
  show MC G S X 5 S 0 [(0, .ref x0), (1, .ref x1), (2, .int x2)] []
  unfold wp_X9_derivative at hw
  refine m_aload_n hc 0 dX9_derivative_0 rfl rfl ?_
  obtain ⟨ht, b1, e_b1, hw⟩ := hw
  refine c_getr hc hr ciX9 (Nat.le_of_ble_eq_true rfl) 1 (Nat.le_of_ble_eq_true rfl) rfl dX9_derivative_1 lf_X9_20 ht e_b1 ?_
  obtain ⟨ht, hw⟩ := hw
  refine c_callVv hc hr ciX6 (Nat.le_of_ble_eq_true rfl) ht mt_X6_clear rfl lm_X9_57 (ok_X6_clear hw) (Nat.le_of_ble_eq_true rfl) dX9_derivative_4 rfl (rest := []) rfl (Nat.le_of_ble_eq_true rfl) (fun S2 hw => ?_)
  refine m_iconst hc 0 dX9_derivative_7 (by decide) ?_
  refine m_istore_n hc [(3, .int 0), (0, .ref x0), (1, .ref x1), (2, .int x2)] dX9_derivative_8 rfl (Nat.le_of_ble_eq_true rfl) rfl ?_
  refine m_sub [1, 2, 3, 0] rfl ?_
  obtain ⟨nn, hw⟩ := hw
  exact l_X9_derivative_9 hc hr nn x0 x1 x2 0 S2 hw
def wb_X9_part_9 (M : Nat × Nat) (K9 : Nat → Nat → Int32 → Int32 → HS → Prop) (K : Option Nat → HS → Prop) (x0 x1 : Nat) (x2 x3 : Int32) (S : HS) : Prop := hT S x1 = 7 ∧ ((hI S x1 2) ≤ x3 → hT S x0 = 10 ∧ ∃ b1 : Nat, hP S x0 1 = some b1 ∧ hT S b1 = 7 ∧ wp_X6_kept M b1 S (fun r2 S2 => K r2 S2)) ∧ (¬ ((hI S x1 2) ≤ x3) → hT S x1 = 7 ∧ ∃ b3 : Nat, hP S x1 0 = some b3 ∧ hT S b3 = 21 ∧ vp_in x3 (hN S b3) ∧ wp_X6_degreeOf M (hI S b3 (Int32.toNatClampNeg x3)) S (fun r4 S4 => (¬ r4 = x2 → K9 x0 x1 x2 (x3 + 1) S4) ∧ (r4 = x2 → hT S4 x0 = 10 ∧ ∃ b5 : Nat, hP S4 x0 1 = some b5 ∧ hT S4 x1 = 7 ∧ ∃ b6 : Nat, hP S4 x1 0 = some b6 ∧ hT S4 b6 = 21 ∧ vp_in x3 (hN S4 b6) ∧ hT S4 x1 = 7 ∧ ∃ b7 : Nat, hP S4 x1 1 = some b7 ∧ hT S4 b7 = 21 ∧ vp_in x3 (hN S4 b7) ∧ hT S4 b5 = 7 ∧ wp_X6_push M b5 (hI S4 b6 (Int32.toNatClampNeg x3)) (hI S4 b7 (Int32.toNatClampNeg x3)) S4 (fun r8 S8 => K9 x0 x1 x2 (x3 + 1) S8))))
def wl_X9_part_9 (M : Nat × Nat) (K : Option Nat → HS → Prop) : Nat → Nat → Nat → Int32 → Int32 → HS → Prop
  | 0 => fun _ _ _ _ _ => False
  | nn + 1 => wb_X9_part_9 M (wl_X9_part_9 M K nn) K
set_option maxHeartbeats 4000000 in
set_option maxRecDepth 100000 in
theorem l_X9_part_9 {G : CG} {S0 : HS} {X : Fx} {K : Option Nat → HS → Prop} (hc : Cx X RX9 cX9_part 4) (hr : Cc G S0 3 (some (.object "StraightPolys$Poly")) (kR K) X) : ∀ (nn : Nat) (x0 x1 : Nat) (x2 x3 : Int32) (S : HS), wl_X9_part_9 (gC G, gS G) K nn x0 x1 x2 x3 S → MC G S0 X 4 S 9 [(0, .ref x0), (1, .ref x1), (2, .int x2), (3, .int x3)] [] := by
  intro nn
  induction nn with
  | zero => intro x0 x1 x2 x3 S hw; exact False.elim hw
  | succ nn ih =>
    intro x0 x1 x2 x3 S hw
    have hw : wb_X9_part_9 (gC G, gS G) (wl_X9_part_9 (gC G, gS G) K nn) K x0 x1 x2 x3 S := hw
    have h9 := ih
    generalize wl_X9_part_9 (gC G, gS G) K nn = K9 at hw h9
    unfold wb_X9_part_9 at hw
    refine m_iload_n hc 3 dX9_part_9 rfl rfl ?_
    refine m_aload_n hc 1 dX9_part_10 rfl rfl ?_
    obtain ⟨ht, hw⟩ := hw
    refine c_geti hc hr ciX6 (Nat.le_of_ble_eq_true rfl) 2 (Nat.le_of_ble_eq_true rfl) rfl dX9_part_11 lf_X9_60 ht ?_
    refine m_icmp_ge hc 55 dX9_part_14 rfl (fun cq => ?_) (fun cq => ?_)
    · have hw := hw.1 cq
      refine m_aload_n hc 0 dX9_part_55 rfl rfl ?_
      obtain ⟨ht, b1, e_b1, hw⟩ := hw
      refine c_getr hc hr ciX9 (Nat.le_of_ble_eq_true rfl) 1 (Nat.le_of_ble_eq_true rfl) rfl dX9_part_56 lf_X9_20 ht e_b1 ?_
      obtain ⟨ht, hw⟩ := hw
      refine c_callVq hc hr ciX6 (Nat.le_of_ble_eq_true rfl) ht mt_X6_kept rfl lm_X9_73 (ok_X6_kept hw) (Nat.le_of_ble_eq_true rfl) dX9_part_59 rfl (rest := []) rfl (Nat.le_of_ble_eq_true rfl) (fun r2 S2 hw => ?_)
      skip
      exact c_aret hc hr (r := r2) dX9_part_62 hw
    · have hw := hw.2 cq
      refine m_aload_n hc 1 dX9_part_17 rfl rfl ?_
      obtain ⟨ht, b3, e_b3, hw⟩ := hw
      refine c_getr hc hr ciX6 (Nat.le_of_ble_eq_true rfl) 0 (Nat.le_of_ble_eq_true rfl) rfl dX9_part_18 lf_X9_63 ht e_b3 ?_
      refine m_iload_n hc 3 dX9_part_21 rfl rfl ?_
      obtain ⟨ht, hi, hw⟩ := hw
      refine c_iald hc hr ht hi dX9_part_22 ?_
      refine c_callSi hc hr mt_X6_degreeOf lm_X9_118 (ok_X6_degreeOf hw) (Nat.le_of_ble_eq_true rfl) dX9_part_23 rfl (rest := []) rfl (Nat.le_of_ble_eq_true rfl) (fun r4 S4 hw => ?_)
      refine m_iload_n hc 2 dX9_part_26 rfl rfl ?_
      refine m_icmp_ne hc 49 dX9_part_27 rfl (fun cq => ?_) (fun cq => ?_)
      · have hw := hw.1 cq
        refine m_iinc hc 3 (x3 + 1) [(3, .int (x3 + 1)), (0, .ref x0), (1, .ref x1), (2, .int x2)] dX9_part_49 rfl rfl (Nat.le_of_ble_eq_true rfl) rfl ?_
        refine m_goto hc 9 dX9_part_52 rfl ?_
        refine m_sub [1, 2, 3, 0] rfl ?_
        exact h9 x0 x1 x2 (x3 + 1) S4 hw
      · have hw := hw.2 cq
        refine m_aload_n hc 0 dX9_part_30 rfl rfl ?_
        obtain ⟨ht, b5, e_b5, hw⟩ := hw
        refine c_getr hc hr ciX9 (Nat.le_of_ble_eq_true rfl) 1 (Nat.le_of_ble_eq_true rfl) rfl dX9_part_31 lf_X9_20 ht e_b5 ?_
        refine m_aload_n hc 1 dX9_part_34 rfl rfl ?_
        obtain ⟨ht, b6, e_b6, hw⟩ := hw
        refine c_getr hc hr ciX6 (Nat.le_of_ble_eq_true rfl) 0 (Nat.le_of_ble_eq_true rfl) rfl dX9_part_35 lf_X9_63 ht e_b6 ?_
        refine m_iload_n hc 3 dX9_part_38 rfl rfl ?_
        obtain ⟨ht, hi, hw⟩ := hw
        refine c_iald hc hr ht hi dX9_part_39 ?_
        refine m_aload_n hc 1 dX9_part_40 rfl rfl ?_
        obtain ⟨ht, b7, e_b7, hw⟩ := hw
        refine c_getr hc hr ciX6 (Nat.le_of_ble_eq_true rfl) 1 (Nat.le_of_ble_eq_true rfl) rfl dX9_part_41 lf_X9_66 ht e_b7 ?_
        refine m_iload_n hc 3 dX9_part_44 rfl rfl ?_
        obtain ⟨ht, hi, hw⟩ := hw
        refine c_iald hc hr ht hi dX9_part_45 ?_
        obtain ⟨ht, hw⟩ := hw
        refine c_callVv hc hr ciX6 (Nat.le_of_ble_eq_true rfl) ht mt_X6_push rfl lm_X9_69 (ok_X6_push hw) (Nat.le_of_ble_eq_true rfl) dX9_part_46 rfl (rest := []) rfl (Nat.le_of_ble_eq_true rfl) (fun S8 hw => ?_)
        refine m_iinc hc 3 (x3 + 1) [(3, .int (x3 + 1)), (0, .ref x0), (1, .ref x1), (2, .int x2)] dX9_part_49 rfl rfl (Nat.le_of_ble_eq_true rfl) rfl ?_
        refine m_goto hc 9 dX9_part_52 rfl ?_
        refine m_sub [1, 2, 3, 0] rfl ?_
        exact h9 x0 x1 x2 (x3 + 1) S8 hw
def wp_X9_part (M : Nat × Nat) (x0 x1 : Nat) (x2 : Int32) (S : HS) (K : Option Nat → HS → Prop) : Prop := hT S x0 = 10 ∧ ∃ b1 : Nat, hP S x0 1 = some b1 ∧ hT S b1 = 7 ∧ wp_X6_clear M b1 S (fun r2 S2 => ∃ nn : Nat, wl_X9_part_9 M K nn x0 x1 x2 0 S2)
set_option maxHeartbeats 4000000 in
set_option maxRecDepth 100000 in
theorem ok_X9_part {G : CG} {x0 : Nat} {x1 : Nat} {x2 : Int32} {S : HS} {K : Option Nat → HS → Prop} (hw : wp_X9_part (gC G, gS G) x0 x1 x2 S K) : CC 3 yX9_part cX9_part 4 (some (.object "StraightPolys$Poly")) [.ref x0, .ref x1, .int x2] G S (kR K) := by
  refine CC.of (by decide +kernel) (Nat.le_of_ble_eq_true rfl) (fun X hc hr hname => ?_)
  show MC G S X 4 S 0 [(0, .ref x0), (1, .ref x1), (2, .int x2)] []
  unfold wp_X9_part at hw
  refine m_aload_n hc 0 dX9_part_0 rfl rfl ?_
  obtain ⟨ht, b1, e_b1, hw⟩ := hw
  refine c_getr hc hr ciX9 (Nat.le_of_ble_eq_true rfl) 1 (Nat.le_of_ble_eq_true rfl) rfl dX9_part_1 lf_X9_20 ht e_b1 ?_
  obtain ⟨ht, hw⟩ := hw
  refine c_callVv hc hr ciX6 (Nat.le_of_ble_eq_true rfl) ht mt_X6_clear rfl lm_X9_57 (ok_X6_clear hw) (Nat.le_of_ble_eq_true rfl) dX9_part_4 rfl (rest := []) rfl (Nat.le_of_ble_eq_true rfl) (fun S2 hw => ?_)
  refine m_iconst hc 0 dX9_part_7 (by decide) ?_
  refine m_istore_n hc [(3, .int 0), (0, .ref x0), (1, .ref x1), (2, .int x2)] dX9_part_8 rfl (Nat.le_of_ble_eq_true rfl) rfl ?_
  refine m_sub [1, 2, 3, 0] rfl ?_
  obtain ⟨nn, hw⟩ := hw
  exact l_X9_part_9 hc hr nn x0 x1 x2 0 S2 hw
def wb_X9_reduced_57 (M : Nat × Nat) (K43 : Nat → Nat → Int32 → HS → Prop) (K57 : Nat → Nat → Int32 → Int32 → Int32 → HS → Prop) (K : Option Nat → HS → Prop) (x0 x1 : Nat) (x3 x4 x5 : Int32) (S : HS) : Prop := (3 ≤ x5 → hT S x0 = 10 ∧ ∃ b1 : Nat, hP S x0 3 = some b1 ∧ hT S b1 = 2 ∧ ∃ b2 : Nat, hP S b1 0 = some b2 ∧ hT S x0 = 10 ∧ ∃ b3 : Nat, hP S x0 3 = some b3 ∧ hT S b3 = 2 ∧ wp_X1_cellOf M b3 x4 S (fun r4 S4 => hT S4 b2 = 21 ∧ vp_in r4 (hN S4 b2) ∧ hT S4 x1 = 7 ∧ ∃ b5 : Nat, hP S4 x1 1 = some b5 ∧ hT S4 b5 = 21 ∧ vp_in x3 (hN S4 b5) ∧ hT S4 b2 = 21 ∧ vp_in r4 (hN S4 b2) ∧ K43 x0 x1 (x3 + 1) (sI S4 b2 (Int32.toNatClampNeg r4) ((hI S4 b2 (Int32.toNatClampNeg r4)) + (hI S4 b5 (Int32.toNatClampNeg x3)))))) ∧ (¬ (3 ≤ x5) → hT S x1 = 7 ∧ ∃ b6 : Nat, hP S x1 0 = some b6 ∧ hT S b6 = 21 ∧ vp_in x3 (hN S b6) ∧ wp_X6_exponent M (hI S b6 (Int32.toNatClampNeg x3)) x5 S (fun r7 S7 => hT S7 x0 = 10 ∧ wp_X9_reducedExponent M r7 (hI S7 x0 0) S7 (fun r8 S8 => wp_X6_unit M x5 S8 (fun r9 S9 => K57 x0 x1 x3 (x4 + (r8 * r9)) (x5 + 1) S9))))
def wl_X9_reduced_57 (M : Nat × Nat) (K43 : Nat → Nat → Int32 → HS → Prop) (K : Option Nat → HS → Prop) : Nat → Nat → Nat → Int32 → Int32 → Int32 → HS → Prop
  | 0 => fun _ _ _ _ _ _ => False
  | nn + 1 => wb_X9_reduced_57 M K43 (wl_X9_reduced_57 M K43 K nn) K
set_option maxHeartbeats 4000000 in
set_option maxRecDepth 100000 in
theorem l_X9_reduced_57 {G : CG} {S0 : HS} {X : Fx} {K : Option Nat → HS → Prop} (hc : Cx X RX9 cX9_reduced 6) (hr : Cc G S0 3 (some (.object "StraightPolys$Poly")) (kR K) X) (K43 : Nat → Nat → Int32 → HS → Prop) (h43 : ∀ (x0 x1 : Nat) (x3 : Int32) (S : HS), K43 x0 x1 x3 S → MC G S0 X 6 S 43 [(0, .ref x0), (1, .ref x1), (3, .int x3)] []) : ∀ (nn : Nat) (x0 x1 : Nat) (x3 x4 x5 : Int32) (S : HS), wl_X9_reduced_57 (gC G, gS G) K43 K nn x0 x1 x3 x4 x5 S → MC G S0 X 6 S 57 [(0, .ref x0), (1, .ref x1), (3, .int x3), (4, .int x4), (5, .int x5)] [] := by
  intro nn
  induction nn with
  | zero => intro x0 x1 x3 x4 x5 S hw; exact False.elim hw
  | succ nn ih =>
    intro x0 x1 x3 x4 x5 S hw
    have hw : wb_X9_reduced_57 (gC G, gS G) K43 (wl_X9_reduced_57 (gC G, gS G) K43 K nn) K x0 x1 x3 x4 x5 S := hw
    have h57 := ih
    generalize wl_X9_reduced_57 (gC G, gS G) K43 K nn = K57 at hw h57
    unfold wb_X9_reduced_57 at hw
    refine m_iload hc 4 dX9_reduced_57 rfl ?_
    refine m_iconst hc 3 dX9_reduced_59 (by decide) ?_
    refine m_icmp_ge hc 98 dX9_reduced_60 rfl (fun cq => ?_) (fun cq => ?_)
    · have hw := hw.1 cq
      refine m_aload_n hc 0 dX9_reduced_98 rfl rfl ?_
      obtain ⟨ht, b1, e_b1, hw⟩ := hw
      refine c_getr hc hr ciX9 (Nat.le_of_ble_eq_true rfl) 3 (Nat.le_of_ble_eq_true rfl) rfl dX9_reduced_99 lf_X9_30 ht e_b1 ?_
      obtain ⟨ht, b2, e_b2, hw⟩ := hw
      refine c_getr hc hr ciX1 (Nat.le_of_ble_eq_true rfl) 0 (Nat.le_of_ble_eq_true rfl) rfl dX9_reduced_102 lf_X9_108 ht e_b2 ?_
      refine m_aload_n hc 0 dX9_reduced_105 rfl rfl ?_
      obtain ⟨ht, b3, e_b3, hw⟩ := hw
      refine c_getr hc hr ciX9 (Nat.le_of_ble_eq_true rfl) 3 (Nat.le_of_ble_eq_true rfl) rfl dX9_reduced_106 lf_X9_30 ht e_b3 ?_
      refine m_iload hc 3 dX9_reduced_109 rfl ?_
      obtain ⟨ht, hw⟩ := hw
      refine c_callVi hc hr ciX1 (Nat.le_of_ble_eq_true rfl) ht mt_X1_cellOf rfl lm_X9_93 (ok_X1_cellOf hw) (Nat.le_of_ble_eq_true rfl) dX9_reduced_111 rfl (rest := [.ref b2]) rfl (Nat.le_of_ble_eq_true rfl) (fun r4 S4 hw => ?_)
      refine m_dup2 hc dX9_reduced_114 rfl rfl ?_
      obtain ⟨ht, hi, hw⟩ := hw
      refine c_iald hc hr ht hi dX9_reduced_115 ?_
      refine m_aload_n hc 1 dX9_reduced_116 rfl rfl ?_
      obtain ⟨ht, b5, e_b5, hw⟩ := hw
      refine c_getr hc hr ciX6 (Nat.le_of_ble_eq_true rfl) 1 (Nat.le_of_ble_eq_true rfl) rfl dX9_reduced_117 lf_X9_66 ht e_b5 ?_
      refine m_iload_n hc 2 dX9_reduced_120 rfl rfl ?_
      obtain ⟨ht, hi, hw⟩ := hw
      refine c_iald hc hr ht hi dX9_reduced_121 ?_
      refine m_iadd hc dX9_reduced_122 ?_
      obtain ⟨ht, hi, hw⟩ := hw
      refine c_iast hc hr ht hi dX9_reduced_123 ?_
      refine m_iinc hc 2 (x3 + 1) [(3, .int (x3 + 1)), (0, .ref x0), (1, .ref x1), (4, .int x4), (5, .int x5)] dX9_reduced_124 rfl rfl (Nat.le_of_ble_eq_true rfl) rfl ?_
      refine m_goto hc 43 dX9_reduced_127 rfl ?_
      refine m_sub [1, 2, 0] rfl ?_
      exact h43 x0 x1 (x3 + 1) (sI S4 b2 (Int32.toNatClampNeg r4) ((hI S4 b2 (Int32.toNatClampNeg r4)) + (hI S4 b5 (Int32.toNatClampNeg x3)))) hw
    · have hw := hw.2 cq
      refine m_iload hc 3 dX9_reduced_63 rfl ?_
      refine m_aload_n hc 1 dX9_reduced_65 rfl rfl ?_
      obtain ⟨ht, b6, e_b6, hw⟩ := hw
      refine c_getr hc hr ciX6 (Nat.le_of_ble_eq_true rfl) 0 (Nat.le_of_ble_eq_true rfl) rfl dX9_reduced_66 lf_X9_63 ht e_b6 ?_
      refine m_iload_n hc 2 dX9_reduced_69 rfl rfl ?_
      obtain ⟨ht, hi, hw⟩ := hw
      refine c_iald hc hr ht hi dX9_reduced_70 ?_
      refine m_iload hc 4 dX9_reduced_71 rfl ?_
      refine c_callSi hc hr mt_X6_exponent lm_X9_111 (ok_X6_exponent hw) (Nat.le_of_ble_eq_true rfl) dX9_reduced_73 rfl (rest := [.int x4]) rfl (Nat.le_of_ble_eq_true rfl) (fun r7 S7 hw => ?_)
      refine m_aload_n hc 0 dX9_reduced_76 rfl rfl ?_
      obtain ⟨ht, hw⟩ := hw
      refine c_geti hc hr ciX9 (Nat.le_of_ble_eq_true rfl) 0 (Nat.le_of_ble_eq_true rfl) rfl dX9_reduced_77 lf_X9_9 ht ?_
      refine c_callSi hc hr mt_X9_reducedExponent lm_X9_129 (ok_X9_reducedExponent hw) (Nat.le_of_ble_eq_true rfl) dX9_reduced_80 rfl (rest := [.int x4]) rfl (Nat.le_of_ble_eq_true rfl) (fun r8 S8 hw => ?_)
      refine m_iload hc 4 dX9_reduced_83 rfl ?_
      refine c_callSi hc hr mt_X6_unit lm_X9_115 (ok_X6_unit hw) (Nat.le_of_ble_eq_true rfl) dX9_reduced_85 rfl (rest := [.int r8, .int x4]) rfl (Nat.le_of_ble_eq_true rfl) (fun r9 S9 hw => ?_)
      refine m_imul hc dX9_reduced_88 ?_
      refine m_iadd hc dX9_reduced_89 ?_
      refine m_istore hc [(4, .int (x4 + (r8 * r9))), (0, .ref x0), (1, .ref x1), (3, .int x3), (5, .int x5)] dX9_reduced_90 (Nat.le_of_ble_eq_true rfl) rfl ?_
      refine m_iinc hc 4 (x5 + 1) [(5, .int (x5 + 1)), (4, .int (x4 + (r8 * r9))), (0, .ref x0), (1, .ref x1), (3, .int x3)] dX9_reduced_92 rfl rfl (Nat.le_of_ble_eq_true rfl) rfl ?_
      refine m_goto hc 57 dX9_reduced_95 rfl ?_
      refine m_sub [2, 3, 4, 1, 0] rfl ?_
      exact h57 x0 x1 x3 (x4 + (r8 * r9)) (x5 + 1) S9 hw
def wb_X9_reduced_43 (M : Nat × Nat) (K43 : Nat → Nat → Int32 → HS → Prop) (K : Option Nat → HS → Prop) (x0 x1 : Nat) (x3 : Int32) (S : HS) : Prop := hT S x1 = 7 ∧ ((hI S x1 2) ≤ x3 → hT S x0 = 10 ∧ ∃ b1 : Nat, hP S x0 3 = some b1 ∧ hT S x0 = 10 ∧ ∃ b2 : Nat, hP S x0 1 = some b2 ∧ hT S x0 = 10 ∧ hT S b1 = 2 ∧ wp_X1_readInto M b1 b2 (hI S x0 0) S (fun r3 S3 => hT S3 x0 = 10 ∧ ∃ b4 : Nat, hP S3 x0 1 = some b4 ∧ hT S3 b4 = 7 ∧ wp_X6_kept M b4 S3 (fun r5 S5 => K r5 S5))) ∧ (¬ ((hI S x1 2) ≤ x3) → ∃ nn : Nat, wl_X9_reduced_57 M K43 K nn x0 x1 x3 0 0 S)
def wl_X9_reduced_43 (M : Nat × Nat) (K : Option Nat → HS → Prop) : Nat → Nat → Nat → Int32 → HS → Prop
  | 0 => fun _ _ _ _ => False
  | nn + 1 => wb_X9_reduced_43 M (wl_X9_reduced_43 M K nn) K
set_option maxHeartbeats 4000000 in
set_option maxRecDepth 100000 in
theorem l_X9_reduced_43 {G : CG} {S0 : HS} {X : Fx} {K : Option Nat → HS → Prop} (hc : Cx X RX9 cX9_reduced 6) (hr : Cc G S0 3 (some (.object "StraightPolys$Poly")) (kR K) X) : ∀ (nn : Nat) (x0 x1 : Nat) (x3 : Int32) (S : HS), wl_X9_reduced_43 (gC G, gS G) K nn x0 x1 x3 S → MC G S0 X 6 S 43 [(0, .ref x0), (1, .ref x1), (3, .int x3)] [] := by
  intro nn
  induction nn with
  | zero => intro x0 x1 x3 S hw; exact False.elim hw
  | succ nn ih =>
    intro x0 x1 x3 S hw
    have hw : wb_X9_reduced_43 (gC G, gS G) (wl_X9_reduced_43 (gC G, gS G) K nn) K x0 x1 x3 S := hw
    have h43 := ih
    generalize wl_X9_reduced_43 (gC G, gS G) K nn = K43 at hw h43
    unfold wb_X9_reduced_43 at hw
    refine m_iload_n hc 2 dX9_reduced_43 rfl rfl ?_
    refine m_aload_n hc 1 dX9_reduced_44 rfl rfl ?_
    obtain ⟨ht, hw⟩ := hw
    refine c_geti hc hr ciX6 (Nat.le_of_ble_eq_true rfl) 2 (Nat.le_of_ble_eq_true rfl) rfl dX9_reduced_45 lf_X9_60 ht ?_
    refine m_icmp_ge hc 130 dX9_reduced_48 rfl (fun cq => ?_) (fun cq => ?_)
    · have hw := hw.1 cq
      refine m_aload_n hc 0 dX9_reduced_130 rfl rfl ?_
      obtain ⟨ht, b1, e_b1, hw⟩ := hw
      refine c_getr hc hr ciX9 (Nat.le_of_ble_eq_true rfl) 3 (Nat.le_of_ble_eq_true rfl) rfl dX9_reduced_131 lf_X9_30 ht e_b1 ?_
      refine m_aload_n hc 0 dX9_reduced_134 rfl rfl ?_
      obtain ⟨ht, b2, e_b2, hw⟩ := hw
      refine c_getr hc hr ciX9 (Nat.le_of_ble_eq_true rfl) 1 (Nat.le_of_ble_eq_true rfl) rfl dX9_reduced_135 lf_X9_20 ht e_b2 ?_
      refine m_aload_n hc 0 dX9_reduced_138 rfl rfl ?_
      obtain ⟨ht, hw⟩ := hw
      refine c_geti hc hr ciX9 (Nat.le_of_ble_eq_true rfl) 0 (Nat.le_of_ble_eq_true rfl) rfl dX9_reduced_139 lf_X9_9 ht ?_
      obtain ⟨ht, hw⟩ := hw
      refine c_callVv hc hr ciX1 (Nat.le_of_ble_eq_true rfl) ht mt_X1_readInto rfl lm_X9_100 (ok_X1_readInto hw) (Nat.le_of_ble_eq_true rfl) dX9_reduced_142 rfl (rest := []) rfl (Nat.le_of_ble_eq_true rfl) (fun S3 hw => ?_)
      refine m_aload_n hc 0 dX9_reduced_145 rfl rfl ?_
      obtain ⟨ht, b4, e_b4, hw⟩ := hw
      refine c_getr hc hr ciX9 (Nat.le_of_ble_eq_true rfl) 1 (Nat.le_of_ble_eq_true rfl) rfl dX9_reduced_146 lf_X9_20 ht e_b4 ?_
      obtain ⟨ht, hw⟩ := hw
      refine c_callVq hc hr ciX6 (Nat.le_of_ble_eq_true rfl) ht mt_X6_kept rfl lm_X9_73 (ok_X6_kept hw) (Nat.le_of_ble_eq_true rfl) dX9_reduced_149 rfl (rest := []) rfl (Nat.le_of_ble_eq_true rfl) (fun r5 S5 hw => ?_)
      skip
      exact c_aret hc hr (r := r5) dX9_reduced_152 hw
    · have hw := hw.2 cq
      refine m_iconst hc 0 dX9_reduced_51 (by decide) ?_
      refine m_istore hc [(4, .int 0), (0, .ref x0), (1, .ref x1), (3, .int x3)] dX9_reduced_52 (Nat.le_of_ble_eq_true rfl) rfl ?_
      refine m_iconst hc 0 dX9_reduced_54 (by decide) ?_
      refine m_istore hc [(5, .int 0), (4, .int 0), (0, .ref x0), (1, .ref x1), (3, .int x3)] dX9_reduced_55 (Nat.le_of_ble_eq_true rfl) rfl ?_
      refine m_sub [2, 3, 4, 1, 0] rfl ?_
      obtain ⟨nn, hw⟩ := hw
      exact l_X9_reduced_57 hc hr K43 h43 nn x0 x1 x3 0 0 S hw
def wp_X9_reduced (M : Nat × Nat) (x0 x1 : Nat) (S : HS) (K : Option Nat → HS → Prop) : Prop := hT S x0 = 10 ∧ hT S x0 = 10 ∧ ∃ b1 : Nat, hP S x0 3 = some b1 ∧ hT S x1 = 7 ∧ wp_X6_roomIn M x1 0 S (fun r2 S2 => hT S2 x1 = 7 ∧ wp_X6_roomIn M x1 1 S2 (fun r3 S3 => hT S3 x1 = 7 ∧ wp_X6_roomIn M x1 2 S3 (fun r4 S4 => hT S4 b1 = 2 ∧ wp_X1_open M b1 (if r2 < (hI S x0 0) - 1 then r2 else (hI S x0 0) - 1) (if r3 < (hI S x0 0) - 1 then r3 else (hI S x0 0) - 1) (if r4 < (hI S x0 0) - 1 then r4 else (hI S x0 0) - 1) S4 (fun r5 S5 => ∃ nn : Nat, wl_X9_reduced_43 M K nn x0 x1 0 S5))))
set_option maxHeartbeats 4000000 in
set_option maxRecDepth 100000 in
theorem ok_X9_reduced {G : CG} {x0 : Nat} {x1 : Nat} {S : HS} {K : Option Nat → HS → Prop} (hw : wp_X9_reduced (gC G, gS G) x0 x1 S K) : CC 3 yX9_reduced cX9_reduced 6 (some (.object "StraightPolys$Poly")) [.ref x0, .ref x1] G S (kR K) := by
  refine CC.of (by decide +kernel) (Nat.le_of_ble_eq_true rfl) (fun X hc hr hname => ?_)
  show MC G S X 6 S 0 [(0, .ref x0), (1, .ref x1)] []
  unfold wp_X9_reduced at hw
  refine m_aload_n hc 0 dX9_reduced_0 rfl rfl ?_
  obtain ⟨ht, hw⟩ := hw
  refine c_geti hc hr ciX9 (Nat.le_of_ble_eq_true rfl) 0 (Nat.le_of_ble_eq_true rfl) rfl dX9_reduced_1 lf_X9_9 ht ?_
  refine m_iconst hc 1 dX9_reduced_4 (by decide) ?_
  refine m_isub hc dX9_reduced_5 ?_
  refine m_istore_n hc [(2, .int ((hI S x0 0) - 1)), (0, .ref x0), (1, .ref x1)] dX9_reduced_6 rfl (Nat.le_of_ble_eq_true rfl) rfl ?_
  refine m_aload_n hc 1 dX9_reduced_7 rfl rfl ?_
  obtain ⟨ht, b1, e_b1, hw⟩ := hw
  refine c_getr hc hr ciX9 (Nat.le_of_ble_eq_true rfl) 3 (Nat.le_of_ble_eq_true rfl) rfl dX9_reduced_8 lf_X9_30 ht e_b1 ?_
  refine m_iload_n hc 0 dX9_reduced_11 rfl rfl ?_
  refine m_aload_n hc 2 dX9_reduced_12 rfl rfl ?_
  refine m_iconst hc 0 dX9_reduced_13 (by decide) ?_
  obtain ⟨ht, hw⟩ := hw
  refine c_callVi hc hr ciX6 (Nat.le_of_ble_eq_true rfl) ht mt_X6_roomIn rfl lm_X9_121 (ok_X6_roomIn hw) (Nat.le_of_ble_eq_true rfl) dX9_reduced_14 rfl (rest := [.int ((hI S x0 0) - 1), .ref b1]) rfl (Nat.le_of_ble_eq_true rfl) (fun r2 S2 hw => ?_)
  refine c_bnd (fun g1 g2 => ?_)
  refine m_mmin hc dX9_reduced_17 lm_X9_124 lM_min (c_room hr g1 g2) (Nat.le_of_ble_eq_true rfl) ?_
  refine m_iload_n hc 0 dX9_reduced_20 rfl rfl ?_
  refine m_aload_n hc 2 dX9_reduced_21 rfl rfl ?_
  refine m_iconst hc 1 dX9_reduced_22 (by decide) ?_
  obtain ⟨ht, hw⟩ := hw
  refine c_callVi hc hr ciX6 (Nat.le_of_ble_eq_true rfl) ht mt_X6_roomIn rfl lm_X9_121 (ok_X6_roomIn hw) (Nat.le_of_ble_eq_true rfl) dX9_reduced_23 rfl (rest := [.int ((hI S x0 0) - 1), .int (if r2 < (hI S x0 0) - 1 then r2 else (hI S x0 0) - 1), .ref b1]) rfl (Nat.le_of_ble_eq_true rfl) (fun r3 S3 hw => ?_)
  refine c_bnd (fun g1 g2 => ?_)
  refine m_mmin hc dX9_reduced_26 lm_X9_124 lM_min (c_room hr g1 g2) (Nat.le_of_ble_eq_true rfl) ?_
  refine m_iload_n hc 0 dX9_reduced_29 rfl rfl ?_
  refine m_aload_n hc 2 dX9_reduced_30 rfl rfl ?_
  refine m_iconst hc 2 dX9_reduced_31 (by decide) ?_
  obtain ⟨ht, hw⟩ := hw
  refine c_callVi hc hr ciX6 (Nat.le_of_ble_eq_true rfl) ht mt_X6_roomIn rfl lm_X9_121 (ok_X6_roomIn hw) (Nat.le_of_ble_eq_true rfl) dX9_reduced_32 rfl (rest := [.int ((hI S x0 0) - 1), .int (if r3 < (hI S x0 0) - 1 then r3 else (hI S x0 0) - 1), .int (if r2 < (hI S x0 0) - 1 then r2 else (hI S x0 0) - 1), .ref b1]) rfl (Nat.le_of_ble_eq_true rfl) (fun r4 S4 hw => ?_)
  refine c_bnd (fun g1 g2 => ?_)
  refine m_mmin hc dX9_reduced_35 lm_X9_124 lM_min (c_room hr g1 g2) (Nat.le_of_ble_eq_true rfl) ?_
  obtain ⟨ht, hw⟩ := hw
  refine c_callVv hc hr ciX1 (Nat.le_of_ble_eq_true rfl) ht mt_X1_open rfl lm_X9_85 (ok_X1_open hw) (Nat.le_of_ble_eq_true rfl) dX9_reduced_38 rfl (rest := []) rfl (Nat.le_of_ble_eq_true rfl) (fun S5 hw => ?_)
  refine m_iconst hc 0 dX9_reduced_41 (by decide) ?_
  refine m_istore_n hc [(3, .int 0), (2, .int ((hI S x0 0) - 1)), (0, .ref x0), (1, .ref x1)] dX9_reduced_42 rfl (Nat.le_of_ble_eq_true rfl) rfl ?_
  refine m_sub [2, 3, 0] rfl ?_
  obtain ⟨nn, hw⟩ := hw
  exact l_X9_reduced_43 hc hr nn x0 x1 0 S5 hw
def wb_X9_turned_80 (M : Nat × Nat) (K65 : Nat → Nat → Int32 → Int32 → HS → Prop) (K80 : Nat → Nat → Int32 → Int32 → Int32 → Int32 → HS → Prop) (K : Option Nat → HS → Prop) (x0 x1 : Nat) (x2 x4 x5 x6 : Int32) (S : HS) : Prop := (3 ≤ x6 → hT S x0 = 10 ∧ ∃ b1 : Nat, hP S x0 3 = some b1 ∧ hT S b1 = 2 ∧ ∃ b2 : Nat, hP S b1 0 = some b2 ∧ hT S x0 = 10 ∧ ∃ b3 : Nat, hP S x0 3 = some b3 ∧ hT S b3 = 2 ∧ wp_X1_cellOf M b3 x5 S (fun r4 S4 => hT S4 x1 = 7 ∧ ∃ b5 : Nat, hP S4 x1 1 = some b5 ∧ hT S4 b5 = 21 ∧ vp_in x4 (hN S4 b5) ∧ hT S4 b2 = 21 ∧ vp_in r4 (hN S4 b2) ∧ K65 x0 x1 x2 (x4 + 1) (sI S4 b2 (Int32.toNatClampNeg r4) (hI S4 b5 (Int32.toNatClampNeg x4))))) ∧ (¬ (3 ≤ x6) → hT S x1 = 7 ∧ ∃ b6 : Nat, hP S x1 0 = some b6 ∧ hT S b6 = 21 ∧ vp_in x4 (hN S b6) ∧ wp_X6_exponent M (hI S b6 (Int32.toNatClampNeg x4)) x6 S (fun r7 S7 => vp_in ((x2 * 3) + x6) 18 ∧ wp_X6_unit M (([0, 1, 2, 0, 2, 1, 1, 0, 2, 1, 2, 0, 2, 0, 1, 2, 1, 0] : List Int32).getD (Int32.toNatClampNeg ((x2 * 3) + x6)) 0) S7 (fun r8 S8 => K80 x0 x1 x2 x4 (x5 + (r7 * r8)) (x6 + 1) S8)))
def wl_X9_turned_80 (M : Nat × Nat) (K65 : Nat → Nat → Int32 → Int32 → HS → Prop) (K : Option Nat → HS → Prop) : Nat → Nat → Nat → Int32 → Int32 → Int32 → Int32 → HS → Prop
  | 0 => fun _ _ _ _ _ _ _ => False
  | nn + 1 => wb_X9_turned_80 M K65 (wl_X9_turned_80 M K65 K nn) K
set_option maxHeartbeats 4000000 in
set_option maxRecDepth 100000 in
theorem l_X9_turned_80 {G : CG} {S0 : HS} {X : Fx} {K : Option Nat → HS → Prop} (hc : Cx X RX9 cX9_turned 7) (hr : Cc G S0 3 (some (.object "StraightPolys$Poly")) (kR K) X) (K65 : Nat → Nat → Int32 → Int32 → HS → Prop) (h65 : ∀ (x0 x1 : Nat) (x2 x4 : Int32) (S : HS), K65 x0 x1 x2 x4 S → MC G S0 X 7 S 65 [(0, .ref x0), (1, .ref x1), (2, .int x2), (4, .int x4)] []) : ∀ (nn : Nat) (x0 x1 : Nat) (x2 x4 x5 x6 : Int32) (S : HS), wl_X9_turned_80 (gC G, gS G) K65 K nn x0 x1 x2 x4 x5 x6 S → MC G S0 X 7 S 80 [(0, .ref x0), (1, .ref x1), (2, .int x2), (4, .int x4), (5, .int x5), (6, .int x6)] [] := by
  intro nn
  induction nn with
  | zero => intro x0 x1 x2 x4 x5 x6 S hw; exact False.elim hw
  | succ nn ih =>
    intro x0 x1 x2 x4 x5 x6 S hw
    have hw : wb_X9_turned_80 (gC G, gS G) K65 (wl_X9_turned_80 (gC G, gS G) K65 K nn) K x0 x1 x2 x4 x5 x6 S := hw
    have h80 := ih
    generalize wl_X9_turned_80 (gC G, gS G) K65 K nn = K80 at hw h80
    unfold wb_X9_turned_80 at hw
    refine m_iload hc 5 dX9_turned_80 rfl ?_
    refine m_iconst hc 3 dX9_turned_82 (by decide) ?_
    refine m_icmp_ge hc 123 dX9_turned_83 rfl (fun cq => ?_) (fun cq => ?_)
    · have hw := hw.1 cq
      refine m_aload_n hc 0 dX9_turned_123 rfl rfl ?_
      obtain ⟨ht, b1, e_b1, hw⟩ := hw
      refine c_getr hc hr ciX9 (Nat.le_of_ble_eq_true rfl) 3 (Nat.le_of_ble_eq_true rfl) rfl dX9_turned_124 lf_X9_30 ht e_b1 ?_
      obtain ⟨ht, b2, e_b2, hw⟩ := hw
      refine c_getr hc hr ciX1 (Nat.le_of_ble_eq_true rfl) 0 (Nat.le_of_ble_eq_true rfl) rfl dX9_turned_127 lf_X9_108 ht e_b2 ?_
      refine m_aload_n hc 0 dX9_turned_130 rfl rfl ?_
      obtain ⟨ht, b3, e_b3, hw⟩ := hw
      refine c_getr hc hr ciX9 (Nat.le_of_ble_eq_true rfl) 3 (Nat.le_of_ble_eq_true rfl) rfl dX9_turned_131 lf_X9_30 ht e_b3 ?_
      refine m_iload hc 4 dX9_turned_134 rfl ?_
      obtain ⟨ht, hw⟩ := hw
      refine c_callVi hc hr ciX1 (Nat.le_of_ble_eq_true rfl) ht mt_X1_cellOf rfl lm_X9_93 (ok_X1_cellOf hw) (Nat.le_of_ble_eq_true rfl) dX9_turned_136 rfl (rest := [.ref b2]) rfl (Nat.le_of_ble_eq_true rfl) (fun r4 S4 hw => ?_)
      refine m_aload_n hc 1 dX9_turned_139 rfl rfl ?_
      obtain ⟨ht, b5, e_b5, hw⟩ := hw
      refine c_getr hc hr ciX6 (Nat.le_of_ble_eq_true rfl) 1 (Nat.le_of_ble_eq_true rfl) rfl dX9_turned_140 lf_X9_66 ht e_b5 ?_
      refine m_iload hc 3 dX9_turned_143 rfl ?_
      obtain ⟨ht, hi, hw⟩ := hw
      refine c_iald hc hr ht hi dX9_turned_145 ?_
      obtain ⟨ht, hi, hw⟩ := hw
      refine c_iast hc hr ht hi dX9_turned_146 ?_
      refine m_iinc hc 3 (x4 + 1) [(4, .int (x4 + 1)), (0, .ref x0), (1, .ref x1), (2, .int x2), (5, .int x5), (6, .int x6)] dX9_turned_147 rfl rfl (Nat.le_of_ble_eq_true rfl) rfl ?_
      refine m_goto hc 65 dX9_turned_150 rfl ?_
      refine m_sub [1, 2, 3, 0] rfl ?_
      exact h65 x0 x1 x2 (x4 + 1) (sI S4 b2 (Int32.toNatClampNeg r4) (hI S4 b5 (Int32.toNatClampNeg x4))) hw
    · have hw := hw.2 cq
      refine m_iload hc 4 dX9_turned_86 rfl ?_
      refine m_aload_n hc 1 dX9_turned_88 rfl rfl ?_
      obtain ⟨ht, b6, e_b6, hw⟩ := hw
      refine c_getr hc hr ciX6 (Nat.le_of_ble_eq_true rfl) 0 (Nat.le_of_ble_eq_true rfl) rfl dX9_turned_89 lf_X9_63 ht e_b6 ?_
      refine m_iload hc 3 dX9_turned_92 rfl ?_
      obtain ⟨ht, hi, hw⟩ := hw
      refine c_iald hc hr ht hi dX9_turned_94 ?_
      refine m_iload hc 5 dX9_turned_95 rfl ?_
      refine c_callSi hc hr mt_X6_exponent lm_X9_111 (ok_X6_exponent hw) (Nat.le_of_ble_eq_true rfl) dX9_turned_97 rfl (rest := [.int x5]) rfl (Nat.le_of_ble_eq_true rfl) (fun r7 S7 hw => ?_)
      refine c_getu hc hr dX9_turned_100 lf_X9_132 ?_
      refine m_iload_n hc 2 dX9_turned_103 rfl rfl ?_
      refine m_iconst hc 3 dX9_turned_104 (by decide) ?_
      refine m_imul hc dX9_turned_105 ?_
      refine m_iload hc 5 dX9_turned_106 rfl ?_
      refine m_iadd hc dX9_turned_108 ?_
      obtain ⟨hi, hw⟩ := hw
      refine c_uald hc hr hi dX9_turned_109 ?_
      refine c_callSi hc hr mt_X6_unit lm_X9_115 (ok_X6_unit hw) (Nat.le_of_ble_eq_true rfl) dX9_turned_110 rfl (rest := [.int r7, .int x5]) rfl (Nat.le_of_ble_eq_true rfl) (fun r8 S8 hw => ?_)
      refine m_imul hc dX9_turned_113 ?_
      refine m_iadd hc dX9_turned_114 ?_
      refine m_istore hc [(5, .int (x5 + (r7 * r8))), (0, .ref x0), (1, .ref x1), (2, .int x2), (4, .int x4), (6, .int x6)] dX9_turned_115 (Nat.le_of_ble_eq_true rfl) rfl ?_
      refine m_iinc hc 5 (x6 + 1) [(6, .int (x6 + 1)), (5, .int (x5 + (r7 * r8))), (0, .ref x0), (1, .ref x1), (2, .int x2), (4, .int x4)] dX9_turned_117 rfl rfl (Nat.le_of_ble_eq_true rfl) rfl ?_
      refine m_goto hc 80 dX9_turned_120 rfl ?_
      refine m_sub [2, 3, 4, 5, 1, 0] rfl ?_
      exact h80 x0 x1 x2 x4 (x5 + (r7 * r8)) (x6 + 1) S8 hw
def wb_X9_turned_65 (M : Nat × Nat) (K65 : Nat → Nat → Int32 → Int32 → HS → Prop) (K : Option Nat → HS → Prop) (x0 x1 : Nat) (x2 x4 : Int32) (S : HS) : Prop := hT S x1 = 7 ∧ ((hI S x1 2) ≤ x4 → hT S x0 = 10 ∧ ∃ b1 : Nat, hP S x0 3 = some b1 ∧ hT S x0 = 10 ∧ ∃ b2 : Nat, hP S x0 1 = some b2 ∧ hT S x0 = 10 ∧ hT S b1 = 2 ∧ wp_X1_readInto M b1 b2 (hI S x0 0) S (fun r3 S3 => hT S3 x0 = 10 ∧ ∃ b4 : Nat, hP S3 x0 1 = some b4 ∧ hT S3 b4 = 7 ∧ wp_X6_kept M b4 S3 (fun r5 S5 => K r5 S5))) ∧ (¬ ((hI S x1 2) ≤ x4) → ∃ nn : Nat, wl_X9_turned_80 M K65 K nn x0 x1 x2 x4 0 0 S)
def wl_X9_turned_65 (M : Nat × Nat) (K : Option Nat → HS → Prop) : Nat → Nat → Nat → Int32 → Int32 → HS → Prop
  | 0 => fun _ _ _ _ _ => False
  | nn + 1 => wb_X9_turned_65 M (wl_X9_turned_65 M K nn) K
set_option maxHeartbeats 4000000 in
set_option maxRecDepth 100000 in
theorem l_X9_turned_65 {G : CG} {S0 : HS} {X : Fx} {K : Option Nat → HS → Prop} (hc : Cx X RX9 cX9_turned 7) (hr : Cc G S0 3 (some (.object "StraightPolys$Poly")) (kR K) X) : ∀ (nn : Nat) (x0 x1 : Nat) (x2 x4 : Int32) (S : HS), wl_X9_turned_65 (gC G, gS G) K nn x0 x1 x2 x4 S → MC G S0 X 7 S 65 [(0, .ref x0), (1, .ref x1), (2, .int x2), (4, .int x4)] [] := by
  intro nn
  induction nn with
  | zero => intro x0 x1 x2 x4 S hw; exact False.elim hw
  | succ nn ih =>
    intro x0 x1 x2 x4 S hw
    have hw : wb_X9_turned_65 (gC G, gS G) (wl_X9_turned_65 (gC G, gS G) K nn) K x0 x1 x2 x4 S := hw
    have h65 := ih
    generalize wl_X9_turned_65 (gC G, gS G) K nn = K65 at hw h65
    unfold wb_X9_turned_65 at hw
    refine m_iload hc 3 dX9_turned_65 rfl ?_
    refine m_aload_n hc 1 dX9_turned_67 rfl rfl ?_
    obtain ⟨ht, hw⟩ := hw
    refine c_geti hc hr ciX6 (Nat.le_of_ble_eq_true rfl) 2 (Nat.le_of_ble_eq_true rfl) rfl dX9_turned_68 lf_X9_60 ht ?_
    refine m_icmp_ge hc 153 dX9_turned_71 rfl (fun cq => ?_) (fun cq => ?_)
    · have hw := hw.1 cq
      refine m_aload_n hc 0 dX9_turned_153 rfl rfl ?_
      obtain ⟨ht, b1, e_b1, hw⟩ := hw
      refine c_getr hc hr ciX9 (Nat.le_of_ble_eq_true rfl) 3 (Nat.le_of_ble_eq_true rfl) rfl dX9_turned_154 lf_X9_30 ht e_b1 ?_
      refine m_aload_n hc 0 dX9_turned_157 rfl rfl ?_
      obtain ⟨ht, b2, e_b2, hw⟩ := hw
      refine c_getr hc hr ciX9 (Nat.le_of_ble_eq_true rfl) 1 (Nat.le_of_ble_eq_true rfl) rfl dX9_turned_158 lf_X9_20 ht e_b2 ?_
      refine m_aload_n hc 0 dX9_turned_161 rfl rfl ?_
      obtain ⟨ht, hw⟩ := hw
      refine c_geti hc hr ciX9 (Nat.le_of_ble_eq_true rfl) 0 (Nat.le_of_ble_eq_true rfl) rfl dX9_turned_162 lf_X9_9 ht ?_
      obtain ⟨ht, hw⟩ := hw
      refine c_callVv hc hr ciX1 (Nat.le_of_ble_eq_true rfl) ht mt_X1_readInto rfl lm_X9_100 (ok_X1_readInto hw) (Nat.le_of_ble_eq_true rfl) dX9_turned_165 rfl (rest := []) rfl (Nat.le_of_ble_eq_true rfl) (fun S3 hw => ?_)
      refine m_aload_n hc 0 dX9_turned_168 rfl rfl ?_
      obtain ⟨ht, b4, e_b4, hw⟩ := hw
      refine c_getr hc hr ciX9 (Nat.le_of_ble_eq_true rfl) 1 (Nat.le_of_ble_eq_true rfl) rfl dX9_turned_169 lf_X9_20 ht e_b4 ?_
      obtain ⟨ht, hw⟩ := hw
      refine c_callVq hc hr ciX6 (Nat.le_of_ble_eq_true rfl) ht mt_X6_kept rfl lm_X9_73 (ok_X6_kept hw) (Nat.le_of_ble_eq_true rfl) dX9_turned_172 rfl (rest := []) rfl (Nat.le_of_ble_eq_true rfl) (fun r5 S5 hw => ?_)
      skip
      exact c_aret hc hr (r := r5) dX9_turned_175 hw
    · have hw := hw.2 cq
      refine m_iconst hc 0 dX9_turned_74 (by decide) ?_
      refine m_istore hc [(5, .int 0), (0, .ref x0), (1, .ref x1), (2, .int x2), (4, .int x4)] dX9_turned_75 (Nat.le_of_ble_eq_true rfl) rfl ?_
      refine m_iconst hc 0 dX9_turned_77 (by decide) ?_
      refine m_istore hc [(6, .int 0), (5, .int 0), (0, .ref x0), (1, .ref x1), (2, .int x2), (4, .int x4)] dX9_turned_78 (Nat.le_of_ble_eq_true rfl) rfl ?_
      refine m_sub [2, 3, 4, 5, 1, 0] rfl ?_
      obtain ⟨nn, hw⟩ := hw
      exact l_X9_turned_80 hc hr K65 h65 nn x0 x1 x2 x4 0 0 S hw
def wb_X9_turned_5 (M : Nat × Nat) (K5 : Nat → Nat → Int32 → Int32 → Int32 → HS → Prop) (K : Option Nat → HS → Prop) (x0 x1 : Nat) (x2 x3 x4 : Int32) (S : HS) : Prop := (3 ≤ x4 → hT S x0 = 10 ∧ ∃ b1 : Nat, hP S x0 3 = some b1 ∧ wp_X6_exponent M x3 0 S (fun r2 S2 => wp_X6_exponent M x3 1 S2 (fun r3 S3 => wp_X6_exponent M x3 2 S3 (fun r4 S4 => hT S4 b1 = 2 ∧ wp_X1_open M b1 r2 r3 r4 S4 (fun r5 S5 => ∃ nn : Nat, wl_X9_turned_65 M K nn x0 x1 x2 0 S5))))) ∧ (¬ (3 ≤ x4) → hT S x1 = 7 ∧ wp_X6_roomIn M x1 x4 S (fun r6 S6 => vp_in ((x2 * 3) + x4) 18 ∧ wp_X6_unit M (([0, 1, 2, 0, 2, 1, 1, 0, 2, 1, 2, 0, 2, 0, 1, 2, 1, 0] : List Int32).getD (Int32.toNatClampNeg ((x2 * 3) + x4)) 0) S6 (fun r7 S7 => K5 x0 x1 x2 (x3 + (r6 * r7)) (x4 + 1) S7)))
def wl_X9_turned_5 (M : Nat × Nat) (K : Option Nat → HS → Prop) : Nat → Nat → Nat → Int32 → Int32 → Int32 → HS → Prop
  | 0 => fun _ _ _ _ _ _ => False
  | nn + 1 => wb_X9_turned_5 M (wl_X9_turned_5 M K nn) K
set_option maxHeartbeats 4000000 in
set_option maxRecDepth 100000 in
theorem l_X9_turned_5 {G : CG} {S0 : HS} {X : Fx} {K : Option Nat → HS → Prop} (hc : Cx X RX9 cX9_turned 7) (hr : Cc G S0 3 (some (.object "StraightPolys$Poly")) (kR K) X) : ∀ (nn : Nat) (x0 x1 : Nat) (x2 x3 x4 : Int32) (S : HS), wl_X9_turned_5 (gC G, gS G) K nn x0 x1 x2 x3 x4 S → MC G S0 X 7 S 5 [(0, .ref x0), (1, .ref x1), (2, .int x2), (3, .int x3), (4, .int x4)] [] := by
  intro nn
  induction nn with
  | zero => intro x0 x1 x2 x3 x4 S hw; exact False.elim hw
  | succ nn ih =>
    intro x0 x1 x2 x3 x4 S hw
    have hw : wb_X9_turned_5 (gC G, gS G) (wl_X9_turned_5 (gC G, gS G) K nn) K x0 x1 x2 x3 x4 S := hw
    have h5 := ih
    generalize wl_X9_turned_5 (gC G, gS G) K nn = K5 at hw h5
    unfold wb_X9_turned_5 at hw
    refine m_iload hc 4 dX9_turned_5 rfl ?_
    refine m_iconst hc 3 dX9_turned_7 (by decide) ?_
    refine m_icmp_ge hc 40 dX9_turned_8 rfl (fun cq => ?_) (fun cq => ?_)
    · have hw := hw.1 cq
      refine m_aload_n hc 0 dX9_turned_40 rfl rfl ?_
      obtain ⟨ht, b1, e_b1, hw⟩ := hw
      refine c_getr hc hr ciX9 (Nat.le_of_ble_eq_true rfl) 3 (Nat.le_of_ble_eq_true rfl) rfl dX9_turned_41 lf_X9_30 ht e_b1 ?_
      refine m_iload_n hc 3 dX9_turned_44 rfl rfl ?_
      refine m_iconst hc 0 dX9_turned_45 (by decide) ?_
      refine c_callSi hc hr mt_X6_exponent lm_X9_111 (ok_X6_exponent hw) (Nat.le_of_ble_eq_true rfl) dX9_turned_46 rfl (rest := [.ref b1]) rfl (Nat.le_of_ble_eq_true rfl) (fun r2 S2 hw => ?_)
      refine m_iload_n hc 3 dX9_turned_49 rfl rfl ?_
      refine m_iconst hc 1 dX9_turned_50 (by decide) ?_
      refine c_callSi hc hr mt_X6_exponent lm_X9_111 (ok_X6_exponent hw) (Nat.le_of_ble_eq_true rfl) dX9_turned_51 rfl (rest := [.int r2, .ref b1]) rfl (Nat.le_of_ble_eq_true rfl) (fun r3 S3 hw => ?_)
      refine m_iload_n hc 3 dX9_turned_54 rfl rfl ?_
      refine m_iconst hc 2 dX9_turned_55 (by decide) ?_
      refine c_callSi hc hr mt_X6_exponent lm_X9_111 (ok_X6_exponent hw) (Nat.le_of_ble_eq_true rfl) dX9_turned_56 rfl (rest := [.int r3, .int r2, .ref b1]) rfl (Nat.le_of_ble_eq_true rfl) (fun r4 S4 hw => ?_)
      obtain ⟨ht, hw⟩ := hw
      refine c_callVv hc hr ciX1 (Nat.le_of_ble_eq_true rfl) ht mt_X1_open rfl lm_X9_85 (ok_X1_open hw) (Nat.le_of_ble_eq_true rfl) dX9_turned_59 rfl (rest := []) rfl (Nat.le_of_ble_eq_true rfl) (fun S5 hw => ?_)
      refine m_iconst hc 0 dX9_turned_62 (by decide) ?_
      refine m_istore hc [(4, .int 0), (0, .ref x0), (1, .ref x1), (2, .int x2), (3, .int x3)] dX9_turned_63 (Nat.le_of_ble_eq_true rfl) rfl ?_
      refine m_sub [1, 2, 3, 0] rfl ?_
      obtain ⟨nn, hw⟩ := hw
      exact l_X9_turned_65 hc hr nn x0 x1 x2 0 S5 hw
    · have hw := hw.2 cq
      refine m_iload_n hc 3 dX9_turned_11 rfl rfl ?_
      refine m_aload_n hc 1 dX9_turned_12 rfl rfl ?_
      refine m_iload hc 4 dX9_turned_13 rfl ?_
      obtain ⟨ht, hw⟩ := hw
      refine c_callVi hc hr ciX6 (Nat.le_of_ble_eq_true rfl) ht mt_X6_roomIn rfl lm_X9_121 (ok_X6_roomIn hw) (Nat.le_of_ble_eq_true rfl) dX9_turned_15 rfl (rest := [.int x3]) rfl (Nat.le_of_ble_eq_true rfl) (fun r6 S6 hw => ?_)
      refine c_getu hc hr dX9_turned_18 lf_X9_132 ?_
      refine m_iload_n hc 2 dX9_turned_21 rfl rfl ?_
      refine m_iconst hc 3 dX9_turned_22 (by decide) ?_
      refine m_imul hc dX9_turned_23 ?_
      refine m_iload hc 4 dX9_turned_24 rfl ?_
      refine m_iadd hc dX9_turned_26 ?_
      obtain ⟨hi, hw⟩ := hw
      refine c_uald hc hr hi dX9_turned_27 ?_
      refine c_callSi hc hr mt_X6_unit lm_X9_115 (ok_X6_unit hw) (Nat.le_of_ble_eq_true rfl) dX9_turned_28 rfl (rest := [.int r6, .int x3]) rfl (Nat.le_of_ble_eq_true rfl) (fun r7 S7 hw => ?_)
      refine m_imul hc dX9_turned_31 ?_
      refine m_iadd hc dX9_turned_32 ?_
      refine m_istore_n hc [(3, .int (x3 + (r6 * r7))), (0, .ref x0), (1, .ref x1), (2, .int x2), (4, .int x4)] dX9_turned_33 rfl (Nat.le_of_ble_eq_true rfl) rfl ?_
      refine m_iinc hc 4 (x4 + 1) [(4, .int (x4 + 1)), (3, .int (x3 + (r6 * r7))), (0, .ref x0), (1, .ref x1), (2, .int x2)] dX9_turned_34 rfl rfl (Nat.le_of_ble_eq_true rfl) rfl ?_
      refine m_goto hc 5 dX9_turned_37 rfl ?_
      refine m_sub [2, 3, 4, 1, 0] rfl ?_
      exact h5 x0 x1 x2 (x3 + (r6 * r7)) (x4 + 1) S7 hw
def wp_X9_turned (M : Nat × Nat) (x0 x1 : Nat) (x2 : Int32) (S : HS) (K : Option Nat → HS → Prop) : Prop := ∃ nn : Nat, wl_X9_turned_5 M K nn x0 x1 x2 0 0 S
set_option maxHeartbeats 4000000 in
set_option maxRecDepth 100000 in
theorem ok_X9_turned {G : CG} {x0 : Nat} {x1 : Nat} {x2 : Int32} {S : HS} {K : Option Nat → HS → Prop} (hw : wp_X9_turned (gC G, gS G) x0 x1 x2 S K) : CC 3 yX9_turned cX9_turned 7 (some (.object "StraightPolys$Poly")) [.ref x0, .ref x1, .int x2] G S (kR K) := by
  refine CC.of (by decide +kernel) (Nat.le_of_ble_eq_true rfl) (fun X hc hr hname => ?_)
  show MC G S X 7 S 0 [(0, .ref x0), (1, .ref x1), (2, .int x2)] []
  unfold wp_X9_turned at hw
  refine m_iconst hc 0 dX9_turned_0 (by decide) ?_
  refine m_istore_n hc [(3, .int 0), (0, .ref x0), (1, .ref x1), (2, .int x2)] dX9_turned_1 rfl (Nat.le_of_ble_eq_true rfl) rfl ?_
  refine m_iconst hc 0 dX9_turned_2 (by decide) ?_
  refine m_istore hc [(4, .int 0), (3, .int 0), (0, .ref x0), (1, .ref x1), (2, .int x2)] dX9_turned_3 (Nat.le_of_ble_eq_true rfl) rfl ?_
  refine m_sub [2, 3, 4, 1, 0] rfl ?_
  obtain ⟨nn, hw⟩ := hw
  exact l_X9_turned_5 hc hr nn x0 x1 x2 0 0 S hw
def wb_X9_addPut_23 (M : Nat × Nat) (K23 : Nat → Nat → Int32 → Int32 → Int32 → Int32 → HS → Prop) (K : Int32 → HS → Prop) (x0 x1 : Nat) (x2 x3 x4 x5 : Int32) (S : HS) : Prop := hT S x1 = 7 ∧ ((hI S x1 2) ≤ x5 → K 0 S) ∧ (¬ ((hI S x1 2) ≤ x5) → hT S x1 = 7 ∧ ∃ b1 : Nat, hP S x1 0 = some b1 ∧ hT S b1 = 21 ∧ vp_in x5 (hN S b1) ∧ wp_X6_exponent M (hI S b1 (Int32.toNatClampNeg x5)) x2 S (fun r2 S2 => (¬ r2 = x3 → K23 x0 x1 x2 x3 x4 (x5 + 1) S2) ∧ (r2 = x3 → hT S2 x0 = 10 ∧ ∃ b3 : Nat, hP S2 x0 4 = some b3 ∧ hT S2 x0 = 10 ∧ ∃ b4 : Nat, hP S2 x0 4 = some b4 ∧ hT S2 x1 = 7 ∧ ∃ b5 : Nat, hP S2 x1 0 = some b5 ∧ hT S2 b5 = 21 ∧ vp_in x5 (hN S2 b5) ∧ hT S2 b4 = 2 ∧ wp_X1_cellOf M b4 ((hI S2 b5 (Int32.toNatClampNeg x5)) - x4) S2 (fun r6 S6 => hT S6 x1 = 7 ∧ ∃ b7 : Nat, hP S6 x1 1 = some b7 ∧ hT S6 b7 = 21 ∧ vp_in x5 (hN S6 b7) ∧ hT S6 x0 = 10 ∧ ∃ b8 : Nat, hP S6 x0 2 = some b8 ∧ hT S6 x0 = 10 ∧ wp_X9_addTimes M x0 b3 r6 (hI S6 b7 (Int32.toNatClampNeg x5)) b8 S6 (fun r9 S9 => K23 x0 x1 x2 x3 x4 (x5 + 1) S9)))))
def wl_X9_addPut_23 (M : Nat × Nat) (K : Int32 → HS → Prop) : Nat → Nat → Nat → Int32 → Int32 → Int32 → Int32 → HS → Prop
  | 0 => fun _ _ _ _ _ _ _ => False
  | nn + 1 => wb_X9_addPut_23 M (wl_X9_addPut_23 M K nn) K
set_option maxHeartbeats 4000000 in
set_option maxRecDepth 100000 in
theorem l_X9_addPut_23 {G : CG} {S0 : HS} {X : Fx} {K : Int32 → HS → Prop} (hc : Cx X RX9 cX9_addPut 6) (hr : Cc G S0 3 none (kV K) X) : ∀ (nn : Nat) (x0 x1 : Nat) (x2 x3 x4 x5 : Int32) (S : HS), wl_X9_addPut_23 (gC G, gS G) K nn x0 x1 x2 x3 x4 x5 S → MC G S0 X 6 S 23 [(0, .ref x0), (1, .ref x1), (2, .int x2), (3, .int x3), (4, .int x4), (5, .int x5)] [] := by
  intro nn
  induction nn with
  | zero => intro x0 x1 x2 x3 x4 x5 S hw; exact False.elim hw
  | succ nn ih =>
    intro x0 x1 x2 x3 x4 x5 S hw
    have hw : wb_X9_addPut_23 (gC G, gS G) (wl_X9_addPut_23 (gC G, gS G) K nn) K x0 x1 x2 x3 x4 x5 S := hw
    have h23 := ih
    generalize wl_X9_addPut_23 (gC G, gS G) K nn = K23 at hw h23
    unfold wb_X9_addPut_23 at hw
    refine m_iload hc 5 dX9_addPut_23 rfl ?_
    refine m_aload_n hc 1 dX9_addPut_25 rfl rfl ?_
    obtain ⟨ht, hw⟩ := hw
    refine c_geti hc hr ciX6 (Nat.le_of_ble_eq_true rfl) 2 (Nat.le_of_ble_eq_true rfl) rfl dX9_addPut_26 lf_X9_60 ht ?_
    refine m_icmp_ge hc 89 dX9_addPut_29 rfl (fun cq => ?_) (fun cq => ?_)
    · have hw := hw.1 cq
      exact c_vret hc hr dX9_addPut_89 hw
    · have hw := hw.2 cq
      refine m_aload_n hc 1 dX9_addPut_32 rfl rfl ?_
      obtain ⟨ht, b1, e_b1, hw⟩ := hw
      refine c_getr hc hr ciX6 (Nat.le_of_ble_eq_true rfl) 0 (Nat.le_of_ble_eq_true rfl) rfl dX9_addPut_33 lf_X9_63 ht e_b1 ?_
      refine m_iload hc 5 dX9_addPut_36 rfl ?_
      obtain ⟨ht, hi, hw⟩ := hw
      refine c_iald hc hr ht hi dX9_addPut_38 ?_
      refine m_iload_n hc 2 dX9_addPut_39 rfl rfl ?_
      refine c_callSi hc hr mt_X6_exponent lm_X9_111 (ok_X6_exponent hw) (Nat.le_of_ble_eq_true rfl) dX9_addPut_40 rfl (rest := []) rfl (Nat.le_of_ble_eq_true rfl) (fun r2 S2 hw => ?_)
      refine m_iload_n hc 3 dX9_addPut_43 rfl rfl ?_
      refine m_icmp_ne hc 83 dX9_addPut_44 rfl (fun cq => ?_) (fun cq => ?_)
      · have hw := hw.1 cq
        refine m_iinc hc 5 (x5 + 1) [(5, .int (x5 + 1)), (0, .ref x0), (1, .ref x1), (2, .int x2), (3, .int x3), (4, .int x4)] dX9_addPut_83 rfl rfl (Nat.le_of_ble_eq_true rfl) rfl ?_
        refine m_goto hc 23 dX9_addPut_86 rfl ?_
        refine m_sub [1, 2, 3, 4, 5, 0] rfl ?_
        exact h23 x0 x1 x2 x3 x4 (x5 + 1) S2 hw
      · have hw := hw.2 cq
        refine m_aload_n hc 0 dX9_addPut_47 rfl rfl ?_
        refine m_aload_n hc 0 dX9_addPut_48 rfl rfl ?_
        obtain ⟨ht, b3, e_b3, hw⟩ := hw
        refine c_getr hc hr ciX9 (Nat.le_of_ble_eq_true rfl) 4 (Nat.le_of_ble_eq_true rfl) rfl dX9_addPut_49 lf_X9_34 ht e_b3 ?_
        refine m_aload_n hc 0 dX9_addPut_52 rfl rfl ?_
        obtain ⟨ht, b4, e_b4, hw⟩ := hw
        refine c_getr hc hr ciX9 (Nat.le_of_ble_eq_true rfl) 4 (Nat.le_of_ble_eq_true rfl) rfl dX9_addPut_53 lf_X9_34 ht e_b4 ?_
        refine m_aload_n hc 1 dX9_addPut_56 rfl rfl ?_
        obtain ⟨ht, b5, e_b5, hw⟩ := hw
        refine c_getr hc hr ciX6 (Nat.le_of_ble_eq_true rfl) 0 (Nat.le_of_ble_eq_true rfl) rfl dX9_addPut_57 lf_X9_63 ht e_b5 ?_
        refine m_iload hc 5 dX9_addPut_60 rfl ?_
        obtain ⟨ht, hi, hw⟩ := hw
        refine c_iald hc hr ht hi dX9_addPut_62 ?_
        refine m_iload hc 4 dX9_addPut_63 rfl ?_
        refine m_isub hc dX9_addPut_65 ?_
        obtain ⟨ht, hw⟩ := hw
        refine c_callVi hc hr ciX1 (Nat.le_of_ble_eq_true rfl) ht mt_X1_cellOf rfl lm_X9_93 (ok_X1_cellOf hw) (Nat.le_of_ble_eq_true rfl) dX9_addPut_66 rfl (rest := [.ref b3, .ref x0]) rfl (Nat.le_of_ble_eq_true rfl) (fun r6 S6 hw => ?_)
        refine m_aload_n hc 1 dX9_addPut_69 rfl rfl ?_
        obtain ⟨ht, b7, e_b7, hw⟩ := hw
        refine c_getr hc hr ciX6 (Nat.le_of_ble_eq_true rfl) 1 (Nat.le_of_ble_eq_true rfl) rfl dX9_addPut_70 lf_X9_66 ht e_b7 ?_
        refine m_iload hc 5 dX9_addPut_73 rfl ?_
        obtain ⟨ht, hi, hw⟩ := hw
        refine c_iald hc hr ht hi dX9_addPut_75 ?_
        refine m_aload_n hc 0 dX9_addPut_76 rfl rfl ?_
        obtain ⟨ht, b8, e_b8, hw⟩ := hw
        refine c_getr hc hr ciX9 (Nat.le_of_ble_eq_true rfl) 2 (Nat.le_of_ble_eq_true rfl) rfl dX9_addPut_77 lf_X9_24 ht e_b8 ?_
        obtain ⟨ht, hw⟩ := hw
        refine c_callVv hc hr ciX9 (Nat.le_of_ble_eq_true rfl) ht mt_X9_addTimes rfl lm_X9_96 (ok_X9_addTimes hw) (Nat.le_of_ble_eq_true rfl) dX9_addPut_80 rfl (rest := []) rfl (Nat.le_of_ble_eq_true rfl) (fun S9 hw => ?_)
        refine m_iinc hc 5 (x5 + 1) [(5, .int (x5 + 1)), (0, .ref x0), (1, .ref x1), (2, .int x2), (3, .int x3), (4, .int x4)] dX9_addPut_83 rfl rfl (Nat.le_of_ble_eq_true rfl) rfl ?_
        refine m_goto hc 23 dX9_addPut_86 rfl ?_
        refine m_sub [1, 2, 3, 4, 5, 0] rfl ?_
        exact h23 x0 x1 x2 x3 x4 (x5 + 1) S9 hw
def wp_X9_addPut (M : Nat × Nat) (x0 x1 : Nat) (x2 x3 : Int32) (S : HS) (K : Int32 → HS → Prop) : Prop := wp_X6_unit M x2 S (fun r1 S1 => hT S1 x0 = 10 ∧ ∃ b2 : Nat, hP S1 x0 2 = some b2 ∧ hT S1 x0 = 10 ∧ ∃ b3 : Nat, hP S1 x0 4 = some b3 ∧ hT S1 x0 = 10 ∧ wp_X9_findOffsets M x0 b2 b3 S1 (fun r4 S4 => ∃ nn : Nat, wl_X9_addPut_23 M K nn x0 x1 x2 x3 (x3 * r1) 0 S4))
set_option maxHeartbeats 4000000 in
set_option maxRecDepth 100000 in
theorem ok_X9_addPut {G : CG} {x0 : Nat} {x1 : Nat} {x2 : Int32} {x3 : Int32} {S : HS} {K : Int32 → HS → Prop} (hw : wp_X9_addPut (gC G, gS G) x0 x1 x2 x3 S K) : CC 3 yX9_addPut cX9_addPut 6 none [.ref x0, .ref x1, .int x2, .int x3] G S (kV K) := by
  refine CC.of (by decide +kernel) (Nat.le_of_ble_eq_true rfl) (fun X hc hr hname => ?_)
  show MC G S X 6 S 0 [(0, .ref x0), (1, .ref x1), (2, .int x2), (3, .int x3)] []
  unfold wp_X9_addPut at hw
  refine m_iload_n hc 3 dX9_addPut_0 rfl rfl ?_
  refine m_iload_n hc 2 dX9_addPut_1 rfl rfl ?_
  refine c_callSi hc hr mt_X6_unit lm_X9_115 (ok_X6_unit hw) (Nat.le_of_ble_eq_true rfl) dX9_addPut_2 rfl (rest := [.int x3]) rfl (Nat.le_of_ble_eq_true rfl) (fun r1 S1 hw => ?_)
  refine m_imul hc dX9_addPut_5 ?_
  refine m_istore hc [(4, .int (x3 * r1)), (0, .ref x0), (1, .ref x1), (2, .int x2), (3, .int x3)] dX9_addPut_6 (Nat.le_of_ble_eq_true rfl) rfl ?_
  refine m_aload_n hc 1 dX9_addPut_8 rfl rfl ?_
  refine m_aload_n hc 1 dX9_addPut_9 rfl rfl ?_
  obtain ⟨ht, b2, e_b2, hw⟩ := hw
  refine c_getr hc hr ciX9 (Nat.le_of_ble_eq_true rfl) 2 (Nat.le_of_ble_eq_true rfl) rfl dX9_addPut_10 lf_X9_24 ht e_b2 ?_
  refine m_aload_n hc 1 dX9_addPut_13 rfl rfl ?_
  obtain ⟨ht, b3, e_b3, hw⟩ := hw
  refine c_getr hc hr ciX9 (Nat.le_of_ble_eq_true rfl) 4 (Nat.le_of_ble_eq_true rfl) rfl dX9_addPut_14 lf_X9_34 ht e_b3 ?_
  obtain ⟨ht, hw⟩ := hw
  refine c_callVv hc hr ciX9 (Nat.le_of_ble_eq_true rfl) ht mt_X9_findOffsets rfl lm_X9_89 (ok_X9_findOffsets hw) (Nat.le_of_ble_eq_true rfl) dX9_addPut_17 rfl (rest := []) rfl (Nat.le_of_ble_eq_true rfl) (fun S4 hw => ?_)
  refine m_iconst hc 0 dX9_addPut_20 (by decide) ?_
  refine m_istore hc [(5, .int 0), (4, .int (x3 * r1)), (0, .ref x0), (1, .ref x1), (2, .int x2), (3, .int x3)] dX9_addPut_21 (Nat.le_of_ble_eq_true rfl) rfl ?_
  refine m_sub [2, 3, 4, 5, 1, 0] rfl ?_
  obtain ⟨nn, hw⟩ := hw
  exact l_X9_addPut_23 hc hr nn x0 x1 x2 x3 (x3 * r1) 0 S4 hw
def w_X9_putRoom_42 (M : Nat × Nat) (K13 : Nat → Int32 → Int32 → Int32 → Int32 → Int32 → HS → Prop) (K : Int32 → HS → Prop) (x0 : Nat) (x1 x3 x4 x5 x6 s0 : Int32) (S : HS) : Prop := hT S x0 = 7 ∧ ∃ b1 : Nat, hP S x0 0 = some b1 ∧ hT S b1 = 21 ∧ vp_in x6 (hN S b1) ∧ wp_X6_exponent M (hI S b1 (Int32.toNatClampNeg x6)) x1 S (fun r2 S2 => ∀ v3 : Int32, v3 = (if x5 < s0 + (x4 * r2) then s0 + (x4 * r2) else x5) → K13 x0 x1 x3 x4 v3 (x6 + 1) S2)
set_option maxHeartbeats 4000000 in
set_option maxRecDepth 100000 in
theorem b_X9_putRoom_42 {G : CG} {S0 : HS} {X : Fx} {K : Int32 → HS → Prop} (hc : Cx X RX9 cX9_putRoom 8) (hr : Cc G S0 3 (some .int) (kI K) X) (K13 : Nat → Int32 → Int32 → Int32 → Int32 → Int32 → HS → Prop) (h13 : ∀ (x0 : Nat) (x1 x3 x4 x5 x6 : Int32) (S : HS), K13 x0 x1 x3 x4 x5 x6 S → MC G S0 X 8 S 13 [(0, .ref x0), (1, .int x1), (3, .int x3), (4, .int x4), (5, .int x5), (6, .int x6)] []) : ∀ (x0 : Nat) (x1 x3 x4 x5 x6 s0 : Int32) (S : HS), w_X9_putRoom_42 (gC G, gS G) K13 K x0 x1 x3 x4 x5 x6 s0 S → MC G S0 X 8 S 42 [(0, .ref x0), (1, .int x1), (3, .int x3), (4, .int x4), (5, .int x5), (6, .int x6)] [.int s0] := by
  intro x0 x1 x3 x4 x5 x6 s0 S hw
  unfold w_X9_putRoom_42 at hw
  refine m_istore hc [(7, .int s0), (0, .ref x0), (1, .int x1), (3, .int x3), (4, .int x4), (5, .int x5), (6, .int x6)] dX9_putRoom_42 (Nat.le_of_ble_eq_true rfl) rfl ?_
  refine m_iload hc 5 dX9_putRoom_44 rfl ?_
  refine m_iload hc 0 dX9_putRoom_46 rfl ?_
  refine m_iload hc 4 dX9_putRoom_48 rfl ?_
  refine m_aload_n hc 1 dX9_putRoom_50 rfl rfl ?_
  obtain ⟨ht, b1, e_b1, hw⟩ := hw
  refine c_getr hc hr ciX6 (Nat.le_of_ble_eq_true rfl) 0 (Nat.le_of_ble_eq_true rfl) rfl dX9_putRoom_51 lf_X9_63 ht e_b1 ?_
  refine m_iload hc 6 dX9_putRoom_54 rfl ?_
  obtain ⟨ht, hi, hw⟩ := hw
  refine c_iald hc hr ht hi dX9_putRoom_56 ?_
  refine m_iload_n hc 2 dX9_putRoom_57 rfl rfl ?_
  refine c_callSi hc hr mt_X6_exponent lm_X9_111 (ok_X6_exponent hw) (Nat.le_of_ble_eq_true rfl) dX9_putRoom_58 rfl (rest := [.int x4, .int s0, .int x5]) rfl (Nat.le_of_ble_eq_true rfl) (fun r2 S2 hw => ?_)
  refine m_imul hc dX9_putRoom_61 ?_
  refine m_iadd hc dX9_putRoom_62 ?_
  refine c_bnd (fun g1 g2 => ?_)
  refine m_mmax hc dX9_putRoom_63 lm_X9_143 lM_max (c_room hr g1 g2) (Nat.le_of_ble_eq_true rfl) ?_
  refine m_topi (fun v3 e_v3 => ?_)
  have hw := hw v3 e_v3
  refine m_istore hc [(5, .int v3), (7, .int s0), (0, .ref x0), (1, .int x1), (3, .int x3), (4, .int x4), (6, .int x6)] dX9_putRoom_66 (Nat.le_of_ble_eq_true rfl) rfl ?_
  refine m_iinc hc 6 (x6 + 1) [(6, .int (x6 + 1)), (5, .int v3), (7, .int s0), (0, .ref x0), (1, .int x1), (3, .int x3), (4, .int x4)] dX9_putRoom_68 rfl rfl (Nat.le_of_ble_eq_true rfl) rfl ?_
  refine m_goto hc 13 dX9_putRoom_71 rfl ?_
  refine m_sub [3, 4, 5, 6, 1, 0] rfl ?_
  exact h13 x0 x1 x3 x4 v3 (x6 + 1) S2 hw
def wb_X9_putRoom_13 (M : Nat × Nat) (K13 : Nat → Int32 → Int32 → Int32 → Int32 → Int32 → HS → Prop) (K : Int32 → HS → Prop) (x0 : Nat) (x1 x3 x4 x5 x6 : Int32) (S : HS) : Prop := hT S x0 = 7 ∧ ((hI S x0 2) ≤ x6 → K x5 S) ∧ (¬ ((hI S x0 2) ≤ x6) → (¬ x3 = x1 → hT S x0 = 7 ∧ ∃ b1 : Nat, hP S x0 0 = some b1 ∧ hT S b1 = 21 ∧ vp_in x6 (hN S b1) ∧ wp_X6_exponent M (hI S b1 (Int32.toNatClampNeg x6)) x3 S (fun r2 S2 => w_X9_putRoom_42 M K13 K x0 x1 x3 x4 x5 x6 r2 S2)) ∧ (x3 = x1 → w_X9_putRoom_42 M K13 K x0 x1 x3 x4 x5 x6 0 S))
def wl_X9_putRoom_13 (M : Nat × Nat) (K : Int32 → HS → Prop) : Nat → Nat → Int32 → Int32 → Int32 → Int32 → Int32 → HS → Prop
  | 0 => fun _ _ _ _ _ _ _ => False
  | nn + 1 => wb_X9_putRoom_13 M (wl_X9_putRoom_13 M K nn) K
set_option maxHeartbeats 4000000 in
set_option maxRecDepth 100000 in
theorem l_X9_putRoom_13 {G : CG} {S0 : HS} {X : Fx} {K : Int32 → HS → Prop} (hc : Cx X RX9 cX9_putRoom 8) (hr : Cc G S0 3 (some .int) (kI K) X) : ∀ (nn : Nat) (x0 : Nat) (x1 x3 x4 x5 x6 : Int32) (S : HS), wl_X9_putRoom_13 (gC G, gS G) K nn x0 x1 x3 x4 x5 x6 S → MC G S0 X 8 S 13 [(0, .ref x0), (1, .int x1), (3, .int x3), (4, .int x4), (5, .int x5), (6, .int x6)] [] := by
  intro nn
  induction nn with
  | zero => intro x0 x1 x3 x4 x5 x6 S hw; exact False.elim hw
  | succ nn ih =>
    intro x0 x1 x3 x4 x5 x6 S hw
    have hw : wb_X9_putRoom_13 (gC G, gS G) (wl_X9_putRoom_13 (gC G, gS G) K nn) K x0 x1 x3 x4 x5 x6 S := hw
    have h13 := ih
    generalize wl_X9_putRoom_13 (gC G, gS G) K nn = K13 at hw h13
    unfold wb_X9_putRoom_13 at hw
    refine m_iload hc 5 dX9_putRoom_13 rfl ?_
    refine m_aload_n hc 0 dX9_putRoom_15 rfl rfl ?_
    obtain ⟨ht, hw⟩ := hw
    refine c_geti hc hr ciX6 (Nat.le_of_ble_eq_true rfl) 2 (Nat.le_of_ble_eq_true rfl) rfl dX9_putRoom_16 lf_X9_60 ht ?_
    refine m_icmp_ge hc 74 dX9_putRoom_19 rfl (fun cq => ?_) (fun cq => ?_)
    · have hw := hw.1 cq
      refine m_iload hc 4 dX9_putRoom_74 rfl ?_
      exact c_iret hc hr dX9_putRoom_76 hw
    · have hw := hw.2 cq
      refine m_iload_n hc 2 dX9_putRoom_22 rfl rfl ?_
      refine m_iload_n hc 1 dX9_putRoom_23 rfl rfl ?_
      refine m_icmp_ne hc 31 dX9_putRoom_24 rfl (fun cq => ?_) (fun cq => ?_)
      · have hw := hw.1 cq
        refine m_aload_n hc 0 dX9_putRoom_31 rfl rfl ?_
        obtain ⟨ht, b1, e_b1, hw⟩ := hw
        refine c_getr hc hr ciX6 (Nat.le_of_ble_eq_true rfl) 0 (Nat.le_of_ble_eq_true rfl) rfl dX9_putRoom_32 lf_X9_63 ht e_b1 ?_
        refine m_iload hc 5 dX9_putRoom_35 rfl ?_
        obtain ⟨ht, hi, hw⟩ := hw
        refine c_iald hc hr ht hi dX9_putRoom_37 ?_
        refine m_iload_n hc 2 dX9_putRoom_38 rfl rfl ?_
        refine c_callSi hc hr mt_X6_exponent lm_X9_111 (ok_X6_exponent hw) (Nat.le_of_ble_eq_true rfl) dX9_putRoom_39 rfl (rest := []) rfl (Nat.le_of_ble_eq_true rfl) (fun r2 S2 hw => ?_)
        exact b_X9_putRoom_42 hc hr K13 h13 x0 x1 x3 x4 x5 x6 r2 S2 hw
      · have hw := hw.2 cq
        refine m_iconst hc 0 dX9_putRoom_27 (by decide) ?_
        refine m_goto hc 42 dX9_putRoom_28 rfl ?_
        exact b_X9_putRoom_42 hc hr K13 h13 x0 x1 x3 x4 x5 x6 0 S hw
def wp_X9_putRoom (M : Nat × Nat) (x0 : Nat) (x1 : Int32) (x2 : Nat) (x3 : Int32) (S : HS) (K : Int32 → HS → Prop) : Prop := hT S x2 = 7 ∧ wp_X6_roomIn M x2 x3 S (fun r1 S1 => ∃ nn : Nat, wl_X9_putRoom_13 M K nn x0 x1 x3 r1 0 0 S1)
set_option maxHeartbeats 4000000 in
set_option maxRecDepth 100000 in
theorem ok_X9_putRoom {G : CG} {x0 : Nat} {x1 : Int32} {x2 : Nat} {x3 : Int32} {S : HS} {K : Int32 → HS → Prop} (hw : wp_X9_putRoom (gC G, gS G) x0 x1 x2 x3 S K) : CC 3 yX9_putRoom cX9_putRoom 8 (some .int) [.ref x0, .int x1, .ref x2, .int x3] G S (kI K) := by
  refine CC.of (by decide +kernel) (Nat.le_of_ble_eq_true rfl) (fun X hc hr hname => ?_)
  show MC G S X 8 S 0 [(0, .ref x0), (1, .int x1), (2, .ref x2), (3, .int x3)] []
  unfold wp_X9_putRoom at hw
  refine m_aload_n hc 2 dX9_putRoom_0 rfl rfl ?_
  refine m_iload_n hc 3 dX9_putRoom_1 rfl rfl ?_
  obtain ⟨ht, hw⟩ := hw
  refine c_callVi hc hr ciX6 (Nat.le_of_ble_eq_true rfl) ht mt_X6_roomIn rfl lm_X9_121 (ok_X6_roomIn hw) (Nat.le_of_ble_eq_true rfl) dX9_putRoom_2 rfl (rest := []) rfl (Nat.le_of_ble_eq_true rfl) (fun r1 S1 hw => ?_)
  refine m_istore hc [(4, .int r1), (0, .ref x0), (1, .int x1), (2, .ref x2), (3, .int x3)] dX9_putRoom_5 (Nat.le_of_ble_eq_true rfl) rfl ?_
  refine m_iconst hc 0 dX9_putRoom_7 (by decide) ?_
  refine m_istore hc [(5, .int 0), (4, .int r1), (0, .ref x0), (1, .int x1), (2, .ref x2), (3, .int x3)] dX9_putRoom_8 (Nat.le_of_ble_eq_true rfl) rfl ?_
  refine m_iconst hc 0 dX9_putRoom_10 (by decide) ?_
  refine m_istore hc [(6, .int 0), (5, .int 0), (4, .int r1), (0, .ref x0), (1, .int x1), (2, .ref x2), (3, .int x3)] dX9_putRoom_11 (Nat.le_of_ble_eq_true rfl) rfl ?_
  refine m_sub [3, 4, 6, 2, 1, 0] rfl ?_
  obtain ⟨nn, hw⟩ := hw
  exact l_X9_putRoom_13 hc hr nn x0 x1 x3 r1 0 0 S1 hw
