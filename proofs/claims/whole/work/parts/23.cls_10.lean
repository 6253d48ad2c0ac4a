def wp_X10_init (M : Nat × Nat) (x0 : Nat) (S : HS) (K : Int32 → HS → Prop) : Prop := hT S x0 = 11 ∧ ¬ (5400 : Int32) < 0 ∧ (Int32.toNatClampNeg 5400) ≤ 100000000 ∧ hX (sI S x0 0 0) + 1 ≤ M.1 ∧ hS (sI S x0 0 0) + (Int32.toNatClampNeg 5400) ≤ M.2 ∧ ∀ (b1 : Nat) (S1 : HS), b1 = hX (sI S x0 0 0) → S1 = nO (sI S x0 0 0) 22 (Int32.toNatClampNeg 5400) → hT S1 x0 = 11 ∧ K 0 (sP S1 x0 1 (some b1))
set_option maxHeartbeats 4000000 in
set_option maxRecDepth 100000 in
theorem ok_X10_init {G : CG} {x0 : Nat} {S : HS} {K : Int32 → HS → Prop} (hw : wp_X10_init (gC G, gS G) x0 S K) : CC 1 yX10_init cX10_init 1 none [.ref x0] G S (kV K) := by
  refine CC.of (by decide +kernel) (Nat.le_of_ble_eq_true rfl) (fun X hc hr hname => ?_)
  have hnm : Ci X := hname
  show MC G S X 1 S 0 [(0, .ref x0)] []
  unfold wp_X10_init at hw
  refine m_aload_n hc 0 dX10_init_0 rfl rfl ?_
  refine c_bnd (fun g1 g2 => ?_)
  refine q_objinit hc dX10_init_1 lm_X10_3 lObj (c_room hr g1 g2) (Nat.le_of_ble_eq_true rfl) ?_
  refine m_aload_n hc 0 dX10_init_4 rfl rfl ?_
  refine m_iconst hc 0 dX10_init_5 (by decide) ?_
  obtain ⟨ht, hw⟩ := hw
  refine c_puti hc hr ciX10 (Nat.le_of_ble_eq_true rfl) 0 (Nat.le_of_ble_eq_true rfl) rfl dX10_init_6 lf_X10_9 ht (Or.inl rfl) ⟨rfl, rfl⟩ ?_
  refine m_aload_n hc 0 dX10_init_9 rfl rfl ?_
  refine m_sipush hc 5400 dX10_init_10 (by decide) ?_
  obtain ⟨hn0, hn1, hm, hm2, hw⟩ := hw
  refine n_newb hc hr dX10_init_13 laB hn0 hn1 hm hm2 (fun b1 S1 e_b1 e_S1 => ?_)
  have hw := hw b1 S1 e_b1 e_S1
  obtain ⟨ht, hw⟩ := hw
  refine c_putr hc hr ciX10 (Nat.le_of_ble_eq_true rfl) 1 (Nat.le_of_ble_eq_true rfl) rfl dX10_init_15 lf_X10_15 ht (Or.inr ⟨rfl, hnm, rfl⟩) (Or.inr ⟨_, rfl⟩) ?_
  exact c_vret hc hr dX10_init_18 hw
def wp_X10_writeByte (M : Nat × Nat) (x0 : Nat) (x1 : Int32) (S : HS) (K : Int32 → HS → Prop) : Prop := hT S x0 = 11 ∧ hT S x0 = 11 ∧ ∃ b1 : Nat, hP S x0 1 = some b1 ∧ (hT S b1 = 21 ∨ hT S b1 = 22 ∨ hT S b1 = 23) ∧ ((Int32.ofNat (hN S b1)) ≤ (hI S x0 0) → K 0 S) ∧ (¬ ((Int32.ofNat (hN S b1)) ≤ (hI S x0 0)) → hT S x0 = 11 ∧ ∃ b2 : Nat, hP S x0 1 = some b2 ∧ hT S x0 = 11 ∧ hT S b2 = 22 ∧ vp_in (hI S x0 0) (hN S b2) ∧ hT (sI S b2 (Int32.toNatClampNeg (hI S x0 0)) (vp_nar .byte (Int8.toInt32 (Int32.toInt8 x1)))) x0 = 11 ∧ hT (sI S b2 (Int32.toNatClampNeg (hI S x0 0)) (vp_nar .byte (Int8.toInt32 (Int32.toInt8 x1)))) x0 = 11 ∧ K 0 (sI (sI S b2 (Int32.toNatClampNeg (hI S x0 0)) (vp_nar .byte (Int8.toInt32 (Int32.toInt8 x1)))) x0 0 ((hI (sI S b2 (Int32.toNatClampNeg (hI S x0 0)) (vp_nar .byte (Int8.toInt32 (Int32.toInt8 x1)))) x0 0) + 1)))
set_option maxHeartbeats 4000000 in
set_option maxRecDepth 100000 in
theorem ok_X10_writeByte {G : CG} {x0 : Nat} {x1 : Int32} {S : HS} {K : Int32 → HS → Prop} (hw : wp_X10_writeByte (gC G, gS G) x0 x1 S K) : CC 0 yX10_writeByte cX10_writeByte 2 none [.ref x0, .int x1] G S (kV K) := by
  refine CC.of (by decide +kernel) (Nat.le_of_ble_eq_true rfl) (fun X hc hr hname => ?_)
  show MC G S X 2 S 0 [(0, .ref x0), (1, .int x1)] []
  unfold wp_X10_writeByte at hw
  refine m_aload_n hc 0 dX10_writeByte_0 rfl rfl ?_
  obtain ⟨ht, hw⟩ := hw
  refine c_geti hc hr ciX10 (Nat.le_of_ble_eq_true rfl) 0 (Nat.le_of_ble_eq_true rfl) rfl dX10_writeByte_1 lf_X10_9 ht ?_
  refine m_aload_n hc 0 dX10_writeByte_4 rfl rfl ?_
  obtain ⟨ht, b1, e_b1, hw⟩ := hw
  refine c_getr hc hr ciX10 (Nat.le_of_ble_eq_true rfl) 1 (Nat.le_of_ble_eq_true rfl) rfl dX10_writeByte_5 lf_X10_15 ht e_b1 ?_
  obtain ⟨ht, hw⟩ := hw
  refine c_alen hc hr ht dX10_writeByte_8 ?_
  refine m_icmp_ge hc 33 dX10_writeByte_9 rfl (fun cq => ?_) (fun cq => ?_)
  · have hw := hw.1 cq
    exact c_vret hc hr dX10_writeByte_33 hw
  · have hw := hw.2 cq
    refine m_aload_n hc 0 dX10_writeByte_12 rfl rfl ?_
    obtain ⟨ht, b2, e_b2, hw⟩ := hw
    refine c_getr hc hr ciX10 (Nat.le_of_ble_eq_true rfl) 1 (Nat.le_of_ble_eq_true rfl) rfl dX10_writeByte_13 lf_X10_15 ht e_b2 ?_
    refine m_aload_n hc 0 dX10_writeByte_16 rfl rfl ?_
    obtain ⟨ht, hw⟩ := hw
    refine c_geti hc hr ciX10 (Nat.le_of_ble_eq_true rfl) 0 (Nat.le_of_ble_eq_true rfl) rfl dX10_writeByte_17 lf_X10_9 ht ?_
    refine m_iload_n hc 1 dX10_writeByte_20 rfl rfl ?_
    refine m_i2b hc dX10_writeByte_21 ?_
    obtain ⟨ht, hi, hw⟩ := hw
    refine c_bast hc hr ht hi dX10_writeByte_22 ?_
    refine m_aload_n hc 0 dX10_writeByte_23 rfl rfl ?_
    refine m_dup hc dX10_writeByte_24 rfl ?_
    obtain ⟨ht, hw⟩ := hw
    refine c_geti hc hr ciX10 (Nat.le_of_ble_eq_true rfl) 0 (Nat.le_of_ble_eq_true rfl) rfl dX10_writeByte_25 lf_X10_9 ht ?_
    refine m_iconst hc 1 dX10_writeByte_28 (by decide) ?_
    refine m_iadd hc dX10_writeByte_29 ?_
    obtain ⟨ht, hw⟩ := hw
    refine c_puti hc hr ciX10 (Nat.le_of_ble_eq_true rfl) 0 (Nat.le_of_ble_eq_true rfl) rfl dX10_writeByte_30 lf_X10_9 ht (Or.inl rfl) ⟨rfl, rfl⟩ ?_
    exact c_vret hc hr dX10_writeByte_33 hw
def w_X10_writeNumber_17 (M : Nat × Nat) (K : Int32 → HS → Prop) (x0 : Nat) (x1 : Int32) (S : HS) : Prop := hT S x0 = 11 ∧ wp_X10_writeByte M x0 (48 + (iRem x1 10)) S (fun r1 S1 => K 0 S1)
set_option maxHeartbeats 4000000 in
set_option maxRecDepth 100000 in
theorem b_X10_writeNumber_17 {G : CG} {S0 : HS} {X : Fx} {K : Int32 → HS → Prop} (hc : Cx X RX10 cX10_writeNumber 2) (hr : Cc G S0 1 none (kV K) X) : ∀ (x0 : Nat) (x1 : Int32) (S : HS), w_X10_writeNumber_17 (gC G, gS G) K x0 x1 S → MC G S0 X 2 S 17 [(0, .ref x0), (1, .int x1)] [] := by
  intro x0 x1 S hw
  unfold w_X10_writeNumber_17 at hw
  refine m_aload_n hc 0 dX10_writeNumber_17 rfl rfl ?_
  refine m_bipush hc 48 dX10_writeNumber_18 (by decide) ?_
  refine m_iload_n hc 1 dX10_writeNumber_20 rfl rfl ?_
  refine m_bipush hc 10 dX10_writeNumber_21 (by decide) ?_
  refine m_irem hc dX10_writeNumber_23 (by decide) ?_
  refine m_iadd hc dX10_writeNumber_24 ?_
  obtain ⟨ht, hw⟩ := hw
  refine c_callVv hc hr ciX10 (Nat.le_of_ble_eq_true rfl) ht mt_X10_writeByte rfl lm_X10_24 (ok_X10_writeByte hw) (Nat.le_of_ble_eq_true rfl) dX10_writeNumber_25 rfl (rest := []) rfl (Nat.le_of_ble_eq_true rfl) (fun S1 hw => ?_)
  exact c_vret hc hr dX10_writeNumber_28 hw
def wp_X10_writeNumber (M : Nat × Nat) (x0 : Nat) (x1 : Int32) (S : HS) (K : Int32 → HS → Prop) : Prop := (x1 < 10 → w_X10_writeNumber_17 M K x0 x1 S) ∧ (¬ (x1 < 10) → hT S x0 = 11 ∧ wp_X10_writeByte M x0 (48 + (x1 / 10)) S (fun r1 S1 => w_X10_writeNumber_17 M K x0 x1 S1))
set_option maxHeartbeats 4000000 in
set_option maxRecDepth 100000 in
theorem ok_X10_writeNumber {G : CG} {x0 : Nat} {x1 : Int32} {S : HS} {K : Int32 → HS → Prop} (hw : wp_X10_writeNumber (gC G, gS G) x0 x1 S K) : CC 1 yX10_writeNumber cX10_writeNumber 2 none [.ref x0, .int x1] G S (kV K) := by
  refine CC.of (by decide +kernel) (Nat.le_of_ble_eq_true rfl) (fun X hc hr hname => ?_)
  show MC G S X 2 S 0 [(0, .ref x0), (1, .int x1)] []
  unfold wp_X10_writeNumber at hw
  refine m_iload_n hc 1 dX10_writeNumber_0 rfl rfl ?_
  refine m_bipush hc 10 dX10_writeNumber_1 (by decide) ?_
  refine m_icmp_lt hc 17 dX10_writeNumber_3 rfl (fun cq => ?_) (fun cq => ?_)
  · have hw := hw.1 cq
    exact b_X10_writeNumber_17 hc hr x0 x1 S hw
  · have hw := hw.2 cq
    refine m_aload_n hc 0 dX10_writeNumber_6 rfl rfl ?_
    refine m_bipush hc 48 dX10_writeNumber_7 (by decide) ?_
    refine m_iload_n hc 1 dX10_writeNumber_9 rfl rfl ?_
    refine m_bipush hc 10 dX10_writeNumber_10 (by decide) ?_
    refine m_idiv hc dX10_writeNumber_12 (by decide) ?_
    refine m_iadd hc dX10_writeNumber_13 ?_
    obtain ⟨ht, hw⟩ := hw
    refine c_callVv hc hr ciX10 (Nat.le_of_ble_eq_true rfl) ht mt_X10_writeByte rfl lm_X10_24 (ok_X10_writeByte hw) (Nat.le_of_ble_eq_true rfl) dX10_writeNumber_14 rfl (rest := []) rfl (Nat.le_of_ble_eq_true rfl) (fun S1 hw => ?_)
    exact b_X10_writeNumber_17 hc hr x0 x1 S1 hw
def w_X10_writeTerm_59 (M : Nat × Nat) (K27 : Nat → Int32 → Int32 → Int32 → HS → Prop) (K : Int32 → HS → Prop) (x0 : Nat) (x1 x4 x5 : Int32) (S : HS) : Prop := hT S x0 = 11 ∧ wp_X10_writeByte M x0 (120 + x4) S (fun r1 S1 => (x5 ≤ 1 → K27 x0 x1 1 (x4 + 1) S1) ∧ (¬ (x5 ≤ 1) → hT S1 x0 = 11 ∧ wp_X10_writeByte M x0 94 S1 (fun r2 S2 => hT S2 x0 = 11 ∧ wp_X10_writeNumber M x0 x5 S2 (fun r3 S3 => K27 x0 x1 1 (x4 + 1) S3))))
set_option maxHeartbeats 4000000 in
set_option maxRecDepth 100000 in
theorem b_X10_writeTerm_59 {G : CG} {S0 : HS} {X : Fx} {K : Int32 → HS → Prop} (hc : Cx X RX10 cX10_writeTerm 6) (hr : Cc G S0 2 none (kV K) X) (K27 : Nat → Int32 → Int32 → Int32 → HS → Prop) (h27 : ∀ (x0 : Nat) (x1 x3 x4 : Int32) (S : HS), K27 x0 x1 x3 x4 S → MC G S0 X 6 S 27 [(0, .ref x0), (1, .int x1), (3, .int x3), (4, .int x4)] []) : ∀ (x0 : Nat) (x1 x4 x5 : Int32) (S : HS), w_X10_writeTerm_59 (gC G, gS G) K27 K x0 x1 x4 x5 S → MC G S0 X 6 S 59 [(0, .ref x0), (1, .int x1), (4, .int x4), (5, .int x5)] [] := by
  intro x0 x1 x4 x5 S hw
  unfold w_X10_writeTerm_59 at hw
  refine m_iconst hc 1 dX10_writeTerm_59 (by decide) ?_
  refine m_istore_n hc [(3, .int 1), (0, .ref x0), (1, .int x1), (4, .int x4), (5, .int x5)] dX10_writeTerm_60 rfl (Nat.le_of_ble_eq_true rfl) rfl ?_
  refine m_aload_n hc 1 dX10_writeTerm_61 rfl rfl ?_
  refine m_bipush hc 120 dX10_writeTerm_62 (by decide) ?_
  refine m_iload hc 3 dX10_writeTerm_64 rfl ?_
  refine m_iadd hc dX10_writeTerm_66 ?_
  obtain ⟨ht, hw⟩ := hw
  refine c_callVv hc hr ciX10 (Nat.le_of_ble_eq_true rfl) ht mt_X10_writeByte rfl lm_X10_24 (ok_X10_writeByte hw) (Nat.le_of_ble_eq_true rfl) dX10_writeTerm_67 rfl (rest := []) rfl (Nat.le_of_ble_eq_true rfl) (fun S1 hw => ?_)
  refine m_iload hc 4 dX10_writeTerm_70 rfl ?_
  refine m_iconst hc 1 dX10_writeTerm_72 (by decide) ?_
  refine m_icmp_le hc 88 dX10_writeTerm_73 rfl (fun cq => ?_) (fun cq => ?_)
  · have hw := hw.1 cq
    refine m_iinc hc 3 (x4 + 1) [(4, .int (x4 + 1)), (3, .int 1), (0, .ref x0), (1, .int x1), (5, .int x5)] dX10_writeTerm_88 rfl rfl (Nat.le_of_ble_eq_true rfl) rfl ?_
    refine m_goto hc 27 dX10_writeTerm_91 rfl ?_
    refine m_sub [2, 3, 1, 0] rfl ?_
    exact h27 x0 x1 1 (x4 + 1) S1 hw
  · have hw := hw.2 cq
    refine m_aload_n hc 1 dX10_writeTerm_76 rfl rfl ?_
    refine m_bipush hc 94 dX10_writeTerm_77 (by decide) ?_
    obtain ⟨ht, hw⟩ := hw
    refine c_callVv hc hr ciX10 (Nat.le_of_ble_eq_true rfl) ht mt_X10_writeByte rfl lm_X10_24 (ok_X10_writeByte hw) (Nat.le_of_ble_eq_true rfl) dX10_writeTerm_79 rfl (rest := []) rfl (Nat.le_of_ble_eq_true rfl) (fun S2 hw => ?_)
    refine m_aload_n hc 1 dX10_writeTerm_82 rfl rfl ?_
    refine m_iload hc 4 dX10_writeTerm_83 rfl ?_
    obtain ⟨ht, hw⟩ := hw
    refine c_callVv hc hr ciX10 (Nat.le_of_ble_eq_true rfl) ht mt_X10_writeNumber rfl lm_X10_45 (ok_X10_writeNumber hw) (Nat.le_of_ble_eq_true rfl) dX10_writeTerm_85 rfl (rest := []) rfl (Nat.le_of_ble_eq_true rfl) (fun S3 hw => ?_)
    refine m_iinc hc 3 (x4 + 1) [(4, .int (x4 + 1)), (3, .int 1), (0, .ref x0), (1, .int x1), (5, .int x5)] dX10_writeTerm_88 rfl rfl (Nat.le_of_ble_eq_true rfl) rfl ?_
    refine m_goto hc 27 dX10_writeTerm_91 rfl ?_
    refine m_sub [2, 3, 1, 0] rfl ?_
    exact h27 x0 x1 1 (x4 + 1) S3 hw
def wb_X10_writeTerm_27 (M : Nat × Nat) (K27 : Nat → Int32 → Int32 → Int32 → HS → Prop) (K : Int32 → HS → Prop) (x0 : Nat) (x1 x3 x4 : Int32) (S : HS) : Prop := (3 ≤ x4 → K 0 S) ∧ (¬ (3 ≤ x4) → wp_X6_exponent M x1 x4 S (fun r1 S1 => (¬ r1 = 0 → (x3 = 0 → w_X10_writeTerm_59 M K27 K x0 x1 x4 r1 S1) ∧ (¬ (x3 = 0) → hT S1 x0 = 11 ∧ wp_X10_writeByte M x0 42 S1 (fun r2 S2 => w_X10_writeTerm_59 M K27 K x0 x1 x4 r1 S2))) ∧ (r1 = 0 → K27 x0 x1 x3 (x4 + 1) S1)))
def wl_X10_writeTerm_27 (M : Nat × Nat) (K : Int32 → HS → Prop) : Nat → Nat → Int32 → Int32 → Int32 → HS → Prop
  | 0 => fun _ _ _ _ _ => False
  | nn + 1 => wb_X10_writeTerm_27 M (wl_X10_writeTerm_27 M K nn) K
set_option maxHeartbeats 4000000 in
set_option maxRecDepth 100000 in
theorem l_X10_writeTerm_27 {G : CG} {S0 : HS} {X : Fx} {K : Int32 → HS → Prop} (hc : Cx X RX10 cX10_writeTerm 6) (hr : Cc G S0 2 none (kV K) X) : ∀ (nn : Nat) (x0 : Nat) (x1 x3 x4 : Int32) (S : HS), wl_X10_writeTerm_27 (gC G, gS G) K nn x0 x1 x3 x4 S → MC G S0 X 6 S 27 [(0, .ref x0), (1, .int x1), (3, .int x3), (4, .int x4)] [] := by
  intro nn
  induction nn with
  | zero => intro x0 x1 x3 x4 S hw; exact False.elim hw
  | succ nn ih =>
    intro x0 x1 x3 x4 S hw
    have hw : wb_X10_writeTerm_27 (gC G, gS G) (wl_X10_writeTerm_27 (gC G, gS G) K nn) K x0 x1 x3 x4 S := hw
    have h27 := ih
    generalize wl_X10_writeTerm_27 (gC G, gS G) K nn = K27 at hw h27
    unfold wb_X10_writeTerm_27 at hw
    refine m_iload hc 3 dX10_writeTerm_27 rfl ?_
    refine m_iconst hc 3 dX10_writeTerm_29 (by decide) ?_
    refine m_icmp_ge hc 94 dX10_writeTerm_30 rfl (fun cq => ?_) (fun cq => ?_)
    · have hw := hw.1 cq
      exact c_vret hc hr dX10_writeTerm_94 hw
    · have hw := hw.2 cq
      refine m_iload_n hc 1 dX10_writeTerm_33 rfl rfl ?_
      refine m_iload hc 3 dX10_writeTerm_34 rfl ?_
      refine c_callSi hc hr mt_X6_exponent lm_X10_48 (ok_X6_exponent hw) (Nat.le_of_ble_eq_true rfl) dX10_writeTerm_36 rfl (rest := []) rfl (Nat.le_of_ble_eq_true rfl) (fun r1 S1 hw => ?_)
      refine m_istore hc [(5, .int r1), (0, .ref x0), (1, .int x1), (3, .int x3), (4, .int x4)] dX10_writeTerm_39 (Nat.le_of_ble_eq_true rfl) rfl ?_
      refine m_iload hc 0 dX10_writeTerm_41 rfl ?_
      refine m_if_ne hc 49 dX10_writeTerm_43 rfl (fun cq => ?_) (fun cq => ?_)
      · have hw := hw.1 cq
        refine m_iload_n hc 3 dX10_writeTerm_49 rfl rfl ?_
        refine m_if_eq hc 59 dX10_writeTerm_50 rfl (fun cq => ?_) (fun cq => ?_)
        · have hw := hw.1 cq
          refine m_sub [1, 2, 4, 0] rfl ?_
          exact b_X10_writeTerm_59 hc hr K27 h27 x0 x1 x4 r1 S1 hw
        · have hw := hw.2 cq
          refine m_aload_n hc 1 dX10_writeTerm_53 rfl rfl ?_
          refine m_bipush hc 42 dX10_writeTerm_54 (by decide) ?_
          obtain ⟨ht, hw⟩ := hw
          refine c_callVv hc hr ciX10 (Nat.le_of_ble_eq_true rfl) ht mt_X10_writeByte rfl lm_X10_24 (ok_X10_writeByte hw) (Nat.le_of_ble_eq_true rfl) dX10_writeTerm_56 rfl (rest := []) rfl (Nat.le_of_ble_eq_true rfl) (fun S2 hw => ?_)
          refine m_sub [1, 2, 4, 0] rfl ?_
          exact b_X10_writeTerm_59 hc hr K27 h27 x0 x1 x4 r1 S2 hw
      · have hw := hw.2 cq
        refine m_goto hc 88 dX10_writeTerm_46 rfl ?_
        refine m_iinc hc 4 (x4 + 1) [(4, .int (x4 + 1)), (5, .int r1), (0, .ref x0), (1, .int x1), (3, .int x3)] dX10_writeTerm_88 rfl rfl (Nat.le_of_ble_eq_true rfl) rfl ?_
        refine m_goto hc 27 dX10_writeTerm_91 rfl ?_
        refine m_sub [2, 3, 4, 0] rfl ?_
        exact h27 x0 x1 x3 (x4 + 1) S1 hw
def w_X10_writeTerm_14 (M : Nat × Nat) (K : Int32 → HS → Prop) (x0 : Nat) (x1 x2 s0 : Int32) (S : HS) : Prop := (s0 = 0 → ∃ nn : Nat, wl_X10_writeTerm_27 M K nn x0 x1 s0 0 S) ∧ (¬ (s0 = 0) → hT S x0 = 11 ∧ wp_X10_writeNumber M x0 x2 S (fun r1 S1 => ∃ nn : Nat, wl_X10_writeTerm_27 M K nn x0 x1 s0 0 S1))
set_option maxHeartbeats 4000000 in
set_option maxRecDepth 100000 in
theorem b_X10_writeTerm_14 {G : CG} {S0 : HS} {X : Fx} {K : Int32 → HS → Prop} (hc : Cx X RX10 cX10_writeTerm 6) (hr : Cc G S0 2 none (kV K) X) : ∀ (x0 : Nat) (x1 x2 s0 : Int32) (S : HS), w_X10_writeTerm_14 (gC G, gS G) K x0 x1 x2 s0 S → MC G S0 X 6 S 14 [(0, .ref x0), (1, .int x1), (2, .int x2)] [.int s0] := by
  intro x0 x1 x2 s0 S hw
  unfold w_X10_writeTerm_14 at hw
  refine m_istore_n hc [(3, .int s0), (0, .ref x0), (1, .int x1), (2, .int x2)] dX10_writeTerm_14 rfl (Nat.le_of_ble_eq_true rfl) rfl ?_
  refine m_iload_n hc 0 dX10_writeTerm_15 rfl rfl ?_
  refine m_if_eq hc 24 dX10_writeTerm_16 rfl (fun cq => ?_) (fun cq => ?_)
  · have hw := hw.1 cq
    refine m_iconst hc 0 dX10_writeTerm_24 (by decide) ?_
    refine m_istore hc [(4, .int 0), (3, .int s0), (0, .ref x0), (1, .int x1), (2, .int x2)] dX10_writeTerm_25 (Nat.le_of_ble_eq_true rfl) rfl ?_
    refine m_sub [2, 3, 1, 0] rfl ?_
    obtain ⟨nn, hw⟩ := hw
    exact l_X10_writeTerm_27 hc hr nn x0 x1 s0 0 S hw
  · have hw := hw.2 cq
    refine m_aload_n hc 1 dX10_writeTerm_19 rfl rfl ?_
    refine m_iload_n hc 3 dX10_writeTerm_20 rfl rfl ?_
    obtain ⟨ht, hw⟩ := hw
    refine c_callVv hc hr ciX10 (Nat.le_of_ble_eq_true rfl) ht mt_X10_writeNumber rfl lm_X10_45 (ok_X10_writeNumber hw) (Nat.le_of_ble_eq_true rfl) dX10_writeTerm_21 rfl (rest := []) rfl (Nat.le_of_ble_eq_true rfl) (fun S1 hw => ?_)
    refine m_iconst hc 0 dX10_writeTerm_24 (by decide) ?_
    refine m_istore hc [(4, .int 0), (3, .int s0), (0, .ref x0), (1, .int x1), (2, .int x2)] dX10_writeTerm_25 (Nat.le_of_ble_eq_true rfl) rfl ?_
    refine m_sub [2, 3, 1, 0] rfl ?_
    obtain ⟨nn, hw⟩ := hw
    exact l_X10_writeTerm_27 hc hr nn x0 x1 s0 0 S1 hw
def wp_X10_writeTerm (M : Nat × Nat) (x0 : Nat) (x1 x2 : Int32) (S : HS) (K : Int32 → HS → Prop) : Prop := (¬ x2 = 1 → w_X10_writeTerm_14 M K x0 x1 x2 1 S) ∧ (x2 = 1 → (¬ x1 = 0 → w_X10_writeTerm_14 M K x0 x1 x2 0 S) ∧ (x1 = 0 → w_X10_writeTerm_14 M K x0 x1 x2 1 S))
set_option maxHeartbeats 4000000 in
set_option maxRecDepth 100000 in
theorem ok_X10_writeTerm {G : CG} {x0 : Nat} {x1 : Int32} {x2 : Int32} {S : HS} {K : Int32 → HS → Prop} (hw : wp_X10_writeTerm (gC G, gS G) x0 x1 x2 S K) : CC 2 yX10_writeTerm cX10_writeTerm 6 none [.ref x0, .int x1, .int x2] G S (kV K) := by
  refine CC.of (by decide +kernel) (Nat.le_of_ble_eq_true rfl) (fun X hc hr hname => ?_)
  show MC G S X 6 S 0 [(0, .ref x0), (1, .int x1), (2, .int x2)] []
  unfold wp_X10_writeTerm at hw
  refine m_iload_n hc 2 dX10_writeTerm_0 rfl rfl ?_
  refine m_iconst hc 1 dX10_writeTerm_1 (by decide) ?_
  refine m_icmp_ne hc 9 dX10_writeTerm_2 rfl (fun cq => ?_) (fun cq => ?_)
  · have hw := hw.1 cq
    refine m_iconst hc 1 dX10_writeTerm_9 (by decide) ?_
    refine m_goto hc 14 dX10_writeTerm_10 rfl ?_
    exact b_X10_writeTerm_14 hc hr x0 x1 x2 1 S hw
  · have hw := hw.2 cq
    refine m_iload_n hc 1 dX10_writeTerm_5 rfl rfl ?_
    refine m_if_ne hc 13 dX10_writeTerm_6 rfl (fun cq => ?_) (fun cq => ?_)
    · have hw := hw.1 cq
      refine m_iconst hc 0 dX10_writeTerm_13 (by decide) ?_
      exact b_X10_writeTerm_14 hc hr x0 x1 x2 0 S hw
    · have hw := hw.2 cq
      refine m_iconst hc 1 dX10_writeTerm_9 (by decide) ?_
      refine m_goto hc 14 dX10_writeTerm_10 rfl ?_
      exact b_X10_writeTerm_14 hc hr x0 x1 x2 1 S hw
def w_X10_write_25 (M : Nat × Nat) (K7 : Nat → Nat → Nat → Int32 → HS → Prop) (K : Int32 → HS → Prop) (x0 x1 x2 : Nat) (x3 : Int32) (S : HS) : Prop := hT S x2 = 5 ∧ wp_X4_indexOf M x2 x3 S (fun r1 S1 => hT S1 x1 = 7 ∧ ∃ b2 : Nat, hP S1 x1 0 = some b2 ∧ hT S1 b2 = 21 ∧ vp_in r1 (hN S1 b2) ∧ hT S1 x1 = 7 ∧ ∃ b3 : Nat, hP S1 x1 1 = some b3 ∧ hT S1 b3 = 21 ∧ vp_in r1 (hN S1 b3) ∧ hT S1 x0 = 11 ∧ wp_X10_writeTerm M x0 (hI S1 b2 (Int32.toNatClampNeg r1)) (hI S1 b3 (Int32.toNatClampNeg r1)) S1 (fun r4 S4 => K7 x0 x1 x2 (x3 + 1) S4))
set_option maxHeartbeats 4000000 in
set_option maxRecDepth 100000 in
theorem b_X10_write_25 {G : CG} {S0 : HS} {X : Fx} {K : Int32 → HS → Prop} (hc : Cx X RX10 cX10_write 5) (hr : Cc G S0 3 none (kV K) X) (K7 : Nat → Nat → Nat → Int32 → HS → Prop) (h7 : ∀ (x0 x1 x2 : Nat) (x3 : Int32) (S : HS), K7 x0 x1 x2 x3 S → MC G S0 X 5 S 7 [(0, .ref x0), (1, .ref x1), (2, .ref x2), (3, .int x3)] []) : ∀ (x0 x1 x2 : Nat) (x3 : Int32) (S : HS), w_X10_write_25 (gC G, gS G) K7 K x0 x1 x2 x3 S → MC G S0 X 5 S 25 [(0, .ref x0), (1, .ref x1), (2, .ref x2), (3, .int x3)] [] := by
  intro x0 x1 x2 x3 S hw
  unfold w_X10_write_25 at hw
  refine m_aload_n hc 2 dX10_write_25 rfl rfl ?_
  refine m_iload_n hc 3 dX10_write_26 rfl rfl ?_
  obtain ⟨ht, hw⟩ := hw
  refine c_callVi hc hr ciX4 (Nat.le_of_ble_eq_true rfl) ht mt_X4_indexOf rfl lm_X10_28 (ok_X4_indexOf hw) (Nat.le_of_ble_eq_true rfl) dX10_write_27 rfl (rest := []) rfl (Nat.le_of_ble_eq_true rfl) (fun r1 S1 hw => ?_)
  refine m_istore hc [(4, .int r1), (0, .ref x0), (1, .ref x1), (2, .ref x2), (3, .int x3)] dX10_write_30 (Nat.le_of_ble_eq_true rfl) rfl ?_
  refine m_aload_n hc 1 dX10_write_32 rfl rfl ?_
  refine m_aload_n hc 2 dX10_write_33 rfl rfl ?_
  obtain ⟨ht, b2, e_b2, hw⟩ := hw
  refine c_getr hc hr ciX6 (Nat.le_of_ble_eq_true rfl) 0 (Nat.le_of_ble_eq_true rfl) rfl dX10_write_34 lf_X10_34 ht e_b2 ?_
  refine m_iload hc 0 dX10_write_37 rfl ?_
  obtain ⟨ht, hi, hw⟩ := hw
  refine c_iald hc hr ht hi dX10_write_39 ?_
  refine m_aload_n hc 2 dX10_write_40 rfl rfl ?_
  obtain ⟨ht, b3, e_b3, hw⟩ := hw
  refine c_getr hc hr ciX6 (Nat.le_of_ble_eq_true rfl) 1 (Nat.le_of_ble_eq_true rfl) rfl dX10_write_41 lf_X10_38 ht e_b3 ?_
  refine m_iload hc 0 dX10_write_44 rfl ?_
  obtain ⟨ht, hi, hw⟩ := hw
  refine c_iald hc hr ht hi dX10_write_46 ?_
  obtain ⟨ht, hw⟩ := hw
  refine c_callVv hc hr ciX10 (Nat.le_of_ble_eq_true rfl) ht mt_X10_writeTerm rfl lm_X10_41 (ok_X10_writeTerm hw) (Nat.le_of_ble_eq_true rfl) dX10_write_47 rfl (rest := []) rfl (Nat.le_of_ble_eq_true rfl) (fun S4 hw => ?_)
  refine m_iinc hc 4 (x3 + 1) [(3, .int (x3 + 1)), (4, .int r1), (0, .ref x0), (1, .ref x1), (2, .ref x2)] dX10_write_50 rfl rfl (Nat.le_of_ble_eq_true rfl) rfl ?_
  refine m_goto hc 7 dX10_write_53 rfl ?_
  refine m_sub [2, 3, 4, 0] rfl ?_
  exact h7 x0 x1 x2 (x3 + 1) S4 hw
def wb_X10_write_7 (M : Nat × Nat) (K7 : Nat → Nat → Nat → Int32 → HS → Prop) (K : Int32 → HS → Prop) (x0 x1 x2 : Nat) (x3 : Int32) (S : HS) : Prop := hT S x1 = 7 ∧ ((hI S x1 2) ≤ x3 → hT S x1 = 7 ∧ (¬ (hI S x1 2) = 0 → K 0 S) ∧ ((hI S x1 2) = 0 → hT S x0 = 11 ∧ wp_X10_writeByte M x0 48 S (fun r1 S1 => K 0 S1))) ∧ (¬ ((hI S x1 2) ≤ x3) → (x3 ≤ 0 → w_X10_write_25 M K7 K x0 x1 x2 x3 S) ∧ (¬ (x3 ≤ 0) → hT S x0 = 11 ∧ wp_X10_writeByte M x0 43 S (fun r2 S2 => w_X10_write_25 M K7 K x0 x1 x2 x3 S2)))
def wl_X10_write_7 (M : Nat × Nat) (K : Int32 → HS → Prop) : Nat → Nat → Nat → Nat → Int32 → HS → Prop
  | 0 => fun _ _ _ _ _ => False
  | nn + 1 => wb_X10_write_7 M (wl_X10_write_7 M K nn) K
set_option maxHeartbeats 4000000 in
set_option maxRecDepth 100000 in
theorem l_X10_write_7 {G : CG} {S0 : HS} {X : Fx} {K : Int32 → HS → Prop} (hc : Cx X RX10 cX10_write 5) (hr : Cc G S0 3 none (kV K) X) : ∀ (nn : Nat) (x0 x1 x2 : Nat) (x3 : Int32) (S : HS), wl_X10_write_7 (gC G, gS G) K nn x0 x1 x2 x3 S → MC G S0 X 5 S 7 [(0, .ref x0), (1, .ref x1), (2, .ref x2), (3, .int x3)] [] := by
  intro nn
  induction nn with
  | zero => intro x0 x1 x2 x3 S hw; exact False.elim hw
  | succ nn ih =>
    intro x0 x1 x2 x3 S hw
    have hw : wb_X10_write_7 (gC G, gS G) (wl_X10_write_7 (gC G, gS G) K nn) K x0 x1 x2 x3 S := hw
    have h7 := ih
    generalize wl_X10_write_7 (gC G, gS G) K nn = K7 at hw h7
    unfold wb_X10_write_7 at hw
    refine m_iload_n hc 3 dX10_write_7 rfl rfl ?_
    refine m_aload_n hc 1 dX10_write_8 rfl rfl ?_
    obtain ⟨ht, hw⟩ := hw
    refine c_geti hc hr ciX6 (Nat.le_of_ble_eq_true rfl) 2 (Nat.le_of_ble_eq_true rfl) rfl dX10_write_9 lf_X10_19 ht ?_
    refine m_icmp_ge hc 56 dX10_write_12 rfl (fun cq => ?_) (fun cq => ?_)
    · have hw := hw.1 cq
      refine m_aload_n hc 1 dX10_write_56 rfl rfl ?_
      obtain ⟨ht, hw⟩ := hw
      refine c_geti hc hr ciX6 (Nat.le_of_ble_eq_true rfl) 2 (Nat.le_of_ble_eq_true rfl) rfl dX10_write_57 lf_X10_19 ht ?_
      refine m_if_ne hc 69 dX10_write_60 rfl (fun cq => ?_) (fun cq => ?_)
      · have hw := hw.1 cq
        exact c_vret hc hr dX10_write_69 hw
      · have hw := hw.2 cq
        refine m_aload_n hc 0 dX10_write_63 rfl rfl ?_
        refine m_bipush hc 48 dX10_write_64 (by decide) ?_
        obtain ⟨ht, hw⟩ := hw
        refine c_callVv hc hr ciX10 (Nat.le_of_ble_eq_true rfl) ht mt_X10_writeByte rfl lm_X10_24 (ok_X10_writeByte hw) (Nat.le_of_ble_eq_true rfl) dX10_write_66 rfl (rest := []) rfl (Nat.le_of_ble_eq_true rfl) (fun S1 hw => ?_)
        exact c_vret hc hr dX10_write_69 hw
    · have hw := hw.2 cq
      refine m_iload_n hc 3 dX10_write_15 rfl rfl ?_
      refine m_if_le hc 25 dX10_write_16 rfl (fun cq => ?_) (fun cq => ?_)
      · have hw := hw.1 cq
        exact b_X10_write_25 hc hr K7 h7 x0 x1 x2 x3 S hw
      · have hw := hw.2 cq
        refine m_aload_n hc 0 dX10_write_19 rfl rfl ?_
        refine m_bipush hc 43 dX10_write_20 (by decide) ?_
        obtain ⟨ht, hw⟩ := hw
        refine c_callVv hc hr ciX10 (Nat.le_of_ble_eq_true rfl) ht mt_X10_writeByte rfl lm_X10_24 (ok_X10_writeByte hw) (Nat.le_of_ble_eq_true rfl) dX10_write_22 rfl (rest := []) rfl (Nat.le_of_ble_eq_true rfl) (fun S2 hw => ?_)
        exact b_X10_write_25 hc hr K7 h7 x0 x1 x2 x3 S2 hw
def wp_X10_write (M : Nat × Nat) (x0 x1 x2 : Nat) (S : HS) (K : Int32 → HS → Prop) : Prop := hT S x0 = 11 ∧ ∃ nn : Nat, wl_X10_write_7 M K nn x0 x1 x2 0 (sI S x0 0 0)
set_option maxHeartbeats 4000000 in
set_option maxRecDepth 100000 in
theorem ok_X10_write {G : CG} {x0 : Nat} {x1 : Nat} {x2 : Nat} {S : HS} {K : Int32 → HS → Prop} (hw : wp_X10_write (gC G, gS G) x0 x1 x2 S K) : CC 3 yX10_write cX10_write 5 none [.ref x0, .ref x1, .ref x2] G S (kV K) := by
  refine CC.of (by decide +kernel) (Nat.le_of_ble_eq_true rfl) (fun X hc hr hname => ?_)
  show MC G S X 5 S 0 [(0, .ref x0), (1, .ref x1), (2, .ref x2)] []
  unfold wp_X10_write at hw
  refine m_aload_n hc 0 dX10_write_0 rfl rfl ?_
  refine m_iconst hc 0 dX10_write_1 (by decide) ?_
  obtain ⟨ht, hw⟩ := hw
  refine c_puti hc hr ciX10 (Nat.le_of_ble_eq_true rfl) 0 (Nat.le_of_ble_eq_true rfl) rfl dX10_write_2 lf_X10_9 ht (Or.inl rfl) ⟨rfl, rfl⟩ ?_
  refine m_iconst hc 0 dX10_write_5 (by decide) ?_
  refine m_istore_n hc [(3, .int 0), (0, .ref x0), (1, .ref x1), (2, .ref x2)] dX10_write_6 rfl (Nat.le_of_ble_eq_true rfl) rfl ?_
  refine m_sub [1, 2, 3, 0] rfl ?_
  obtain ⟨nn, hw⟩ := hw
  exact l_X10_write_7 hc hr nn x0 x1 x2 0 (sI S x0 0 0) hw
def wp_X12_init (M : Nat × Nat) (x0 : Nat) (S : HS) (K : Int32 → HS → Prop) : Prop := hT S x0 = 13 ∧ ¬ (56 : Int32) < 0 ∧ (Int32.toNatClampNeg 56) ≤ 100000000 ∧ hX (sI S x0 1 5) + 1 ≤ M.1 ∧ hS (sI S x0 1 5) + (Int32.toNatClampNeg 56) ≤ M.2 ∧ ∀ (b1 : Nat) (S1 : HS), b1 = hX (sI S x0 1 5) → S1 = nO (sI S x0 1 5) 21 (Int32.toNatClampNeg 56) → hT S1 x0 = 13 ∧ ¬ (16800 : Int32) < 0 ∧ (Int32.toNatClampNeg 16800) ≤ 100000000 ∧ hX (sP S1 x0 2 (some b1)) + 1 ≤ M.1 ∧ hS (sP S1 x0 2 (some b1)) + (Int32.toNatClampNeg 16800) ≤ M.2 ∧ ∀ (b2 : Nat) (S2 : HS), b2 = hX (sP S1 x0 2 (some b1)) → S2 = nO (sP S1 x0 2 (some b1)) 21 (Int32.toNatClampNeg 16800) → hT S2 x0 = 13 ∧ ¬ (16800 : Int32) < 0 ∧ (Int32.toNatClampNeg 16800) ≤ 100000000 ∧ hX (sP S2 x0 3 (some b2)) + 1 ≤ M.1 ∧ hS (sP S2 x0 3 (some b2)) + (Int32.toNatClampNeg 16800) ≤ M.2 ∧ ∀ (b3 : Nat) (S3 : HS), b3 = hX (sP S2 x0 3 (some b2)) → S3 = nO (sP S2 x0 3 (some b2)) 21 (Int32.toNatClampNeg 16800) → hT S3 x0 = 13 ∧ ¬ (531441 : Int32) < 0 ∧ (Int32.toNatClampNeg 531441) ≤ 100000000 ∧ hX (sP S3 x0 4 (some b3)) + 1 ≤ M.1 ∧ hS (sP S3 x0 4 (some b3)) + (Int32.toNatClampNeg 531441) ≤ M.2 ∧ ∀ (b4 : Nat) (S4 : HS), b4 = hX (sP S3 x0 4 (some b3)) → S4 = nO (sP S3 x0 4 (some b3)) 21 (Int32.toNatClampNeg 531441) → hT S4 x0 = 13 ∧ ¬ (90600 : Int32) < 0 ∧ (Int32.toNatClampNeg 90600) ≤ 100000000 ∧ hX (sP S4 x0 5 (some b4)) + 1 ≤ M.1 ∧ hS (sP S4 x0 5 (some b4)) + (Int32.toNatClampNeg 90600) ≤ M.2 ∧ ∀ (b5 : Nat) (S5 : HS), b5 = hX (sP S4 x0 5 (some b4)) → S5 = nO (sP S4 x0 5 (some b4)) 21 (Int32.toNatClampNeg 90600) → hT S5 x0 = 13 ∧ ¬ (123 : Int32) < 0 ∧ (Int32.toNatClampNeg 123) ≤ 100000000 ∧ hX (sP S5 x0 6 (some b5)) + 1 ≤ M.1 ∧ hS (sP S5 x0 6 (some b5)) + (Int32.toNatClampNeg 123) ≤ M.2 ∧ ∀ (b6 : Nat) (S6 : HS), b6 = hX (sP S5 x0 6 (some b5)) → S6 = nO (sP S5 x0 6 (some b5)) 21 (Int32.toNatClampNeg 123) → hT S6 x0 = 13 ∧ ¬ (20 : Int32) < 0 ∧ (Int32.toNatClampNeg 20) ≤ 100000000 ∧ hX (sP S6 x0 8 (some b6)) + 1 ≤ M.1 ∧ hS (sP S6 x0 8 (some b6)) + (Int32.toNatClampNeg 20) ≤ M.2 ∧ ∀ (b7 : Nat) (S7 : HS), b7 = hX (sP S6 x0 8 (some b6)) → S7 = nO (sP S6 x0 8 (some b6)) 21 (Int32.toNatClampNeg 20) → hT S7 x0 = 13 ∧ ¬ (20 : Int32) < 0 ∧ (Int32.toNatClampNeg 20) ≤ 100000000 ∧ hX (sP S7 x0 9 (some b7)) + 1 ≤ M.1 ∧ hS (sP S7 x0 9 (some b7)) + (Int32.toNatClampNeg 20) ≤ M.2 ∧ ∀ (b8 : Nat) (S8 : HS), b8 = hX (sP S7 x0 9 (some b7)) → S8 = nO (sP S7 x0 9 (some b7)) 21 (Int32.toNatClampNeg 20) → hT S8 x0 = 13 ∧ ¬ (6000 : Int32) < 0 ∧ (Int32.toNatClampNeg 6000) ≤ 100000000 ∧ hX (sP S8 x0 10 (some b8)) + 1 ≤ M.1 ∧ hS (sP S8 x0 10 (some b8)) + (Int32.toNatClampNeg 6000) ≤ M.2 ∧ ∀ (b9 : Nat) (S9 : HS), b9 = hX (sP S8 x0 10 (some b8)) → S9 = nO (sP S8 x0 10 (some b8)) 21 (Int32.toNatClampNeg 6000) → hT S9 x0 = 13 ∧ ¬ (6000 : Int32) < 0 ∧ (Int32.toNatClampNeg 6000) ≤ 100000000 ∧ hX (sP S9 x0 11 (some b9)) + 1 ≤ M.1 ∧ hS (sP S9 x0 11 (some b9)) + (Int32.toNatClampNeg 6000) ≤ M.2 ∧ ∀ (b10 : Nat) (S10 : HS), b10 = hX (sP S9 x0 11 (some b9)) → S10 = nO (sP S9 x0 11 (some b9)) 21 (Int32.toNatClampNeg 6000) → hT S10 x0 = 13 ∧ ¬ (3 : Int32) < 0 ∧ (Int32.toNatClampNeg 3) ≤ 100000000 ∧ hX (sP S10 x0 12 (some b10)) + 1 ≤ M.1 ∧ hS (sP S10 x0 12 (some b10)) + (Int32.toNatClampNeg 3) ≤ M.2 ∧ ∀ (b11 : Nat) (S11 : HS), b11 = hX (sP S10 x0 12 (some b10)) → S11 = nO (sP S10 x0 12 (some b10)) 21 (Int32.toNatClampNeg 3) → hT S11 x0 = 13 ∧ ¬ (41 : Int32) < 0 ∧ (Int32.toNatClampNeg 41) ≤ 100000000 ∧ hX (sP S11 x0 14 (some b11)) + 1 ≤ M.1 ∧ hS (sP S11 x0 14 (some b11)) + (Int32.toNatClampNeg 41) ≤ M.2 ∧ ∀ (b12 : Nat) (S12 : HS), b12 = hX (sP S11 x0 14 (some b11)) → S12 = nO (sP S11 x0 14 (some b11)) 21 (Int32.toNatClampNeg 41) → hT S12 x0 = 13 ∧ ¬ (41 : Int32) < 0 ∧ (Int32.toNatClampNeg 41) ≤ 100000000 ∧ hX (sP S12 x0 15 (some b12)) + 1 ≤ M.1 ∧ hS (sP S12 x0 15 (some b12)) + (Int32.toNatClampNeg 41) ≤ M.2 ∧ ∀ (b13 : Nat) (S13 : HS), b13 = hX (sP S12 x0 15 (some b12)) → S13 = nO (sP S12 x0 15 (some b12)) 21 (Int32.toNatClampNeg 41) → hT S13 x0 = 13 ∧ ¬ (68921 : Int32) < 0 ∧ (Int32.toNatClampNeg 68921) ≤ 100000000 ∧ hX (sP S13 x0 16 (some b13)) + 1 ≤ M.1 ∧ hS (sP S13 x0 16 (some b13)) + (Int32.toNatClampNeg 68921) ≤ M.2 ∧ ∀ (b14 : Nat) (S14 : HS), b14 = hX (sP S13 x0 16 (some b13)) → S14 = nO (sP S13 x0 16 (some b13)) 21 (Int32.toNatClampNeg 68921) → hT S14 x0 = 13 ∧ ¬ (68921 : Int32) < 0 ∧ (Int32.toNatClampNeg 68921) ≤ 100000000 ∧ hX (sP S14 x0 17 (some b14)) + 1 ≤ M.1 ∧ hS (sP S14 x0 17 (some b14)) + (Int32.toNatClampNeg 68921) ≤ M.2 ∧ ∀ (b15 : Nat) (S15 : HS), b15 = hX (sP S14 x0 17 (some b14)) → S15 = nO (sP S14 x0 17 (some b14)) 21 (Int32.toNatClampNeg 68921) → hT S15 x0 = 13 ∧ ¬ (1764 : Int32) < 0 ∧ (Int32.toNatClampNeg 1764) ≤ 100000000 ∧ hX (sP S15 x0 18 (some b15)) + 1 ≤ M.1 ∧ hS (sP S15 x0 18 (some b15)) + (Int32.toNatClampNeg 1764) ≤ M.2 ∧ ∀ (b16 : Nat) (S16 : HS), b16 = hX (sP S15 x0 18 (some b15)) → S16 = nO (sP S15 x0 18 (some b15)) 21 (Int32.toNatClampNeg 1764) → hT S16 x0 = 13 ∧ ¬ (1764 : Int32) < 0 ∧ (Int32.toNatClampNeg 1764) ≤ 100000000 ∧ hX (sP S16 x0 19 (some b16)) + 1 ≤ M.1 ∧ hS (sP S16 x0 19 (some b16)) + (Int32.toNatClampNeg 1764) ≤ M.2 ∧ ∀ (b17 : Nat) (S17 : HS), b17 = hX (sP S16 x0 19 (some b16)) → S17 = nO (sP S16 x0 19 (some b16)) 21 (Int32.toNatClampNeg 1764) → hT S17 x0 = 13 ∧ ¬ (2197 : Int32) < 0 ∧ (Int32.toNatClampNeg 2197) ≤ 100000000 ∧ hX (sP S17 x0 20 (some b17)) + 1 ≤ M.1 ∧ hS (sP S17 x0 20 (some b17)) + (Int32.toNatClampNeg 2197) ≤ M.2 ∧ ∀ (b18 : Nat) (S18 : HS), b18 = hX (sP S17 x0 20 (some b17)) → S18 = nO (sP S17 x0 20 (some b17)) 21 (Int32.toNatClampNeg 2197) → hT S18 x0 = 13 ∧ ¬ (531441 : Int32) < 0 ∧ (Int32.toNatClampNeg 531441) ≤ 100000000 ∧ hX (sP S18 x0 21 (some b18)) + 1 ≤ M.1 ∧ hS (sP S18 x0 21 (some b18)) + (Int32.toNatClampNeg 531441) ≤ M.2 ∧ ∀ (b19 : Nat) (S19 : HS), b19 = hX (sP S18 x0 21 (some b18)) → S19 = nO (sP S18 x0 21 (some b18)) 21 (Int32.toNatClampNeg 531441) → hT S19 x0 = 13 ∧ ¬ (6000 : Int32) < 0 ∧ (Int32.toNatClampNeg 6000) ≤ 100000000 ∧ hX (sP S19 x0 26 (some b19)) + 1 ≤ M.1 ∧ hS (sP S19 x0 26 (some b19)) + (Int32.toNatClampNeg 6000) ≤ M.2 ∧ ∀ (b20 : Nat) (S20 : HS), b20 = hX (sP S19 x0 26 (some b19)) → S20 = nO (sP S19 x0 26 (some b19)) 21 (Int32.toNatClampNeg 6000) → hT S20 x0 = 13 ∧ ¬ (23 : Int32) < 0 ∧ (Int32.toNatClampNeg 23) ≤ 100000000 ∧ hX (sP S20 x0 27 (some b20)) + 1 ≤ M.1 ∧ hS (sP S20 x0 27 (some b20)) + (Int32.toNatClampNeg 23) ≤ M.2 ∧ ∀ (b21 : Nat) (S21 : HS), b21 = hX (sP S20 x0 27 (some b20)) → S21 = nO (sP S20 x0 27 (some b20)) 21 (Int32.toNatClampNeg 23) → hT S21 x0 = 13 ∧ ¬ (23 : Int32) < 0 ∧ (Int32.toNatClampNeg 23) ≤ 100000000 ∧ hX (sP S21 x0 29 (some b21)) + 1 ≤ M.1 ∧ hS (sP S21 x0 29 (some b21)) + (Int32.toNatClampNeg 23) ≤ M.2 ∧ ∀ (b22 : Nat) (S22 : HS), b22 = hX (sP S21 x0 29 (some b21)) → S22 = nO (sP S21 x0 29 (some b21)) 21 (Int32.toNatClampNeg 23) → hT S22 x0 = 13 ∧ ¬ (46 : Int32) < 0 ∧ (Int32.toNatClampNeg 46) ≤ 100000000 ∧ hX (sP S22 x0 30 (some b22)) + 1 ≤ M.1 ∧ hS (sP S22 x0 30 (some b22)) + (Int32.toNatClampNeg 46) ≤ M.2 ∧ ∀ (b23 : Nat) (S23 : HS), b23 = hX (sP S22 x0 30 (some b22)) → S23 = nO (sP S22 x0 30 (some b22)) 21 (Int32.toNatClampNeg 46) → hT S23 x0 = 13 ∧ ¬ (46 : Int32) < 0 ∧ (Int32.toNatClampNeg 46) ≤ 100000000 ∧ hX (sP S23 x0 31 (some b23)) + 1 ≤ M.1 ∧ hS (sP S23 x0 31 (some b23)) + (Int32.toNatClampNeg 46) ≤ M.2 ∧ ∀ (b24 : Nat) (S24 : HS), b24 = hX (sP S23 x0 31 (some b23)) → S24 = nO (sP S23 x0 31 (some b23)) 21 (Int32.toNatClampNeg 46) → hT S24 x0 = 13 ∧ ¬ (23 : Int32) < 0 ∧ (Int32.toNatClampNeg 23) ≤ 100000000 ∧ hX (sP S24 x0 32 (some b24)) + 1 ≤ M.1 ∧ hS (sP S24 x0 32 (some b24)) + (Int32.toNatClampNeg 23) ≤ M.2 ∧ ∀ (b25 : Nat) (S25 : HS), b25 = hX (sP S24 x0 32 (some b24)) → S25 = nO (sP S24 x0 32 (some b24)) 21 (Int32.toNatClampNeg 23) → hT S25 x0 = 13 ∧ ¬ (23 : Int32) < 0 ∧ (Int32.toNatClampNeg 23) ≤ 100000000 ∧ hX (sP S25 x0 33 (some b25)) + 1 ≤ M.1 ∧ hS (sP S25 x0 33 (some b25)) + (Int32.toNatClampNeg 23) ≤ M.2 ∧ ∀ (b26 : Nat) (S26 : HS), b26 = hX (sP S25 x0 33 (some b25)) → S26 = nO (sP S25 x0 33 (some b25)) 21 (Int32.toNatClampNeg 23) → hT S26 x0 = 13 ∧ ¬ (46 : Int32) < 0 ∧ (Int32.toNatClampNeg 46) ≤ 100000000 ∧ hX (sP S26 x0 34 (some b26)) + 1 ≤ M.1 ∧ hS (sP S26 x0 34 (some b26)) + (Int32.toNatClampNeg 46) ≤ M.2 ∧ ∀ (b27 : Nat) (S27 : HS), b27 = hX (sP S26 x0 34 (some b26)) → S27 = nO (sP S26 x0 34 (some b26)) 21 (Int32.toNatClampNeg 46) → hT S27 x0 = 13 ∧ ¬ (46 : Int32) < 0 ∧ (Int32.toNatClampNeg 46) ≤ 100000000 ∧ hX (sP S27 x0 35 (some b27)) + 1 ≤ M.1 ∧ hS (sP S27 x0 35 (some b27)) + (Int32.toNatClampNeg 46) ≤ M.2 ∧ ∀ (b28 : Nat) (S28 : HS), b28 = hX (sP S27 x0 35 (some b27)) → S28 = nO (sP S27 x0 35 (some b27)) 21 (Int32.toNatClampNeg 46) → hT S28 x0 = 13 ∧ ¬ (23 : Int32) < 0 ∧ (Int32.toNatClampNeg 23) ≤ 100000000 ∧ hX (sP S28 x0 36 (some b28)) + 1 ≤ M.1 ∧ hS (sP S28 x0 36 (some b28)) + (Int32.toNatClampNeg 23) ≤ M.2 ∧ ∀ (b29 : Nat) (S29 : HS), b29 = hX (sP S28 x0 36 (some b28)) → S29 = nO (sP S28 x0 36 (some b28)) 21 (Int32.toNatClampNeg 23) → hT S29 x0 = 13 ∧ ¬ (23 : Int32) < 0 ∧ (Int32.toNatClampNeg 23) ≤ 100000000 ∧ hX (sP S29 x0 39 (some b29)) + 1 ≤ M.1 ∧ hS (sP S29 x0 39 (some b29)) + (Int32.toNatClampNeg 23) ≤ M.2 ∧ ∀ (b30 : Nat) (S30 : HS), b30 = hX (sP S29 x0 39 (some b29)) → S30 = nO (sP S29 x0 39 (some b29)) 21 (Int32.toNatClampNeg 23) → hT S30 x0 = 13 ∧ ¬ (23 : Int32) < 0 ∧ (Int32.toNatClampNeg 23) ≤ 100000000 ∧ hX (sP S30 x0 40 (some b30)) + 1 ≤ M.1 ∧ hS (sP S30 x0 40 (some b30)) + (Int32.toNatClampNeg 23) ≤ M.2 ∧ ∀ (b31 : Nat) (S31 : HS), b31 = hX (sP S30 x0 40 (some b30)) → S31 = nO (sP S30 x0 40 (some b30)) 21 (Int32.toNatClampNeg 23) → hT S31 x0 = 13 ∧ ¬ (200 : Int32) < 0 ∧ (Int32.toNatClampNeg 200) ≤ 100000000 ∧ hX (sP S31 x0 41 (some b31)) + 1 ≤ M.1 ∧ hS (sP S31 x0 41 (some b31)) + (Int32.toNatClampNeg 200) ≤ M.2 ∧ ∀ (b32 : Nat) (S32 : HS), b32 = hX (sP S31 x0 41 (some b31)) → S32 = nO (sP S31 x0 41 (some b31)) 21 (Int32.toNatClampNeg 200) → hT S32 x0 = 13 ∧ hT (sP S32 x0 42 (some b32)) x0 = 13 ∧ K 0 (sI (sP S32 x0 42 (some b32)) x0 51 (-1))
set_option maxHeartbeats 4000000 in
set_option maxRecDepth 100000 in
theorem ok_X12_init {G : CG} {x0 : Nat} {S : HS} {K : Int32 → HS → Prop} (hw : wp_X12_init (gC G, gS G) x0 S K) : CC 1 yX12_init cX12_init 1 none [.ref x0] G S (kV K) := by
  refine CC.of (by decide +kernel) (Nat.le_of_ble_eq_true rfl) (fun X hc hr hname => ?_)
  have hnm : Ci X := hname
  show MC G S X 1 S 0 [(0, .ref x0)] []
  unfold wp_X12_init at hw
  refine m_aload_n hc 0 dX12_init_0 rfl rfl ?_
  refine c_bnd (fun g1 g2 => ?_)
  refine q_objinit hc dX12_init_1 lh_X12m_3 lObj (c_room hr g1 g2) (Nat.le_of_ble_eq_true rfl) ?_
  refine m_aload_n hc 0 dX12_init_4 rfl rfl ?_
  refine m_iconst hc 5 dX12_init_5 (by decide) ?_
  obtain ⟨ht, hw⟩ := hw
  refine c_puti hc hr ciX12 (Nat.le_of_ble_eq_true rfl) 1 (Nat.le_of_ble_eq_true rfl) rfl dX12_init_6 lh_X12_9 ht (Or.inl rfl) ⟨rfl, rfl⟩ ?_
  refine m_aload_n hc 0 dX12_init_9 rfl rfl ?_
  refine m_bipush hc 56 dX12_init_10 (by decide) ?_
  obtain ⟨hn0, hn1, hm, hm2, hw⟩ := hw
  refine n_newi hc hr dX12_init_12 laI hn0 hn1 hm hm2 (fun b1 S1 e_b1 e_S1 => ?_)
  have hw := hw b1 S1 e_b1 e_S1
  obtain ⟨ht, hw⟩ := hw
  refine c_putr hc hr ciX12 (Nat.le_of_ble_eq_true rfl) 2 (Nat.le_of_ble_eq_true rfl) rfl dX12_init_14 lh_X12_13 ht (Or.inr ⟨rfl, hnm, rfl⟩) (Or.inr ⟨_, rfl⟩) ?_
  refine m_aload_n hc 0 dX12_init_17 rfl rfl ?_
  refine m_sipush hc 16800 dX12_init_18 (by decide) ?_
  obtain ⟨hn0, hn1, hm, hm2, hw⟩ := hw
  refine n_newi hc hr dX12_init_21 laI hn0 hn1 hm hm2 (fun b2 S2 e_b2 e_S2 => ?_)
  have hw := hw b2 S2 e_b2 e_S2
  obtain ⟨ht, hw⟩ := hw
  refine c_putr hc hr ciX12 (Nat.le_of_ble_eq_true rfl) 3 (Nat.le_of_ble_eq_true rfl) rfl dX12_init_23 lh_X12_17 ht (Or.inr ⟨rfl, hnm, rfl⟩) (Or.inr ⟨_, rfl⟩) ?_
  refine m_aload_n hc 0 dX12_init_26 rfl rfl ?_
  refine m_sipush hc 16800 dX12_init_27 (by decide) ?_
  obtain ⟨hn0, hn1, hm, hm2, hw⟩ := hw
  refine n_newi hc hr dX12_init_30 laI hn0 hn1 hm hm2 (fun b3 S3 e_b3 e_S3 => ?_)
  have hw := hw b3 S3 e_b3 e_S3
  obtain ⟨ht, hw⟩ := hw
  refine c_putr hc hr ciX12 (Nat.le_of_ble_eq_true rfl) 4 (Nat.le_of_ble_eq_true rfl) rfl dX12_init_32 lh_X12_20 ht (Or.inr ⟨rfl, hnm, rfl⟩) (Or.inr ⟨_, rfl⟩) ?_
  refine m_aload_n hc 0 dX12_init_35 rfl rfl ?_
  refine m_ldc hc dX12_init_36 lh_X12c_23 ?_
  obtain ⟨hn0, hn1, hm, hm2, hw⟩ := hw
  refine n_newi hc hr dX12_init_38 laI hn0 hn1 hm hm2 (fun b4 S4 e_b4 e_S4 => ?_)
  have hw := hw b4 S4 e_b4 e_S4
  obtain ⟨ht, hw⟩ := hw
  refine c_putr hc hr ciX12 (Nat.le_of_ble_eq_true rfl) 5 (Nat.le_of_ble_eq_true rfl) rfl dX12_init_40 lh_X12_24 ht (Or.inr ⟨rfl, hnm, rfl⟩) (Or.inr ⟨_, rfl⟩) ?_
  refine m_aload_n hc 0 dX12_init_43 rfl rfl ?_
  refine m_ldc hc dX12_init_44 lh_X12c_27 ?_
  obtain ⟨hn0, hn1, hm, hm2, hw⟩ := hw
  refine n_newi hc hr dX12_init_46 laI hn0 hn1 hm hm2 (fun b5 S5 e_b5 e_S5 => ?_)
  have hw := hw b5 S5 e_b5 e_S5
  obtain ⟨ht, hw⟩ := hw
  refine c_putr hc hr ciX12 (Nat.le_of_ble_eq_true rfl) 6 (Nat.le_of_ble_eq_true rfl) rfl dX12_init_48 lh_X12_28 ht (Or.inr ⟨rfl, hnm, rfl⟩) (Or.inr ⟨_, rfl⟩) ?_
  refine m_aload_n hc 0 dX12_init_51 rfl rfl ?_
  refine m_bipush hc 123 dX12_init_52 (by decide) ?_
  obtain ⟨hn0, hn1, hm, hm2, hw⟩ := hw
  refine n_newi hc hr dX12_init_54 laI hn0 hn1 hm hm2 (fun b6 S6 e_b6 e_S6 => ?_)
  have hw := hw b6 S6 e_b6 e_S6
  obtain ⟨ht, hw⟩ := hw
  refine c_putr hc hr ciX12 (Nat.le_of_ble_eq_true rfl) 8 (Nat.le_of_ble_eq_true rfl) rfl dX12_init_56 lh_X12_31 ht (Or.inr ⟨rfl, hnm, rfl⟩) (Or.inr ⟨_, rfl⟩) ?_
  refine m_aload_n hc 0 dX12_init_59 rfl rfl ?_
  refine m_bipush hc 20 dX12_init_60 (by decide) ?_
  obtain ⟨hn0, hn1, hm, hm2, hw⟩ := hw
  refine n_newi hc hr dX12_init_62 laI hn0 hn1 hm hm2 (fun b7 S7 e_b7 e_S7 => ?_)
  have hw := hw b7 S7 e_b7 e_S7
  obtain ⟨ht, hw⟩ := hw
  refine c_putr hc hr ciX12 (Nat.le_of_ble_eq_true rfl) 9 (Nat.le_of_ble_eq_true rfl) rfl dX12_init_64 lh_X12_34 ht (Or.inr ⟨rfl, hnm, rfl⟩) (Or.inr ⟨_, rfl⟩) ?_
  refine m_aload_n hc 0 dX12_init_67 rfl rfl ?_
  refine m_bipush hc 20 dX12_init_68 (by decide) ?_
  obtain ⟨hn0, hn1, hm, hm2, hw⟩ := hw
  refine n_newi hc hr dX12_init_70 laI hn0 hn1 hm hm2 (fun b8 S8 e_b8 e_S8 => ?_)
  have hw := hw b8 S8 e_b8 e_S8
  obtain ⟨ht, hw⟩ := hw
  refine c_putr hc hr ciX12 (Nat.le_of_ble_eq_true rfl) 10 (Nat.le_of_ble_eq_true rfl) rfl dX12_init_72 lh_X12_37 ht (Or.inr ⟨rfl, hnm, rfl⟩) (Or.inr ⟨_, rfl⟩) ?_
  refine m_aload_n hc 0 dX12_init_75 rfl rfl ?_
  refine m_sipush hc 6000 dX12_init_76 (by decide) ?_
  obtain ⟨hn0, hn1, hm, hm2, hw⟩ := hw
  refine n_newi hc hr dX12_init_79 laI hn0 hn1 hm hm2 (fun b9 S9 e_b9 e_S9 => ?_)
  have hw := hw b9 S9 e_b9 e_S9
  obtain ⟨ht, hw⟩ := hw
  refine c_putr hc hr ciX12 (Nat.le_of_ble_eq_true rfl) 11 (Nat.le_of_ble_eq_true rfl) rfl dX12_init_81 lh_X12_40 ht (Or.inr ⟨rfl, hnm, rfl⟩) (Or.inr ⟨_, rfl⟩) ?_
  refine m_aload_n hc 0 dX12_init_84 rfl rfl ?_
  refine m_sipush hc 6000 dX12_init_85 (by decide) ?_
  obtain ⟨hn0, hn1, hm, hm2, hw⟩ := hw
  refine n_newi hc hr dX12_init_88 laI hn0 hn1 hm hm2 (fun b10 S10 e_b10 e_S10 => ?_)
  have hw := hw b10 S10 e_b10 e_S10
  obtain ⟨ht, hw⟩ := hw
  refine c_putr hc hr ciX12 (Nat.le_of_ble_eq_true rfl) 12 (Nat.le_of_ble_eq_true rfl) rfl dX12_init_90 lh_X12_43 ht (Or.inr ⟨rfl, hnm, rfl⟩) (Or.inr ⟨_, rfl⟩) ?_
  refine m_aload_n hc 0 dX12_init_93 rfl rfl ?_
  refine m_iconst hc 3 dX12_init_94 (by decide) ?_
  obtain ⟨hn0, hn1, hm, hm2, hw⟩ := hw
  refine n_newi hc hr dX12_init_95 laI hn0 hn1 hm hm2 (fun b11 S11 e_b11 e_S11 => ?_)
  have hw := hw b11 S11 e_b11 e_S11
  obtain ⟨ht, hw⟩ := hw
  refine c_putr hc hr ciX12 (Nat.le_of_ble_eq_true rfl) 14 (Nat.le_of_ble_eq_true rfl) rfl dX12_init_97 lh_X12_46 ht (Or.inr ⟨rfl, hnm, rfl⟩) (Or.inr ⟨_, rfl⟩) ?_
  refine m_aload_n hc 0 dX12_init_100 rfl rfl ?_
  refine m_bipush hc 41 dX12_init_101 (by decide) ?_
  obtain ⟨hn0, hn1, hm, hm2, hw⟩ := hw
  refine n_newi hc hr dX12_init_103 laI hn0 hn1 hm hm2 (fun b12 S12 e_b12 e_S12 => ?_)
  have hw := hw b12 S12 e_b12 e_S12
  obtain ⟨ht, hw⟩ := hw
  refine c_putr hc hr ciX12 (Nat.le_of_ble_eq_true rfl) 15 (Nat.le_of_ble_eq_true rfl) rfl dX12_init_105 lh_X12_49 ht (Or.inr ⟨rfl, hnm, rfl⟩) (Or.inr ⟨_, rfl⟩) ?_
  refine m_aload_n hc 0 dX12_init_108 rfl rfl ?_
  refine m_bipush hc 41 dX12_init_109 (by decide) ?_
  obtain ⟨hn0, hn1, hm, hm2, hw⟩ := hw
  refine n_newi hc hr dX12_init_111 laI hn0 hn1 hm hm2 (fun b13 S13 e_b13 e_S13 => ?_)
  have hw := hw b13 S13 e_b13 e_S13
  obtain ⟨ht, hw⟩ := hw
  refine c_putr hc hr ciX12 (Nat.le_of_ble_eq_true rfl) 16 (Nat.le_of_ble_eq_true rfl) rfl dX12_init_113 lh_X12_52 ht (Or.inr ⟨rfl, hnm, rfl⟩) (Or.inr ⟨_, rfl⟩) ?_
  refine m_aload_n hc 0 dX12_init_116 rfl rfl ?_
  refine m_ldc hc dX12_init_117 lh_X12c_55 ?_
  obtain ⟨hn0, hn1, hm, hm2, hw⟩ := hw
  refine n_newi hc hr dX12_init_119 laI hn0 hn1 hm hm2 (fun b14 S14 e_b14 e_S14 => ?_)
  have hw := hw b14 S14 e_b14 e_S14
  obtain ⟨ht, hw⟩ := hw
  refine c_putr hc hr ciX12 (Nat.le_of_ble_eq_true rfl) 17 (Nat.le_of_ble_eq_true rfl) rfl dX12_init_121 lh_X12_56 ht (Or.inr ⟨rfl, hnm, rfl⟩) (Or.inr ⟨_, rfl⟩) ?_
  refine m_aload_n hc 0 dX12_init_124 rfl rfl ?_
  refine m_ldc hc dX12_init_125 lh_X12c_55 ?_
  obtain ⟨hn0, hn1, hm, hm2, hw⟩ := hw
  refine n_newi hc hr dX12_init_127 laI hn0 hn1 hm hm2 (fun b15 S15 e_b15 e_S15 => ?_)
  have hw := hw b15 S15 e_b15 e_S15
  obtain ⟨ht, hw⟩ := hw
  refine c_putr hc hr ciX12 (Nat.le_of_ble_eq_true rfl) 18 (Nat.le_of_ble_eq_true rfl) rfl dX12_init_129 lh_X12_59 ht (Or.inr ⟨rfl, hnm, rfl⟩) (Or.inr ⟨_, rfl⟩) ?_
  refine m_aload_n hc 0 dX12_init_132 rfl rfl ?_
  refine m_sipush hc 1764 dX12_init_133 (by decide) ?_
  obtain ⟨hn0, hn1, hm, hm2, hw⟩ := hw
  refine n_newi hc hr dX12_init_136 laI hn0 hn1 hm hm2 (fun b16 S16 e_b16 e_S16 => ?_)
  have hw := hw b16 S16 e_b16 e_S16
  obtain ⟨ht, hw⟩ := hw
  refine c_putr hc hr ciX12 (Nat.le_of_ble_eq_true rfl) 19 (Nat.le_of_ble_eq_true rfl) rfl dX12_init_138 lh_X12_62 ht (Or.inr ⟨rfl, hnm, rfl⟩) (Or.inr ⟨_, rfl⟩) ?_
  refine m_aload_n hc 0 dX12_init_141 rfl rfl ?_
  refine m_sipush hc 1764 dX12_init_142 (by decide) ?_
  obtain ⟨hn0, hn1, hm, hm2, hw⟩ := hw
  refine n_newi hc hr dX12_init_145 laI hn0 hn1 hm hm2 (fun b17 S17 e_b17 e_S17 => ?_)
  have hw := hw b17 S17 e_b17 e_S17
  obtain ⟨ht, hw⟩ := hw
  refine c_putr hc hr ciX12 (Nat.le_of_ble_eq_true rfl) 20 (Nat.le_of_ble_eq_true rfl) rfl dX12_init_147 lh_X12_65 ht (Or.inr ⟨rfl, hnm, rfl⟩) (Or.inr ⟨_, rfl⟩) ?_
  refine m_aload_n hc 0 dX12_init_150 rfl rfl ?_
  refine m_sipush hc 2197 dX12_init_151 (by decide) ?_
  obtain ⟨hn0, hn1, hm, hm2, hw⟩ := hw
  refine n_newi hc hr dX12_init_154 laI hn0 hn1 hm hm2 (fun b18 S18 e_b18 e_S18 => ?_)
  have hw := hw b18 S18 e_b18 e_S18
  obtain ⟨ht, hw⟩ := hw
  refine c_putr hc hr ciX12 (Nat.le_of_ble_eq_true rfl) 21 (Nat.le_of_ble_eq_true rfl) rfl dX12_init_156 lh_X12_68 ht (Or.inr ⟨rfl, hnm, rfl⟩) (Or.inr ⟨_, rfl⟩) ?_
  refine m_aload_n hc 0 dX12_init_159 rfl rfl ?_
  refine m_ldc hc dX12_init_160 lh_X12c_23 ?_
  obtain ⟨hn0, hn1, hm, hm2, hw⟩ := hw
  refine n_newi hc hr dX12_init_162 laI hn0 hn1 hm hm2 (fun b19 S19 e_b19 e_S19 => ?_)
  have hw := hw b19 S19 e_b19 e_S19
  obtain ⟨ht, hw⟩ := hw
  refine c_putr hc hr ciX12 (Nat.le_of_ble_eq_true rfl) 26 (Nat.le_of_ble_eq_true rfl) rfl dX12_init_164 lh_X12_71 ht (Or.inr ⟨rfl, hnm, rfl⟩) (Or.inr ⟨_, rfl⟩) ?_
  refine m_aload_n hc 0 dX12_init_167 rfl rfl ?_
  refine m_sipush hc 6000 dX12_init_168 (by decide) ?_
  obtain ⟨hn0, hn1, hm, hm2, hw⟩ := hw
  refine n_newi hc hr dX12_init_171 laI hn0 hn1 hm hm2 (fun b20 S20 e_b20 e_S20 => ?_)
  have hw := hw b20 S20 e_b20 e_S20
  obtain ⟨ht, hw⟩ := hw
  refine c_putr hc hr ciX12 (Nat.le_of_ble_eq_true rfl) 27 (Nat.le_of_ble_eq_true rfl) rfl dX12_init_173 lh_X12_74 ht (Or.inr ⟨rfl, hnm, rfl⟩) (Or.inr ⟨_, rfl⟩) ?_
  refine m_aload_n hc 0 dX12_init_176 rfl rfl ?_
  refine m_bipush hc 23 dX12_init_177 (by decide) ?_
  obtain ⟨hn0, hn1, hm, hm2, hw⟩ := hw
  refine n_newi hc hr dX12_init_179 laI hn0 hn1 hm hm2 (fun b21 S21 e_b21 e_S21 => ?_)
  have hw := hw b21 S21 e_b21 e_S21
  obtain ⟨ht, hw⟩ := hw
  refine c_putr hc hr ciX12 (Nat.le_of_ble_eq_true rfl) 29 (Nat.le_of_ble_eq_true rfl) rfl dX12_init_181 lh_X12_77 ht (Or.inr ⟨rfl, hnm, rfl⟩) (Or.inr ⟨_, rfl⟩) ?_
  refine m_aload_n hc 0 dX12_init_184 rfl rfl ?_
  refine m_bipush hc 23 dX12_init_185 (by decide) ?_
  obtain ⟨hn0, hn1, hm, hm2, hw⟩ := hw
  refine n_newi hc hr dX12_init_187 laI hn0 hn1 hm hm2 (fun b22 S22 e_b22 e_S22 => ?_)
  have hw := hw b22 S22 e_b22 e_S22
  obtain ⟨ht, hw⟩ := hw
  refine c_putr hc hr ciX12 (Nat.le_of_ble_eq_true rfl) 30 (Nat.le_of_ble_eq_true rfl) rfl dX12_init_189 lh_X12_80 ht (Or.inr ⟨rfl, hnm, rfl⟩) (Or.inr ⟨_, rfl⟩) ?_
  refine m_aload_n hc 0 dX12_init_192 rfl rfl ?_
  refine m_bipush hc 46 dX12_init_193 (by decide) ?_
  obtain ⟨hn0, hn1, hm, hm2, hw⟩ := hw
  refine n_newi hc hr dX12_init_195 laI hn0 hn1 hm hm2 (fun b23 S23 e_b23 e_S23 => ?_)
  have hw := hw b23 S23 e_b23 e_S23
  obtain ⟨ht, hw⟩ := hw
  refine c_putr hc hr ciX12 (Nat.le_of_ble_eq_true rfl) 31 (Nat.le_of_ble_eq_true rfl) rfl dX12_init_197 lh_X12_83 ht (Or.inr ⟨rfl, hnm, rfl⟩) (Or.inr ⟨_, rfl⟩) ?_
  refine m_aload_n hc 0 dX12_init_200 rfl rfl ?_
  refine m_bipush hc 46 dX12_init_201 (by decide) ?_
  obtain ⟨hn0, hn1, hm, hm2, hw⟩ := hw
  refine n_newi hc hr dX12_init_203 laI hn0 hn1 hm hm2 (fun b24 S24 e_b24 e_S24 => ?_)
  have hw := hw b24 S24 e_b24 e_S24
  obtain ⟨ht, hw⟩ := hw
  refine c_putr hc hr ciX12 (Nat.le_of_ble_eq_true rfl) 32 (Nat.le_of_ble_eq_true rfl) rfl dX12_init_205 lh_X12_86 ht (Or.inr ⟨rfl, hnm, rfl⟩) (Or.inr ⟨_, rfl⟩) ?_
  refine m_aload_n hc 0 dX12_init_208 rfl rfl ?_
  refine m_bipush hc 23 dX12_init_209 (by decide) ?_
  obtain ⟨hn0, hn1, hm, hm2, hw⟩ := hw
  refine n_newi hc hr dX12_init_211 laI hn0 hn1 hm hm2 (fun b25 S25 e_b25 e_S25 => ?_)
  have hw := hw b25 S25 e_b25 e_S25
  obtain ⟨ht, hw⟩ := hw
  refine c_putr hc hr ciX12 (Nat.le_of_ble_eq_true rfl) 33 (Nat.le_of_ble_eq_true rfl) rfl dX12_init_213 lh_X12_89 ht (Or.inr ⟨rfl, hnm, rfl⟩) (Or.inr ⟨_, rfl⟩) ?_
  refine m_aload_n hc 0 dX12_init_216 rfl rfl ?_
  refine m_bipush hc 23 dX12_init_217 (by decide) ?_
  obtain ⟨hn0, hn1, hm, hm2, hw⟩ := hw
  refine n_newi hc hr dX12_init_219 laI hn0 hn1 hm hm2 (fun b26 S26 e_b26 e_S26 => ?_)
  have hw := hw b26 S26 e_b26 e_S26
  obtain ⟨ht, hw⟩ := hw
  refine c_putr hc hr ciX12 (Nat.le_of_ble_eq_true rfl) 34 (Nat.le_of_ble_eq_true rfl) rfl dX12_init_221 lh_X12_92 ht (Or.inr ⟨rfl, hnm, rfl⟩) (Or.inr ⟨_, rfl⟩) ?_
  refine m_aload_n hc 0 dX12_init_224 rfl rfl ?_
  refine m_bipush hc 46 dX12_init_225 (by decide) ?_
  obtain ⟨hn0, hn1, hm, hm2, hw⟩ := hw
  refine n_newi hc hr dX12_init_227 laI hn0 hn1 hm hm2 (fun b27 S27 e_b27 e_S27 => ?_)
  have hw := hw b27 S27 e_b27 e_S27
  obtain ⟨ht, hw⟩ := hw
  refine c_putr hc hr ciX12 (Nat.le_of_ble_eq_true rfl) 35 (Nat.le_of_ble_eq_true rfl) rfl dX12_init_229 lh_X12_95 ht (Or.inr ⟨rfl, hnm, rfl⟩) (Or.inr ⟨_, rfl⟩) ?_
  refine m_aload_n hc 0 dX12_init_232 rfl rfl ?_
  refine m_bipush hc 46 dX12_init_233 (by decide) ?_
  obtain ⟨hn0, hn1, hm, hm2, hw⟩ := hw
  refine n_newi hc hr dX12_init_235 laI hn0 hn1 hm hm2 (fun b28 S28 e_b28 e_S28 => ?_)
  have hw := hw b28 S28 e_b28 e_S28
  obtain ⟨ht, hw⟩ := hw
  refine c_putr hc hr ciX12 (Nat.le_of_ble_eq_true rfl) 36 (Nat.le_of_ble_eq_true rfl) rfl dX12_init_237 lh_X12_98 ht (Or.inr ⟨rfl, hnm, rfl⟩) (Or.inr ⟨_, rfl⟩) ?_
  refine m_aload_n hc 0 dX12_init_240 rfl rfl ?_
  refine m_bipush hc 23 dX12_init_241 (by decide) ?_
  obtain ⟨hn0, hn1, hm, hm2, hw⟩ := hw
  refine n_newi hc hr dX12_init_243 laI hn0 hn1 hm hm2 (fun b29 S29 e_b29 e_S29 => ?_)
  have hw := hw b29 S29 e_b29 e_S29
  obtain ⟨ht, hw⟩ := hw
  refine c_putr hc hr ciX12 (Nat.le_of_ble_eq_true rfl) 39 (Nat.le_of_ble_eq_true rfl) rfl dX12_init_245 lh_X12_101 ht (Or.inr ⟨rfl, hnm, rfl⟩) (Or.inr ⟨_, rfl⟩) ?_
  refine m_aload_n hc 0 dX12_init_248 rfl rfl ?_
  refine m_bipush hc 23 dX12_init_249 (by decide) ?_
  obtain ⟨hn0, hn1, hm, hm2, hw⟩ := hw
  refine n_newi hc hr dX12_init_251 laI hn0 hn1 hm hm2 (fun b30 S30 e_b30 e_S30 => ?_)
  have hw := hw b30 S30 e_b30 e_S30
  obtain ⟨ht, hw⟩ := hw
  refine c_putr hc hr ciX12 (Nat.le_of_ble_eq_true rfl) 40 (Nat.le_of_ble_eq_true rfl) rfl dX12_init_253 lh_X12_104 ht (Or.inr ⟨rfl, hnm, rfl⟩) (Or.inr ⟨_, rfl⟩) ?_
  refine m_aload_n hc 0 dX12_init_256 rfl rfl ?_
  refine m_bipush hc 23 dX12_init_257 (by decide) ?_
  obtain ⟨hn0, hn1, hm, hm2, hw⟩ := hw
  refine n_newi hc hr dX12_init_259 laI hn0 hn1 hm hm2 (fun b31 S31 e_b31 e_S31 => ?_)
  have hw := hw b31 S31 e_b31 e_S31
  obtain ⟨ht, hw⟩ := hw
  refine c_putr hc hr ciX12 (Nat.le_of_ble_eq_true rfl) 41 (Nat.le_of_ble_eq_true rfl) rfl dX12_init_261 lh_X12_107 ht (Or.inr ⟨rfl, hnm, rfl⟩) (Or.inr ⟨_, rfl⟩) ?_
  refine m_aload_n hc 0 dX12_init_264 rfl rfl ?_
  refine m_sipush hc 200 dX12_init_265 (by decide) ?_
  obtain ⟨hn0, hn1, hm, hm2, hw⟩ := hw
  refine n_newi hc hr dX12_init_268 laI hn0 hn1 hm hm2 (fun b32 S32 e_b32 e_S32 => ?_)
  have hw := hw b32 S32 e_b32 e_S32
  obtain ⟨ht, hw⟩ := hw
  refine c_putr hc hr ciX12 (Nat.le_of_ble_eq_true rfl) 42 (Nat.le_of_ble_eq_true rfl) rfl dX12_init_270 lh_X12_110 ht (Or.inr ⟨rfl, hnm, rfl⟩) (Or.inr ⟨_, rfl⟩) ?_
  refine m_aload_n hc 0 dX12_init_273 rfl rfl ?_
  refine m_iconst hc (-1) dX12_init_274 (by decide) ?_
  obtain ⟨ht, hw⟩ := hw
  refine c_puti hc hr ciX12 (Nat.le_of_ble_eq_true rfl) 51 (Nat.le_of_ble_eq_true rfl) rfl dX12_init_275 lh_X12_113 ht (Or.inl rfl) ⟨rfl, rfl⟩ ?_
  exact c_vret hc hr dX12_init_278 hw
