def wp_X10_init (M : Nat × Nat) (x0 : Nat) (S : HS) (K : Int32 → HS → Prop) : Prop := hT S x0 = 11 ∧ ¬ 5400 < 0 ∧ (Int32.toNatClampNeg 5400) ≤ 100000000 ∧ hX (sI S x0 0 0) + 1 ≤ M.1 ∧ hS (sI S x0 0 0) + (Int32.toNatClampNeg 5400) ≤ M.2 ∧ hT (nO (sI S x0 0 0) 22 (Int32.toNatClampNeg 5400)) x0 = 11 ∧ K 0 (sP (nO (sI S x0 0 0) 22 (Int32.toNatClampNeg 5400)) x0 1 (some (hX (sI S x0 0 0))))
set_option maxHeartbeats 4000000 in
set_option maxRecDepth 100000 in
theorem ok_X10_init {G : CG} {x0 : Nat} {S : HS} {K : Int32 → HS → Prop} (hw : wp_X10_init (gC G, gS G) x0 S K) : CC 1 yX10_init cX10_init 1 none [.ref x0] G S (kV K) := by
  refine CC.of (by decide +kernel) (Nat.le_of_ble_eq_true rfl) (fun X hc hr hname => ?_)
  have hnm : Ci X := hname
  show MC G S X 1 S 0 [(0, .ref x0)] []
  generalize hS0 : S = S0 at hr ⊢
  rw [hS0] at hw
  clear hS0
  unfold wp_X10_init at hw
  refine m_aload_n hc 0 dX10_init_0 rfl rfl ?_
  refine c_bnd (fun g1 g2 => ?_)
  refine q_objinit hc dX10_init_1 lm_X10_3 lObj (c_room hr g1 g2) (Nat.le_of_ble_eq_true rfl) ?_
  refine m_aload_n hc 0 dX10_init_4 rfl rfl ?_
  refine m_iconst hc 0 dX10_init_5 (by decide) ?_
  obtain ⟨ht, hw⟩ := hw
  refine c_puti hc hr ciX10 (Nat.le_of_ble_eq_true rfl) 0 (Nat.le_of_ble_eq_true rfl) rfl dX10_init_6 lf_X10_9 ht (Or.inl rfl) ⟨rfl, rfl⟩ ?_
  refine m_aload_n hc 0 dX10_init_9 rfl rfl ?_
  refine m_sipush hc 5400 dX10_init_10 (by decide) ?_
  obtain ⟨hn0, hn1, hm, hm2, hw⟩ := hw
  refine c_newb hc hr dX10_init_13 laB hn0 hn1 hm hm2 ?_
  obtain ⟨ht, hw⟩ := hw
  refine c_putr hc hr ciX10 (Nat.le_of_ble_eq_true rfl) 1 (Nat.le_of_ble_eq_true rfl) rfl dX10_init_15 lf_X10_15 ht (Or.inr ⟨rfl, hnm, rfl⟩) (Or.inr ⟨_, rfl⟩) ?_
  exact c_vret hc hr dX10_init_18 hw
def wp_X10_writeByte (M : Nat × Nat) (x0 : Nat) (x1 : Int32) (S : HS) (K : Int32 → HS → Prop) : Prop := hT S x0 = 11 ∧ hT S x0 = 11 ∧ ∃ b1 : Nat, hP S x0 1 = some b1 ∧ (hT S b1 = 21 ∨ hT S b1 = 22 ∨ hT S b1 = 23) ∧ ((Int32.ofNat (hN S b1)) ≤ (hI S x0 0) → K 0 S) ∧ (¬ ((Int32.ofNat (hN S b1)) ≤ (hI S x0 0)) → hT S x0 = 11 ∧ ∃ b2 : Nat, hP S x0 1 = some b2 ∧ hT S x0 = 11 ∧ hT S b2 = 22 ∧ vp_in (hI S x0 0) (hN S b2) ∧ hT (sI S b2 (Int32.toNatClampNeg (hI S x0 0)) (vp_nar .byte (Int8.toInt32 (Int32.toInt8 x1)))) x0 = 11 ∧ hT (sI S b2 (Int32.toNatClampNeg (hI S x0 0)) (vp_nar .byte (Int8.toInt32 (Int32.toInt8 x1)))) x0 = 11 ∧ K 0 (sI (sI S b2 (Int32.toNatClampNeg (hI S x0 0)) (vp_nar .byte (Int8.toInt32 (Int32.toInt8 x1)))) x0 0 ((hI (sI S b2 (Int32.toNatClampNeg (hI S x0 0)) (vp_nar .byte (Int8.toInt32 (Int32.toInt8 x1)))) x0 0) + 1)))
set_option maxHeartbeats 4000000 in
set_option maxRecDepth 100000 in
theorem ok_X10_writeByte {G : CG} {x0 : Nat} {x1 : Int32} {S : HS} {K : Int32 → HS → Prop} (hw : wp_X10_writeByte (gC G, gS G) x0 x1 S K) : CC 0 yX10_writeByte cX10_writeByte 2 none [.ref x0, .int x1] G S (kV K) := by
  refine CC.of (by decide +kernel) (Nat.le_of_ble_eq_true rfl) (fun X hc hr hname => ?_)
  show MC G S X 2 S 0 [(0, .ref x0), (1, .int x1)] []
  generalize hS0 : S = S0 at hr ⊢
  rw [hS0] at hw
  clear hS0
  unfold wp_X10_writeByte at hw
  refine m_aload_n hc 0 dX10_writeByte_0 rfl rfl ?_
  obtain ⟨ht, hw⟩ := hw
  refine c_geti hc hr ciX10 (Nat.le_of_ble_eq_true rfl) 0 (Nat.le_of_ble_eq_true rfl) rfl dX10_writeByte_1 lf_X10_9 ht ?_
  refine m_aload_n hc 0 dX10_writeByte_4 rfl rfl ?_
  obtain ⟨ht, b1, e_b1, hw⟩ := hw
  refine c_getr hc hr ciX10 (Nat.le_of_ble_eq_true rfl) 1 (Nat.le_of_ble_eq_true rfl) rfl dX10_writeByte_5 lf_X10_15 ht e_b1 ?_
  obtain ⟨ht, hw⟩ := hw
  refine c_alen hc hr ht dX10_writeByte_8 ?_
  refine m_icmp_ge hc 33 dX10_writeByte_9 rfl (fun cq => ?_) (fun cq => ?_)
  · have hw := hw.1 cq
    exact c_vret hc hr dX10_writeByte_33 hw
  · have hw := hw.2 cq
    refine m_aload_n hc 0 dX10_writeByte_12 rfl rfl ?_
    obtain ⟨ht, b2, e_b2, hw⟩ := hw
    refine c_getr hc hr ciX10 (Nat.le_of_ble_eq_true rfl) 1 (Nat.le_of_ble_eq_true rfl) rfl dX10_writeByte_13 lf_X10_15 ht e_b2 ?_
    refine m_aload_n hc 0 dX10_writeByte_16 rfl rfl ?_
    obtain ⟨ht, hw⟩ := hw
    refine c_geti hc hr ciX10 (Nat.le_of_ble_eq_true rfl) 0 (Nat.le_of_ble_eq_true rfl) rfl dX10_writeByte_17 lf_X10_9 ht ?_
    refine m_iload_n hc 1 dX10_writeByte_20 rfl rfl ?_
    refine m_i2b hc dX10_writeByte_21 ?_
    obtain ⟨ht, hi, hw⟩ := hw
    refine c_bast hc hr ht hi dX10_writeByte_22 ?_
    refine m_aload_n hc 0 dX10_writeByte_23 rfl rfl ?_
    refine m_dup hc dX10_writeByte_24 rfl ?_
    obtain ⟨ht, hw⟩ := hw
    refine c_geti hc hr ciX10 (Nat.le_of_ble_eq_true rfl) 0 (Nat.le_of_ble_eq_true rfl) rfl dX10_writeByte_25 lf_X10_9 ht ?_
    refine m_iconst hc 1 dX10_writeByte_28 (by decide) ?_
    refine m_iadd hc dX10_writeByte_29 ?_
    obtain ⟨ht, hw⟩ := hw
    refine c_puti hc hr ciX10 (Nat.le_of_ble_eq_true rfl) 0 (Nat.le_of_ble_eq_true rfl) rfl dX10_writeByte_30 lf_X10_9 ht (Or.inl rfl) ⟨rfl, rfl⟩ ?_
    exact c_vret hc hr dX10_writeByte_33 hw
def w_X10_writeNumber_17 (M : Nat × Nat) (K : Int32 → HS → Prop) (x0 : Nat) (x1 : Int32) (S : HS) : Prop := hT S x0 = 11 ∧ wp_X10_writeByte M x0 (48 + (iRem x1 10)) S (fun r1 S1 => K 0 S1)
set_option maxHeartbeats 4000000 in
set_option maxRecDepth 100000 in
theorem b_X10_writeNumber_17 {G : CG} {S0 : HS} {X : Fx} {K : Int32 → HS → Prop} (hc : Cx X RX10 cX10_writeNumber 2) (hr : Cc G S0 1 none (kV K) X) : ∀ (x0 : Nat) (x1 : Int32) (S : HS), w_X10_writeNumber_17 (gC G, gS G) K x0 x1 S → MC G S0 X 2 S 17 [(0, .ref x0), (1, .int x1)] [] := by
  intro x0 x1 S hw
  unfold w_X10_writeNumber_17 at hw
  refine m_aload_n hc 0 dX10_writeNumber_17 rfl rfl ?_
  refine m_bipush hc 48 dX10_writeNumber_18 (by decide) ?_
  refine m_iload_n hc 1 dX10_writeNumber_20 rfl rfl ?_
  refine m_bipush hc 10 dX10_writeNumber_21 (by decide) ?_
  refine m_irem hc dX10_writeNumber_23 (by decide) ?_
  refine m_iadd hc dX10_writeNumber_24 ?_
  obtain ⟨ht, hw⟩ := hw
  refine c_callVv hc hr ciX10 (Nat.le_of_ble_eq_true rfl) ht mt_X10_writeByte rfl lm_X10_24 (ok_X10_writeByte hw) (Nat.le_of_ble_eq_true rfl) dX10_writeNumber_25 rfl (rest := []) rfl (Nat.le_of_ble_eq_true rfl) (fun S1 hw => ?_)
  exact c_vret hc hr dX10_writeNumber_28 hw
def wp_X10_writeNumber (M : Nat × Nat) (x0 : Nat) (x1 : Int32) (S : HS) (K : Int32 → HS → Prop) : Prop := (x1 < 10 → w_X10_writeNumber_17 M K x0 x1 S) ∧ (¬ (x1 < 10) → hT S x0 = 11 ∧ wp_X10_writeByte M x0 (48 + (x1 / 10)) S (fun r1 S1 => w_X10_writeNumber_17 M K x0 x1 S1))
set_option maxHeartbeats 4000000 in
set_option maxRecDepth 100000 in
theorem ok_X10_writeNumber {G : CG} {x0 : Nat} {x1 : Int32} {S : HS} {K : Int32 → HS → Prop} (hw : wp_X10_writeNumber (gC G, gS G) x0 x1 S K) : CC 1 yX10_writeNumber cX10_writeNumber 2 none [.ref x0, .int x1] G S (kV K) := by
  refine CC.of (by decide +kernel) (Nat.le_of_ble_eq_true rfl) (fun X hc hr hname => ?_)
  show MC G S X 2 S 0 [(0, .ref x0), (1, .int x1)] []
  generalize hS0 : S = S0 at hr ⊢
  rw [hS0] at hw
  clear hS0
  unfold wp_X10_writeNumber at hw
  refine m_iload_n hc 1 dX10_writeNumber_0 rfl rfl ?_
  refine m_bipush hc 10 dX10_writeNumber_1 (by decide) ?_
  refine m_icmp_lt hc 17 dX10_writeNumber_3 rfl (fun cq => ?_) (fun cq => ?_)
  · have hw := hw.1 cq
    exact b_X10_writeNumber_17 hc hr x0 x1 S hw
  · have hw := hw.2 cq
    refine m_aload_n hc 0 dX10_writeNumber_6 rfl rfl ?_
    refine m_bipush hc 48 dX10_writeNumber_7 (by decide) ?_
    refine m_iload_n hc 1 dX10_writeNumber_9 rfl rfl ?_
    refine m_bipush hc 10 dX10_writeNumber_10 (by decide) ?_
    refine m_idiv hc dX10_writeNumber_12 (by decide) ?_
    refine m_iadd hc dX10_writeNumber_13 ?_
    obtain ⟨ht, hw⟩ := hw
    refine c_callVv hc hr ciX10 (Nat.le_of_ble_eq_true rfl) ht mt_X10_writeByte rfl lm_X10_24 (ok_X10_writeByte hw) (Nat.le_of_ble_eq_true rfl) dX10_writeNumber_14 rfl (rest := []) rfl (Nat.le_of_ble_eq_true rfl) (fun S1 hw => ?_)
    exact b_X10_writeNumber_17 hc hr x0 x1 S1 hw
def w_X10_writeTerm_59 (M : Nat × Nat) (K27 : Nat → Int32 → Int32 → Int32 → HS → Prop) (K : Int32 → HS → Prop) (x0 : Nat) (x1 x4 x5 : Int32) (S : HS) : Prop := hT S x0 = 11 ∧ wp_X10_writeByte M x0 (120 + x4) S (fun r1 S1 => (x5 ≤ 1 → K27 x0 x1 1 (x4 + 1) S1) ∧ (¬ (x5 ≤ 1) → hT S1 x0 = 11 ∧ wp_X10_writeByte M x0 94 S1 (fun r2 S2 => hT S2 x0 = 11 ∧ wp_X10_writeNumber M x0 x5 S2 (fun r3 S3 => K27 x0 x1 1 (x4 + 1) S3))))
set_option maxHeartbeats 4000000 in
set_option maxRecDepth 100000 in
theorem b_X10_writeTerm_59 {G : CG} {S0 : HS} {X : Fx} {K : Int32 → HS → Prop} (hc : Cx X RX10 cX10_writeTerm 6) (hr : Cc G S0 2 none (kV K) X) (K27 : Nat → Int32 → Int32 → Int32 → HS → Prop) (h27 : ∀ (x0 : Nat) (x1 x3 x4 : Int32) (S : HS), K27 x0 x1 x3 x4 S → MC G S0 X 6 S 27 [(0, .ref x0), (1, .int x1), (3, .int x3), (4, .int x4)] []) : ∀ (x0 : Nat) (x1 x4 x5 : Int32) (S : HS), w_X10_writeTerm_59 (gC G, gS G) K27 K x0 x1 x4 x5 S → MC G S0 X 6 S 59 [(0, .ref x0), (1, .int x1), (4, .int x4), (5, .int x5)] [] := by
  intro x0 x1 x4 x5 S hw
  unfold w_X10_writeTerm_59 at hw
  refine m_iconst hc 1 dX10_writeTerm_59 (by decide) ?_
  refine m_istore_n hc [(3, .int 1), (0, .ref x0), (1, .int x1), (4, .int x4), (5, .int x5)] dX10_writeTerm_60 rfl (Nat.le_of_ble_eq_true rfl) rfl ?_
  refine m_aload_n hc 1 dX10_writeTerm_61 rfl rfl ?_
  refine m_bipush hc 120 dX10_writeTerm_62 (by decide) ?_
  refine m_iload hc 3 dX10_writeTerm_64 rfl ?_
  refine m_iadd hc dX10_writeTerm_66 ?_
  obtain ⟨ht, hw⟩ := hw
  refine c_callVv hc hr ciX10 (Nat.le_of_ble_eq_true rfl) ht mt_X10_writeByte rfl lm_X10_24 (ok_X10_writeByte hw) (Nat.le_of_ble_eq_true rfl) dX10_writeTerm_67 rfl (rest := []) rfl (Nat.le_of_ble_eq_true rfl) (fun S1 hw => ?_)
  refine m_iload hc 4 dX10_writeTerm_70 rfl ?_
  refine m_iconst hc 1 dX10_writeTerm_72 (by decide) ?_
  refine m_icmp_le hc 88 dX10_writeTerm_73 rfl (fun cq => ?_) (fun cq => ?_)
  · have hw := hw.1 cq
    refine m_iinc hc 3 (x4 + 1) [(4, .int (x4 + 1)), (3, .int 1), (0, .ref x0), (1, .int x1), (5, .int x5)] dX10_writeTerm_88 rfl rfl (Nat.le_of_ble_eq_true rfl) rfl ?_
    refine m_goto hc 27 dX10_writeTerm_91 rfl ?_
    refine m_sub [2, 3, 1, 0] rfl ?_
    exact h27 x0 x1 1 (x4 + 1) S1 hw
  · have hw := hw.2 cq
    refine m_aload_n hc 1 dX10_writeTerm_76 rfl rfl ?_
    refine m_bipush hc 94 dX10_writeTerm_77 (by decide) ?_
    obtain ⟨ht, hw⟩ := hw
    refine c_callVv hc hr ciX10 (Nat.le_of_ble_eq_true rfl) ht mt_X10_writeByte rfl lm_X10_24 (ok_X10_writeByte hw) (Nat.le_of_ble_eq_true rfl) dX10_writeTerm_79 rfl (rest := []) rfl (Nat.le_of_ble_eq_true rfl) (fun S2 hw => ?_)
    refine m_aload_n hc 1 dX10_writeTerm_82 rfl rfl ?_
    refine m_iload hc 4 dX10_writeTerm_83 rfl ?_
    obtain ⟨ht, hw⟩ := hw
    refine c_callVv hc hr ciX10 (Nat.le_of_ble_eq_true rfl) ht mt_X10_writeNumber rfl lm_X10_45 (ok_X10_writeNumber hw) (Nat.le_of_ble_eq_true rfl) dX10_writeTerm_85 rfl (rest := []) rfl (Nat.le_of_ble_eq_true rfl) (fun S3 hw => ?_)
    refine m_iinc hc 3 (x4 + 1) [(4, .int (x4 + 1)), (3, .int 1), (0, .ref x0), (1, .int x1), (5, .int x5)] dX10_writeTerm_88 rfl rfl (Nat.le_of_ble_eq_true rfl) rfl ?_
    refine m_goto hc 27 dX10_writeTerm_91 rfl ?_
    refine m_sub [2, 3, 1, 0] rfl ?_
    exact h27 x0 x1 1 (x4 + 1) S3 hw
def wb_X10_writeTerm_27 (M : Nat × Nat) (K27 : Nat → Int32 → Int32 → Int32 → HS → Prop) (K : Int32 → HS → Prop) (x0 : Nat) (x1 x3 x4 : Int32) (S : HS) : Prop := (3 ≤ x4 → K 0 S) ∧ (¬ (3 ≤ x4) → wp_X6_exponent M x1 x4 S (fun r1 S1 => (¬ r1 = 0 → (x3 = 0 → w_X10_writeTerm_59 M K27 K x0 x1 x4 r1 S1) ∧ (¬ (x3 = 0) → hT S1 x0 = 11 ∧ wp_X10_writeByte M x0 42 S1 (fun r2 S2 => w_X10_writeTerm_59 M K27 K x0 x1 x4 r1 S2))) ∧ (r1 = 0 → K27 x0 x1 x3 (x4 + 1) S1)))
def wl_X10_writeTerm_27 (M : Nat × Nat) (K : Int32 → HS → Prop) : Nat → Nat → Int32 → Int32 → Int32 → HS → Prop
  | 0 => fun _ _ _ _ _ => False
  | nn + 1 => wb_X10_writeTerm_27 M (wl_X10_writeTerm_27 M K nn) K
set_option maxHeartbeats 4000000 in
set_option maxRecDepth 100000 in
theorem l_X10_writeTerm_27 {G : CG} {S0 : HS} {X : Fx} {K : Int32 → HS → Prop} (hc : Cx X RX10 cX10_writeTerm 6) (hr : Cc G S0 2 none (kV K) X) : ∀ (nn : Nat) (x0 : Nat) (x1 x3 x4 : Int32) (S : HS), wl_X10_writeTerm_27 (gC G, gS G) K nn x0 x1 x3 x4 S → MC G S0 X 6 S 27 [(0, .ref x0), (1, .int x1), (3, .int x3), (4, .int x4)] [] := by
  intro nn
  induction nn with
  | zero => intro x0 x1 x3 x4 S hw; exact False.elim hw
  | succ nn ih =>
    intro x0 x1 x3 x4 S hw
    have hw : wb_X10_writeTerm_27 (gC G, gS G) (wl_X10_writeTerm_27 (gC G, gS G) K nn) K x0 x1 x3 x4 S := hw
    have h27 := ih
    generalize wl_X10_writeTerm_27 (gC G, gS G) K nn = K27 at hw h27
    unfold wb_X10_writeTerm_27 at hw
    refine m_iload hc 3 dX10_writeTerm_27 rfl ?_
    refine m_iconst hc 3 dX10_writeTerm_29 (by decide) ?_
    refine m_icmp_ge hc 94 dX10_writeTerm_30 rfl (fun cq => ?_) (fun cq => ?_)
    · have hw := hw.1 cq
      exact c_vret hc hr dX10_writeTerm_94 hw
    · have hw := hw.2 cq
      refine m_iload_n hc 1 dX10_writeTerm_33 rfl rfl ?_
      refine m_iload hc 3 dX10_writeTerm_34 rfl ?_
      refine c_callSi hc hr mt_X6_exponent lm_X10_48 (ok_X6_exponent hw) (Nat.le_of_ble_eq_true rfl) dX10_writeTerm_36 rfl (rest := []) rfl (Nat.le_of_ble_eq_true rfl) (fun r1 S1 hw => ?_)
      refine m_istore hc [(5, .int r1), (0, .ref x0), (1, .int x1), (3, .int x3), (4, .int x4)] dX10_writeTerm_39 (Nat.le_of_ble_eq_true rfl) rfl ?_
      refine m_iload hc 0 dX10_writeTerm_41 rfl ?_
      refine m_if_ne hc 49 dX10_writeTerm_43 rfl (fun cq => ?_) (fun cq => ?_)
      · have hw := hw.1 cq
        refine m_iload_n hc 3 dX10_writeTerm_49 rfl rfl ?_
        refine m_if_eq hc 59 dX10_writeTerm_50 rfl (fun cq => ?_) (fun cq => ?_)
        · have hw := hw.1 cq
          refine m_sub [1, 2, 4, 0] rfl ?_
          exact b_X10_writeTerm_59 hc hr K27 h27 x0 x1 x4 r1 S1 hw
        · have hw := hw.2 cq
          refine m_aload_n hc 1 dX10_writeTerm_53 rfl rfl ?_
          refine m_bipush hc 42 dX10_writeTerm_54 (by decide) ?_
          obtain ⟨ht, hw⟩ := hw
          refine c_callVv hc hr ciX10 (Nat.le_of_ble_eq_true rfl) ht mt_X10_writeByte rfl lm_X10_24 (ok_X10_writeByte hw) (Nat.le_of_ble_eq_true rfl) dX10_writeTerm_56 rfl (rest := []) rfl (Nat.le_of_ble_eq_true rfl) (fun S2 hw => ?_)
          refine m_sub [1, 2, 4, 0] rfl ?_
          exact b_X10_writeTerm_59 hc hr K27 h27 x0 x1 x4 r1 S2 hw
      · have hw := hw.2 cq
        refine m_goto hc 88 dX10_writeTerm_46 rfl ?_
        refine m_iinc hc 4 (x4 + 1) [(4, .int (x4 + 1)), (5, .int r1), (0, .ref x0), (1, .int x1), (3, .int x3)] dX10_writeTerm_88 rfl rfl (Nat.le_of_ble_eq_true rfl) rfl ?_
        refine m_goto hc 27 dX10_writeTerm_91 rfl ?_
        refine m_sub [2, 3, 4, 0] rfl ?_
        exact h27 x0 x1 x3 (x4 + 1) S1 hw
def w_X10_writeTerm_14 (M : Nat × Nat) (K : Int32 → HS → Prop) (x0 : Nat) (x1 x2 s0 : Int32) (S : HS) : Prop := (s0 = 0 → ∃ nn : Nat, wl_X10_writeTerm_27 M K nn x0 x1 s0 0 S) ∧ (¬ (s0 = 0) → hT S x0 = 11 ∧ wp_X10_writeNumber M x0 x2 S (fun r1 S1 => ∃ nn : Nat, wl_X10_writeTerm_27 M K nn x0 x1 s0 0 S1))
set_option maxHeartbeats 4000000 in
set_option maxRecDepth 100000 in
theorem b_X10_writeTerm_14 {G : CG} {S0 : HS} {X : Fx} {K : Int32 → HS → Prop} (hc : Cx X RX10 cX10_writeTerm 6) (hr : Cc G S0 2 none (kV K) X) : ∀ (x0 : Nat) (x1 x2 s0 : Int32) (S : HS), w_X10_writeTerm_14 (gC G, gS G) K x0 x1 x2 s0 S → MC G S0 X 6 S 14 [(0, .ref x0), (1, .int x1), (2, .int x2)] [.int s0] := by
  intro x0 x1 x2 s0 S hw
  unfold w_X10_writeTerm_14 at hw
  refine m_istore_n hc [(3, .int s0), (0, .ref x0), (1, .int x1), (2, .int x2)] dX10_writeTerm_14 rfl (Nat.le_of_ble_eq_true rfl) rfl ?_
  refine m_iload_n hc 0 dX10_writeTerm_15 rfl rfl ?_
  refine m_if_eq hc 24 dX10_writeTerm_16 rfl (fun cq => ?_) (fun cq => ?_)
  · have hw := hw.1 cq
    refine m_iconst hc 0 dX10_writeTerm_24 (by decide) ?_
    refine m_istore hc [(4, .int 0), (3, .int s0), (0, .ref x0), (1, .int x1), (2, .int x2)] dX10_writeTerm_25 (Nat.le_of_ble_eq_true rfl) rfl ?_
    refine m_sub [2, 3, 1, 0] rfl ?_
    obtain ⟨nn, hw⟩ := hw
    exact l_X10_writeTerm_27 hc hr nn x0 x1 s0 0 S hw
  · have hw := hw.2 cq
    refine m_aload_n hc 1 dX10_writeTerm_19 rfl rfl ?_
    refine m_iload_n hc 3 dX10_writeTerm_20 rfl rfl ?_
    obtain ⟨ht, hw⟩ := hw
    refine c_callVv hc hr ciX10 (Nat.le_of_ble_eq_true rfl) ht mt_X10_writeNumber rfl lm_X10_45 (ok_X10_writeNumber hw) (Nat.le_of_ble_eq_true rfl) dX10_writeTerm_21 rfl (rest := []) rfl (Nat.le_of_ble_eq_true rfl) (fun S1 hw => ?_)
    refine m_iconst hc 0 dX10_writeTerm_24 (by decide) ?_
    refine m_istore hc [(4, .int 0), (3, .int s0), (0, .ref x0), (1, .int x1), (2, .int x2)] dX10_writeTerm_25 (Nat.le_of_ble_eq_true rfl) rfl ?_
    refine m_sub [2, 3, 1, 0] rfl ?_
    obtain ⟨nn, hw⟩ := hw
    exact l_X10_writeTerm_27 hc hr nn x0 x1 s0 0 S1 hw
def wp_X10_writeTerm (M : Nat × Nat) (x0 : Nat) (x1 x2 : Int32) (S : HS) (K : Int32 → HS → Prop) : Prop := (¬ x2 = 1 → w_X10_writeTerm_14 M K x0 x1 x2 1 S) ∧ (x2 = 1 → (¬ x1 = 0 → w_X10_writeTerm_14 M K x0 x1 x2 0 S) ∧ (x1 = 0 → w_X10_writeTerm_14 M K x0 x1 x2 1 S))
set_option maxHeartbeats 4000000 in
set_option maxRecDepth 100000 in
theorem ok_X10_writeTerm {G : CG} {x0 : Nat} {x1 : Int32} {x2 : Int32} {S : HS} {K : Int32 → HS → Prop} (hw : wp_X10_writeTerm (gC G, gS G) x0 x1 x2 S K) : CC 2 yX10_writeTerm cX10_writeTerm 6 none [.ref x0, .int x1, .int x2] G S (kV K) := by
  refine CC.of (by decide +kernel) (Nat.le_of_ble_eq_true rfl) (fun X hc hr hname => ?_)
  show MC G S X 6 S 0 [(0, .ref x0), (1, .int x1), (2, .int x2)] []
  generalize hS0 : S = S0 at hr ⊢
  rw [hS0] at hw
  clear hS0
  unfold wp_X10_writeTerm at hw
  refine m_iload_n hc 2 dX10_writeTerm_0 rfl rfl ?_
  refine m_iconst hc 1 dX10_writeTerm_1 (by decide) ?_
  refine m_icmp_ne hc 9 dX10_writeTerm_2 rfl (fun cq => ?_) (fun cq => ?_)
  · have hw := hw.1 cq
    refine m_iconst hc 1 dX10_writeTerm_9 (by decide) ?_
    refine m_goto hc 14 dX10_writeTerm_10 rfl ?_
    exact b_X10_writeTerm_14 hc hr x0 x1 x2 1 S hw
  · have hw := hw.2 cq
    refine m_iload_n hc 1 dX10_writeTerm_5 rfl rfl ?_
    refine m_if_ne hc 13 dX10_writeTerm_6 rfl (fun cq => ?_) (fun cq => ?_)
    · have hw := hw.1 cq
      refine m_iconst hc 0 dX10_writeTerm_13 (by decide) ?_
      exact b_X10_writeTerm_14 hc hr x0 x1 x2 0 S hw
    · have hw := hw.2 cq
      refine m_iconst hc 1 dX10_writeTerm_9 (by decide) ?_
      refine m_goto hc 14 dX10_writeTerm_10 rfl ?_
      exact b_X10_writeTerm_14 hc hr x0 x1 x2 1 S hw
def w_X10_write_25 (M : Nat × Nat) (K7 : Nat → Nat → Nat → Int32 → HS → Prop) (K : Int32 → HS → Prop) (x0 x1 x2 : Nat) (x3 : Int32) (S : HS) : Prop := hT S x2 = 5 ∧ wp_X4_indexOf M x2 x3 S (fun r1 S1 => hT S1 x1 = 7 ∧ ∃ b2 : Nat, hP S1 x1 0 = some b2 ∧ hT S1 b2 = 21 ∧ vp_in r1 (hN S1 b2) ∧ hT S1 x1 = 7 ∧ ∃ b3 : Nat, hP S1 x1 1 = some b3 ∧ hT S1 b3 = 21 ∧ vp_in r1 (hN S1 b3) ∧ hT S1 x0 = 11 ∧ wp_X10_writeTerm M x0 (hI S1 b2 (Int32.toNatClampNeg r1)) (hI S1 b3 (Int32.toNatClampNeg r1)) S1 (fun r4 S4 => K7 x0 x1 x2 (x3 + 1) S4))
set_option maxHeartbeats 4000000 in
set_option maxRecDepth 100000 in
theorem b_X10_write_25 {G : CG} {S0 : HS} {X : Fx} {K : Int32 → HS → Prop} (hc : Cx X RX10 cX10_write 5) (hr : Cc G S0 3 none (kV K) X) (K7 : Nat → Nat → Nat → Int32 → HS → Prop) (h7 : ∀ (x0 x1 x2 : Nat) (x3 : Int32) (S : HS), K7 x0 x1 x2 x3 S → MC G S0 X 5 S 7 [(0, .ref x0), (1, .ref x1), (2, .ref x2), (3, .int x3)] []) : ∀ (x0 x1 x2 : Nat) (x3 : Int32) (S : HS), w_X10_write_25 (gC G, gS G) K7 K x0 x1 x2 x3 S → MC G S0 X 5 S 25 [(0, .ref x0), (1, .ref x1), (2, .ref x2), (3, .int x3)] [] := by
  intro x0 x1 x2 x3 S hw
  unfold w_X10_write_25 at hw
  refine m_aload_n hc 2 dX10_write_25 rfl rfl ?_
  refine m_iload_n hc 3 dX10_write_26 rfl rfl ?_
  obtain ⟨ht, hw⟩ := hw
  refine c_callVi hc hr ciX4 (Nat.le_of_ble_eq_true rfl) ht mt_X4_indexOf rfl lm_X10_28 (ok_X4_indexOf hw) (Nat.le_of_ble_eq_true rfl) dX10_write_27 rfl (rest := []) rfl (Nat.le_of_ble_eq_true rfl) (fun r1 S1 hw => ?_)
  refine m_istore hc [(4, .int r1), (0, .ref x0), (1, .ref x1), (2, .ref x2), (3, .int x3)] dX10_write_30 (Nat.le_of_ble_eq_true rfl) rfl ?_
  refine m_aload_n hc 1 dX10_write_32 rfl rfl ?_
  refine m_aload_n hc 2 dX10_write_33 rfl rfl ?_
  obtain ⟨ht, b2, e_b2, hw⟩ := hw
  refine c_getr hc hr ciX6 (Nat.le_of_ble_eq_true rfl) 0 (Nat.le_of_ble_eq_true rfl) rfl dX10_write_34 lf_X10_34 ht e_b2 ?_
  refine m_iload hc 0 dX10_write_37 rfl ?_
  obtain ⟨ht, hi, hw⟩ := hw
  refine c_iald hc hr ht hi dX10_write_39 ?_
  refine m_aload_n hc 2 dX10_write_40 rfl rfl ?_
  obtain ⟨ht, b3, e_b3, hw⟩ := hw
  refine c_getr hc hr ciX6 (Nat.le_of_ble_eq_true rfl) 1 (Nat.le_of_ble_eq_true rfl) rfl dX10_write_41 lf_X10_38 ht e_b3 ?_
  refine m_iload hc 0 dX10_write_44 rfl ?_
  obtain ⟨ht, hi, hw⟩ := hw
  refine c_iald hc hr ht hi dX10_write_46 ?_
  obtain ⟨ht, hw⟩ := hw
  refine c_callVv hc hr ciX10 (Nat.le_of_ble_eq_true rfl) ht mt_X10_writeTerm rfl lm_X10_41 (ok_X10_writeTerm hw) (Nat.le_of_ble_eq_true rfl) dX10_write_47 rfl (rest := []) rfl (Nat.le_of_ble_eq_true rfl) (fun S4 hw => ?_)
  refine m_iinc hc 4 (x3 + 1) [(3, .int (x3 + 1)), (4, .int r1), (0, .ref x0), (1, .ref x1), (2, .ref x2)] dX10_write_50 rfl rfl (Nat.le_of_ble_eq_true rfl) rfl ?_
  refine m_goto hc 7 dX10_write_53 rfl ?_
  refine m_sub [2, 3, 4, 0] rfl ?_
  exact h7 x0 x1 x2 (x3 + 1) S4 hw
def wb_X10_write_7 (M : Nat × Nat) (K7 : Nat → Nat → Nat → Int32 → HS → Prop) (K : Int32 → HS → Prop) (x0 x1 x2 : Nat) (x3 : Int32) (S : HS) : Prop := hT S x1 = 7 ∧ ((hI S x1 2) ≤ x3 → hT S x1 = 7 ∧ (¬ (hI S x1 2) = 0 → K 0 S) ∧ ((hI S x1 2) = 0 → hT S x0 = 11 ∧ wp_X10_writeByte M x0 48 S (fun r1 S1 => K 0 S1))) ∧ (¬ ((hI S x1 2) ≤ x3) → (x3 ≤ 0 → w_X10_write_25 M K7 K x0 x1 x2 x3 S) ∧ (¬ (x3 ≤ 0) → hT S x0 = 11 ∧ wp_X10_writeByte M x0 43 S (fun r2 S2 => w_X10_write_25 M K7 K x0 x1 x2 x3 S2)))
def wl_X10_write_7 (M : Nat × Nat) (K : Int32 → HS → Prop) : Nat → Nat → Nat → Nat → Int32 → HS → Prop
  | 0 => fun _ _ _ _ _ => False
  | nn + 1 => wb_X10_write_7 M (wl_X10_write_7 M K nn) K
set_option maxHeartbeats 4000000 in
set_option maxRecDepth 100000 in
theorem l_X10_write_7 {G : CG} {S0 : HS} {X : Fx} {K : Int32 → HS → Prop} (hc : Cx X RX10 cX10_write 5) (hr : Cc G S0 3 none (kV K) X) : ∀ (nn : Nat) (x0 x1 x2 : Nat) (x3 : Int32) (S : HS), wl_X10_write_7 (gC G, gS G) K nn x0 x1 x2 x3 S → MC G S0 X 5 S 7 [(0, .ref x0), (1, .ref x1), (2, .ref x2), (3, .int x3)] [] := by
  intro nn
  induction nn with
  | zero => intro x0 x1 x2 x3 S hw; exact False.elim hw
  | succ nn ih =>
    intro x0 x1 x2 x3 S hw
    have hw : wb_X10_write_7 (gC G, gS G) (wl_X10_write_7 (gC G, gS G) K nn) K x0 x1 x2 x3 S := hw
    have h7 := ih
    generalize wl_X10_write_7 (gC G, gS G) K nn = K7 at hw h7
    unfold wb_X10_write_7 at hw
    refine m_iload_n hc 3 dX10_write_7 rfl rfl ?_
    refine m_aload_n hc 1 dX10_write_8 rfl rfl ?_
    obtain ⟨ht, hw⟩ := hw
    refine c_geti hc hr ciX6 (Nat.le_of_ble_eq_true rfl) 2 (Nat.le_of_ble_eq_true rfl) rfl dX10_write_9 lf_X10_19 ht ?_
    refine m_icmp_ge hc 56 dX10_write_12 rfl (fun cq => ?_) (fun cq => ?_)
    · have hw := hw.1 cq
      refine m_aload_n hc 1 dX10_write_56 rfl rfl ?_
      obtain ⟨ht, hw⟩ := hw
      refine c_geti hc hr ciX6 (Nat.le_of_ble_eq_true rfl) 2 (Nat.le_of_ble_eq_true rfl) rfl dX10_write_57 lf_X10_19 ht ?_
      refine m_if_ne hc 69 dX10_write_60 rfl (fun cq => ?_) (fun cq => ?_)
      · have hw := hw.1 cq
        exact c_vret hc hr dX10_write_69 hw
      · have hw := hw.2 cq
        refine m_aload_n hc 0 dX10_write_63 rfl rfl ?_
        refine m_bipush hc 48 dX10_write_64 (by decide) ?_
        obtain ⟨ht, hw⟩ := hw
        refine c_callVv hc hr ciX10 (Nat.le_of_ble_eq_true rfl) ht mt_X10_writeByte rfl lm_X10_24 (ok_X10_writeByte hw) (Nat.le_of_ble_eq_true rfl) dX10_write_66 rfl (rest := []) rfl (Nat.le_of_ble_eq_true rfl) (fun S1 hw => ?_)
        exact c_vret hc hr dX10_write_69 hw
    · have hw := hw.2 cq
      refine m_iload_n hc 3 dX10_write_15 rfl rfl ?_
      refine m_if_le hc 25 dX10_write_16 rfl (fun cq => ?_) (fun cq => ?_)
      · have hw := hw.1 cq
        exact b_X10_write_25 hc hr K7 h7 x0 x1 x2 x3 S hw
      · have hw := hw.2 cq
        refine m_aload_n hc 0 dX10_write_19 rfl rfl ?_
        refine m_bipush hc 43 dX10_write_20 (by decide) ?_
        obtain ⟨ht, hw⟩ := hw
        refine c_callVv hc hr ciX10 (Nat.le_of_ble_eq_true rfl) ht mt_X10_writeByte rfl lm_X10_24 (ok_X10_writeByte hw) (Nat.le_of_ble_eq_true rfl) dX10_write_22 rfl (rest := []) rfl (Nat.le_of_ble_eq_true rfl) (fun S2 hw => ?_)
        exact b_X10_write_25 hc hr K7 h7 x0 x1 x2 x3 S2 hw
def wp_X10_write (M : Nat × Nat) (x0 x1 x2 : Nat) (S : HS) (K : Int32 → HS → Prop) : Prop := hT S x0 = 11 ∧ ∃ nn : Nat, wl_X10_write_7 M K nn x0 x1 x2 0 (sI S x0 0 0)
set_option maxHeartbeats 4000000 in
set_option maxRecDepth 100000 in
theorem ok_X10_write {G : CG} {x0 : Nat} {x1 : Nat} {x2 : Nat} {S : HS} {K : Int32 → HS → Prop} (hw : wp_X10_write (gC G, gS G) x0 x1 x2 S K) : CC 3 yX10_write cX10_write 5 none [.ref x0, .ref x1, .ref x2] G S (kV K) := by
  refine CC.of (by decide +kernel) (Nat.le_of_ble_eq_true rfl) (fun X hc hr hname => ?_)
  show MC G S X 5 S 0 [(0, .ref x0), (1, .ref x1), (2, .ref x2)] []
  generalize hS0 : S = S0 at hr ⊢
  rw [hS0] at hw
  clear hS0
  unfold wp_X10_write at hw
  refine m_aload_n hc 0 dX10_write_0 rfl rfl ?_
  refine m_iconst hc 0 dX10_write_1 (by decide) ?_
  obtain ⟨ht, hw⟩ := hw
  refine c_puti hc hr ciX10 (Nat.le_of_ble_eq_true rfl) 0 (Nat.le_of_ble_eq_true rfl) rfl dX10_write_2 lf_X10_9 ht (Or.inl rfl) ⟨rfl, rfl⟩ ?_
  refine m_iconst hc 0 dX10_write_5 (by decide) ?_
  refine m_istore_n hc [(3, .int 0), (0, .ref x0), (1, .ref x1), (2, .ref x2)] dX10_write_6 rfl (Nat.le_of_ble_eq_true rfl) rfl ?_
  refine m_sub [1, 2, 3, 0] rfl ?_
  obtain ⟨nn, hw⟩ := hw
  exact l_X10_write_7 hc hr nn x0 x1 x2 0 (sI S x0 0 0) hw
