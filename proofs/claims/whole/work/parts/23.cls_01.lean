def wp_X3_init (M : Nat × Nat) (x0 : Nat) (x1 x2 x3 x4 : Int32) (S : HS) (K : Int32 → HS → Prop) : Prop := hT S x0 = 4 ∧ wp_X3_set M x0 x1 x2 x3 x4 S (fun r1 S1 => K 0 S1)
set_option maxHeartbeats 4000000 in
set_option maxRecDepth 100000 in
theorem ok_X3_init {G : CG} {x0 : Nat} {x1 : Int32} {x2 : Int32} {x3 : Int32} {x4 : Int32} {S : HS} {K : Int32 → HS → Prop} (hw : wp_X3_init (gC G, gS G) x0 x1 x2 x3 x4 S K) : CC 1 yX3_init cX3_init 5 none [.ref x0, .int x1, .int x2, .int x3, .int x4] G S (kV K) := by
  refine CC.of (by decide +kernel) (Nat.le_of_ble_eq_true rfl) (fun X hc hr hname => ?_)
  have hnm : Ci X := hname
  show MC G S X 5 S 0 [(0, .ref x0), (1, .int x1), (2, .int x2), (3, .int x3), (4, .int x4)] []
  unfold wp_X3_init at hw
  refine m_aload_n hc 0 dX3_init_0 rfl rfl ?_
  refine c_bnd (fun g1 g2 => ?_)
  refine q_objinit hc dX3_init_1 lm_X3_1 lObj (c_room hr g1 g2) (Nat.le_of_ble_eq_true rfl) ?_
  refine m_aload_n hc 0 dX3_init_4 rfl rfl ?_
  refine m_iload_n hc 1 dX3_init_5 rfl rfl ?_
  refine m_iload_n hc 2 dX3_init_6 rfl rfl ?_
  refine m_iload_n hc 3 dX3_init_7 rfl rfl ?_
  refine m_iload hc 4 dX3_init_8 rfl ?_
  obtain ⟨ht, hw⟩ := hw
  refine c_callVv hc hr ciX3 (Nat.le_of_ble_eq_true rfl) ht mt_X3_set rfl lm_X3_7 (ok_X3_set hw) (Nat.le_of_ble_eq_true rfl) dX3_init_10 rfl (rest := []) rfl (Nat.le_of_ble_eq_true rfl) (fun S1 hw => ?_)
  exact c_vret hc hr dX3_init_13 hw
def wp_X5_init (M : Nat × Nat) (x0 : Nat) (S : HS) (K : Int32 → HS → Prop) : Prop := ¬ (2197 : Int32) < 0 ∧ (Int32.toNatClampNeg 2197) ≤ 100000000 ∧ hX S + 1 ≤ M.1 ∧ hS S + (Int32.toNatClampNeg 2197) ≤ M.2 ∧ ∀ (b1 : Nat) (S1 : HS), b1 = hX S → S1 = nO S 21 (Int32.toNatClampNeg 2197) → hT S1 x0 = 6 ∧ ¬ (13 : Int32) < 0 ∧ (Int32.toNatClampNeg 13) ≤ 100000000 ∧ hX (sP S1 x0 0 (some b1)) + 1 ≤ M.1 ∧ hS (sP S1 x0 0 (some b1)) + (Int32.toNatClampNeg 13) ≤ M.2 ∧ ∀ (b2 : Nat) (S2 : HS), b2 = hX (sP S1 x0 0 (some b1)) → S2 = nO (sP S1 x0 0 (some b1)) 21 (Int32.toNatClampNeg 13) → hT S2 x0 = 6 ∧ hT (sP S2 x0 1 (some b2)) x0 = 6 ∧ hT (sI (sP S2 x0 1 (some b2)) x0 2 2) x0 = 6 ∧ K 0 (sI (sI (sP S2 x0 1 (some b2)) x0 2 2) x0 3 8)
set_option maxHeartbeats 4000000 in
set_option maxRecDepth 100000 in
theorem ok_X5_init {G : CG} {x0 : Nat} {S : HS} {K : Int32 → HS → Prop} (hw : wp_X5_init (gC G, gS G) x0 S K) : CC 1 yX5_init cX5_init 1 none [.ref x0] G S (kV K) := by
  refine CC.of (by decide +kernel) (Nat.le_of_ble_eq_true rfl) (fun X hc hr hname => ?_)
  have hnm : Ci X := hname
  show MC G S X 1 S 0 [(0, .ref x0)] []
  unfold wp_X5_init at hw
  refine m_aload_n hc 0 dX5_init_0 rfl rfl ?_
  refine c_bnd (fun g1 g2 => ?_)
  refine q_objinit hc dX5_init_1 lm_X5_3 lObj (c_room hr g1 g2) (Nat.le_of_ble_eq_true rfl) ?_
  refine m_aload_n hc 0 dX5_init_4 rfl rfl ?_
  refine m_sipush hc 2197 dX5_init_5 (by decide) ?_
  obtain ⟨hn0, hn1, hm, hm2, hw⟩ := hw
  refine n_newi hc hr dX5_init_8 laI hn0 hn1 hm hm2 (fun b1 S1 e_b1 e_S1 => ?_)
  have hw := hw b1 S1 e_b1 e_S1
  obtain ⟨ht, hw⟩ := hw
  refine c_putr hc hr ciX5 (Nat.le_of_ble_eq_true rfl) 0 (Nat.le_of_ble_eq_true rfl) rfl dX5_init_10 lf_X5_9 ht (Or.inr ⟨rfl, hnm, rfl⟩) (Or.inr ⟨_, rfl⟩) ?_
  refine m_aload_n hc 0 dX5_init_13 rfl rfl ?_
  refine m_bipush hc 13 dX5_init_14 (by decide) ?_
  obtain ⟨hn0, hn1, hm, hm2, hw⟩ := hw
  refine n_newi hc hr dX5_init_16 laI hn0 hn1 hm hm2 (fun b2 S2 e_b2 e_S2 => ?_)
  have hw := hw b2 S2 e_b2 e_S2
  obtain ⟨ht, hw⟩ := hw
  refine c_putr hc hr ciX5 (Nat.le_of_ble_eq_true rfl) 1 (Nat.le_of_ble_eq_true rfl) rfl dX5_init_18 lf_X5_15 ht (Or.inr ⟨rfl, hnm, rfl⟩) (Or.inr ⟨_, rfl⟩) ?_
  refine m_aload_n hc 0 dX5_init_21 rfl rfl ?_
  refine m_iconst hc 2 dX5_init_22 (by decide) ?_
  obtain ⟨ht, hw⟩ := hw
  refine c_puti hc hr ciX5 (Nat.le_of_ble_eq_true rfl) 2 (Nat.le_of_ble_eq_true rfl) rfl dX5_init_23 lf_X5_18 ht (Or.inl rfl) ⟨rfl, rfl⟩ ?_
  refine m_aload_n hc 0 dX5_init_26 rfl rfl ?_
  refine m_bipush hc 8 dX5_init_27 (by decide) ?_
  obtain ⟨ht, hw⟩ := hw
  refine c_puti hc hr ciX5 (Nat.le_of_ble_eq_true rfl) 3 (Nat.le_of_ble_eq_true rfl) rfl dX5_init_29 lf_X5_22 ht (Or.inl rfl) ⟨rfl, rfl⟩ ?_
  exact c_vret hc hr dX5_init_32 hw
def wp_X6_init (M : Nat × Nat) (x0 : Nat) (x1 : Int32) (S : HS) (K : Int32 → HS → Prop) : Prop := hT S x0 = 7 ∧ hT (sI S x0 2 0) x0 = 7 ∧ ¬ (x1 : Int32) < 0 ∧ (Int32.toNatClampNeg x1) ≤ 100000000 ∧ hX (sI (sI S x0 2 0) x0 3 0) + 1 ≤ M.1 ∧ hS (sI (sI S x0 2 0) x0 3 0) + (Int32.toNatClampNeg x1) ≤ M.2 ∧ ∀ (b1 : Nat) (S1 : HS), b1 = hX (sI (sI S x0 2 0) x0 3 0) → S1 = nO (sI (sI S x0 2 0) x0 3 0) 21 (Int32.toNatClampNeg x1) → hT S1 x0 = 7 ∧ ¬ (x1 : Int32) < 0 ∧ (Int32.toNatClampNeg x1) ≤ 100000000 ∧ hX (sP S1 x0 0 (some b1)) + 1 ≤ M.1 ∧ hS (sP S1 x0 0 (some b1)) + (Int32.toNatClampNeg x1) ≤ M.2 ∧ ∀ (b2 : Nat) (S2 : HS), b2 = hX (sP S1 x0 0 (some b1)) → S2 = nO (sP S1 x0 0 (some b1)) 21 (Int32.toNatClampNeg x1) → hT S2 x0 = 7 ∧ K 0 (sP S2 x0 1 (some b2))
set_option maxHeartbeats 4000000 in
set_option maxRecDepth 100000 in
theorem ok_X6_init {G : CG} {x0 : Nat} {x1 : Int32} {S : HS} {K : Int32 → HS → Prop} (hw : wp_X6_init (gC G, gS G) x0 x1 S K) : CC 1 yX6_init cX6_init 2 none [.ref x0, .int x1] G S (kV K) := by
  refine CC.of (by decide +kernel) (Nat.le_of_ble_eq_true rfl) (fun X hc hr hname => ?_)
  have hnm : Ci X := hname
  show MC G S X 2 S 0 [(0, .ref x0), (1, .int x1)] []
  unfold wp_X6_init at hw
  refine m_aload_n hc 0 dX6_init_0 rfl rfl ?_
  refine c_bnd (fun g1 g2 => ?_)
  refine q_objinit hc dX6_init_1 lm_X6_3 lObj (c_room hr g1 g2) (Nat.le_of_ble_eq_true rfl) ?_
  refine m_aload_n hc 0 dX6_init_4 rfl rfl ?_
  refine m_iconst hc 0 dX6_init_5 (by decide) ?_
  obtain ⟨ht, hw⟩ := hw
  refine c_puti hc hr ciX6 (Nat.le_of_ble_eq_true rfl) 2 (Nat.le_of_ble_eq_true rfl) rfl dX6_init_6 lf_X6_9 ht (Or.inl rfl) ⟨rfl, rfl⟩ ?_
  refine m_aload_n hc 0 dX6_init_9 rfl rfl ?_
  refine m_iconst hc 0 dX6_init_10 (by decide) ?_
  obtain ⟨ht, hw⟩ := hw
  refine c_puti hc hr ciX6 (Nat.le_of_ble_eq_true rfl) 3 (Nat.le_of_ble_eq_true rfl) rfl dX6_init_11 lf_X6_15 ht (Or.inl rfl) ⟨rfl, rfl⟩ ?_
  refine m_aload_n hc 0 dX6_init_14 rfl rfl ?_
  refine m_iload_n hc 1 dX6_init_15 rfl rfl ?_
  obtain ⟨hn0, hn1, hm, hm2, hw⟩ := hw
  refine n_newi hc hr dX6_init_16 laI hn0 hn1 hm hm2 (fun b1 S1 e_b1 e_S1 => ?_)
  have hw := hw b1 S1 e_b1 e_S1
  obtain ⟨ht, hw⟩ := hw
  refine c_putr hc hr ciX6 (Nat.le_of_ble_eq_true rfl) 0 (Nat.le_of_ble_eq_true rfl) rfl dX6_init_18 lf_X6_19 ht (Or.inr ⟨rfl, hnm, rfl⟩) (Or.inr ⟨_, rfl⟩) ?_
  refine m_aload_n hc 0 dX6_init_21 rfl rfl ?_
  refine m_iload_n hc 1 dX6_init_22 rfl rfl ?_
  obtain ⟨hn0, hn1, hm, hm2, hw⟩ := hw
  refine n_newi hc hr dX6_init_23 laI hn0 hn1 hm hm2 (fun b2 S2 e_b2 e_S2 => ?_)
  have hw := hw b2 S2 e_b2 e_S2
  obtain ⟨ht, hw⟩ := hw
  refine c_putr hc hr ciX6 (Nat.le_of_ble_eq_true rfl) 1 (Nat.le_of_ble_eq_true rfl) rfl dX6_init_25 lf_X6_23 ht (Or.inr ⟨rfl, hnm, rfl⟩) (Or.inr ⟨_, rfl⟩) ?_
  exact c_vret hc hr dX6_init_28 hw
def wp_X2_init (M : Nat × Nat) (x0 : Nat) (S : HS) (K : Int32 → HS → Prop) : Prop := ¬ (600 : Int32) < 0 ∧ (Int32.toNatClampNeg 600) ≤ 100000000 ∧ hX S + 1 ≤ M.1 ∧ hS S + (Int32.toNatClampNeg 600) ≤ M.2 ∧ ∀ (b1 : Nat) (S1 : HS), b1 = hX S → S1 = nO S 21 (Int32.toNatClampNeg 600) → hT S1 x0 = 3 ∧ hT (sP S1 x0 0 (some b1)) x0 = 3 ∧ hX (sI (sP S1 x0 0 (some b1)) x0 1 0) + 1 ≤ M.1 ∧ hS (sI (sP S1 x0 0 (some b1)) x0 1 0) + 4 ≤ M.2 ∧ ∀ (b2 : Nat) (S2 : HS), b2 = hX (sI (sP S1 x0 0 (some b1)) x0 1 0) → S2 = nO (sI (sP S1 x0 0 (some b1)) x0 1 0) 7 4 → wp_X6_init M b2 0 S2 (fun r3 S3 => hT S3 x0 = 3 ∧ hX (sP S3 x0 2 (some b2)) + 1 ≤ M.1 ∧ hS (sP S3 x0 2 (some b2)) + 4 ≤ M.2 ∧ ∀ (b4 : Nat) (S4 : HS), b4 = hX (sP S3 x0 2 (some b2)) → S4 = nO (sP S3 x0 2 (some b2)) 7 4 → wp_X6_init M b4 300 S4 (fun r5 S5 => hT S5 x0 = 3 ∧ hX (sP S5 x0 3 (some b4)) + 1 ≤ M.1 ∧ hS (sP S5 x0 3 (some b4)) + 4 ≤ M.2 ∧ ∀ (b6 : Nat) (S6 : HS), b6 = hX (sP S5 x0 3 (some b4)) → S6 = nO (sP S5 x0 3 (some b4)) 6 4 → wp_X5_init M b6 S6 (fun r7 S7 => hT S7 x0 = 3 ∧ hX (sP S7 x0 4 (some b6)) + 1 ≤ M.1 ∧ hS (sP S7 x0 4 (some b6)) + 4 ≤ M.2 ∧ ∀ (b8 : Nat) (S8 : HS), b8 = hX (sP S7 x0 4 (some b6)) → S8 = nO (sP S7 x0 4 (some b6)) 6 4 → wp_X5_init M b8 S8 (fun r9 S9 => hT S9 x0 = 3 ∧ hX (sP S9 x0 5 (some b8)) + 1 ≤ M.1 ∧ hS (sP S9 x0 5 (some b8)) + 3 ≤ M.2 ∧ ∀ (b10 : Nat) (S10 : HS), b10 = hX (sP S9 x0 5 (some b8)) → S10 = nO (sP S9 x0 5 (some b8)) 2 3 → wp_X1_init M b10 S10 (fun r11 S11 => hT S11 x0 = 3 ∧ hX (sP S11 x0 6 (some b10)) + 1 ≤ M.1 ∧ hS (sP S11 x0 6 (some b10)) + 3 ≤ M.2 ∧ ∀ (b12 : Nat) (S12 : HS), b12 = hX (sP S11 x0 6 (some b10)) → S12 = nO (sP S11 x0 6 (some b10)) 2 3 → wp_X1_init M b12 S12 (fun r13 S13 => hT S13 x0 = 3 ∧ ¬ (3 : Int32) < 0 ∧ (Int32.toNatClampNeg 3) ≤ 100000000 ∧ hX (sP S13 x0 7 (some b12)) + 1 ≤ M.1 ∧ hS (sP S13 x0 7 (some b12)) + (Int32.toNatClampNeg 3) ≤ M.2 ∧ ∀ (b14 : Nat) (S14 : HS), b14 = hX (sP S13 x0 7 (some b12)) → S14 = nO (sP S13 x0 7 (some b12)) 21 (Int32.toNatClampNeg 3) → hT S14 x0 = 3 ∧ hT (sP S14 x0 8 (some b14)) x0 = 3 ∧ ¬ (3 : Int32) < 0 ∧ (Int32.toNatClampNeg 3) ≤ 100000000 ∧ hX (sI (sP S14 x0 8 (some b14)) x0 9 0) + 1 ≤ M.1 ∧ hS (sI (sP S14 x0 8 (some b14)) x0 9 0) + (Int32.toNatClampNeg 3) ≤ M.2 ∧ ∀ (b15 : Nat) (S15 : HS), b15 = hX (sI (sP S14 x0 8 (some b14)) x0 9 0) → S15 = nO (sI (sP S14 x0 8 (some b14)) x0 9 0) 21 (Int32.toNatClampNeg 3) → hT S15 x0 = 3 ∧ hX (sP S15 x0 10 (some b15)) + 1 ≤ M.1 ∧ hS (sP S15 x0 10 (some b15)) + 6 ≤ M.2 ∧ ∀ (b16 : Nat) (S16 : HS), b16 = hX (sP S15 x0 10 (some b15)) → S16 = nO (sP S15 x0 10 (some b15)) 4 6 → wp_X3_init M b16 1 0 0 0 S16 (fun r17 S17 => hT S17 x0 = 3 ∧ hT (sP S17 x0 11 (some b16)) x0 = 3 ∧ hT (sI (sP S17 x0 11 (some b16)) x0 12 2) x0 = 3 ∧ K 0 (sP (sI (sP S17 x0 11 (some b16)) x0 12 2) x0 13 none))))))))
set_option maxHeartbeats 4000000 in
set_option maxRecDepth 100000 in
theorem ok_X2_init {G : CG} {x0 : Nat} {S : HS} {K : Int32 → HS → Prop} (hw : wp_X2_init (gC G, gS G) x0 S K) : CC 2 yX2_init cX2_init 1 none [.ref x0] G S (kV K) := by
  refine CC.of (by decide +kernel) (Nat.le_of_ble_eq_true rfl) (fun X hc hr hname => ?_)
  have hnm : Ci X := hname
  show MC G S X 1 S 0 [(0, .ref x0)] []
  unfold wp_X2_init at hw
  refine m_aload_n hc 0 dX2_init_0 rfl rfl ?_
  refine c_bnd (fun g1 g2 => ?_)
  refine q_objinit hc dX2_init_1 lm_X2_3 lObj (c_room hr g1 g2) (Nat.le_of_ble_eq_true rfl) ?_
  refine m_aload_n hc 0 dX2_init_4 rfl rfl ?_
  refine m_sipush hc 600 dX2_init_5 (by decide) ?_
  obtain ⟨hn0, hn1, hm, hm2, hw⟩ := hw
  refine n_newi hc hr dX2_init_8 laI hn0 hn1 hm hm2 (fun b1 S1 e_b1 e_S1 => ?_)
  have hw := hw b1 S1 e_b1 e_S1
  obtain ⟨ht, hw⟩ := hw
  refine c_putr hc hr ciX2 (Nat.le_of_ble_eq_true rfl) 0 (Nat.le_of_ble_eq_true rfl) rfl dX2_init_10 lf_X2_11 ht (Or.inr ⟨rfl, hnm, rfl⟩) (Or.inr ⟨_, rfl⟩) ?_
  refine m_aload_n hc 0 dX2_init_13 rfl rfl ?_
  refine m_iconst hc 0 dX2_init_14 (by decide) ?_
  obtain ⟨ht, hw⟩ := hw
  refine c_puti hc hr ciX2 (Nat.le_of_ble_eq_true rfl) 1 (Nat.le_of_ble_eq_true rfl) rfl dX2_init_15 lf_X2_15 ht (Or.inl rfl) ⟨rfl, rfl⟩ ?_
  refine m_aload_n hc 0 dX2_init_18 rfl rfl ?_
  obtain ⟨hm, hm2, hw⟩ := hw
  refine n_new hc hr ciX6 (Nat.le_of_ble_eq_true rfl) dfX6 dX2_init_19 lcl_X2_19 lni_X6 hm hm2 (fun b2 S2 e_b2 e_S2 => ?_)
  have hw := hw b2 S2 e_b2 e_S2
  refine m_dup hc dX2_init_22 rfl ?_
  refine m_iconst hc 0 dX2_init_23 (by decide) ?_
  refine c_callIv hc hr mt_X6_init lm_X2_21 (ok_X6_init hw) (Nat.le_of_ble_eq_true rfl) dX2_init_24 rfl (rest := [.ref b2, .ref x0]) rfl (Nat.le_of_ble_eq_true rfl) (fun S3 hw => ?_)
  obtain ⟨ht, hw⟩ := hw
  refine c_putr hc hr ciX2 (Nat.le_of_ble_eq_true rfl) 2 (Nat.le_of_ble_eq_true rfl) rfl dX2_init_27 lf_X2_24 ht (Or.inr ⟨rfl, hnm, rfl⟩) (Or.inl ⟨_, rfl⟩) ?_
  refine m_aload_n hc 0 dX2_init_30 rfl rfl ?_
  obtain ⟨hm, hm2, hw⟩ := hw
  refine n_new hc hr ciX6 (Nat.le_of_ble_eq_true rfl) dfX6 dX2_init_31 lcl_X2_19 lni_X6 hm hm2 (fun b4 S4 e_b4 e_S4 => ?_)
  have hw := hw b4 S4 e_b4 e_S4
  refine m_dup hc dX2_init_34 rfl ?_
  refine m_sipush hc 300 dX2_init_35 (by decide) ?_
  refine c_callIv hc hr mt_X6_init lm_X2_21 (ok_X6_init hw) (Nat.le_of_ble_eq_true rfl) dX2_init_38 rfl (rest := [.ref b4, .ref x0]) rfl (Nat.le_of_ble_eq_true rfl) (fun S5 hw => ?_)
  obtain ⟨ht, hw⟩ := hw
  refine c_putr hc hr ciX2 (Nat.le_of_ble_eq_true rfl) 3 (Nat.le_of_ble_eq_true rfl) rfl dX2_init_41 lf_X2_28 ht (Or.inr ⟨rfl, hnm, rfl⟩) (Or.inl ⟨_, rfl⟩) ?_
  refine m_aload_n hc 0 dX2_init_44 rfl rfl ?_
  obtain ⟨hm, hm2, hw⟩ := hw
  refine n_new hc hr ciX5 (Nat.le_of_ble_eq_true rfl) dfX5 dX2_init_45 lcl_X2_31 lni_X5 hm hm2 (fun b6 S6 e_b6 e_S6 => ?_)
  have hw := hw b6 S6 e_b6 e_S6
  refine m_dup hc dX2_init_48 rfl ?_
  refine c_callNv hc hr mt_X5_init ln_X2_33 (ok_X5_init hw) (Nat.le_of_ble_eq_true rfl) dX2_init_49 rfl (rest := [.ref b6, .ref x0]) rfl (Nat.le_of_ble_eq_true rfl) (fun S7 hw => ?_)
  obtain ⟨ht, hw⟩ := hw
  refine c_putr hc hr ciX2 (Nat.le_of_ble_eq_true rfl) 4 (Nat.le_of_ble_eq_true rfl) rfl dX2_init_52 lf_X2_34 ht (Or.inr ⟨rfl, hnm, rfl⟩) (Or.inl ⟨_, rfl⟩) ?_
  refine m_aload_n hc 0 dX2_init_55 rfl rfl ?_
  obtain ⟨hm, hm2, hw⟩ := hw
  refine n_new hc hr ciX5 (Nat.le_of_ble_eq_true rfl) dfX5 dX2_init_56 lcl_X2_31 lni_X5 hm hm2 (fun b8 S8 e_b8 e_S8 => ?_)
  have hw := hw b8 S8 e_b8 e_S8
  refine m_dup hc dX2_init_59 rfl ?_
  refine c_callNv hc hr mt_X5_init ln_X2_33 (ok_X5_init hw) (Nat.le_of_ble_eq_true rfl) dX2_init_60 rfl (rest := [.ref b8, .ref x0]) rfl (Nat.le_of_ble_eq_true rfl) (fun S9 hw => ?_)
  obtain ⟨ht, hw⟩ := hw
  refine c_putr hc hr ciX2 (Nat.le_of_ble_eq_true rfl) 5 (Nat.le_of_ble_eq_true rfl) rfl dX2_init_63 lf_X2_38 ht (Or.inr ⟨rfl, hnm, rfl⟩) (Or.inl ⟨_, rfl⟩) ?_
  refine m_aload_n hc 0 dX2_init_66 rfl rfl ?_
  obtain ⟨hm, hm2, hw⟩ := hw
  refine n_new hc hr ciX1 (Nat.le_of_ble_eq_true rfl) dfX1 dX2_init_67 lcl_X2_41 lni_X1 hm hm2 (fun b10 S10 e_b10 e_S10 => ?_)
  have hw := hw b10 S10 e_b10 e_S10
  refine m_dup hc dX2_init_70 rfl ?_
  refine c_callNv hc hr mt_X1_init ln_X2_43 (ok_X1_init hw) (Nat.le_of_ble_eq_true rfl) dX2_init_71 rfl (rest := [.ref b10, .ref x0]) rfl (Nat.le_of_ble_eq_true rfl) (fun S11 hw => ?_)
  obtain ⟨ht, hw⟩ := hw
  refine c_putr hc hr ciX2 (Nat.le_of_ble_eq_true rfl) 6 (Nat.le_of_ble_eq_true rfl) rfl dX2_init_74 lf_X2_44 ht (Or.inr ⟨rfl, hnm, rfl⟩) (Or.inl ⟨_, rfl⟩) ?_
  refine m_aload_n hc 0 dX2_init_77 rfl rfl ?_
  obtain ⟨hm, hm2, hw⟩ := hw
  refine n_new hc hr ciX1 (Nat.le_of_ble_eq_true rfl) dfX1 dX2_init_78 lcl_X2_41 lni_X1 hm hm2 (fun b12 S12 e_b12 e_S12 => ?_)
  have hw := hw b12 S12 e_b12 e_S12
  refine m_dup hc dX2_init_81 rfl ?_
  refine c_callNv hc hr mt_X1_init ln_X2_43 (ok_X1_init hw) (Nat.le_of_ble_eq_true rfl) dX2_init_82 rfl (rest := [.ref b12, .ref x0]) rfl (Nat.le_of_ble_eq_true rfl) (fun S13 hw => ?_)
  obtain ⟨ht, hw⟩ := hw
  refine c_putr hc hr ciX2 (Nat.le_of_ble_eq_true rfl) 7 (Nat.le_of_ble_eq_true rfl) rfl dX2_init_85 lf_X2_48 ht (Or.inr ⟨rfl, hnm, rfl⟩) (Or.inl ⟨_, rfl⟩) ?_
  refine m_aload_n hc 0 dX2_init_88 rfl rfl ?_
  refine m_iconst hc 3 dX2_init_89 (by decide) ?_
  obtain ⟨hn0, hn1, hm, hm2, hw⟩ := hw
  refine n_newi hc hr dX2_init_90 laI hn0 hn1 hm hm2 (fun b14 S14 e_b14 e_S14 => ?_)
  have hw := hw b14 S14 e_b14 e_S14
  obtain ⟨ht, hw⟩ := hw
  refine c_putr hc hr ciX2 (Nat.le_of_ble_eq_true rfl) 8 (Nat.le_of_ble_eq_true rfl) rfl dX2_init_92 lf_X2_51 ht (Or.inr ⟨rfl, hnm, rfl⟩) (Or.inr ⟨_, rfl⟩) ?_
  refine m_aload_n hc 0 dX2_init_95 rfl rfl ?_
  refine m_iconst hc 0 dX2_init_96 (by decide) ?_
  obtain ⟨ht, hw⟩ := hw
  refine c_puti hc hr ciX2 (Nat.le_of_ble_eq_true rfl) 9 (Nat.le_of_ble_eq_true rfl) rfl dX2_init_97 lf_X2_54 ht (Or.inl rfl) ⟨rfl, rfl⟩ ?_
  refine m_aload_n hc 0 dX2_init_100 rfl rfl ?_
  refine m_iconst hc 3 dX2_init_101 (by decide) ?_
  obtain ⟨hn0, hn1, hm, hm2, hw⟩ := hw
  refine n_newi hc hr dX2_init_102 laI hn0 hn1 hm hm2 (fun b15 S15 e_b15 e_S15 => ?_)
  have hw := hw b15 S15 e_b15 e_S15
  obtain ⟨ht, hw⟩ := hw
  refine c_putr hc hr ciX2 (Nat.le_of_ble_eq_true rfl) 10 (Nat.le_of_ble_eq_true rfl) rfl dX2_init_104 lf_X2_57 ht (Or.inr ⟨rfl, hnm, rfl⟩) (Or.inr ⟨_, rfl⟩) ?_
  refine m_aload_n hc 0 dX2_init_107 rfl rfl ?_
  obtain ⟨hm, hm2, hw⟩ := hw
  refine n_new hc hr ciX3 (Nat.le_of_ble_eq_true rfl) dfX3 dX2_init_108 lcl_X2_60 lni_X3 hm hm2 (fun b16 S16 e_b16 e_S16 => ?_)
  have hw := hw b16 S16 e_b16 e_S16
  refine m_dup hc dX2_init_111 rfl ?_
  refine m_iconst hc 1 dX2_init_112 (by decide) ?_
  refine m_iconst hc 0 dX2_init_113 (by decide) ?_
  refine m_iconst hc 0 dX2_init_114 (by decide) ?_
  refine m_iconst hc 0 dX2_init_115 (by decide) ?_
  refine c_callIv hc hr mt_X3_init lm_X2_62 (ok_X3_init hw) (Nat.le_of_ble_eq_true rfl) dX2_init_116 rfl (rest := [.ref b16, .ref x0]) rfl (Nat.le_of_ble_eq_true rfl) (fun S17 hw => ?_)
  obtain ⟨ht, hw⟩ := hw
  refine c_putr hc hr ciX2 (Nat.le_of_ble_eq_true rfl) 11 (Nat.le_of_ble_eq_true rfl) rfl dX2_init_119 lf_X2_65 ht (Or.inr ⟨rfl, hnm, rfl⟩) (Or.inl ⟨_, rfl⟩) ?_
  refine m_aload_n hc 0 dX2_init_122 rfl rfl ?_
  refine m_iconst hc 2 dX2_init_123 (by decide) ?_
  obtain ⟨ht, hw⟩ := hw
  refine c_puti hc hr ciX2 (Nat.le_of_ble_eq_true rfl) 12 (Nat.le_of_ble_eq_true rfl) rfl dX2_init_124 lf_X2_69 ht (Or.inl rfl) ⟨rfl, rfl⟩ ?_
  refine m_aload_n hc 0 dX2_init_127 rfl rfl ?_
  refine m_null hc dX2_init_128 ?_
  obtain ⟨ht, hw⟩ := hw
  refine c_putq hc hr ciX2 (Nat.le_of_ble_eq_true rfl) 13 (Nat.le_of_ble_eq_true rfl) rfl dX2_init_129 lf_X2_72 ht (Or.inl rfl) (r := none) (Or.inl ⟨_, rfl⟩) ?_
  exact c_vret hc hr dX2_init_132 hw
def wp_X2_forget (M : Nat × Nat) (x0 : Nat) (S : HS) (K : Int32 → HS → Prop) : Prop := hT S x0 = 3 ∧ K 0 (sP S x0 13 none)
set_option maxHeartbeats 4000000 in
set_option maxRecDepth 100000 in
theorem ok_X2_forget {G : CG} {x0 : Nat} {S : HS} {K : Int32 → HS → Prop} (hw : wp_X2_forget (gC G, gS G) x0 S K) : CC 0 yX2_forget cX2_forget 1 none [.ref x0] G S (kV K) := by
  refine CC.of (by decide +kernel) (Nat.le_of_ble_eq_true rfl) (fun X hc hr hname => ?_)
  show MC G S X 1 S 0 [(0, .ref x0)] []
  unfold wp_X2_forget at hw
  refine m_aload_n hc 0 dX2_forget_0 rfl rfl ?_
  refine m_null hc dX2_forget_1 ?_
  obtain ⟨ht, hw⟩ := hw
  refine c_putq hc hr ciX2 (Nat.le_of_ble_eq_true rfl) 13 (Nat.le_of_ble_eq_true rfl) rfl dX2_forget_2 lf_X2_72 ht (Or.inl rfl) (r := none) (Or.inl ⟨_, rfl⟩) ?_
  exact c_vret hc hr dX2_forget_5 hw
def wp_X6_degreeOf (M : Nat × Nat) (x0 : Int32) (S : HS) (K : Int32 → HS → Prop) : Prop := wp_X6_exponent M x0 0 S (fun r1 S1 => wp_X6_exponent M x0 1 S1 (fun r2 S2 => wp_X6_exponent M x0 2 S2 (fun r3 S3 => K ((r1 + r2) + r3) S3)))
set_option maxHeartbeats 4000000 in
set_option maxRecDepth 100000 in
theorem ok_X6_degreeOf {G : CG} {x0 : Int32} {S : HS} {K : Int32 → HS → Prop} (hw : wp_X6_degreeOf (gC G, gS G) x0 S K) : CC 1 yX6_degreeOf cX6_degreeOf 1 (some .int) [.int x0] G S (kI K) := by
  refine CC.of (by decide +kernel) (Nat.le_of_ble_eq_true rfl) (fun X hc hr hname => ?_)
  show MC G S X 1 S 0 [(0, .int x0)] []
  unfold wp_X6_degreeOf at hw
  refine m_iload_n hc 0 dX6_degreeOf_0 rfl rfl ?_
  refine m_iconst hc 0 dX6_degreeOf_1 (by decide) ?_
  refine c_callSi hc hr mt_X6_exponent lm_X6_26 (ok_X6_exponent hw) (Nat.le_of_ble_eq_true rfl) dX6_degreeOf_2 rfl (rest := []) rfl (Nat.le_of_ble_eq_true rfl) (fun r1 S1 hw => ?_)
  refine m_iload_n hc 0 dX6_degreeOf_5 rfl rfl ?_
  refine m_iconst hc 1 dX6_degreeOf_6 (by decide) ?_
  refine c_callSi hc hr mt_X6_exponent lm_X6_26 (ok_X6_exponent hw) (Nat.le_of_ble_eq_true rfl) dX6_degreeOf_7 rfl (rest := [.int r1]) rfl (Nat.le_of_ble_eq_true rfl) (fun r2 S2 hw => ?_)
  refine m_iadd hc dX6_degreeOf_10 ?_
  refine m_iload_n hc 0 dX6_degreeOf_11 rfl rfl ?_
  refine m_iconst hc 2 dX6_degreeOf_12 (by decide) ?_
  refine c_callSi hc hr mt_X6_exponent lm_X6_26 (ok_X6_exponent hw) (Nat.le_of_ble_eq_true rfl) dX6_degreeOf_13 rfl (rest := [.int (r1 + r2)]) rfl (Nat.le_of_ble_eq_true rfl) (fun r3 S3 hw => ?_)
  refine m_iadd hc dX6_degreeOf_16 ?_
  exact c_iret hc hr dX6_degreeOf_17 hw
def wb_X6_degree_4 (M : Nat × Nat) (K4 : Nat → Int32 → Int32 → HS → Prop) (K : Int32 → HS → Prop) (x0 : Nat) (x1 x2 : Int32) (S : HS) : Prop := hT S x0 = 7 ∧ ((hI S x0 2) ≤ x2 → K x1 S) ∧ (¬ ((hI S x0 2) ≤ x2) → hT S x0 = 7 ∧ ∃ b1 : Nat, hP S x0 0 = some b1 ∧ hT S b1 = 21 ∧ vp_in x2 (hN S b1) ∧ wp_X6_degreeOf M (hI S b1 (Int32.toNatClampNeg x2)) S (fun r2 S2 => ∀ v3 : Int32, v3 = (if x1 < r2 then r2 else x1) → K4 x0 v3 (x2 + 1) S2))
def wl_X6_degree_4 (M : Nat × Nat) (K : Int32 → HS → Prop) : Nat → Nat → Int32 → Int32 → HS → Prop
  | 0 => fun _ _ _ _ => False
  | nn + 1 => wb_X6_degree_4 M (wl_X6_degree_4 M K nn) K
set_option maxHeartbeats 4000000 in
set_option maxRecDepth 100000 in
theorem l_X6_degree_4 {G : CG} {S0 : HS} {X : Fx} {K : Int32 → HS → Prop} (hc : Cx X RX6 cX6_degree 3) (hr : Cc G S0 2 (some .int) (kI K) X) : ∀ (nn : Nat) (x0 : Nat) (x1 x2 : Int32) (S : HS), wl_X6_degree_4 (gC G, gS G) K nn x0 x1 x2 S → MC G S0 X 3 S 4 [(0, .ref x0), (1, .int x1), (2, .int x2)] [] := by
  intro nn
  induction nn with
  | zero => intro x0 x1 x2 S hw; exact False.elim hw
  | succ nn ih =>
    intro x0 x1 x2 S hw
    have hw : wb_X6_degree_4 (gC G, gS G) (wl_X6_degree_4 (gC G, gS G) K nn) K x0 x1 x2 S := hw
    have h4 := ih
    generalize wl_X6_degree_4 (gC G, gS G) K nn = K4 at hw h4
    unfold wb_X6_degree_4 at hw
    refine m_iload_n hc 2 dX6_degree_4 rfl rfl ?_
    refine m_aload_n hc 0 dX6_degree_5 rfl rfl ?_
    obtain ⟨ht, hw⟩ := hw
    refine c_geti hc hr ciX6 (Nat.le_of_ble_eq_true rfl) 2 (Nat.le_of_ble_eq_true rfl) rfl dX6_degree_6 lf_X6_9 ht ?_
    refine m_icmp_ge hc 32 dX6_degree_9 rfl (fun cq => ?_) (fun cq => ?_)
    · have hw := hw.1 cq
      refine m_iload_n hc 1 dX6_degree_32 rfl rfl ?_
      exact c_iret hc hr dX6_degree_33 hw
    · have hw := hw.2 cq
      refine m_iload_n hc 1 dX6_degree_12 rfl rfl ?_
      refine m_aload_n hc 0 dX6_degree_13 rfl rfl ?_
      obtain ⟨ht, b1, e_b1, hw⟩ := hw
      refine c_getr hc hr ciX6 (Nat.le_of_ble_eq_true rfl) 0 (Nat.le_of_ble_eq_true rfl) rfl dX6_degree_14 lf_X6_19 ht e_b1 ?_
      refine m_iload_n hc 2 dX6_degree_17 rfl rfl ?_
      obtain ⟨ht, hi, hw⟩ := hw
      refine c_iald hc hr ht hi dX6_degree_18 ?_
      refine c_callSi hc hr mt_X6_degreeOf lm_X6_43 (ok_X6_degreeOf hw) (Nat.le_of_ble_eq_true rfl) dX6_degree_19 rfl (rest := [.int x1]) rfl (Nat.le_of_ble_eq_true rfl) (fun r2 S2 hw => ?_)
      refine c_bnd (fun g1 g2 => ?_)
      refine m_mmax hc dX6_degree_22 lm_X6_47 lM_max (c_room hr g1 g2) (Nat.le_of_ble_eq_true rfl) ?_
      refine m_topi (fun v3 e_v3 => ?_)
      have hw := hw v3 e_v3
      refine m_istore_n hc [(1, .int v3), (0, .ref x0), (2, .int x2)] dX6_degree_25 rfl (Nat.le_of_ble_eq_true rfl) rfl ?_
      refine m_iinc hc 2 (x2 + 1) [(2, .int (x2 + 1)), (1, .int v3), (0, .ref x0)] dX6_degree_26 rfl rfl (Nat.le_of_ble_eq_true rfl) rfl ?_
      refine m_goto hc 4 dX6_degree_29 rfl ?_
      refine m_sub [2, 1, 0] rfl ?_
      exact h4 x0 v3 (x2 + 1) S2 hw
def wp_X6_degree (M : Nat × Nat) (x0 : Nat) (S : HS) (K : Int32 → HS → Prop) : Prop := ∃ nn : Nat, wl_X6_degree_4 M K nn x0 (-1) 0 S
set_option maxHeartbeats 4000000 in
set_option maxRecDepth 100000 in
theorem ok_X6_degree {G : CG} {x0 : Nat} {S : HS} {K : Int32 → HS → Prop} (hw : wp_X6_degree (gC G, gS G) x0 S K) : CC 2 yX6_degree cX6_degree 3 (some .int) [.ref x0] G S (kI K) := by
  refine CC.of (by decide +kernel) (Nat.le_of_ble_eq_true rfl) (fun X hc hr hname => ?_)
  show MC G S X 3 S 0 [(0, .ref x0)] []
  unfold wp_X6_degree at hw
  refine m_iconst hc (-1) dX6_degree_0 (by decide) ?_
  refine m_istore_n hc [(1, .int (-1)), (0, .ref x0)] dX6_degree_1 rfl (Nat.le_of_ble_eq_true rfl) rfl ?_
  refine m_iconst hc 0 dX6_degree_2 (by decide) ?_
  refine m_istore_n hc [(2, .int 0), (1, .int (-1)), (0, .ref x0)] dX6_degree_3 rfl (Nat.le_of_ble_eq_true rfl) rfl ?_
  refine m_sub [2, 1, 0] rfl ?_
  obtain ⟨nn, hw⟩ := hw
  exact l_X6_degree_4 hc hr nn x0 (-1) 0 S hw
def wb_X6_leastIn_16 (M : Nat × Nat) (K16 : Nat → Int32 → Int32 → Int32 → HS → Prop) (K : Int32 → HS → Prop) (x0 : Nat) (x1 x2 x3 : Int32) (S : HS) : Prop := hT S x0 = 7 ∧ ((hI S x0 2) ≤ x3 → K x2 S) ∧ (¬ ((hI S x0 2) ≤ x3) → hT S x0 = 7 ∧ ∃ b1 : Nat, hP S x0 0 = some b1 ∧ hT S b1 = 21 ∧ vp_in x3 (hN S b1) ∧ wp_X6_exponent M (hI S b1 (Int32.toNatClampNeg x3)) x1 S (fun r2 S2 => ∀ v3 : Int32, v3 = (if r2 < x2 then r2 else x2) → K16 x0 x1 v3 (x3 + 1) S2))
def wl_X6_leastIn_16 (M : Nat × Nat) (K : Int32 → HS → Prop) : Nat → Nat → Int32 → Int32 → Int32 → HS → Prop
  | 0 => fun _ _ _ _ _ => False
  | nn + 1 => wb_X6_leastIn_16 M (wl_X6_leastIn_16 M K nn) K
set_option maxHeartbeats 4000000 in
set_option maxRecDepth 100000 in
theorem l_X6_leastIn_16 {G : CG} {S0 : HS} {X : Fx} {K : Int32 → HS → Prop} (hc : Cx X RX6 cX6_leastIn 4) (hr : Cc G S0 1 (some .int) (kI K) X) : ∀ (nn : Nat) (x0 : Nat) (x1 x2 x3 : Int32) (S : HS), wl_X6_leastIn_16 (gC G, gS G) K nn x0 x1 x2 x3 S → MC G S0 X 4 S 16 [(0, .ref x0), (1, .int x1), (2, .int x2), (3, .int x3)] [] := by
  intro nn
  induction nn with
  | zero => intro x0 x1 x2 x3 S hw; exact False.elim hw
  | succ nn ih =>
    intro x0 x1 x2 x3 S hw
    have hw : wb_X6_leastIn_16 (gC G, gS G) (wl_X6_leastIn_16 (gC G, gS G) K nn) K x0 x1 x2 x3 S := hw
    have h16 := ih
    generalize wl_X6_leastIn_16 (gC G, gS G) K nn = K16 at hw h16
    unfold wb_X6_leastIn_16 at hw
    refine m_iload_n hc 3 dX6_leastIn_16 rfl rfl ?_
    refine m_aload_n hc 0 dX6_leastIn_17 rfl rfl ?_
    obtain ⟨ht, hw⟩ := hw
    refine c_geti hc hr ciX6 (Nat.le_of_ble_eq_true rfl) 2 (Nat.le_of_ble_eq_true rfl) rfl dX6_leastIn_18 lf_X6_9 ht ?_
    refine m_icmp_ge hc 45 dX6_leastIn_21 rfl (fun cq => ?_) (fun cq => ?_)
    · have hw := hw.1 cq
      refine m_iload_n hc 2 dX6_leastIn_45 rfl rfl ?_
      exact c_iret hc hr dX6_leastIn_46 hw
    · have hw := hw.2 cq
      refine m_iload_n hc 2 dX6_leastIn_24 rfl rfl ?_
      refine m_aload_n hc 0 dX6_leastIn_25 rfl rfl ?_
      obtain ⟨ht, b1, e_b1, hw⟩ := hw
      refine c_getr hc hr ciX6 (Nat.le_of_ble_eq_true rfl) 0 (Nat.le_of_ble_eq_true rfl) rfl dX6_leastIn_26 lf_X6_19 ht e_b1 ?_
      refine m_iload_n hc 3 dX6_leastIn_29 rfl rfl ?_
      obtain ⟨ht, hi, hw⟩ := hw
      refine c_iald hc hr ht hi dX6_leastIn_30 ?_
      refine m_iload_n hc 1 dX6_leastIn_31 rfl rfl ?_
      refine c_callSi hc hr mt_X6_exponent lm_X6_26 (ok_X6_exponent hw) (Nat.le_of_ble_eq_true rfl) dX6_leastIn_32 rfl (rest := [.int x2]) rfl (Nat.le_of_ble_eq_true rfl) (fun r2 S2 hw => ?_)
      refine c_bnd (fun g1 g2 => ?_)
      refine m_mmin hc dX6_leastIn_35 lm_X6_55 lM_min (c_room hr g1 g2) (Nat.le_of_ble_eq_true rfl) ?_
      refine m_topi (fun v3 e_v3 => ?_)
      have hw := hw v3 e_v3
      refine m_istore_n hc [(2, .int v3), (0, .ref x0), (1, .int x1), (3, .int x3)] dX6_leastIn_38 rfl (Nat.le_of_ble_eq_true rfl) rfl ?_
      refine m_iinc hc 3 (x3 + 1) [(3, .int (x3 + 1)), (2, .int v3), (0, .ref x0), (1, .int x1)] dX6_leastIn_39 rfl rfl (Nat.le_of_ble_eq_true rfl) rfl ?_
      refine m_goto hc 16 dX6_leastIn_42 rfl ?_
      refine m_sub [2, 3, 1, 0] rfl ?_
      exact h16 x0 x1 v3 (x3 + 1) S2 hw
def wp_X6_leastIn (M : Nat × Nat) (x0 : Nat) (x1 : Int32) (S : HS) (K : Int32 → HS → Prop) : Prop := hT S x0 = 7 ∧ (¬ (hI S x0 2) = 0 → ∃ nn : Nat, wl_X6_leastIn_16 M K nn x0 x1 40 0 S) ∧ ((hI S x0 2) = 0 → ∃ nn : Nat, wl_X6_leastIn_16 M K nn x0 x1 0 0 S)
set_option maxHeartbeats 4000000 in
set_option maxRecDepth 100000 in
theorem ok_X6_leastIn {G : CG} {x0 : Nat} {x1 : Int32} {S : HS} {K : Int32 → HS → Prop} (hw : wp_X6_leastIn (gC G, gS G) x0 x1 S K) : CC 1 yX6_leastIn cX6_leastIn 4 (some .int) [.ref x0, .int x1] G S (kI K) := by
  refine CC.of (by decide +kernel) (Nat.le_of_ble_eq_true rfl) (fun X hc hr hname => ?_)
  show MC G S X 4 S 0 [(0, .ref x0), (1, .int x1)] []
  unfold wp_X6_leastIn at hw
  refine m_aload_n hc 0 dX6_leastIn_0 rfl rfl ?_
  obtain ⟨ht, hw⟩ := hw
  refine c_geti hc hr ciX6 (Nat.le_of_ble_eq_true rfl) 2 (Nat.le_of_ble_eq_true rfl) rfl dX6_leastIn_1 lf_X6_9 ht ?_
  refine m_if_ne hc 11 dX6_leastIn_4 rfl (fun cq => ?_) (fun cq => ?_)
  · have hw := hw.1 cq
    refine m_bipush hc 40 dX6_leastIn_11 (by decide) ?_
    refine m_istore_n hc [(2, .int 40), (0, .ref x0), (1, .int x1)] dX6_leastIn_13 rfl (Nat.le_of_ble_eq_true rfl) rfl ?_
    refine m_iconst hc 0 dX6_leastIn_14 (by decide) ?_
    refine m_istore_n hc [(3, .int 0), (2, .int 40), (0, .ref x0), (1, .int x1)] dX6_leastIn_15 rfl (Nat.le_of_ble_eq_true rfl) rfl ?_
    refine m_sub [2, 3, 1, 0] rfl ?_
    obtain ⟨nn, hw⟩ := hw
    exact l_X6_leastIn_16 hc hr nn x0 x1 40 0 S hw
  · have hw := hw.2 cq
    refine m_iconst hc 0 dX6_leastIn_7 (by decide) ?_
    refine m_goto hc 13 dX6_leastIn_8 rfl ?_
    refine m_istore_n hc [(2, .int 0), (0, .ref x0), (1, .int x1)] dX6_leastIn_13 rfl (Nat.le_of_ble_eq_true rfl) rfl ?_
    refine m_iconst hc 0 dX6_leastIn_14 (by decide) ?_
    refine m_istore_n hc [(3, .int 0), (2, .int 0), (0, .ref x0), (1, .int x1)] dX6_leastIn_15 rfl (Nat.le_of_ble_eq_true rfl) rfl ?_
    refine m_sub [2, 3, 1, 0] rfl ?_
    obtain ⟨nn, hw⟩ := hw
    exact l_X6_leastIn_16 hc hr nn x0 x1 0 0 S hw
def wb_X6_degreeIn_4 (M : Nat × Nat) (K4 : Nat → Int32 → Int32 → Int32 → HS → Prop) (K : Int32 → HS → Prop) (x0 : Nat) (x1 x2 x3 : Int32) (S : HS) : Prop := hT S x0 = 7 ∧ ((hI S x0 2) ≤ x3 → K x2 S) ∧ (¬ ((hI S x0 2) ≤ x3) → hT S x0 = 7 ∧ ∃ b1 : Nat, hP S x0 0 = some b1 ∧ hT S b1 = 21 ∧ vp_in x3 (hN S b1) ∧ wp_X6_exponent M (hI S b1 (Int32.toNatClampNeg x3)) x1 S (fun r2 S2 => ∀ v3 : Int32, v3 = (if x2 < r2 then r2 else x2) → K4 x0 x1 v3 (x3 + 1) S2))
def wl_X6_degreeIn_4 (M : Nat × Nat) (K : Int32 → HS → Prop) : Nat → Nat → Int32 → Int32 → Int32 → HS → Prop
  | 0 => fun _ _ _ _ _ => False
  | nn + 1 => wb_X6_degreeIn_4 M (wl_X6_degreeIn_4 M K nn) K
set_option maxHeartbeats 4000000 in
set_option maxRecDepth 100000 in
theorem l_X6_degreeIn_4 {G : CG} {S0 : HS} {X : Fx} {K : Int32 → HS → Prop} (hc : Cx X RX6 cX6_degreeIn 4) (hr : Cc G S0 1 (some .int) (kI K) X) : ∀ (nn : Nat) (x0 : Nat) (x1 x2 x3 : Int32) (S : HS), wl_X6_degreeIn_4 (gC G, gS G) K nn x0 x1 x2 x3 S → MC G S0 X 4 S 4 [(0, .ref x0), (1, .int x1), (2, .int x2), (3, .int x3)] [] := by
  intro nn
  induction nn with
  | zero => intro x0 x1 x2 x3 S hw; exact False.elim hw
  | succ nn ih =>
    intro x0 x1 x2 x3 S hw
    have hw : wb_X6_degreeIn_4 (gC G, gS G) (wl_X6_degreeIn_4 (gC G, gS G) K nn) K x0 x1 x2 x3 S := hw
    have h4 := ih
    generalize wl_X6_degreeIn_4 (gC G, gS G) K nn = K4 at hw h4
    unfold wb_X6_degreeIn_4 at hw
    refine m_iload_n hc 3 dX6_degreeIn_4 rfl rfl ?_
    refine m_aload_n hc 0 dX6_degreeIn_5 rfl rfl ?_
    obtain ⟨ht, hw⟩ := hw
    refine c_geti hc hr ciX6 (Nat.le_of_ble_eq_true rfl) 2 (Nat.le_of_ble_eq_true rfl) rfl dX6_degreeIn_6 lf_X6_9 ht ?_
    refine m_icmp_ge hc 33 dX6_degreeIn_9 rfl (fun cq => ?_) (fun cq => ?_)
    · have hw := hw.1 cq
      refine m_iload_n hc 2 dX6_degreeIn_33 rfl rfl ?_
      exact c_iret hc hr dX6_degreeIn_34 hw
    · have hw := hw.2 cq
      refine m_iload_n hc 2 dX6_degreeIn_12 rfl rfl ?_
      refine m_aload_n hc 0 dX6_degreeIn_13 rfl rfl ?_
      obtain ⟨ht, b1, e_b1, hw⟩ := hw
      refine c_getr hc hr ciX6 (Nat.le_of_ble_eq_true rfl) 0 (Nat.le_of_ble_eq_true rfl) rfl dX6_degreeIn_14 lf_X6_19 ht e_b1 ?_
      refine m_iload_n hc 3 dX6_degreeIn_17 rfl rfl ?_
      obtain ⟨ht, hi, hw⟩ := hw
      refine c_iald hc hr ht hi dX6_degreeIn_18 ?_
      refine m_iload_n hc 1 dX6_degreeIn_19 rfl rfl ?_
      refine c_callSi hc hr mt_X6_exponent lm_X6_26 (ok_X6_exponent hw) (Nat.le_of_ble_eq_true rfl) dX6_degreeIn_20 rfl (rest := [.int x2]) rfl (Nat.le_of_ble_eq_true rfl) (fun r2 S2 hw => ?_)
      refine c_bnd (fun g1 g2 => ?_)
      refine m_mmax hc dX6_degreeIn_23 lm_X6_47 lM_max (c_room hr g1 g2) (Nat.le_of_ble_eq_true rfl) ?_
      refine m_topi (fun v3 e_v3 => ?_)
      have hw := hw v3 e_v3
      refine m_istore_n hc [(2, .int v3), (0, .ref x0), (1, .int x1), (3, .int x3)] dX6_degreeIn_26 rfl (Nat.le_of_ble_eq_true rfl) rfl ?_
      refine m_iinc hc 3 (x3 + 1) [(3, .int (x3 + 1)), (2, .int v3), (0, .ref x0), (1, .int x1)] dX6_degreeIn_27 rfl rfl (Nat.le_of_ble_eq_true rfl) rfl ?_
      refine m_goto hc 4 dX6_degreeIn_30 rfl ?_
      refine m_sub [2, 3, 1, 0] rfl ?_
      exact h4 x0 x1 v3 (x3 + 1) S2 hw
def wp_X6_degreeIn (M : Nat × Nat) (x0 : Nat) (x1 : Int32) (S : HS) (K : Int32 → HS → Prop) : Prop := ∃ nn : Nat, wl_X6_degreeIn_4 M K nn x0 x1 (-1) 0 S
set_option maxHeartbeats 4000000 in
set_option maxRecDepth 100000 in
theorem ok_X6_degreeIn {G : CG} {x0 : Nat} {x1 : Int32} {S : HS} {K : Int32 → HS → Prop} (hw : wp_X6_degreeIn (gC G, gS G) x0 x1 S K) : CC 1 yX6_degreeIn cX6_degreeIn 4 (some .int) [.ref x0, .int x1] G S (kI K) := by
  refine CC.of (by decide +kernel) (Nat.le_of_ble_eq_true rfl) (fun X hc hr hname => ?_)
  show MC G S X 4 S 0 [(0, .ref x0), (1, .int x1)] []
  unfold wp_X6_degreeIn at hw
  refine m_iconst hc (-1) dX6_degreeIn_0 (by decide) ?_
  refine m_istore_n hc [(2, .int (-1)), (0, .ref x0), (1, .int x1)] dX6_degreeIn_1 rfl (Nat.le_of_ble_eq_true rfl) rfl ?_
  refine m_iconst hc 0 dX6_degreeIn_2 (by decide) ?_
  refine m_istore_n hc [(3, .int 0), (2, .int (-1)), (0, .ref x0), (1, .int x1)] dX6_degreeIn_3 rfl (Nat.le_of_ble_eq_true rfl) rfl ?_
  refine m_sub [2, 3, 1, 0] rfl ?_
  obtain ⟨nn, hw⟩ := hw
  exact l_X6_degreeIn_4 hc hr nn x0 x1 (-1) 0 S hw
def wp_X6_roomIn (M : Nat × Nat) (x0 : Nat) (x1 : Int32) (S : HS) (K : Int32 → HS → Prop) : Prop := hT S x0 = 7 ∧ wp_X6_degreeIn M x0 x1 S (fun r1 S1 => K (if 0 < r1 then r1 else 0) S1)
set_option maxHeartbeats 4000000 in
set_option maxRecDepth 100000 in
theorem ok_X6_roomIn {G : CG} {x0 : Nat} {x1 : Int32} {S : HS} {K : Int32 → HS → Prop} (hw : wp_X6_roomIn (gC G, gS G) x0 x1 S K) : CC 2 yX6_roomIn cX6_roomIn 2 (some .int) [.ref x0, .int x1] G S (kI K) := by
  refine CC.of (by decide +kernel) (Nat.le_of_ble_eq_true rfl) (fun X hc hr hname => ?_)
  show MC G S X 2 S 0 [(0, .ref x0), (1, .int x1)] []
  unfold wp_X6_roomIn at hw
  refine m_iconst hc 0 dX6_roomIn_0 (by decide) ?_
  refine m_aload_n hc 0 dX6_roomIn_1 rfl rfl ?_
  refine m_iload_n hc 1 dX6_roomIn_2 rfl rfl ?_
  obtain ⟨ht, hw⟩ := hw
  refine c_callVi hc hr ciX6 (Nat.le_of_ble_eq_true rfl) ht mt_X6_degreeIn rfl lm_X6_52 (ok_X6_degreeIn hw) (Nat.le_of_ble_eq_true rfl) dX6_roomIn_3 rfl (rest := [.int 0]) rfl (Nat.le_of_ble_eq_true rfl) (fun r1 S1 hw => ?_)
  refine c_bnd (fun g1 g2 => ?_)
  refine m_mmax hc dX6_roomIn_6 lm_X6_47 lM_max (c_room hr g1 g2) (Nat.le_of_ble_eq_true rfl) ?_
  exact c_iret hc hr dX6_roomIn_9 hw
def wp_X6_unit (M : Nat × Nat) (x0 : Int32) (S : HS) (K : Int32 → HS → Prop) : Prop := K (1 <<< (((2 - x0) * 6) &&& 31)) S
set_option maxHeartbeats 4000000 in
set_option maxRecDepth 100000 in
theorem ok_X6_unit {G : CG} {x0 : Int32} {S : HS} {K : Int32 → HS → Prop} (hw : wp_X6_unit (gC G, gS G) x0 S K) : CC 0 yX6_unit cX6_unit 1 (some .int) [.int x0] G S (kI K) := by
  refine CC.of (by decide +kernel) (Nat.le_of_ble_eq_true rfl) (fun X hc hr hname => ?_)
  show MC G S X 1 S 0 [(0, .int x0)] []
  unfold wp_X6_unit at hw
  refine m_iconst hc 1 dX6_unit_0 (by decide) ?_
  refine m_iconst hc 2 dX6_unit_1 (by decide) ?_
  refine m_iload_n hc 0 dX6_unit_2 rfl rfl ?_
  refine m_isub hc dX6_unit_3 ?_
  refine m_bipush hc 6 dX6_unit_4 (by decide) ?_
  refine m_imul hc dX6_unit_6 ?_
  refine m_ishl hc dX6_unit_7 ?_
  exact c_iret hc hr dX6_unit_8 hw
def wb_X2_layOut_107 (M : Nat × Nat) (K107 : Nat → Nat → Int32 → Int32 → HS → Prop) (K : Int32 → HS → Prop) (x0 x1 : Nat) (x3 x4 : Int32) (S : HS) : Prop := hT S x1 = 7 ∧ ((hI S x1 2) ≤ x4 → K 0 S) ∧ (¬ ((hI S x1 2) ≤ x4) → hT S x0 = 3 ∧ ∃ b1 : Nat, hP S x0 6 = some b1 ∧ hT S b1 = 2 ∧ ∃ b2 : Nat, hP S b1 0 = some b2 ∧ hT S x0 = 3 ∧ ∃ b3 : Nat, hP S x0 6 = some b3 ∧ hT S x1 = 7 ∧ ∃ b4 : Nat, hP S x1 0 = some b4 ∧ hT S b4 = 21 ∧ vp_in x4 (hN S b4) ∧ hT S b3 = 2 ∧ wp_X1_cellOf M b3 ((hI S b4 (Int32.toNatClampNeg x4)) - x3) S (fun r5 S5 => hT S5 x1 = 7 ∧ ∃ b6 : Nat, hP S5 x1 1 = some b6 ∧ hT S5 b6 = 21 ∧ vp_in x4 (hN S5 b6) ∧ hT S5 b2 = 21 ∧ vp_in r5 (hN S5 b2) ∧ K107 x0 x1 x3 (x4 + 1) (sI S5 b2 (Int32.toNatClampNeg r5) (hI S5 b6 (Int32.toNatClampNeg x4)))))
def wl_X2_layOut_107 (M : Nat × Nat) (K : Int32 → HS → Prop) : Nat → Nat → Nat → Int32 → Int32 → HS → Prop
  | 0 => fun _ _ _ _ _ => False
  | nn + 1 => wb_X2_layOut_107 M (wl_X2_layOut_107 M K nn) K
set_option maxHeartbeats 4000000 in
set_option maxRecDepth 100000 in
theorem l_X2_layOut_107 {G : CG} {S0 : HS} {X : Fx} {K : Int32 → HS → Prop} (hc : Cx X RX2 cX2_layOut 6) (hr : Cc G S0 3 none (kV K) X) : ∀ (nn : Nat) (x0 x1 : Nat) (x3 x4 : Int32) (S : HS), wl_X2_layOut_107 (gC G, gS G) K nn x0 x1 x3 x4 S → MC G S0 X 6 S 107 [(0, .ref x0), (1, .ref x1), (3, .int x3), (4, .int x4)] [] := by
  intro nn
  induction nn with
  | zero => intro x0 x1 x3 x4 S hw; exact False.elim hw
  | succ nn ih =>
    intro x0 x1 x3 x4 S hw
    have hw : wb_X2_layOut_107 (gC G, gS G) (wl_X2_layOut_107 (gC G, gS G) K nn) K x0 x1 x3 x4 S := hw
    have h107 := ih
    generalize wl_X2_layOut_107 (gC G, gS G) K nn = K107 at hw h107
    unfold wb_X2_layOut_107 at hw
    refine m_iload hc 3 dX2_layOut_107 rfl ?_
    refine m_aload_n hc 1 dX2_layOut_109 rfl rfl ?_
    obtain ⟨ht, hw⟩ := hw
    refine c_geti hc hr ciX6 (Nat.le_of_ble_eq_true rfl) 2 (Nat.le_of_ble_eq_true rfl) rfl dX2_layOut_110 lf_X2_121 ht ?_
    refine m_icmp_ge hc 153 dX2_layOut_113 rfl (fun cq => ?_) (fun cq => ?_)
    · have hw := hw.1 cq
      exact c_vret hc hr dX2_layOut_153 hw
    · have hw := hw.2 cq
      refine m_aload_n hc 0 dX2_layOut_116 rfl rfl ?_
      obtain ⟨ht, b1, e_b1, hw⟩ := hw
      refine c_getr hc hr ciX2 (Nat.le_of_ble_eq_true rfl) 6 (Nat.le_of_ble_eq_true rfl) rfl dX2_layOut_117 lf_X2_44 ht e_b1 ?_
      obtain ⟨ht, b2, e_b2, hw⟩ := hw
      refine c_getr hc hr ciX1 (Nat.le_of_ble_eq_true rfl) 0 (Nat.le_of_ble_eq_true rfl) rfl dX2_layOut_120 lf_X2_122 ht e_b2 ?_
      refine m_aload_n hc 0 dX2_layOut_123 rfl rfl ?_
      obtain ⟨ht, b3, e_b3, hw⟩ := hw
      refine c_getr hc hr ciX2 (Nat.le_of_ble_eq_true rfl) 6 (Nat.le_of_ble_eq_true rfl) rfl dX2_layOut_124 lf_X2_44 ht e_b3 ?_
      refine m_aload_n hc 1 dX2_layOut_127 rfl rfl ?_
      obtain ⟨ht, b4, e_b4, hw⟩ := hw
      refine c_getr hc hr ciX6 (Nat.le_of_ble_eq_true rfl) 0 (Nat.le_of_ble_eq_true rfl) rfl dX2_layOut_128 lf_X2_125 ht e_b4 ?_
      refine m_iload hc 3 dX2_layOut_131 rfl ?_
      obtain ⟨ht, hi, hw⟩ := hw
      refine c_iald hc hr ht hi dX2_layOut_133 ?_
      refine m_iload_n hc 2 dX2_layOut_134 rfl rfl ?_
      refine m_isub hc dX2_layOut_135 ?_
      obtain ⟨ht, hw⟩ := hw
      refine c_callVi hc hr ciX1 (Nat.le_of_ble_eq_true rfl) ht mt_X1_cellOf rfl lm_X2_128 (ok_X1_cellOf hw) (Nat.le_of_ble_eq_true rfl) dX2_layOut_136 rfl (rest := [.ref b2]) rfl (Nat.le_of_ble_eq_true rfl) (fun r5 S5 hw => ?_)
      refine m_aload_n hc 1 dX2_layOut_139 rfl rfl ?_
      obtain ⟨ht, b6, e_b6, hw⟩ := hw
      refine c_getr hc hr ciX6 (Nat.le_of_ble_eq_true rfl) 1 (Nat.le_of_ble_eq_true rfl) rfl dX2_layOut_140 lf_X2_131 ht e_b6 ?_
      refine m_iload hc 3 dX2_layOut_143 rfl ?_
      obtain ⟨ht, hi, hw⟩ := hw
      refine c_iald hc hr ht hi dX2_layOut_145 ?_
      obtain ⟨ht, hi, hw⟩ := hw
      refine c_iast hc hr ht hi dX2_layOut_146 ?_
      refine m_iinc hc 3 (x4 + 1) [(4, .int (x4 + 1)), (0, .ref x0), (1, .ref x1), (3, .int x3)] dX2_layOut_147 rfl rfl (Nat.le_of_ble_eq_true rfl) rfl ?_
      refine m_goto hc 107 dX2_layOut_150 rfl ?_
      refine m_sub [1, 2, 3, 0] rfl ?_
      exact h107 x0 x1 x3 (x4 + 1) (sI S5 b2 (Int32.toNatClampNeg r5) (hI S5 b6 (Int32.toNatClampNeg x4))) hw
def wb_X2_layOut_10 (M : Nat × Nat) (K10 : Nat → Nat → Int32 → Int32 → HS → Prop) (K : Int32 → HS → Prop) (x0 x1 : Nat) (x3 x4 : Int32) (S : HS) : Prop := (3 ≤ x4 → hT S x1 = 7 ∧ wp_X6_degree M x1 S (fun r1 S1 => wp_X6_degreeOf M x3 S1 (fun r2 S2 => hT S2 x0 = 3 ∧ hT (sI S2 x0 9 (r1 - r2)) x0 = 3 ∧ ∃ b3 : Nat, hP (sI S2 x0 9 (r1 - r2)) x0 6 = some b3 ∧ hT (sI S2 x0 9 (r1 - r2)) x0 = 3 ∧ ∃ b4 : Nat, hP (sI S2 x0 9 (r1 - r2)) x0 8 = some b4 ∧ hT (sI S2 x0 9 (r1 - r2)) b4 = 21 ∧ vp_in 0 (hN (sI S2 x0 9 (r1 - r2)) b4) ∧ hT (sI S2 x0 9 (r1 - r2)) x0 = 3 ∧ ∃ b5 : Nat, hP (sI S2 x0 9 (r1 - r2)) x0 8 = some b5 ∧ hT (sI S2 x0 9 (r1 - r2)) b5 = 21 ∧ vp_in 1 (hN (sI S2 x0 9 (r1 - r2)) b5) ∧ hT (sI S2 x0 9 (r1 - r2)) x0 = 3 ∧ ∃ b6 : Nat, hP (sI S2 x0 9 (r1 - r2)) x0 8 = some b6 ∧ hT (sI S2 x0 9 (r1 - r2)) b6 = 21 ∧ vp_in 2 (hN (sI S2 x0 9 (r1 - r2)) b6) ∧ hT (sI S2 x0 9 (r1 - r2)) b3 = 2 ∧ wp_X1_open M b3 (hI (sI S2 x0 9 (r1 - r2)) b4 (Int32.toNatClampNeg 0)) (hI (sI S2 x0 9 (r1 - r2)) b5 (Int32.toNatClampNeg 1)) (hI (sI S2 x0 9 (r1 - r2)) b6 (Int32.toNatClampNeg 2)) (sI S2 x0 9 (r1 - r2)) (fun r7 S7 => ∃ nn : Nat, wl_X2_layOut_107 M K nn x0 x1 x3 0 S7)))) ∧ (¬ (3 ≤ x4) → hT S x1 = 7 ∧ wp_X6_leastIn M x1 x4 S (fun r8 S8 => hT S8 x0 = 3 ∧ ∃ b9 : Nat, hP S8 x0 10 = some b9 ∧ hT S8 b9 = 21 ∧ vp_in x4 (hN S8 b9) ∧ hT (sI S8 b9 (Int32.toNatClampNeg x4) r8) x0 = 3 ∧ ∃ b10 : Nat, hP (sI S8 b9 (Int32.toNatClampNeg x4) r8) x0 8 = some b10 ∧ hT (sI S8 b9 (Int32.toNatClampNeg x4) r8) x1 = 7 ∧ wp_X6_roomIn M x1 x4 (sI S8 b9 (Int32.toNatClampNeg x4) r8) (fun r11 S11 => hT S11 b10 = 21 ∧ vp_in x4 (hN S11 b10) ∧ wp_X6_unit M x4 (sI S11 b10 (Int32.toNatClampNeg x4) (r11 - r8)) (fun r12 S12 => K10 x0 x1 (x3 + (r8 * r12)) (x4 + 1) S12))))
def wl_X2_layOut_10 (M : Nat × Nat) (K : Int32 → HS → Prop) : Nat → Nat → Nat → Int32 → Int32 → HS → Prop
  | 0 => fun _ _ _ _ _ => False
  | nn + 1 => wb_X2_layOut_10 M (wl_X2_layOut_10 M K nn) K
set_option maxHeartbeats 4000000 in
set_option maxRecDepth 100000 in
theorem l_X2_layOut_10 {G : CG} {S0 : HS} {X : Fx} {K : Int32 → HS → Prop} (hc : Cx X RX2 cX2_layOut 6) (hr : Cc G S0 3 none (kV K) X) : ∀ (nn : Nat) (x0 x1 : Nat) (x3 x4 : Int32) (S : HS), wl_X2_layOut_10 (gC G, gS G) K nn x0 x1 x3 x4 S → MC G S0 X 6 S 10 [(0, .ref x0), (1, .ref x1), (3, .int x3), (4, .int x4)] [] := by
  intro nn
  induction nn with
  | zero => intro x0 x1 x3 x4 S hw; exact False.elim hw
  | succ nn ih =>
    intro x0 x1 x3 x4 S hw
    have hw : wb_X2_layOut_10 (gC G, gS G) (wl_X2_layOut_10 (gC G, gS G) K nn) K x0 x1 x3 x4 S := hw
    have h10 := ih
    generalize wl_X2_layOut_10 (gC G, gS G) K nn = K10 at hw h10
    unfold wb_X2_layOut_10 at hw
    refine m_iload hc 3 dX2_layOut_10 rfl ?_
    refine m_iconst hc 3 dX2_layOut_12 (by decide) ?_
    refine m_icmp_ge hc 66 dX2_layOut_13 rfl (fun cq => ?_) (fun cq => ?_)
    · have hw := hw.1 cq
      refine m_aload_n hc 0 dX2_layOut_66 rfl rfl ?_
      refine m_aload_n hc 1 dX2_layOut_67 rfl rfl ?_
      obtain ⟨ht, hw⟩ := hw
      refine c_callVi hc hr ciX6 (Nat.le_of_ble_eq_true rfl) ht mt_X6_degree rfl lm_X2_79 (ok_X6_degree hw) (Nat.le_of_ble_eq_true rfl) dX2_layOut_68 rfl (rest := [.ref x0]) rfl (Nat.le_of_ble_eq_true rfl) (fun r1 S1 hw => ?_)
      refine m_iload_n hc 2 dX2_layOut_71 rfl rfl ?_
      refine c_callSi hc hr mt_X6_degreeOf lm_X2_115 (ok_X6_degreeOf hw) (Nat.le_of_ble_eq_true rfl) dX2_layOut_72 rfl (rest := [.int r1, .ref x0]) rfl (Nat.le_of_ble_eq_true rfl) (fun r2 S2 hw => ?_)
      refine m_isub hc dX2_layOut_75 ?_
      obtain ⟨ht, hw⟩ := hw
      refine c_puti hc hr ciX2 (Nat.le_of_ble_eq_true rfl) 9 (Nat.le_of_ble_eq_true rfl) rfl dX2_layOut_76 lf_X2_54 ht (Or.inl rfl) ⟨rfl, rfl⟩ ?_
      refine m_aload_n hc 0 dX2_layOut_79 rfl rfl ?_
      obtain ⟨ht, b3, e_b3, hw⟩ := hw
      refine c_getr hc hr ciX2 (Nat.le_of_ble_eq_true rfl) 6 (Nat.le_of_ble_eq_true rfl) rfl dX2_layOut_80 lf_X2_44 ht e_b3 ?_
      refine m_aload_n hc 0 dX2_layOut_83 rfl rfl ?_
      obtain ⟨ht, b4, e_b4, hw⟩ := hw
      refine c_getr hc hr ciX2 (Nat.le_of_ble_eq_true rfl) 8 (Nat.le_of_ble_eq_true rfl) rfl dX2_layOut_84 lf_X2_51 ht e_b4 ?_
      refine m_iconst hc 0 dX2_layOut_87 (by decide) ?_
      obtain ⟨ht, hi, hw⟩ := hw
      refine c_iald hc hr ht hi dX2_layOut_88 ?_
      refine m_aload_n hc 0 dX2_layOut_89 rfl rfl ?_
      obtain ⟨ht, b5, e_b5, hw⟩ := hw
      refine c_getr hc hr ciX2 (Nat.le_of_ble_eq_true rfl) 8 (Nat.le_of_ble_eq_true rfl) rfl dX2_layOut_90 lf_X2_51 ht e_b5 ?_
      refine m_iconst hc 1 dX2_layOut_93 (by decide) ?_
      obtain ⟨ht, hi, hw⟩ := hw
      refine c_iald hc hr ht hi dX2_layOut_94 ?_
      refine m_aload_n hc 0 dX2_layOut_95 rfl rfl ?_
      obtain ⟨ht, b6, e_b6, hw⟩ := hw
      refine c_getr hc hr ciX2 (Nat.le_of_ble_eq_true rfl) 8 (Nat.le_of_ble_eq_true rfl) rfl dX2_layOut_96 lf_X2_51 ht e_b6 ?_
      refine m_iconst hc 2 dX2_layOut_99 (by decide) ?_
      obtain ⟨ht, hi, hw⟩ := hw
      refine c_iald hc hr ht hi dX2_layOut_100 ?_
      obtain ⟨ht, hw⟩ := hw
      refine c_callVv hc hr ciX1 (Nat.le_of_ble_eq_true rfl) ht mt_X1_open rfl lm_X2_118 (ok_X1_open hw) (Nat.le_of_ble_eq_true rfl) dX2_layOut_101 rfl (rest := []) rfl (Nat.le_of_ble_eq_true rfl) (fun S7 hw => ?_)
      refine m_iconst hc 0 dX2_layOut_104 (by decide) ?_
      refine m_istore hc [(4, .int 0), (0, .ref x0), (1, .ref x1), (3, .int x3)] dX2_layOut_105 (Nat.le_of_ble_eq_true rfl) rfl ?_
      refine m_sub [1, 2, 3, 0] rfl ?_
      obtain ⟨nn, hw⟩ := hw
      exact l_X2_layOut_107 hc hr nn x0 x1 x3 0 S7 hw
    · have hw := hw.2 cq
      refine m_aload_n hc 1 dX2_layOut_16 rfl rfl ?_
      refine m_iload hc 3 dX2_layOut_17 rfl ?_
      obtain ⟨ht, hw⟩ := hw
      refine c_callVi hc hr ciX6 (Nat.le_of_ble_eq_true rfl) ht mt_X6_leastIn rfl lm_X2_105 (ok_X6_leastIn hw) (Nat.le_of_ble_eq_true rfl) dX2_layOut_19 rfl (rest := []) rfl (Nat.le_of_ble_eq_true rfl) (fun r8 S8 hw => ?_)
      refine m_istore hc [(5, .int r8), (0, .ref x0), (1, .ref x1), (3, .int x3), (4, .int x4)] dX2_layOut_22 (Nat.le_of_ble_eq_true rfl) rfl ?_
      refine m_aload_n hc 1 dX2_layOut_24 rfl rfl ?_
      obtain ⟨ht, b9, e_b9, hw⟩ := hw
      refine c_getr hc hr ciX2 (Nat.le_of_ble_eq_true rfl) 10 (Nat.le_of_ble_eq_true rfl) rfl dX2_layOut_25 lf_X2_57 ht e_b9 ?_
      refine m_iload hc 4 dX2_layOut_28 rfl ?_
      refine m_iload hc 0 dX2_layOut_30 rfl ?_
      obtain ⟨ht, hi, hw⟩ := hw
      refine c_iast hc hr ht hi dX2_layOut_32 ?_
      refine m_aload_n hc 1 dX2_layOut_33 rfl rfl ?_
      obtain ⟨ht, b10, e_b10, hw⟩ := hw
      refine c_getr hc hr ciX2 (Nat.le_of_ble_eq_true rfl) 8 (Nat.le_of_ble_eq_true rfl) rfl dX2_layOut_34 lf_X2_51 ht e_b10 ?_
      refine m_iload hc 4 dX2_layOut_37 rfl ?_
      refine m_aload_n hc 2 dX2_layOut_39 rfl rfl ?_
      refine m_iload hc 4 dX2_layOut_40 rfl ?_
      obtain ⟨ht, hw⟩ := hw
      refine c_callVi hc hr ciX6 (Nat.le_of_ble_eq_true rfl) ht mt_X6_roomIn rfl lm_X2_109 (ok_X6_roomIn hw) (Nat.le_of_ble_eq_true rfl) dX2_layOut_42 rfl (rest := [.int x4, .ref b10]) rfl (Nat.le_of_ble_eq_true rfl) (fun r11 S11 hw => ?_)
      refine m_iload hc 0 dX2_layOut_45 rfl ?_
      refine m_isub hc dX2_layOut_47 ?_
      obtain ⟨ht, hi, hw⟩ := hw
      refine c_iast hc hr ht hi dX2_layOut_48 ?_
      refine m_iload_n hc 3 dX2_layOut_49 rfl rfl ?_
      refine m_iload hc 0 dX2_layOut_50 rfl ?_
      refine m_iload hc 4 dX2_layOut_52 rfl ?_
      refine c_callSi hc hr mt_X6_unit lm_X2_112 (ok_X6_unit hw) (Nat.le_of_ble_eq_true rfl) dX2_layOut_54 rfl (rest := [.int r8, .int x3]) rfl (Nat.le_of_ble_eq_true rfl) (fun r12 S12 hw => ?_)
      refine m_imul hc dX2_layOut_57 ?_
      refine m_iadd hc dX2_layOut_58 ?_
      refine m_istore_n hc [(3, .int (x3 + (r8 * r12))), (5, .int r8), (0, .ref x0), (1, .ref x1), (4, .int x4)] dX2_layOut_59 rfl (Nat.le_of_ble_eq_true rfl) rfl ?_
      refine m_iinc hc 4 (x4 + 1) [(4, .int (x4 + 1)), (3, .int (x3 + (r8 * r12))), (5, .int r8), (0, .ref x0), (1, .ref x1)] dX2_layOut_60 rfl rfl (Nat.le_of_ble_eq_true rfl) rfl ?_
      refine m_goto hc 10 dX2_layOut_63 rfl ?_
      refine m_sub [3, 4, 1, 0] rfl ?_
      exact h10 x0 x1 (x3 + (r8 * r12)) (x4 + 1) S12 hw
def wp_X2_layOut (M : Nat × Nat) (x0 x1 : Nat) (x2 : Int32) (S : HS) (K : Int32 → HS → Prop) : Prop := hT S x0 = 3 ∧ ∃ nn : Nat, wl_X2_layOut_10 M K nn x0 x1 0 0 (sI S x0 12 x2)
set_option maxHeartbeats 4000000 in
set_option maxRecDepth 100000 in
theorem ok_X2_layOut {G : CG} {x0 : Nat} {x1 : Nat} {x2 : Int32} {S : HS} {K : Int32 → HS → Prop} (hw : wp_X2_layOut (gC G, gS G) x0 x1 x2 S K) : CC 3 yX2_layOut cX2_layOut 6 none [.ref x0, .ref x1, .int x2] G S (kV K) := by
  refine CC.of (by decide +kernel) (Nat.le_of_ble_eq_true rfl) (fun X hc hr hname => ?_)
  show MC G S X 6 S 0 [(0, .ref x0), (1, .ref x1), (2, .int x2)] []
  unfold wp_X2_layOut at hw
  refine m_aload_n hc 0 dX2_layOut_0 rfl rfl ?_
  refine m_iload_n hc 2 dX2_layOut_1 rfl rfl ?_
  obtain ⟨ht, hw⟩ := hw
  refine c_puti hc hr ciX2 (Nat.le_of_ble_eq_true rfl) 12 (Nat.le_of_ble_eq_true rfl) rfl dX2_layOut_2 lf_X2_69 ht (Or.inl rfl) ⟨rfl, rfl⟩ ?_
  refine m_iconst hc 0 dX2_layOut_5 (by decide) ?_
  refine m_istore_n hc [(3, .int 0), (0, .ref x0), (1, .ref x1), (2, .int x2)] dX2_layOut_6 rfl (Nat.le_of_ble_eq_true rfl) rfl ?_
  refine m_iconst hc 0 dX2_layOut_7 (by decide) ?_
  refine m_istore hc [(4, .int 0), (3, .int 0), (0, .ref x0), (1, .ref x1), (2, .int x2)] dX2_layOut_8 (Nat.le_of_ble_eq_true rfl) rfl ?_
  refine m_sub [2, 3, 1, 0] rfl ?_
  obtain ⟨nn, hw⟩ := hw
  exact l_X2_layOut_10 hc hr nn x0 x1 0 0 (sI S x0 12 x2) hw
def wp_X9_reducedExponent (M : Nat × Nat) (x0 x1 : Int32) (S : HS) (K : Int32 → HS → Prop) : Prop := (x1 ≤ x0 → ¬ (x1 - 1) = 0 ∧ (K ((iRem (x0 - 1) (x1 - 1)) + 1) S)) ∧ (¬ (x1 ≤ x0) → K x0 S)
set_option maxHeartbeats 4000000 in
set_option maxRecDepth 100000 in
theorem ok_X9_reducedExponent {G : CG} {x0 : Int32} {x1 : Int32} {S : HS} {K : Int32 → HS → Prop} (hw : wp_X9_reducedExponent (gC G, gS G) x0 x1 S K) : CC 0 yX9_reducedExponent cX9_reducedExponent 2 (some .int) [.int x0, .int x1] G S (kI K) := by
  refine CC.of (by decide +kernel) (Nat.le_of_ble_eq_true rfl) (fun X hc hr hname => ?_)
  show MC G S X 2 S 0 [(0, .int x0), (1, .int x1)] []
  unfold wp_X9_reducedExponent at hw
  refine m_iload_n hc 0 dX9_reducedExponent_0 rfl rfl ?_
  refine m_iload_n hc 1 dX9_reducedExponent_1 rfl rfl ?_
  refine m_icmp_ge hc 9 dX9_reducedExponent_2 rfl (fun cq => ?_) (fun cq => ?_)
  · have hw := hw.1 cq
    refine m_iload_n hc 0 dX9_reducedExponent_9 rfl rfl ?_
    refine m_iconst hc 1 dX9_reducedExponent_10 (by decide) ?_
    refine m_isub hc dX9_reducedExponent_11 ?_
    refine m_iload_n hc 1 dX9_reducedExponent_12 rfl rfl ?_
    refine m_iconst hc 1 dX9_reducedExponent_13 (by decide) ?_
    refine m_isub hc dX9_reducedExponent_14 ?_
    obtain ⟨hq, hw⟩ := hw
    refine m_irem hc dX9_reducedExponent_15 hq ?_
    refine m_iconst hc 1 dX9_reducedExponent_16 (by decide) ?_
    refine m_iadd hc dX9_reducedExponent_17 ?_
    exact c_iret hc hr dX9_reducedExponent_18 hw
  · have hw := hw.2 cq
    refine m_iload_n hc 0 dX9_reducedExponent_5 rfl rfl ?_
    refine m_goto hc 18 dX9_reducedExponent_6 rfl ?_
    exact c_iret hc hr dX9_reducedExponent_18 hw
def wb_X5_addReduced_2 (M : Nat × Nat) (K2 : Nat → Nat → Int32 → Int32 → HS → Prop) (K : Int32 → HS → Prop) (x0 x1 : Nat) (x2 x3 : Int32) (S : HS) : Prop := hT S x1 = 7 ∧ ((hI S x1 2) ≤ x3 → K 0 S) ∧ (¬ ((hI S x1 2) ≤ x3) → hT S x1 = 7 ∧ ∃ b1 : Nat, hP S x1 0 = some b1 ∧ hT S b1 = 21 ∧ vp_in x3 (hN S b1) ∧ wp_X6_exponent M (hI S b1 (Int32.toNatClampNeg x3)) 0 S (fun r2 S2 => hT S2 x0 = 6 ∧ wp_X9_reducedExponent M r2 (hI S2 x0 2) S2 (fun r3 S3 => hT S3 x1 = 7 ∧ ∃ b4 : Nat, hP S3 x1 0 = some b4 ∧ hT S3 b4 = 21 ∧ vp_in x3 (hN S3 b4) ∧ wp_X6_exponent M (hI S3 b4 (Int32.toNatClampNeg x3)) 1 S3 (fun r5 S5 => hT S5 x0 = 6 ∧ wp_X9_reducedExponent M r5 (hI S5 x0 2) S5 (fun r6 S6 => hT S6 x1 = 7 ∧ ∃ b7 : Nat, hP S6 x1 0 = some b7 ∧ hT S6 b7 = 21 ∧ vp_in x3 (hN S6 b7) ∧ wp_X6_exponent M (hI S6 b7 (Int32.toNatClampNeg x3)) 2 S6 (fun r8 S8 => hT S8 x0 = 6 ∧ wp_X9_reducedExponent M r8 (hI S8 x0 2) S8 (fun r9 S9 => hT S9 x0 = 6 ∧ hT S9 x0 = 6 ∧ ∀ v10 : Int32, v10 = ((((r3 * (hI S9 x0 2)) + r6) * (hI S9 x0 2)) + r9) → hT S9 x0 = 6 ∧ ∃ b11 : Nat, hP S9 x0 0 = some b11 ∧ hT S9 x0 = 6 ∧ ∃ b12 : Nat, hP S9 x0 0 = some b12 ∧ hT S9 b12 = 21 ∧ vp_in v10 (hN S9 b12) ∧ hT S9 x1 = 7 ∧ ∃ b13 : Nat, hP S9 x1 1 = some b13 ∧ hT S9 b13 = 21 ∧ vp_in x3 (hN S9 b13) ∧ hT S9 x0 = 6 ∧ ¬ (hI S9 x0 2) = 0 ∧ (hT S9 b11 = 21 ∧ vp_in v10 (hN S9 b11) ∧ K2 x0 x1 x2 (x3 + 1) (sI S9 b11 (Int32.toNatClampNeg v10) (iRem ((hI S9 b12 (Int32.toNatClampNeg v10)) + (x2 * (hI S9 b13 (Int32.toNatClampNeg x3)))) (hI S9 x0 2)))))))))))
def wl_X5_addReduced_2 (M : Nat × Nat) (K : Int32 → HS → Prop) : Nat → Nat → Nat → Int32 → Int32 → HS → Prop
  | 0 => fun _ _ _ _ _ => False
  | nn + 1 => wb_X5_addReduced_2 M (wl_X5_addReduced_2 M K nn) K
set_option maxHeartbeats 4000000 in
set_option maxRecDepth 100000 in
theorem l_X5_addReduced_2 {G : CG} {S0 : HS} {X : Fx} {K : Int32 → HS → Prop} (hc : Cx X RX5 cX5_addReduced 8) (hr : Cc G S0 1 none (kV K) X) : ∀ (nn : Nat) (x0 x1 : Nat) (x2 x3 : Int32) (S : HS), wl_X5_addReduced_2 (gC G, gS G) K nn x0 x1 x2 x3 S → MC G S0 X 8 S 2 [(0, .ref x0), (1, .ref x1), (2, .int x2), (3, .int x3)] [] := by
  intro nn
  induction nn with
  | zero => intro x0 x1 x2 x3 S hw; exact False.elim hw
  | succ nn ih =>
    intro x0 x1 x2 x3 S hw
    have hw : wb_X5_addReduced_2 (gC G, gS G) (wl_X5_addReduced_2 (gC G, gS G) K nn) K x0 x1 x2 x3 S := hw
    have h2 := ih
    generalize wl_X5_addReduced_2 (gC G, gS G) K nn = K2 at hw h2
    unfold wb_X5_addReduced_2 at hw
    refine m_iload_n hc 3 dX5_addReduced_2 rfl rfl ?_
    refine m_aload_n hc 1 dX5_addReduced_3 rfl rfl ?_
    obtain ⟨ht, hw⟩ := hw
    refine c_geti hc hr ciX6 (Nat.le_of_ble_eq_true rfl) 2 (Nat.le_of_ble_eq_true rfl) rfl dX5_addReduced_4 lf_X5_39 ht ?_
    refine m_icmp_ge hc 121 dX5_addReduced_7 rfl (fun cq => ?_) (fun cq => ?_)
    · have hw := hw.1 cq
      exact c_vret hc hr dX5_addReduced_121 hw
    · have hw := hw.2 cq
      refine m_aload_n hc 1 dX5_addReduced_10 rfl rfl ?_
      obtain ⟨ht, b1, e_b1, hw⟩ := hw
      refine c_getr hc hr ciX6 (Nat.le_of_ble_eq_true rfl) 0 (Nat.le_of_ble_eq_true rfl) rfl dX5_addReduced_11 lf_X5_44 ht e_b1 ?_
      refine m_iload_n hc 3 dX5_addReduced_14 rfl rfl ?_
      obtain ⟨ht, hi, hw⟩ := hw
      refine c_iald hc hr ht hi dX5_addReduced_15 ?_
      refine m_iconst hc 0 dX5_addReduced_16 (by decide) ?_
      refine c_callSi hc hr mt_X6_exponent lm_X5_47 (ok_X6_exponent hw) (Nat.le_of_ble_eq_true rfl) dX5_addReduced_17 rfl (rest := []) rfl (Nat.le_of_ble_eq_true rfl) (fun r2 S2 hw => ?_)
      refine m_aload_n hc 0 dX5_addReduced_20 rfl rfl ?_
      obtain ⟨ht, hw⟩ := hw
      refine c_geti hc hr ciX5 (Nat.le_of_ble_eq_true rfl) 2 (Nat.le_of_ble_eq_true rfl) rfl dX5_addReduced_21 lf_X5_18 ht ?_
      refine c_callSi hc hr mt_X9_reducedExponent lm_X5_51 (ok_X9_reducedExponent hw) (Nat.le_of_ble_eq_true rfl) dX5_addReduced_24 rfl (rest := []) rfl (Nat.le_of_ble_eq_true rfl) (fun r3 S3 hw => ?_)
      refine m_istore hc [(4, .int r3), (0, .ref x0), (1, .ref x1), (2, .int x2), (3, .int x3)] dX5_addReduced_27 (Nat.le_of_ble_eq_true rfl) rfl ?_
      refine m_aload_n hc 2 dX5_addReduced_29 rfl rfl ?_
      obtain ⟨ht, b4, e_b4, hw⟩ := hw
      refine c_getr hc hr ciX6 (Nat.le_of_ble_eq_true rfl) 0 (Nat.le_of_ble_eq_true rfl) rfl dX5_addReduced_30 lf_X5_44 ht e_b4 ?_
      refine m_iload_n hc 4 dX5_addReduced_33 rfl rfl ?_
      obtain ⟨ht, hi, hw⟩ := hw
      refine c_iald hc hr ht hi dX5_addReduced_34 ?_
      refine m_iconst hc 1 dX5_addReduced_35 (by decide) ?_
      refine c_callSi hc hr mt_X6_exponent lm_X5_47 (ok_X6_exponent hw) (Nat.le_of_ble_eq_true rfl) dX5_addReduced_36 rfl (rest := []) rfl (Nat.le_of_ble_eq_true rfl) (fun r5 S5 hw => ?_)
      refine m_aload_n hc 1 dX5_addReduced_39 rfl rfl ?_
      obtain ⟨ht, hw⟩ := hw
      refine c_geti hc hr ciX5 (Nat.le_of_ble_eq_true rfl) 2 (Nat.le_of_ble_eq_true rfl) rfl dX5_addReduced_40 lf_X5_18 ht ?_
      refine c_callSi hc hr mt_X9_reducedExponent lm_X5_51 (ok_X9_reducedExponent hw) (Nat.le_of_ble_eq_true rfl) dX5_addReduced_43 rfl (rest := []) rfl (Nat.le_of_ble_eq_true rfl) (fun r6 S6 hw => ?_)
      refine m_istore hc [(5, .int r6), (4, .int r3), (0, .ref x0), (1, .ref x1), (2, .int x2), (3, .int x3)] dX5_addReduced_46 (Nat.le_of_ble_eq_true rfl) rfl ?_
      refine m_aload_n hc 3 dX5_addReduced_48 rfl rfl ?_
      obtain ⟨ht, b7, e_b7, hw⟩ := hw
      refine c_getr hc hr ciX6 (Nat.le_of_ble_eq_true rfl) 0 (Nat.le_of_ble_eq_true rfl) rfl dX5_addReduced_49 lf_X5_44 ht e_b7 ?_
      refine m_iload_n hc 5 dX5_addReduced_52 rfl rfl ?_
      obtain ⟨ht, hi, hw⟩ := hw
      refine c_iald hc hr ht hi dX5_addReduced_53 ?_
      refine m_iconst hc 2 dX5_addReduced_54 (by decide) ?_
      refine c_callSi hc hr mt_X6_exponent lm_X5_47 (ok_X6_exponent hw) (Nat.le_of_ble_eq_true rfl) dX5_addReduced_55 rfl (rest := []) rfl (Nat.le_of_ble_eq_true rfl) (fun r8 S8 hw => ?_)
      refine m_aload_n hc 2 dX5_addReduced_58 rfl rfl ?_
      obtain ⟨ht, hw⟩ := hw
      refine c_geti hc hr ciX5 (Nat.le_of_ble_eq_true rfl) 2 (Nat.le_of_ble_eq_true rfl) rfl dX5_addReduced_59 lf_X5_18 ht ?_
      refine c_callSi hc hr mt_X9_reducedExponent lm_X5_51 (ok_X9_reducedExponent hw) (Nat.le_of_ble_eq_true rfl) dX5_addReduced_62 rfl (rest := []) rfl (Nat.le_of_ble_eq_true rfl) (fun r9 S9 hw => ?_)
      refine m_istore hc [(6, .int r9), (5, .int r6), (4, .int r3), (0, .ref x0), (1, .ref x1), (2, .int x2), (3, .int x3)] dX5_addReduced_65 (Nat.le_of_ble_eq_true rfl) rfl ?_
      refine m_iload hc 2 dX5_addReduced_67 rfl ?_
      refine m_aload_n hc 3 dX5_addReduced_69 rfl rfl ?_
      obtain ⟨ht, hw⟩ := hw
      refine c_geti hc hr ciX5 (Nat.le_of_ble_eq_true rfl) 2 (Nat.le_of_ble_eq_true rfl) rfl dX5_addReduced_70 lf_X5_18 ht ?_
      refine m_imul hc dX5_addReduced_73 ?_
      refine m_iload hc 1 dX5_addReduced_74 rfl ?_
      refine m_iadd hc dX5_addReduced_76 ?_
      refine m_aload_n hc 3 dX5_addReduced_77 rfl rfl ?_
      obtain ⟨ht, hw⟩ := hw
      refine c_geti hc hr ciX5 (Nat.le_of_ble_eq_true rfl) 2 (Nat.le_of_ble_eq_true rfl) rfl dX5_addReduced_78 lf_X5_18 ht ?_
      refine m_imul hc dX5_addReduced_81 ?_
      refine m_iload hc 0 dX5_addReduced_82 rfl ?_
      refine m_iadd hc dX5_addReduced_84 ?_
      refine m_topi (fun v10 e_v10 => ?_)
      have hw := hw v10 e_v10
      refine m_istore hc [(7, .int v10), (6, .int r9), (5, .int r6), (4, .int r3), (0, .ref x0), (1, .ref x1), (2, .int x2), (3, .int x3)] dX5_addReduced_85 (Nat.le_of_ble_eq_true rfl) rfl ?_
      refine m_aload_n hc 4 dX5_addReduced_87 rfl rfl ?_
      obtain ⟨ht, b11, e_b11, hw⟩ := hw
      refine c_getr hc hr ciX5 (Nat.le_of_ble_eq_true rfl) 0 (Nat.le_of_ble_eq_true rfl) rfl dX5_addReduced_88 lf_X5_9 ht e_b11 ?_
      refine m_iload hc 0 dX5_addReduced_91 rfl ?_
      refine m_aload_n hc 4 dX5_addReduced_93 rfl rfl ?_
      obtain ⟨ht, b12, e_b12, hw⟩ := hw
      refine c_getr hc hr ciX5 (Nat.le_of_ble_eq_true rfl) 0 (Nat.le_of_ble_eq_true rfl) rfl dX5_addReduced_94 lf_X5_9 ht e_b12 ?_
      refine m_iload hc 0 dX5_addReduced_97 rfl ?_
      obtain ⟨ht, hi, hw⟩ := hw
      refine c_iald hc hr ht hi dX5_addReduced_99 ?_
      refine m_iload_n hc 6 dX5_addReduced_100 rfl rfl ?_
      refine m_aload_n hc 5 dX5_addReduced_101 rfl rfl ?_
      obtain ⟨ht, b13, e_b13, hw⟩ := hw
      refine c_getr hc hr ciX6 (Nat.le_of_ble_eq_true rfl) 1 (Nat.le_of_ble_eq_true rfl) rfl dX5_addReduced_102 lf_X5_56 ht e_b13 ?_
      refine m_iload_n hc 7 dX5_addReduced_105 rfl rfl ?_
      obtain ⟨ht, hi, hw⟩ := hw
      refine c_iald hc hr ht hi dX5_addReduced_106 ?_
      refine m_imul hc dX5_addReduced_107 ?_
      refine m_iadd hc dX5_addReduced_108 ?_
      refine m_aload_n hc 4 dX5_addReduced_109 rfl rfl ?_
      obtain ⟨ht, hw⟩ := hw
      refine c_geti hc hr ciX5 (Nat.le_of_ble_eq_true rfl) 2 (Nat.le_of_ble_eq_true rfl) rfl dX5_addReduced_110 lf_X5_18 ht ?_
      obtain ⟨hq, hw⟩ := hw
      refine m_irem hc dX5_addReduced_113 hq ?_
      obtain ⟨ht, hi, hw⟩ := hw
      refine c_iast hc hr ht hi dX5_addReduced_114 ?_
      refine m_iinc hc 7 (x3 + 1) [(3, .int (x3 + 1)), (7, .int v10), (6, .int r9), (5, .int r6), (4, .int r3), (0, .ref x0), (1, .ref x1), (2, .int x2)] dX5_addReduced_115 rfl rfl (Nat.le_of_ble_eq_true rfl) rfl ?_
      refine m_goto hc 2 dX5_addReduced_118 rfl ?_
      refine m_sub [5, 6, 7, 0] rfl ?_
      exact h2 x0 x1 x2 (x3 + 1) (sI S9 b11 (Int32.toNatClampNeg v10) (iRem ((hI S9 b12 (Int32.toNatClampNeg v10)) + (x2 * (hI S9 b13 (Int32.toNatClampNeg x3)))) (hI S9 x0 2))) hw
def wp_X5_addReduced (M : Nat × Nat) (x0 x1 : Nat) (x2 : Int32) (S : HS) (K : Int32 → HS → Prop) : Prop := ∃ nn : Nat, wl_X5_addReduced_2 M K nn x0 x1 x2 0 S
set_option maxHeartbeats 4000000 in
set_option maxRecDepth 100000 in
theorem ok_X5_addReduced {G : CG} {x0 : Nat} {x1 : Nat} {x2 : Int32} {S : HS} {K : Int32 → HS → Prop} (hw : wp_X5_addReduced (gC G, gS G) x0 x1 x2 S K) : CC 1 yX5_addReduced cX5_addReduced 8 none [.ref x0, .ref x1, .int x2] G S (kV K) := by
  refine CC.of (by decide +kernel) (Nat.le_of_ble_eq_true rfl) (fun X hc hr hname => ?_)
  show MC G S X 8 S 0 [(0, .ref x0), (1, .ref x1), (2, .int x2)] []
  unfold wp_X5_addReduced at hw
  refine m_iconst hc 0 dX5_addReduced_0 (by decide) ?_
  refine m_istore_n hc [(3, .int 0), (0, .ref x0), (1, .ref x1), (2, .int x2)] dX5_addReduced_1 rfl (Nat.le_of_ble_eq_true rfl) rfl ?_
  refine m_sub [1, 2, 3, 0] rfl ?_
  obtain ⟨nn, hw⟩ := hw
  exact l_X5_addReduced_2 hc hr nn x0 x1 x2 0 S hw
def wb_X5_fillRow_3 (M : Nat × Nat) (K3 : Nat → Int32 → Int32 → Int32 → Int32 → HS → Prop) (K : Int32 → HS → Prop) (x0 : Nat) (x1 x2 x3 x4 : Int32) (S : HS) : Prop := hT S x0 = 6 ∧ ((hI S x0 2) ≤ x4 → K 0 S) ∧ (¬ ((hI S x0 2) ≤ x4) → hT S x0 = 6 ∧ ∃ b1 : Nat, hP S x0 0 = some b1 ∧ hT S b1 = 21 ∧ vp_in (x1 + (x4 * x2)) (hN S b1) ∧ K3 x0 x1 x2 x3 (x4 + 1) (sI S b1 (Int32.toNatClampNeg (x1 + (x4 * x2))) x3))
def wl_X5_fillRow_3 (M : Nat × Nat) (K : Int32 → HS → Prop) : Nat → Nat → Int32 → Int32 → Int32 → Int32 → HS → Prop
  | 0 => fun _ _ _ _ _ _ => False
  | nn + 1 => wb_X5_fillRow_3 M (wl_X5_fillRow_3 M K nn) K
set_option maxHeartbeats 4000000 in
set_option maxRecDepth 100000 in
theorem l_X5_fillRow_3 {G : CG} {S0 : HS} {X : Fx} {K : Int32 → HS → Prop} (hc : Cx X RX5 cX5_fillRow 5) (hr : Cc G S0 0 none (kV K) X) : ∀ (nn : Nat) (x0 : Nat) (x1 x2 x3 x4 : Int32) (S : HS), wl_X5_fillRow_3 (gC G, gS G) K nn x0 x1 x2 x3 x4 S → MC G S0 X 5 S 3 [(0, .ref x0), (1, .int x1), (2, .int x2), (3, .int x3), (4, .int x4)] [] := by
  intro nn
  induction nn with
  | zero => intro x0 x1 x2 x3 x4 S hw; exact False.elim hw
  | succ nn ih =>
    intro x0 x1 x2 x3 x4 S hw
    have hw : wb_X5_fillRow_3 (gC G, gS G) (wl_X5_fillRow_3 (gC G, gS G) K nn) K x0 x1 x2 x3 x4 S := hw
    have h3 := ih
    generalize wl_X5_fillRow_3 (gC G, gS G) K nn = K3 at hw h3
    unfold wb_X5_fillRow_3 at hw
    refine m_iload hc 4 dX5_fillRow_3 rfl ?_
    refine m_aload_n hc 0 dX5_fillRow_5 rfl rfl ?_
    obtain ⟨ht, hw⟩ := hw
    refine c_geti hc hr ciX5 (Nat.le_of_ble_eq_true rfl) 2 (Nat.le_of_ble_eq_true rfl) rfl dX5_fillRow_6 lf_X5_18 ht ?_
    refine m_icmp_ge hc 30 dX5_fillRow_9 rfl (fun cq => ?_) (fun cq => ?_)
    · have hw := hw.1 cq
      exact c_vret hc hr dX5_fillRow_30 hw
    · have hw := hw.2 cq
      refine m_aload_n hc 0 dX5_fillRow_12 rfl rfl ?_
      obtain ⟨ht, b1, e_b1, hw⟩ := hw
      refine c_getr hc hr ciX5 (Nat.le_of_ble_eq_true rfl) 0 (Nat.le_of_ble_eq_true rfl) rfl dX5_fillRow_13 lf_X5_9 ht e_b1 ?_
      refine m_iload_n hc 1 dX5_fillRow_16 rfl rfl ?_
      refine m_iload hc 4 dX5_fillRow_17 rfl ?_
      refine m_iload_n hc 2 dX5_fillRow_19 rfl rfl ?_
      refine m_imul hc dX5_fillRow_20 ?_
      refine m_iadd hc dX5_fillRow_21 ?_
      refine m_iload_n hc 3 dX5_fillRow_22 rfl rfl ?_
      obtain ⟨ht, hi, hw⟩ := hw
      refine c_iast hc hr ht hi dX5_fillRow_23 ?_
      refine m_iinc hc 4 (x4 + 1) [(4, .int (x4 + 1)), (0, .ref x0), (1, .int x1), (2, .int x2), (3, .int x3)] dX5_fillRow_24 rfl rfl (Nat.le_of_ble_eq_true rfl) rfl ?_
      refine m_goto hc 3 dX5_fillRow_27 rfl ?_
      refine m_sub [1, 2, 3, 4, 0] rfl ?_
      exact h3 x0 x1 x2 x3 (x4 + 1) (sI S b1 (Int32.toNatClampNeg (x1 + (x4 * x2))) x3) hw
def wp_X5_fillRow (M : Nat × Nat) (x0 : Nat) (x1 x2 x3 : Int32) (S : HS) (K : Int32 → HS → Prop) : Prop := ∃ nn : Nat, wl_X5_fillRow_3 M K nn x0 x1 x2 x3 0 S
set_option maxHeartbeats 4000000 in
set_option maxRecDepth 100000 in
theorem ok_X5_fillRow {G : CG} {x0 : Nat} {x1 : Int32} {x2 : Int32} {x3 : Int32} {S : HS} {K : Int32 → HS → Prop} (hw : wp_X5_fillRow (gC G, gS G) x0 x1 x2 x3 S K) : CC 0 yX5_fillRow cX5_fillRow 5 none [.ref x0, .int x1, .int x2, .int x3] G S (kV K) := by
  refine CC.of (by decide +kernel) (Nat.le_of_ble_eq_true rfl) (fun X hc hr hname => ?_)
  show MC G S X 5 S 0 [(0, .ref x0), (1, .int x1), (2, .int x2), (3, .int x3)] []
  unfold wp_X5_fillRow at hw
  refine m_iconst hc 0 dX5_fillRow_0 (by decide) ?_
  refine m_istore hc [(4, .int 0), (0, .ref x0), (1, .int x1), (2, .int x2), (3, .int x3)] dX5_fillRow_1 (Nat.le_of_ble_eq_true rfl) rfl ?_
  refine m_sub [1, 2, 3, 4, 0] rfl ?_
  obtain ⟨nn, hw⟩ := hw
  exact l_X5_fillRow_3 hc hr nn x0 x1 x2 x3 0 S hw
def wb_X5_spread_90 (M : Nat × Nat) (K75 : Nat → Int32 → Int32 → Int32 → Int32 → HS → Prop) (K90 : Nat → Int32 → Int32 → Int32 → Int32 → Int32 → Int32 → HS → Prop) (K : Int32 → HS → Prop) (x0 : Nat) (x1 x2 x3 x4 x5 x6 : Int32) (S : HS) : Prop := (x6 < 0 → hT S x0 = 6 ∧ ∃ b1 : Nat, hP S x0 0 = some b1 ∧ hT S b1 = 21 ∧ vp_in (x1 + (x4 * x2)) (hN S b1) ∧ K75 x0 x1 x2 x3 (x4 + 1) (sI S b1 (Int32.toNatClampNeg (x1 + (x4 * x2))) x5)) ∧ (¬ (x6 < 0) → hT S x0 = 6 ∧ ∃ b2 : Nat, hP S x0 1 = some b2 ∧ hT S b2 = 21 ∧ vp_in x6 (hN S b2) ∧ hT S x0 = 6 ∧ ¬ (hI S x0 2) = 0 ∧ (∀ v3 : Int32, v3 = (iRem ((x5 * x4) + (hI S b2 (Int32.toNatClampNeg x6))) (hI S x0 2)) → K90 x0 x1 x2 x3 x4 v3 (x6 + (-1)) S))
def wl_X5_spread_90 (M : Nat × Nat) (K75 : Nat → Int32 → Int32 → Int32 → Int32 → HS → Prop) (K : Int32 → HS → Prop) : Nat → Nat → Int32 → Int32 → Int32 → Int32 → Int32 → Int32 → HS → Prop
  | 0 => fun _ _ _ _ _ _ _ _ => False
  | nn + 1 => wb_X5_spread_90 M K75 (wl_X5_spread_90 M K75 K nn) K
set_option maxHeartbeats 4000000 in
set_option maxRecDepth 100000 in
theorem l_X5_spread_90 {G : CG} {S0 : HS} {X : Fx} {K : Int32 → HS → Prop} (hc : Cx X RX5 cX5_spread 7) (hr : Cc G S0 1 none (kV K) X) (K75 : Nat → Int32 → Int32 → Int32 → Int32 → HS → Prop) (h75 : ∀ (x0 : Nat) (x1 x2 x3 x4 : Int32) (S : HS), K75 x0 x1 x2 x3 x4 S → MC G S0 X 7 S 75 [(0, .ref x0), (1, .int x1), (2, .int x2), (3, .int x3), (4, .int x4)] []) : ∀ (nn : Nat) (x0 : Nat) (x1 x2 x3 x4 x5 x6 : Int32) (S : HS), wl_X5_spread_90 (gC G, gS G) K75 K nn x0 x1 x2 x3 x4 x5 x6 S → MC G S0 X 7 S 90 [(0, .ref x0), (1, .int x1), (2, .int x2), (3, .int x3), (4, .int x4), (5, .int x5), (6, .int x6)] [] := by
  intro nn
  induction nn with
  | zero => intro x0 x1 x2 x3 x4 x5 x6 S hw; exact False.elim hw
  | succ nn ih =>
    intro x0 x1 x2 x3 x4 x5 x6 S hw
    have hw : wb_X5_spread_90 (gC G, gS G) K75 (wl_X5_spread_90 (gC G, gS G) K75 K nn) K x0 x1 x2 x3 x4 x5 x6 S := hw
    have h90 := ih
    generalize wl_X5_spread_90 (gC G, gS G) K75 K nn = K90 at hw h90
    unfold wb_X5_spread_90 at hw
    refine m_iload hc 6 dX5_spread_90 rfl ?_
    refine m_if_lt hc 121 dX5_spread_92 rfl (fun cq => ?_) (fun cq => ?_)
    · have hw := hw.1 cq
      refine m_aload_n hc 0 dX5_spread_121 rfl rfl ?_
      obtain ⟨ht, b1, e_b1, hw⟩ := hw
      refine c_getr hc hr ciX5 (Nat.le_of_ble_eq_true rfl) 0 (Nat.le_of_ble_eq_true rfl) rfl dX5_spread_122 lf_X5_9 ht e_b1 ?_
      refine m_iload_n hc 1 dX5_spread_125 rfl rfl ?_
      refine m_iload hc 4 dX5_spread_126 rfl ?_
      refine m_iload_n hc 2 dX5_spread_128 rfl rfl ?_
      refine m_imul hc dX5_spread_129 ?_
      refine m_iadd hc dX5_spread_130 ?_
      refine m_iload hc 5 dX5_spread_131 rfl ?_
      obtain ⟨ht, hi, hw⟩ := hw
      refine c_iast hc hr ht hi dX5_spread_133 ?_
      refine m_iinc hc 4 (x4 + 1) [(4, .int (x4 + 1)), (0, .ref x0), (1, .int x1), (2, .int x2), (3, .int x3), (5, .int x5), (6, .int x6)] dX5_spread_134 rfl rfl (Nat.le_of_ble_eq_true rfl) rfl ?_
      refine m_goto hc 75 dX5_spread_137 rfl ?_
      refine m_sub [1, 2, 3, 4, 0] rfl ?_
      exact h75 x0 x1 x2 x3 (x4 + 1) (sI S b1 (Int32.toNatClampNeg (x1 + (x4 * x2))) x5) hw
    · have hw := hw.2 cq
      refine m_iload hc 5 dX5_spread_95 rfl ?_
      refine m_iload hc 4 dX5_spread_97 rfl ?_
      refine m_imul hc dX5_spread_99 ?_
      refine m_aload_n hc 0 dX5_spread_100 rfl rfl ?_
      obtain ⟨ht, b2, e_b2, hw⟩ := hw
      refine c_getr hc hr ciX5 (Nat.le_of_ble_eq_true rfl) 1 (Nat.le_of_ble_eq_true rfl) rfl dX5_spread_101 lf_X5_15 ht e_b2 ?_
      refine m_iload hc 6 dX5_spread_104 rfl ?_
      obtain ⟨ht, hi, hw⟩ := hw
      refine c_iald hc hr ht hi dX5_spread_106 ?_
      refine m_iadd hc dX5_spread_107 ?_
      refine m_aload_n hc 0 dX5_spread_108 rfl rfl ?_
      obtain ⟨ht, hw⟩ := hw
      refine c_geti hc hr ciX5 (Nat.le_of_ble_eq_true rfl) 2 (Nat.le_of_ble_eq_true rfl) rfl dX5_spread_109 lf_X5_18 ht ?_
      obtain ⟨hq, hw⟩ := hw
      refine m_irem hc dX5_spread_112 hq ?_
      refine m_topi (fun v3 e_v3 => ?_)
      have hw := hw v3 e_v3
      refine m_istore hc [(5, .int v3), (0, .ref x0), (1, .int x1), (2, .int x2), (3, .int x3), (4, .int x4), (6, .int x6)] dX5_spread_113 (Nat.le_of_ble_eq_true rfl) rfl ?_
      refine m_iinc hc 6 (x6 + (-1)) [(6, .int (x6 + (-1))), (5, .int v3), (0, .ref x0), (1, .int x1), (2, .int x2), (3, .int x3), (4, .int x4)] dX5_spread_115 rfl rfl (Nat.le_of_ble_eq_true rfl) rfl ?_
      refine m_goto hc 90 dX5_spread_118 rfl ?_
      refine m_sub [2, 3, 4, 5, 6, 1, 0] rfl ?_
      exact h90 x0 x1 x2 x3 x4 v3 (x6 + (-1)) S hw
def wb_X5_spread_75 (M : Nat × Nat) (K75 : Nat → Int32 → Int32 → Int32 → Int32 → HS → Prop) (K : Int32 → HS → Prop) (x0 : Nat) (x1 x2 x3 x4 : Int32) (S : HS) : Prop := hT S x0 = 6 ∧ ((hI S x0 2) ≤ x4 → K 0 S) ∧ (¬ ((hI S x0 2) ≤ x4) → ∃ nn : Nat, wl_X5_spread_90 M K75 K nn x0 x1 x2 x3 x4 0 x3 S)
def wl_X5_spread_75 (M : Nat × Nat) (K : Int32 → HS → Prop) : Nat → Nat → Int32 → Int32 → Int32 → Int32 → HS → Prop
  | 0 => fun _ _ _ _ _ _ => False
  | nn + 1 => wb_X5_spread_75 M (wl_X5_spread_75 M K nn) K
set_option maxHeartbeats 4000000 in
set_option maxRecDepth 100000 in
theorem l_X5_spread_75 {G : CG} {S0 : HS} {X : Fx} {K : Int32 → HS → Prop} (hc : Cx X RX5 cX5_spread 7) (hr : Cc G S0 1 none (kV K) X) : ∀ (nn : Nat) (x0 : Nat) (x1 x2 x3 x4 : Int32) (S : HS), wl_X5_spread_75 (gC G, gS G) K nn x0 x1 x2 x3 x4 S → MC G S0 X 7 S 75 [(0, .ref x0), (1, .int x1), (2, .int x2), (3, .int x3), (4, .int x4)] [] := by
  intro nn
  induction nn with
  | zero => intro x0 x1 x2 x3 x4 S hw; exact False.elim hw
  | succ nn ih =>
    intro x0 x1 x2 x3 x4 S hw
    have hw : wb_X5_spread_75 (gC G, gS G) (wl_X5_spread_75 (gC G, gS G) K nn) K x0 x1 x2 x3 x4 S := hw
    have h75 := ih
    generalize wl_X5_spread_75 (gC G, gS G) K nn = K75 at hw h75
    unfold wb_X5_spread_75 at hw
    refine m_iload hc 4 dX5_spread_75 rfl ?_
    refine m_aload_n hc 0 dX5_spread_77 rfl rfl ?_
    obtain ⟨ht, hw⟩ := hw
    refine c_geti hc hr ciX5 (Nat.le_of_ble_eq_true rfl) 2 (Nat.le_of_ble_eq_true rfl) rfl dX5_spread_78 lf_X5_18 ht ?_
    refine m_icmp_ge hc 140 dX5_spread_81 rfl (fun cq => ?_) (fun cq => ?_)
    · have hw := hw.1 cq
      exact c_vret hc hr dX5_spread_140 hw
    · have hw := hw.2 cq
      refine m_iconst hc 0 dX5_spread_84 (by decide) ?_
      refine m_istore hc [(5, .int 0), (0, .ref x0), (1, .int x1), (2, .int x2), (3, .int x3), (4, .int x4)] dX5_spread_85 (Nat.le_of_ble_eq_true rfl) rfl ?_
      refine m_iload_n hc 4 dX5_spread_87 rfl rfl ?_
      refine m_istore hc [(6, .int x3), (5, .int 0), (0, .ref x0), (1, .int x1), (2, .int x2), (3, .int x3), (4, .int x4)] dX5_spread_88 (Nat.le_of_ble_eq_true rfl) rfl ?_
      refine m_sub [2, 3, 4, 5, 6, 1, 0] rfl ?_
      obtain ⟨nn, hw⟩ := hw
      exact l_X5_spread_90 hc hr K75 h75 nn x0 x1 x2 x3 x4 0 x3 S hw
def wb_X5_spread_5 (M : Nat × Nat) (K5 : Nat → Int32 → Int32 → Int32 → Int32 → HS → Prop) (K : Int32 → HS → Prop) (x0 : Nat) (x1 x2 x3 x4 : Int32) (S : HS) : Prop := hT S x0 = 6 ∧ ((hI S x0 2) ≤ x4 → (0 < x3 → ∃ nn : Nat, wl_X5_spread_75 M K nn x0 x1 x2 x3 0 S) ∧ (¬ (0 < x3) → hT S x0 = 6 ∧ ∃ b1 : Nat, hP S x0 1 = some b1 ∧ hT S b1 = 21 ∧ vp_in 0 (hN S b1) ∧ hT S x0 = 6 ∧ wp_X5_fillRow M x0 x1 x2 (hI S b1 (Int32.toNatClampNeg 0)) S (fun r2 S2 => K 0 S2))) ∧ (¬ ((hI S x0 2) ≤ x4) → hT S x0 = 6 ∧ ∃ b3 : Nat, hP S x0 1 = some b3 ∧ hT S x0 = 6 ∧ ∃ b4 : Nat, hP S x0 0 = some b4 ∧ hT S b4 = 21 ∧ vp_in (x1 + (x4 * x2)) (hN S b4) ∧ hT S b3 = 21 ∧ vp_in x4 (hN S b3) ∧ hT (sI S b3 (Int32.toNatClampNeg x4) (hI S b4 (Int32.toNatClampNeg (x1 + (x4 * x2))))) x0 = 6 ∧ ∃ b5 : Nat, hP (sI S b3 (Int32.toNatClampNeg x4) (hI S b4 (Int32.toNatClampNeg (x1 + (x4 * x2))))) x0 1 = some b5 ∧ hT (sI S b3 (Int32.toNatClampNeg x4) (hI S b4 (Int32.toNatClampNeg (x1 + (x4 * x2))))) b5 = 21 ∧ vp_in x4 (hN (sI S b3 (Int32.toNatClampNeg x4) (hI S b4 (Int32.toNatClampNeg (x1 + (x4 * x2))))) b5) ∧ (¬ (hI (sI S b3 (Int32.toNatClampNeg x4) (hI S b4 (Int32.toNatClampNeg (x1 + (x4 * x2))))) b5 (Int32.toNatClampNeg x4)) = 0 → K5 x0 x1 x2 x4 (x4 + 1) (sI S b3 (Int32.toNatClampNeg x4) (hI S b4 (Int32.toNatClampNeg (x1 + (x4 * x2)))))) ∧ ((hI (sI S b3 (Int32.toNatClampNeg x4) (hI S b4 (Int32.toNatClampNeg (x1 + (x4 * x2))))) b5 (Int32.toNatClampNeg x4)) = 0 → K5 x0 x1 x2 x3 (x4 + 1) (sI S b3 (Int32.toNatClampNeg x4) (hI S b4 (Int32.toNatClampNeg (x1 + (x4 * x2)))))))
def wl_X5_spread_5 (M : Nat × Nat) (K : Int32 → HS → Prop) : Nat → Nat → Int32 → Int32 → Int32 → Int32 → HS → Prop
  | 0 => fun _ _ _ _ _ _ => False
  | nn + 1 => wb_X5_spread_5 M (wl_X5_spread_5 M K nn) K
set_option maxHeartbeats 4000000 in
set_option maxRecDepth 100000 in
theorem l_X5_spread_5 {G : CG} {S0 : HS} {X : Fx} {K : Int32 → HS → Prop} (hc : Cx X RX5 cX5_spread 7) (hr : Cc G S0 1 none (kV K) X) : ∀ (nn : Nat) (x0 : Nat) (x1 x2 x3 x4 : Int32) (S : HS), wl_X5_spread_5 (gC G, gS G) K nn x0 x1 x2 x3 x4 S → MC G S0 X 7 S 5 [(0, .ref x0), (1, .int x1), (2, .int x2), (3, .int x3), (4, .int x4)] [] := by
  intro nn
  induction nn with
  | zero => intro x0 x1 x2 x3 x4 S hw; exact False.elim hw
  | succ nn ih =>
    intro x0 x1 x2 x3 x4 S hw
    have hw : wb_X5_spread_5 (gC G, gS G) (wl_X5_spread_5 (gC G, gS G) K nn) K x0 x1 x2 x3 x4 S := hw
    have h5 := ih
    generalize wl_X5_spread_5 (gC G, gS G) K nn = K5 at hw h5
    unfold wb_X5_spread_5 at hw
    refine m_iload hc 4 dX5_spread_5 rfl ?_
    refine m_aload_n hc 0 dX5_spread_7 rfl rfl ?_
    obtain ⟨ht, hw⟩ := hw
    refine c_geti hc hr ciX5 (Nat.le_of_ble_eq_true rfl) 2 (Nat.le_of_ble_eq_true rfl) rfl dX5_spread_8 lf_X5_18 ht ?_
    refine m_icmp_ge hc 55 dX5_spread_11 rfl (fun cq => ?_) (fun cq => ?_)
    · have hw := hw.1 cq
      refine m_iload_n hc 3 dX5_spread_55 rfl rfl ?_
      refine m_if_gt hc 72 dX5_spread_56 rfl (fun cq => ?_) (fun cq => ?_)
      · have hw := hw.1 cq
        refine m_iconst hc 0 dX5_spread_72 (by decide) ?_
        refine m_istore hc [(4, .int 0), (0, .ref x0), (1, .int x1), (2, .int x2), (3, .int x3)] dX5_spread_73 (Nat.le_of_ble_eq_true rfl) rfl ?_
        refine m_sub [1, 2, 3, 4, 0] rfl ?_
        obtain ⟨nn, hw⟩ := hw
        exact l_X5_spread_75 hc hr nn x0 x1 x2 x3 0 S hw
      · have hw := hw.2 cq
        refine m_aload_n hc 0 dX5_spread_59 rfl rfl ?_
        refine m_iload_n hc 1 dX5_spread_60 rfl rfl ?_
        refine m_iload_n hc 2 dX5_spread_61 rfl rfl ?_
        refine m_aload_n hc 0 dX5_spread_62 rfl rfl ?_
        obtain ⟨ht, b1, e_b1, hw⟩ := hw
        refine c_getr hc hr ciX5 (Nat.le_of_ble_eq_true rfl) 1 (Nat.le_of_ble_eq_true rfl) rfl dX5_spread_63 lf_X5_15 ht e_b1 ?_
        refine m_iconst hc 0 dX5_spread_66 (by decide) ?_
        obtain ⟨ht, hi, hw⟩ := hw
        refine c_iald hc hr ht hi dX5_spread_67 ?_
        obtain ⟨ht, hw⟩ := hw
        refine c_callVv hc hr ciX5 (Nat.le_of_ble_eq_true rfl) ht mt_X5_fillRow rfl lm_X5_59 (ok_X5_fillRow hw) (Nat.le_of_ble_eq_true rfl) dX5_spread_68 rfl (rest := []) rfl (Nat.le_of_ble_eq_true rfl) (fun S2 hw => ?_)
        exact c_vret hc hr dX5_spread_71 hw
    · have hw := hw.2 cq
      refine m_aload_n hc 0 dX5_spread_14 rfl rfl ?_
      obtain ⟨ht, b3, e_b3, hw⟩ := hw
      refine c_getr hc hr ciX5 (Nat.le_of_ble_eq_true rfl) 1 (Nat.le_of_ble_eq_true rfl) rfl dX5_spread_15 lf_X5_15 ht e_b3 ?_
      refine m_iload hc 4 dX5_spread_18 rfl ?_
      refine m_aload_n hc 0 dX5_spread_20 rfl rfl ?_
      obtain ⟨ht, b4, e_b4, hw⟩ := hw
      refine c_getr hc hr ciX5 (Nat.le_of_ble_eq_true rfl) 0 (Nat.le_of_ble_eq_true rfl) rfl dX5_spread_21 lf_X5_9 ht e_b4 ?_
      refine m_iload_n hc 1 dX5_spread_24 rfl rfl ?_
      refine m_iload hc 4 dX5_spread_25 rfl ?_
      refine m_iload_n hc 2 dX5_spread_27 rfl rfl ?_
      refine m_imul hc dX5_spread_28 ?_
      refine m_iadd hc dX5_spread_29 ?_
      obtain ⟨ht, hi, hw⟩ := hw
      refine c_iald hc hr ht hi dX5_spread_30 ?_
      obtain ⟨ht, hi, hw⟩ := hw
      refine c_iast hc hr ht hi dX5_spread_31 ?_
      refine m_aload_n hc 0 dX5_spread_32 rfl rfl ?_
      obtain ⟨ht, b5, e_b5, hw⟩ := hw
      refine c_getr hc hr ciX5 (Nat.le_of_ble_eq_true rfl) 1 (Nat.le_of_ble_eq_true rfl) rfl dX5_spread_33 lf_X5_15 ht e_b5 ?_
      refine m_iload hc 4 dX5_spread_36 rfl ?_
      obtain ⟨ht, hi, hw⟩ := hw
      refine c_iald hc hr ht hi dX5_spread_38 ?_
      refine m_if_ne hc 46 dX5_spread_39 rfl (fun cq => ?_) (fun cq => ?_)
      · have hw := hw.1 cq
        refine m_iload hc 4 dX5_spread_46 rfl ?_
        refine m_istore_n hc [(3, .int x4), (0, .ref x0), (1, .int x1), (2, .int x2), (4, .int x4)] dX5_spread_48 rfl (Nat.le_of_ble_eq_true rfl) rfl ?_
        refine m_iinc hc 4 (x4 + 1) [(4, .int (x4 + 1)), (3, .int x4), (0, .ref x0), (1, .int x1), (2, .int x2)] dX5_spread_49 rfl rfl (Nat.le_of_ble_eq_true rfl) rfl ?_
        refine m_goto hc 5 dX5_spread_52 rfl ?_
        refine m_sub [2, 3, 4, 1, 0] rfl ?_
        exact h5 x0 x1 x2 x4 (x4 + 1) (sI S b3 (Int32.toNatClampNeg x4) (hI S b4 (Int32.toNatClampNeg (x1 + (x4 * x2))))) hw
      · have hw := hw.2 cq
        refine m_iload_n hc 3 dX5_spread_42 rfl rfl ?_
        refine m_goto hc 48 dX5_spread_43 rfl ?_
        refine m_istore_n hc [(3, .int x3), (0, .ref x0), (1, .int x1), (2, .int x2), (4, .int x4)] dX5_spread_48 rfl (Nat.le_of_ble_eq_true rfl) rfl ?_
        refine m_iinc hc 4 (x4 + 1) [(4, .int (x4 + 1)), (3, .int x3), (0, .ref x0), (1, .int x1), (2, .int x2)] dX5_spread_49 rfl rfl (Nat.le_of_ble_eq_true rfl) rfl ?_
        refine m_goto hc 5 dX5_spread_52 rfl ?_
        refine m_sub [2, 3, 4, 1, 0] rfl ?_
        exact h5 x0 x1 x2 x3 (x4 + 1) (sI S b3 (Int32.toNatClampNeg x4) (hI S b4 (Int32.toNatClampNeg (x1 + (x4 * x2))))) hw
def wp_X5_spread (M : Nat × Nat) (x0 : Nat) (x1 x2 : Int32) (S : HS) (K : Int32 → HS → Prop) : Prop := ∃ nn : Nat, wl_X5_spread_5 M K nn x0 x1 x2 (-1) 0 S
set_option maxHeartbeats 4000000 in
set_option maxRecDepth 100000 in
theorem ok_X5_spread {G : CG} {x0 : Nat} {x1 : Int32} {x2 : Int32} {S : HS} {K : Int32 → HS → Prop} (hw : wp_X5_spread (gC G, gS G) x0 x1 x2 S K) : CC 1 yX5_spread cX5_spread 7 none [.ref x0, .int x1, .int x2] G S (kV K) := by
  refine CC.of (by decide +kernel) (Nat.le_of_ble_eq_true rfl) (fun X hc hr hname => ?_)
  show MC G S X 7 S 0 [(0, .ref x0), (1, .int x1), (2, .int x2)] []
  unfold wp_X5_spread at hw
  refine m_iconst hc (-1) dX5_spread_0 (by decide) ?_
  refine m_istore_n hc [(3, .int (-1)), (0, .ref x0), (1, .int x1), (2, .int x2)] dX5_spread_1 rfl (Nat.le_of_ble_eq_true rfl) rfl ?_
  refine m_iconst hc 0 dX5_spread_2 (by decide) ?_
  refine m_istore hc [(4, .int 0), (3, .int (-1)), (0, .ref x0), (1, .int x1), (2, .int x2)] dX5_spread_3 (Nat.le_of_ble_eq_true rfl) rfl ?_
  refine m_sub [2, 3, 4, 1, 0] rfl ?_
  obtain ⟨nn, hw⟩ := hw
  exact l_X5_spread_5 hc hr nn x0 x1 x2 (-1) 0 S hw
