def wp_X11_often (M : Nat × Nat) (x0 : Nat) (x1 x2 x3 x4 x5 : Int32) (S : HS) (KX : String → HS → Prop) (K : Int32 → HS → Prop) : Prop := hT S x0 = 12 ∧ wp_X11_polyAt M x0 x1 S KX (fun r1 S1 => hT S1 x0 = 12 ∧ ∃ b2 : Nat, hP S1 x0 2 = some b2 ∧ hT S1 b2 = 10 ∧ wp_X9_isLine M b2 x2 x3 x4 x5 S1 (fun r3 S3 => (¬ r3 = 0 → ∃ b4 : Nat, r1 = some b4 ∧ hT S3 b4 = 7 ∧ (¬ (hI S3 b4 2) = 0 → hT S3 x0 = 12 ∧ ∃ b5 : Nat, hP S3 x0 4 = some b5 ∧ ∃ b6 : Nat, r1 = some b6 ∧ hT S3 x0 = 12 ∧ ∃ b7 : Nat, hP S3 x0 2 = some b7 ∧ hT S3 b7 = 10 ∧ hX S3 + 1 ≤ M.1 ∧ hS S3 + 6 ≤ M.2 ∧ ∀ (b8 : Nat) (S8 : HS), b8 = hX S3 → S8 = nO S3 4 6 → wp_X3_init M b8 x2 x3 x4 x5 S8 (fun r9 S9 => hT S9 b5 = 3 ∧ wp_X2_timesOf M b5 b6 (hI S3 b7 0) b8 S9 (fun r10 S10 => K r10 S10))) ∧ ((hI S3 b4 2) = 0 → K (-1) S3)) ∧ (r3 = 0 → KX xIAE S3 ∧ hX S3 + 1 ≤ M.1 ∧ hS S3 + 6 ≤ M.2)))
set_option maxHeartbeats 4000000 in
set_option maxRecDepth 100000 in
theorem ok_X11_often {G : CG} {x0 : Nat} {x1 : Int32} {x2 : Int32} {x3 : Int32} {x4 : Int32} {x5 : Int32} {S : HS} {KX : String → HS → Prop} {K : Int32 → HS → Prop} (hw : wp_X11_often (gC G, gS G) x0 x1 x2 x3 x4 x5 S KX K) : CX 7 yX11_often cX11_often 7 (some .int) [.ref x0, .int x1, .int x2, .int x3, .int x4, .int x5] G S KX (kI K) := by
  refine CX.of (by decide +kernel) (Nat.le_of_ble_eq_true rfl) (fun X hc hr hxx => ?_)
  show MC G S X 7 S 0 [(0, .ref x0), (1, .int x1), (2, .int x2), (3, .int x3), (4, .int x4), (5, .int x5)] []
  unfold wp_X11_often at hw
  refine m_aload_n hc 0 dX11_often_0 rfl rfl ?_
  refine m_iload_n hc 1 dX11_often_1 rfl rfl ?_
  obtain ⟨ht, hw⟩ := hw
  refine x_callVq hc hr hxx ciX11 (Nat.le_of_ble_eq_true rfl) ht mt_X11_polyAt rfl lm_X11_200 (ok_X11_polyAt hw) (Nat.le_of_ble_eq_true rfl) dX11_often_2 rfl (rest := []) rfl (Nat.le_of_ble_eq_true rfl) (fun r1 S1 hw => ?_)
  skip
  refine q_astore hc [(6, va_rf r1), (0, .ref x0), (1, .int x1), (2, .int x2), (3, .int x3), (4, .int x4), (5, .int x5)] dX11_often_5 (Nat.le_of_ble_eq_true rfl) rfl ?_
  refine m_aload_n hc 1 dX11_often_7 rfl rfl ?_
  obtain ⟨ht, b2, e_b2, hw⟩ := hw
  refine c_getr hc hr ciX11 (Nat.le_of_ble_eq_true rfl) 2 (Nat.le_of_ble_eq_true rfl) rfl dX11_often_8 lf_X11_25 ht e_b2 ?_
  refine m_iload_n hc 3 dX11_often_11 rfl rfl ?_
  refine m_iload_n hc 4 dX11_often_12 rfl rfl ?_
  refine m_iload hc 5 dX11_often_13 rfl ?_
  refine m_iload hc 6 dX11_often_15 rfl ?_
  obtain ⟨ht, hw⟩ := hw
  refine c_callVi hc hr ciX9 (Nat.le_of_ble_eq_true rfl) ht mt_X9_isLine rfl lm_X11_273 (ok_X9_isLine hw) (Nat.le_of_ble_eq_true rfl) dX11_often_17 rfl (rest := []) rfl (Nat.le_of_ble_eq_true rfl) (fun r3 S3 hw => ?_)
  refine m_if_ne hc 34 dX11_often_20 rfl (fun cq => ?_) (fun cq => ?_)
  · have hw := hw.1 cq
    refine q_aload hc 0 dX11_often_34 rfl ?_
    obtain ⟨b4, e_b4, hw⟩ := hw
    refine q_some e_b4 ?_
    obtain ⟨ht, hw⟩ := hw
    refine c_geti hc hr ciX6 (Nat.le_of_ble_eq_true rfl) 2 (Nat.le_of_ble_eq_true rfl) rfl dX11_often_36 lf_X11_146 ht ?_
    refine m_if_ne hc 44 dX11_often_39 rfl (fun cq => ?_) (fun cq => ?_)
    · have hw := hw.1 cq
      refine m_aload_n hc 1 dX11_often_44 rfl rfl ?_
      obtain ⟨ht, b5, e_b5, hw⟩ := hw
      refine c_getr hc hr ciX11 (Nat.le_of_ble_eq_true rfl) 4 (Nat.le_of_ble_eq_true rfl) rfl dX11_often_45 lf_X11_39 ht e_b5 ?_
      refine q_aload hc 0 dX11_often_48 rfl ?_
      obtain ⟨b6, e_b6, hw⟩ := hw
      refine q_some e_b6 ?_
      refine m_aload_n hc 1 dX11_often_50 rfl rfl ?_
      obtain ⟨ht, b7, e_b7, hw⟩ := hw
      refine c_getr hc hr ciX11 (Nat.le_of_ble_eq_true rfl) 2 (Nat.le_of_ble_eq_true rfl) rfl dX11_often_51 lf_X11_25 ht e_b7 ?_
      obtain ⟨ht, hw⟩ := hw
      refine c_geti hc hr ciX9 (Nat.le_of_ble_eq_true rfl) 0 (Nat.le_of_ble_eq_true rfl) rfl dX11_often_54 lf_X11_83 ht ?_
      obtain ⟨hm, hm2, hw⟩ := hw
      refine n_new hc hr ciX3 (Nat.le_of_ble_eq_true rfl) dfX3 dX11_often_57 lcl_X11_279 lni_X3 hm hm2 (fun b8 S8 e_b8 e_S8 => ?_)
      have hw := hw b8 S8 e_b8 e_S8
      refine m_dup hc dX11_often_60 rfl ?_
      refine m_iload_n hc 3 dX11_often_61 rfl rfl ?_
      refine m_iload_n hc 4 dX11_often_62 rfl rfl ?_
      refine m_iload hc 5 dX11_often_63 rfl ?_
      refine m_iload hc 6 dX11_often_65 rfl ?_
      refine c_callIv hc hr mt_X3_init lm_X11_281 (ok_X3_init hw) (Nat.le_of_ble_eq_true rfl) dX11_often_67 rfl (rest := [.ref b8, .int (hI S3 b7 0), .ref b6, .ref b5]) rfl (Nat.le_of_ble_eq_true rfl) (fun S9 hw => ?_)
      obtain ⟨ht, hw⟩ := hw
      refine c_callVi hc hr ciX2 (Nat.le_of_ble_eq_true rfl) ht mt_X2_timesOf rfl lm_X11_283 (ok_X2_timesOf hw) (Nat.le_of_ble_eq_true rfl) dX11_often_70 rfl (rest := []) rfl (Nat.le_of_ble_eq_true rfl) (fun r10 S10 hw => ?_)
      exact c_iret hc hr dX11_often_73 hw
    · have hw := hw.2 cq
      refine m_iconst hc (-1) dX11_often_42 (by decide) ?_
      exact c_iret hc hr dX11_often_43 hw
  · have hw := hw.2 cq
    exact x_throwW hc hr hxx (E := xIAE) mx_96_100 (List.mem_of_getElem? (i := 12) rfl) dX11_often_23 dX11_often_26 dX11_often_27 dX11_often_30 dX11_often_33 (Nat.le_of_ble_eq_true rfl) hw.1 hw.2.1 hw.2.2
def wp_X11_say (M : Nat × Nat) (x0 : Nat) (x1 : Int32) (S : HS) (KX : String → HS → Prop) (K : Int32 → HS → Prop) : Prop := hT S x0 = 12 ∧ wp_X11_polyAt M x0 x1 S KX (fun r1 S1 => hT S1 x0 = 12 ∧ ∃ b2 : Nat, hP S1 x0 5 = some b2 ∧ ∃ b3 : Nat, r1 = some b3 ∧ hT S1 b2 = 5 ∧ wp_X4_sort M b2 b3 0 S1 (fun r4 S4 => hT S4 x0 = 12 ∧ ∃ b5 : Nat, hP S4 x0 6 = some b5 ∧ ∃ b6 : Nat, r1 = some b6 ∧ hT S4 x0 = 12 ∧ ∃ b7 : Nat, hP S4 x0 5 = some b7 ∧ hT S4 b5 = 11 ∧ wp_X10_write M b5 b6 b7 S4 (fun r8 S8 => hT S8 x0 = 12 ∧ ∃ b9 : Nat, hP S8 x0 6 = some b9 ∧ hT S8 b9 = 11 ∧ K (hI S8 b9 0) S8)))
set_option maxHeartbeats 4000000 in
set_option maxRecDepth 100000 in
theorem ok_X11_say {G : CG} {x0 : Nat} {x1 : Int32} {S : HS} {KX : String → HS → Prop} {K : Int32 → HS → Prop} (hw : wp_X11_say (gC G, gS G) x0 x1 S KX K) : CX 7 yX11_say cX11_say 3 (some .int) [.ref x0, .int x1] G S KX (kI K) := by
  refine CX.of (by decide +kernel) (Nat.le_of_ble_eq_true rfl) (fun X hc hr hxx => ?_)
  show MC G S X 3 S 0 [(0, .ref x0), (1, .int x1)] []
  unfold wp_X11_say at hw
  refine m_aload_n hc 0 dX11_say_0 rfl rfl ?_
  refine m_iload_n hc 1 dX11_say_1 rfl rfl ?_
  obtain ⟨ht, hw⟩ := hw
  refine x_callVq hc hr hxx ciX11 (Nat.le_of_ble_eq_true rfl) ht mt_X11_polyAt rfl lm_X11_200 (ok_X11_polyAt hw) (Nat.le_of_ble_eq_true rfl) dX11_say_2 rfl (rest := []) rfl (Nat.le_of_ble_eq_true rfl) (fun r1 S1 hw => ?_)
  skip
  refine q_astore_n hc [(2, va_rf r1), (0, .ref x0), (1, .int x1)] dX11_say_5 rfl (Nat.le_of_ble_eq_true rfl) rfl ?_
  refine m_aload_n hc 1 dX11_say_6 rfl rfl ?_
  obtain ⟨ht, b2, e_b2, hw⟩ := hw
  refine c_getr hc hr ciX11 (Nat.le_of_ble_eq_true rfl) 5 (Nat.le_of_ble_eq_true rfl) rfl dX11_say_7 lf_X11_46 ht e_b2 ?_
  refine q_aload_n hc 0 dX11_say_10 rfl rfl ?_
  obtain ⟨b3, e_b3, hw⟩ := hw
  refine q_some e_b3 ?_
  refine m_iconst hc 0 dX11_say_11 (by decide) ?_
  obtain ⟨ht, hw⟩ := hw
  refine c_callVv hc hr ciX4 (Nat.le_of_ble_eq_true rfl) ht mt_X4_sort rfl lm_X11_230 (ok_X4_sort hw) (Nat.le_of_ble_eq_true rfl) dX11_say_12 rfl (rest := []) rfl (Nat.le_of_ble_eq_true rfl) (fun S4 hw => ?_)
  refine m_aload_n hc 1 dX11_say_15 rfl rfl ?_
  obtain ⟨ht, b5, e_b5, hw⟩ := hw
  refine c_getr hc hr ciX11 (Nat.le_of_ble_eq_true rfl) 6 (Nat.le_of_ble_eq_true rfl) rfl dX11_say_16 lf_X11_53 ht e_b5 ?_
  refine q_aload_n hc 0 dX11_say_19 rfl rfl ?_
  obtain ⟨b6, e_b6, hw⟩ := hw
  refine q_some e_b6 ?_
  refine m_aload_n hc 1 dX11_say_20 rfl rfl ?_
  obtain ⟨ht, b7, e_b7, hw⟩ := hw
  refine c_getr hc hr ciX11 (Nat.le_of_ble_eq_true rfl) 5 (Nat.le_of_ble_eq_true rfl) rfl dX11_say_21 lf_X11_46 ht e_b7 ?_
  obtain ⟨ht, hw⟩ := hw
  refine c_callVv hc hr ciX10 (Nat.le_of_ble_eq_true rfl) ht mt_X10_write rfl lm_X11_287 (ok_X10_write hw) (Nat.le_of_ble_eq_true rfl) dX11_say_24 rfl (rest := []) rfl (Nat.le_of_ble_eq_true rfl) (fun S8 hw => ?_)
  refine m_aload_n hc 1 dX11_say_27 rfl rfl ?_
  obtain ⟨ht, b9, e_b9, hw⟩ := hw
  refine c_getr hc hr ciX11 (Nat.le_of_ble_eq_true rfl) 6 (Nat.le_of_ble_eq_true rfl) rfl dX11_say_28 lf_X11_53 ht e_b9 ?_
  obtain ⟨ht, hw⟩ := hw
  refine c_geti hc hr ciX10 (Nat.le_of_ble_eq_true rfl) 0 (Nat.le_of_ble_eq_true rfl) rfl dX11_say_31 lf_X11_291 ht ?_
  exact c_iret hc hr dX11_say_34 hw
def wp_X11_said (M : Nat × Nat) (x0 : Nat) (x1 : Int32) (S : HS) (K : Int32 → HS → Prop) : Prop := (x1 < 0 → K (-1) S) ∧ (¬ (x1 < 0) → hT S x0 = 12 ∧ ∃ b1 : Nat, hP S x0 6 = some b1 ∧ hT S b1 = 11 ∧ (x1 < (hI S b1 0) → hT S x0 = 12 ∧ ∃ b2 : Nat, hP S x0 6 = some b2 ∧ hT S b2 = 11 ∧ ∃ b3 : Nat, hP S b2 1 = some b3 ∧ hT S b3 = 22 ∧ vp_in x1 (hN S b3) ∧ K (hI S b3 (Int32.toNatClampNeg x1)) S) ∧ (¬ (x1 < (hI S b1 0)) → K (-1) S))
set_option maxHeartbeats 4000000 in
set_option maxRecDepth 100000 in
theorem ok_X11_said {G : CG} {x0 : Nat} {x1 : Int32} {S : HS} {K : Int32 → HS → Prop} (hw : wp_X11_said (gC G, gS G) x0 x1 S K) : CC 0 yX11_said cX11_said 2 (some .int) [.ref x0, .int x1] G S (kI K) := by
  refine CC.of (by decide +kernel) (Nat.le_of_ble_eq_true rfl) (fun X hc hr hname => ?_)
  show MC G S X 2 S 0 [(0, .ref x0), (1, .int x1)] []
  unfold wp_X11_said at hw
  refine m_iload_n hc 1 dX11_said_0 rfl rfl ?_
  refine m_if_lt hc 15 dX11_said_1 rfl (fun cq => ?_) (fun cq => ?_)
  · have hw := hw.1 cq
    refine m_iconst hc (-1) dX11_said_15 (by decide) ?_
    refine m_goto hc 28 dX11_said_16 rfl ?_
    exact c_iret hc hr dX11_said_28 hw
  · have hw := hw.2 cq
    refine m_iload_n hc 1 dX11_said_4 rfl rfl ?_
    refine m_aload_n hc 0 dX11_said_5 rfl rfl ?_
    obtain ⟨ht, b1, e_b1, hw⟩ := hw
    refine c_getr hc hr ciX11 (Nat.le_of_ble_eq_true rfl) 6 (Nat.le_of_ble_eq_true rfl) rfl dX11_said_6 lf_X11_53 ht e_b1 ?_
    obtain ⟨ht, hw⟩ := hw
    refine c_geti hc hr ciX10 (Nat.le_of_ble_eq_true rfl) 0 (Nat.le_of_ble_eq_true rfl) rfl dX11_said_9 lf_X11_291 ht ?_
    refine m_icmp_lt hc 19 dX11_said_12 rfl (fun cq => ?_) (fun cq => ?_)
    · have hw := hw.1 cq
      refine m_aload_n hc 0 dX11_said_19 rfl rfl ?_
      obtain ⟨ht, b2, e_b2, hw⟩ := hw
      refine c_getr hc hr ciX11 (Nat.le_of_ble_eq_true rfl) 6 (Nat.le_of_ble_eq_true rfl) rfl dX11_said_20 lf_X11_53 ht e_b2 ?_
      obtain ⟨ht, b3, e_b3, hw⟩ := hw
      refine c_getr hc hr ciX10 (Nat.le_of_ble_eq_true rfl) 1 (Nat.le_of_ble_eq_true rfl) rfl dX11_said_23 lf_X11_294 ht e_b3 ?_
      refine m_iload_n hc 1 dX11_said_26 rfl rfl ?_
      obtain ⟨ht, hi, hw⟩ := hw
      refine c_bald hc hr ht hi dX11_said_27 ?_
      exact c_iret hc hr dX11_said_28 hw
    · have hw := hw.2 cq
      refine m_iconst hc (-1) dX11_said_15 (by decide) ?_
      refine m_goto hc 28 dX11_said_16 rfl ?_
      exact c_iret hc hr dX11_said_28 hw
