def wb_X11_init_117 (M : Nat × Nat) (K117 : Nat → Int32 → HS → Prop) (K : Int32 → HS → Prop) (x0 : Nat) (x1 : Int32) (S : HS) : Prop := (6 ≤ x1 → K 0 S) ∧ (¬ (6 ≤ x1) → hT S x0 = 12 ∧ ∃ b1 : Nat, hP S x0 1 = some b1 ∧ hT S x0 = 12 ∧ ∃ b2 : Nat, hP S x0 0 = some b2 ∧ hT S b1 = 23 ∧ vp_in x1 (hN S b1) ∧ hT S b2 = 7 ∧ K117 x0 (x1 + 1) (sP S b1 (Int32.toNatClampNeg x1) (some b2)))
def wl_X11_init_117 (M : Nat × Nat) (K : Int32 → HS → Prop) : Nat → Nat → Int32 → HS → Prop
  | 0 => fun _ _ _ => False
  | nn + 1 => wb_X11_init_117 M (wl_X11_init_117 M K nn) K
set_option maxHeartbeats 4000000 in
set_option maxRecDepth 100000 in
theorem l_X11_init_117 {G : CG} {S0 : HS} {X : Fx} {K : Int32 → HS → Prop} (hc : Cx X RX11 cX11_init 2) (hr : Cc G S0 3 none (kV K) X) (hnm : Ci X) : ∀ (nn : Nat) (x0 : Nat) (x1 : Int32) (S : HS), wl_X11_init_117 (gC G, gS G) K nn x0 x1 S → MC G S0 X 2 S 117 [(0, .ref x0), (1, .int x1)] [] := by
  intro nn
  induction nn with
  | zero => intro x0 x1 S hw; exact False.elim hw
  | succ nn ih =>
    intro x0 x1 S hw
    have hw : wb_X11_init_117 (gC G, gS G) (wl_X11_init_117 (gC G, gS G) K nn) K x0 x1 S := hw
    have h117 := ih
    generalize wl_X11_init_117 (gC G, gS G) K nn = K117 at hw h117
    unfold wb_X11_init_117 at hw
    refine m_iload_n hc 1 dX11_init_117 rfl rfl ?_
    refine m_bipush hc 6 dX11_init_118 (by decide) ?_
    refine m_icmp_ge hc 139 dX11_init_120 rfl (fun cq => ?_) (fun cq => ?_)
    · have hw := hw.1 cq
      exact c_vret hc hr dX11_init_139 hw
    · have hw := hw.2 cq
      refine m_aload_n hc 0 dX11_init_123 rfl rfl ?_
      obtain ⟨ht, b1, e_b1, hw⟩ := hw
      refine c_getr hc hr ciX11 (Nat.le_of_ble_eq_true rfl) 1 (Nat.le_of_ble_eq_true rfl) rfl dX11_init_124 lf_X11_18 ht e_b1 ?_
      refine m_iload_n hc 1 dX11_init_127 rfl rfl ?_
      refine m_aload_n hc 0 dX11_init_128 rfl rfl ?_
      obtain ⟨ht, b2, e_b2, hw⟩ := hw
      refine c_getr hc hr ciX11 (Nat.le_of_ble_eq_true rfl) 0 (Nat.le_of_ble_eq_true rfl) rfl dX11_init_129 lf_X11_14 ht e_b2 ?_
      obtain ⟨ht, hi, hv, hw⟩ := hw
      refine c_aast hc hr ht hi hv dX11_init_132 ?_
      refine m_iinc hc 1 (x1 + 1) [(1, .int (x1 + 1)), (0, .ref x0)] dX11_init_133 rfl rfl (Nat.le_of_ble_eq_true rfl) rfl ?_
      refine m_goto hc 117 dX11_init_136 rfl ?_
      refine m_sub [1, 0] rfl ?_
      exact h117 x0 (x1 + 1) (sP S b1 (Int32.toNatClampNeg x1) (some b2)) hw
def wp_X11_init (M : Nat × Nat) (x0 : Nat) (S : HS) (K : Int32 → HS → Prop) : Prop := hX S + 1 ≤ M.1 ∧ hS S + 4 ≤ M.2 ∧ ∀ (b1 : Nat) (S1 : HS), b1 = hX S → S1 = nO S 7 4 → wp_X6_init M b1 0 S1 (fun r2 S2 => hT S2 x0 = 12 ∧ ¬ (6 : Int32) < 0 ∧ (Int32.toNatClampNeg 6) ≤ 100000000 ∧ hX (sP S2 x0 0 (some b1)) + 1 ≤ M.1 ∧ hS (sP S2 x0 0 (some b1)) + (Int32.toNatClampNeg 6) ≤ M.2 ∧ ∀ (b3 : Nat) (S3 : HS), b3 = hX (sP S2 x0 0 (some b1)) → S3 = nO (sP S2 x0 0 (some b1)) 23 (Int32.toNatClampNeg 6) → hT S3 x0 = 12 ∧ hX (sP S3 x0 1 (some b3)) + 1 ≤ M.1 ∧ hS (sP S3 x0 1 (some b3)) + 9 ≤ M.2 ∧ ∀ (b4 : Nat) (S4 : HS), b4 = hX (sP S3 x0 1 (some b3)) → S4 = nO (sP S3 x0 1 (some b3)) 10 9 → wp_X9_init M b4 S4 (fun r5 S5 => hT S5 x0 = 12 ∧ hX (sP S5 x0 2 (some b4)) + 1 ≤ M.1 ∧ hS (sP S5 x0 2 (some b4)) + 4 ≤ M.2 ∧ ∀ (b6 : Nat) (S6 : HS), b6 = hX (sP S5 x0 2 (some b4)) → S6 = nO (sP S5 x0 2 (some b4)) 6 4 → wp_X5_init M b6 S6 (fun r7 S7 => hT S7 x0 = 12 ∧ hX (sP S7 x0 3 (some b6)) + 1 ≤ M.1 ∧ hS (sP S7 x0 3 (some b6)) + 14 ≤ M.2 ∧ ∀ (b8 : Nat) (S8 : HS), b8 = hX (sP S7 x0 3 (some b6)) → S8 = nO (sP S7 x0 3 (some b6)) 3 14 → wp_X2_init M b8 S8 (fun r9 S9 => hT S9 x0 = 12 ∧ hX (sP S9 x0 4 (some b8)) + 1 ≤ M.1 ∧ hS (sP S9 x0 4 (some b8)) + 1 ≤ M.2 ∧ ∀ (b10 : Nat) (S10 : HS), b10 = hX (sP S9 x0 4 (some b8)) → S10 = nO (sP S9 x0 4 (some b8)) 5 1 → wp_X4_init M b10 S10 (fun r11 S11 => hT S11 x0 = 12 ∧ hX (sP S11 x0 5 (some b10)) + 1 ≤ M.1 ∧ hS (sP S11 x0 5 (some b10)) + 2 ≤ M.2 ∧ ∀ (b12 : Nat) (S12 : HS), b12 = hX (sP S11 x0 5 (some b10)) → S12 = nO (sP S11 x0 5 (some b10)) 11 2 → wp_X10_init M b12 S12 (fun r13 S13 => hT S13 x0 = 12 ∧ hX (sP S13 x0 6 (some b12)) + 1 ≤ M.1 ∧ hS (sP S13 x0 6 (some b12)) + 4 ≤ M.2 ∧ ∀ (b14 : Nat) (S14 : HS), b14 = hX (sP S13 x0 6 (some b12)) → S14 = nO (sP S13 x0 6 (some b12)) 1 4 → wp_X0_init M b14 S14 (fun r15 S15 => hT S15 x0 = 12 ∧ ¬ (200 : Int32) < 0 ∧ (Int32.toNatClampNeg 200) ≤ 100000000 ∧ hX (sP S15 x0 7 (some b14)) + 1 ≤ M.1 ∧ hS (sP S15 x0 7 (some b14)) + (Int32.toNatClampNeg 200) ≤ M.2 ∧ ∀ (b16 : Nat) (S16 : HS), b16 = hX (sP S15 x0 7 (some b14)) → S16 = nO (sP S15 x0 7 (some b14)) 21 (Int32.toNatClampNeg 200) → hT S16 x0 = 12 ∧ hT (sP S16 x0 8 (some b16)) x0 = 12 ∧ hT (sI (sP S16 x0 8 (some b16)) x0 9 0) x0 = 12 ∧ hT (sI (sI (sP S16 x0 8 (some b16)) x0 9 0) x0 10 (-1)) x0 = 12 ∧ ∃ nn : Nat, wl_X11_init_117 M K nn x0 0 (sP (sI (sI (sP S16 x0 8 (some b16)) x0 9 0) x0 10 (-1)) x0 11 none))))))))
set_option maxHeartbeats 4000000 in
set_option maxRecDepth 100000 in
theorem ok_X11_init {G : CG} {x0 : Nat} {S : HS} {K : Int32 → HS → Prop} (hw : wp_X11_init (gC G, gS G) x0 S K) : CC 3 yX11_init cX11_init 2 none [.ref x0] G S (kV K) := by
  refine CC.of (by decide +kernel) (Nat.le_of_ble_eq_true rfl) (fun X hc hr hname => ?_)
  have hnm : Ci X := hname
  show MC G S X 2 S 0 [(0, .ref x0)] []
  unfold wp_X11_init at hw
  refine m_aload_n hc 0 dX11_init_0 rfl rfl ?_
  refine c_bnd (fun g1 g2 => ?_)
  refine q_objinit hc dX11_init_1 lm_X11_3 lObj (c_room hr g1 g2) (Nat.le_of_ble_eq_true rfl) ?_
  refine m_aload_n hc 0 dX11_init_4 rfl rfl ?_
  obtain ⟨hm, hm2, hw⟩ := hw
  refine n_new hc hr ciX6 (Nat.le_of_ble_eq_true rfl) dfX6 dX11_init_5 lcl_X11_9 lni_X6 hm hm2 (fun b1 S1 e_b1 e_S1 => ?_)
  have hw := hw b1 S1 e_b1 e_S1
  refine m_dup hc dX11_init_8 rfl ?_
  refine m_iconst hc 0 dX11_init_9 (by decide) ?_
  refine c_callIv hc hr mt_X6_init lm_X11_11 (ok_X6_init hw) (Nat.le_of_ble_eq_true rfl) dX11_init_10 rfl (rest := [.ref b1, .ref x0]) rfl (Nat.le_of_ble_eq_true rfl) (fun S2 hw => ?_)
  obtain ⟨ht, hw⟩ := hw
  refine c_putr hc hr ciX11 (Nat.le_of_ble_eq_true rfl) 0 (Nat.le_of_ble_eq_true rfl) rfl dX11_init_13 lf_X11_14 ht (Or.inr ⟨rfl, hnm, rfl⟩) (Or.inl ⟨_, rfl⟩) ?_
  refine m_aload_n hc 0 dX11_init_16 rfl rfl ?_
  refine m_bipush hc 6 dX11_init_17 (by decide) ?_
  obtain ⟨hn0, hn1, hm, hm2, hw⟩ := hw
  refine n_newp hc hr dX11_init_19 lcl_X11_9 hn0 hn1 hm hm2 (fun b3 S3 e_b3 e_S3 => ?_)
  have hw := hw b3 S3 e_b3 e_S3
  obtain ⟨ht, hw⟩ := hw
  refine c_putr hc hr ciX11 (Nat.le_of_ble_eq_true rfl) 1 (Nat.le_of_ble_eq_true rfl) rfl dX11_init_22 lf_X11_18 ht (Or.inr ⟨rfl, hnm, rfl⟩) (Or.inr ⟨_, rfl⟩) ?_
  refine m_aload_n hc 0 dX11_init_25 rfl rfl ?_
  obtain ⟨hm, hm2, hw⟩ := hw
  refine n_new hc hr ciX9 (Nat.le_of_ble_eq_true rfl) dfX9 dX11_init_26 lcl_X11_22 lni_X9 hm hm2 (fun b4 S4 e_b4 e_S4 => ?_)
  have hw := hw b4 S4 e_b4 e_S4
  refine m_dup hc dX11_init_29 rfl ?_
  refine c_callNv hc hr mt_X9_init ln_X11_24 (ok_X9_init hw) (Nat.le_of_ble_eq_true rfl) dX11_init_30 rfl (rest := [.ref b4, .ref x0]) rfl (Nat.le_of_ble_eq_true rfl) (fun S5 hw => ?_)
  obtain ⟨ht, hw⟩ := hw
  refine c_putr hc hr ciX11 (Nat.le_of_ble_eq_true rfl) 2 (Nat.le_of_ble_eq_true rfl) rfl dX11_init_33 lf_X11_25 ht (Or.inr ⟨rfl, hnm, rfl⟩) (Or.inl ⟨_, rfl⟩) ?_
  refine m_aload_n hc 0 dX11_init_36 rfl rfl ?_
  obtain ⟨hm, hm2, hw⟩ := hw
  refine n_new hc hr ciX5 (Nat.le_of_ble_eq_true rfl) dfX5 dX11_init_37 lcl_X11_29 lni_X5 hm hm2 (fun b6 S6 e_b6 e_S6 => ?_)
  have hw := hw b6 S6 e_b6 e_S6
  refine m_dup hc dX11_init_40 rfl ?_
  refine c_callNv hc hr mt_X5_init ln_X11_31 (ok_X5_init hw) (Nat.le_of_ble_eq_true rfl) dX11_init_41 rfl (rest := [.ref b6, .ref x0]) rfl (Nat.le_of_ble_eq_true rfl) (fun S7 hw => ?_)
  obtain ⟨ht, hw⟩ := hw
  refine c_putr hc hr ciX11 (Nat.le_of_ble_eq_true rfl) 3 (Nat.le_of_ble_eq_true rfl) rfl dX11_init_44 lf_X11_32 ht (Or.inr ⟨rfl, hnm, rfl⟩) (Or.inl ⟨_, rfl⟩) ?_
  refine m_aload_n hc 0 dX11_init_47 rfl rfl ?_
  obtain ⟨hm, hm2, hw⟩ := hw
  refine n_new hc hr ciX2 (Nat.le_of_ble_eq_true rfl) dfX2 dX11_init_48 lcl_X11_36 lni_X2 hm hm2 (fun b8 S8 e_b8 e_S8 => ?_)
  have hw := hw b8 S8 e_b8 e_S8
  refine m_dup hc dX11_init_51 rfl ?_
  refine c_callNv hc hr mt_X2_init ln_X11_38 (ok_X2_init hw) (Nat.le_of_ble_eq_true rfl) dX11_init_52 rfl (rest := [.ref b8, .ref x0]) rfl (Nat.le_of_ble_eq_true rfl) (fun S9 hw => ?_)
  obtain ⟨ht, hw⟩ := hw
  refine c_putr hc hr ciX11 (Nat.le_of_ble_eq_true rfl) 4 (Nat.le_of_ble_eq_true rfl) rfl dX11_init_55 lf_X11_39 ht (Or.inr ⟨rfl, hnm, rfl⟩) (Or.inl ⟨_, rfl⟩) ?_
  refine m_aload_n hc 0 dX11_init_58 rfl rfl ?_
  obtain ⟨hm, hm2, hw⟩ := hw
  refine n_new hc hr ciX4 (Nat.le_of_ble_eq_true rfl) dfX4 dX11_init_59 lcl_X11_43 lni_X4 hm hm2 (fun b10 S10 e_b10 e_S10 => ?_)
  have hw := hw b10 S10 e_b10 e_S10
  refine m_dup hc dX11_init_62 rfl ?_
  refine c_callNv hc hr mt_X4_init ln_X11_45 (ok_X4_init hw) (Nat.le_of_ble_eq_true rfl) dX11_init_63 rfl (rest := [.ref b10, .ref x0]) rfl (Nat.le_of_ble_eq_true rfl) (fun S11 hw => ?_)
  obtain ⟨ht, hw⟩ := hw
  refine c_putr hc hr ciX11 (Nat.le_of_ble_eq_true rfl) 5 (Nat.le_of_ble_eq_true rfl) rfl dX11_init_66 lf_X11_46 ht (Or.inr ⟨rfl, hnm, rfl⟩) (Or.inl ⟨_, rfl⟩) ?_
  refine m_aload_n hc 0 dX11_init_69 rfl rfl ?_
  obtain ⟨hm, hm2, hw⟩ := hw
  refine n_new hc hr ciX10 (Nat.le_of_ble_eq_true rfl) dfX10 dX11_init_70 lcl_X11_50 lni_X10 hm hm2 (fun b12 S12 e_b12 e_S12 => ?_)
  have hw := hw b12 S12 e_b12 e_S12
  refine m_dup hc dX11_init_73 rfl ?_
  refine c_callNv hc hr mt_X10_init ln_X11_52 (ok_X10_init hw) (Nat.le_of_ble_eq_true rfl) dX11_init_74 rfl (rest := [.ref b12, .ref x0]) rfl (Nat.le_of_ble_eq_true rfl) (fun S13 hw => ?_)
  obtain ⟨ht, hw⟩ := hw
  refine c_putr hc hr ciX11 (Nat.le_of_ble_eq_true rfl) 6 (Nat.le_of_ble_eq_true rfl) rfl dX11_init_77 lf_X11_53 ht (Or.inr ⟨rfl, hnm, rfl⟩) (Or.inl ⟨_, rfl⟩) ?_
  refine m_aload_n hc 0 dX11_init_80 rfl rfl ?_
  obtain ⟨hm, hm2, hw⟩ := hw
  refine n_new hc hr ciX0 (Nat.le_of_ble_eq_true rfl) dfX0 dX11_init_81 lcl_X11_57 lni_X0 hm hm2 (fun b14 S14 e_b14 e_S14 => ?_)
  have hw := hw b14 S14 e_b14 e_S14
  refine m_dup hc dX11_init_84 rfl ?_
  refine c_callNv hc hr mt_X0_init ln_X11_59 (ok_X0_init hw) (Nat.le_of_ble_eq_true rfl) dX11_init_85 rfl (rest := [.ref b14, .ref x0]) rfl (Nat.le_of_ble_eq_true rfl) (fun S15 hw => ?_)
  obtain ⟨ht, hw⟩ := hw
  refine c_putr hc hr ciX11 (Nat.le_of_ble_eq_true rfl) 7 (Nat.le_of_ble_eq_true rfl) rfl dX11_init_88 lf_X11_60 ht (Or.inr ⟨rfl, hnm, rfl⟩) (Or.inl ⟨_, rfl⟩) ?_
  refine m_aload_n hc 0 dX11_init_91 rfl rfl ?_
  refine m_sipush hc 200 dX11_init_92 (by decide) ?_
  obtain ⟨hn0, hn1, hm, hm2, hw⟩ := hw
  refine n_newi hc hr dX11_init_95 laI hn0 hn1 hm hm2 (fun b16 S16 e_b16 e_S16 => ?_)
  have hw := hw b16 S16 e_b16 e_S16
  obtain ⟨ht, hw⟩ := hw
  refine c_putr hc hr ciX11 (Nat.le_of_ble_eq_true rfl) 8 (Nat.le_of_ble_eq_true rfl) rfl dX11_init_97 lf_X11_64 ht (Or.inr ⟨rfl, hnm, rfl⟩) (Or.inr ⟨_, rfl⟩) ?_
  refine m_aload_n hc 0 dX11_init_100 rfl rfl ?_
  refine m_iconst hc 0 dX11_init_101 (by decide) ?_
  obtain ⟨ht, hw⟩ := hw
  refine c_puti hc hr ciX11 (Nat.le_of_ble_eq_true rfl) 9 (Nat.le_of_ble_eq_true rfl) rfl dX11_init_102 lf_X11_68 ht (Or.inl rfl) ⟨rfl, rfl⟩ ?_
  refine m_aload_n hc 0 dX11_init_105 rfl rfl ?_
  refine m_iconst hc (-1) dX11_init_106 (by decide) ?_
  obtain ⟨ht, hw⟩ := hw
  refine c_puti hc hr ciX11 (Nat.le_of_ble_eq_true rfl) 10 (Nat.le_of_ble_eq_true rfl) rfl dX11_init_107 lf_X11_72 ht (Or.inl rfl) ⟨rfl, rfl⟩ ?_
  refine m_aload_n hc 0 dX11_init_110 rfl rfl ?_
  refine m_null hc dX11_init_111 ?_
  obtain ⟨ht, hw⟩ := hw
  refine c_putq hc hr ciX11 (Nat.le_of_ble_eq_true rfl) 11 (Nat.le_of_ble_eq_true rfl) rfl dX11_init_112 lf_X11_75 ht (Or.inl rfl) (r := none) (Or.inl ⟨_, rfl⟩) ?_
  refine m_iconst hc 0 dX11_init_115 (by decide) ?_
  refine m_istore_n hc [(1, .int 0), (0, .ref x0)] dX11_init_116 rfl (Nat.le_of_ble_eq_true rfl) rfl ?_
  refine m_sub [1, 0] rfl ?_
  obtain ⟨nn, hw⟩ := hw
  exact l_X11_init_117 hc hr hnm nn x0 0 (sP (sI (sI (sP S16 x0 8 (some b16)) x0 9 0) x0 10 (-1)) x0 11 none) hw
def wb_X11_field_27 (M : Nat × Nat) (K27 : Nat → Int32 → Int32 → HS → Prop) (K : Int32 → HS → Prop) (x0 : Nat) (x2 x3 : Int32) (S : HS) : Prop := (6 ≤ x3 → hT S x0 = 12 ∧ hT (sP S x0 11 none) x0 = 12 ∧ ∃ b1 : Nat, hP (sP S x0 11 none) x0 7 = some b1 ∧ hT (sP S x0 11 none) b1 = 1 ∧ wp_X0_forget M b1 (sP S x0 11 none) (fun r2 S2 => hT S2 x0 = 12 ∧ ∃ b3 : Nat, hP S2 x0 4 = some b3 ∧ hT S2 b3 = 3 ∧ wp_X2_forget M b3 S2 (fun r4 S4 => K x2 S4))) ∧ (¬ (6 ≤ x3) → hT S x0 = 12 ∧ ∃ b5 : Nat, hP S x0 1 = some b5 ∧ hT S x0 = 12 ∧ ∃ b6 : Nat, hP S x0 0 = some b6 ∧ hT S b5 = 23 ∧ vp_in x3 (hN S b5) ∧ hT S b6 = 7 ∧ K27 x0 x2 (x3 + 1) (sP S b5 (Int32.toNatClampNeg x3) (some b6)))
def wl_X11_field_27 (M : Nat × Nat) (K : Int32 → HS → Prop) : Nat → Nat → Int32 → Int32 → HS → Prop
  | 0 => fun _ _ _ _ => False
  | nn + 1 => wb_X11_field_27 M (wl_X11_field_27 M K nn) K
set_option maxHeartbeats 4000000 in
set_option maxRecDepth 100000 in
theorem l_X11_field_27 {G : CG} {S0 : HS} {X : Fx} {K : Int32 → HS → Prop} (hc : Cx X RX11 cX11_field 4) (hr : Cc G S0 1 (some .int) (kI K) X) : ∀ (nn : Nat) (x0 : Nat) (x2 x3 : Int32) (S : HS), wl_X11_field_27 (gC G, gS G) K nn x0 x2 x3 S → MC G S0 X 4 S 27 [(0, .ref x0), (2, .int x2), (3, .int x3)] [] := by
  intro nn
  induction nn with
  | zero => intro x0 x2 x3 S hw; exact False.elim hw
  | succ nn ih =>
    intro x0 x2 x3 S hw
    have hw : wb_X11_field_27 (gC G, gS G) (wl_X11_field_27 (gC G, gS G) K nn) K x0 x2 x3 S := hw
    have h27 := ih
    generalize wl_X11_field_27 (gC G, gS G) K nn = K27 at hw h27
    unfold wb_X11_field_27 at hw
    refine m_iload_n hc 2 dX11_field_27 rfl rfl ?_
    refine m_bipush hc 6 dX11_field_28 (by decide) ?_
    refine m_icmp_ge hc 49 dX11_field_30 rfl (fun cq => ?_) (fun cq => ?_)
    · have hw := hw.1 cq
      refine m_aload_n hc 0 dX11_field_49 rfl rfl ?_
      refine m_null hc dX11_field_50 ?_
      obtain ⟨ht, hw⟩ := hw
      refine c_putq hc hr ciX11 (Nat.le_of_ble_eq_true rfl) 11 (Nat.le_of_ble_eq_true rfl) rfl dX11_field_51 lf_X11_75 ht (Or.inl rfl) (r := none) (Or.inl ⟨_, rfl⟩) ?_
      refine m_aload_n hc 0 dX11_field_54 rfl rfl ?_
      obtain ⟨ht, b1, e_b1, hw⟩ := hw
      refine c_getr hc hr ciX11 (Nat.le_of_ble_eq_true rfl) 7 (Nat.le_of_ble_eq_true rfl) rfl dX11_field_55 lf_X11_60 ht e_b1 ?_
      obtain ⟨ht, hw⟩ := hw
      refine c_callVv hc hr ciX0 (Nat.le_of_ble_eq_true rfl) ht mt_X0_forget rfl lm_X11_86 (ok_X0_forget hw) (Nat.le_of_ble_eq_true rfl) dX11_field_58 rfl (rest := []) rfl (Nat.le_of_ble_eq_true rfl) (fun S2 hw => ?_)
      refine m_aload_n hc 0 dX11_field_61 rfl rfl ?_
      obtain ⟨ht, b3, e_b3, hw⟩ := hw
      refine c_getr hc hr ciX11 (Nat.le_of_ble_eq_true rfl) 4 (Nat.le_of_ble_eq_true rfl) rfl dX11_field_62 lf_X11_39 ht e_b3 ?_
      obtain ⟨ht, hw⟩ := hw
      refine c_callVv hc hr ciX2 (Nat.le_of_ble_eq_true rfl) ht mt_X2_forget rfl lm_X11_89 (ok_X2_forget hw) (Nat.le_of_ble_eq_true rfl) dX11_field_65 rfl (rest := []) rfl (Nat.le_of_ble_eq_true rfl) (fun S4 hw => ?_)
      refine m_iload_n hc 1 dX11_field_68 rfl rfl ?_
      exact c_iret hc hr dX11_field_69 hw
    · have hw := hw.2 cq
      refine m_aload_n hc 0 dX11_field_33 rfl rfl ?_
      obtain ⟨ht, b5, e_b5, hw⟩ := hw
      refine c_getr hc hr ciX11 (Nat.le_of_ble_eq_true rfl) 1 (Nat.le_of_ble_eq_true rfl) rfl dX11_field_34 lf_X11_18 ht e_b5 ?_
      refine m_iload_n hc 2 dX11_field_37 rfl rfl ?_
      refine m_aload_n hc 0 dX11_field_38 rfl rfl ?_
      obtain ⟨ht, b6, e_b6, hw⟩ := hw
      refine c_getr hc hr ciX11 (Nat.le_of_ble_eq_true rfl) 0 (Nat.le_of_ble_eq_true rfl) rfl dX11_field_39 lf_X11_14 ht e_b6 ?_
      obtain ⟨ht, hi, hv, hw⟩ := hw
      refine c_aast hc hr ht hi hv dX11_field_42 ?_
      refine m_iinc hc 2 (x3 + 1) [(3, .int (x3 + 1)), (0, .ref x0), (2, .int x2)] dX11_field_43 rfl rfl (Nat.le_of_ble_eq_true rfl) rfl ?_
      refine m_goto hc 27 dX11_field_46 rfl ?_
      refine m_sub [1, 2, 0] rfl ?_
      exact h27 x0 x2 (x3 + 1) (sP S b5 (Int32.toNatClampNeg x3) (some b6)) hw
def wp_X11_field (M : Nat × Nat) (x0 : Nat) (x1 : Int32) (S : HS) (K : Int32 → HS → Prop) : Prop := wp_X9_isSize M x1 S (fun r1 S1 => (¬ r1 = 0 → hT S1 x0 = 12 ∧ ∃ b2 : Nat, hP S1 x0 2 = some b2 ∧ hT S1 b2 = 10 ∧ hT S1 x0 = 12 ∧ ∃ b3 : Nat, hP S1 x0 2 = some b3 ∧ hT S1 b3 = 10 ∧ ∃ nn : Nat, wl_X11_field_27 M K nn x0 (hI S1 b2 0) 0 (sI S1 b3 0 x1)) ∧ (r1 = 0 → K (-1) S1))
set_option maxHeartbeats 4000000 in
set_option maxRecDepth 100000 in
theorem ok_X11_field {G : CG} {x0 : Nat} {x1 : Int32} {S : HS} {K : Int32 → HS → Prop} (hw : wp_X11_field (gC G, gS G) x0 x1 S K) : CC 1 yX11_field cX11_field 4 (some .int) [.ref x0, .int x1] G S (kI K) := by
  refine CC.of (by decide +kernel) (Nat.le_of_ble_eq_true rfl) (fun X hc hr hname => ?_)
  show MC G S X 4 S 0 [(0, .ref x0), (1, .int x1)] []
  unfold wp_X11_field at hw
  refine m_iload_n hc 1 dX11_field_0 rfl rfl ?_
  refine c_callSi hc hr mt_X9_isSize lm_X11_79 (ok_X9_isSize hw) (Nat.le_of_ble_eq_true rfl) dX11_field_1 rfl (rest := []) rfl (Nat.le_of_ble_eq_true rfl) (fun r1 S1 hw => ?_)
  refine m_if_ne hc 9 dX11_field_4 rfl (fun cq => ?_) (fun cq => ?_)
  · have hw := hw.1 cq
    refine m_aload_n hc 0 dX11_field_9 rfl rfl ?_
    obtain ⟨ht, b2, e_b2, hw⟩ := hw
    refine c_getr hc hr ciX11 (Nat.le_of_ble_eq_true rfl) 2 (Nat.le_of_ble_eq_true rfl) rfl dX11_field_10 lf_X11_25 ht e_b2 ?_
    obtain ⟨ht, hw⟩ := hw
    refine c_geti hc hr ciX9 (Nat.le_of_ble_eq_true rfl) 0 (Nat.le_of_ble_eq_true rfl) rfl dX11_field_13 lf_X11_83 ht ?_
    refine m_istore_n hc [(2, .int (hI S1 b2 0)), (0, .ref x0), (1, .int x1)] dX11_field_16 rfl (Nat.le_of_ble_eq_true rfl) rfl ?_
    refine m_aload_n hc 1 dX11_field_17 rfl rfl ?_
    obtain ⟨ht, b3, e_b3, hw⟩ := hw
    refine c_getr hc hr ciX11 (Nat.le_of_ble_eq_true rfl) 2 (Nat.le_of_ble_eq_true rfl) rfl dX11_field_18 lf_X11_25 ht e_b3 ?_
    refine m_iload_n hc 2 dX11_field_21 rfl rfl ?_
    obtain ⟨ht, hw⟩ := hw
    refine c_puti hc hr ciX9 (Nat.le_of_ble_eq_true rfl) 0 (Nat.le_of_ble_eq_true rfl) rfl dX11_field_22 lf_X11_83 ht (Or.inl rfl) ⟨rfl, rfl⟩ ?_
    refine m_iconst hc 0 dX11_field_25 (by decide) ?_
    refine m_istore_n hc [(3, .int 0), (2, .int (hI S1 b2 0)), (0, .ref x0), (1, .int x1)] dX11_field_26 rfl (Nat.le_of_ble_eq_true rfl) rfl ?_
    refine m_sub [2, 1, 0] rfl ?_
    obtain ⟨nn, hw⟩ := hw
    exact l_X11_field_27 hc hr nn x0 (hI S1 b2 0) 0 (sI S1 b3 0 x1) hw
  · have hw := hw.2 cq
    refine m_iconst hc (-1) dX11_field_7 (by decide) ?_
    exact c_iret hc hr dX11_field_8 hw
def wb_X11_append_3 (M : Nat × Nat) (K3 : Nat → Int32 → Int32 → HS → Prop) (K : Int32 → HS → Prop) (x0 : Nat) (x1 x2 : Int32) (S : HS) : Prop := (x2 < 0 → K 0 S) ∧ (¬ (x2 < 0) → hT S x0 = 12 ∧ ∃ b1 : Nat, hP S x0 8 = some b1 ∧ hT S x0 = 12 ∧ hT S b1 = 21 ∧ vp_in (hI S x0 9) (hN S b1) ∧ hT (sI S b1 (Int32.toNatClampNeg (hI S x0 9)) ((x1 >>> (x2 &&& 31)) &&& 255)) x0 = 12 ∧ hT (sI S b1 (Int32.toNatClampNeg (hI S x0 9)) ((x1 >>> (x2 &&& 31)) &&& 255)) x0 = 12 ∧ K3 x0 x1 (x2 + (-8)) (sI (sI S b1 (Int32.toNatClampNeg (hI S x0 9)) ((x1 >>> (x2 &&& 31)) &&& 255)) x0 9 ((hI (sI S b1 (Int32.toNatClampNeg (hI S x0 9)) ((x1 >>> (x2 &&& 31)) &&& 255)) x0 9) + 1)))
def wl_X11_append_3 (M : Nat × Nat) (K : Int32 → HS → Prop) : Nat → Nat → Int32 → Int32 → HS → Prop
  | 0 => fun _ _ _ _ => False
  | nn + 1 => wb_X11_append_3 M (wl_X11_append_3 M K nn) K
set_option maxHeartbeats 4000000 in
set_option maxRecDepth 100000 in
theorem l_X11_append_3 {G : CG} {S0 : HS} {X : Fx} {K : Int32 → HS → Prop} (hc : Cx X RX11 cX11_append 3) (hr : Cc G S0 0 none (kV K) X) : ∀ (nn : Nat) (x0 : Nat) (x1 x2 : Int32) (S : HS), wl_X11_append_3 (gC G, gS G) K nn x0 x1 x2 S → MC G S0 X 3 S 3 [(0, .ref x0), (1, .int x1), (2, .int x2)] [] := by
  intro nn
  induction nn with
  | zero => intro x0 x1 x2 S hw; exact False.elim hw
  | succ nn ih =>
    intro x0 x1 x2 S hw
    have hw : wb_X11_append_3 (gC G, gS G) (wl_X11_append_3 (gC G, gS G) K nn) K x0 x1 x2 S := hw
    have h3 := ih
    generalize wl_X11_append_3 (gC G, gS G) K nn = K3 at hw h3
    unfold wb_X11_append_3 at hw
    refine m_iload_n hc 2 dX11_append_3 rfl rfl ?_
    refine m_if_lt hc 39 dX11_append_4 rfl (fun cq => ?_) (fun cq => ?_)
    · have hw := hw.1 cq
      exact c_vret hc hr dX11_append_39 hw
    · have hw := hw.2 cq
      refine m_aload_n hc 0 dX11_append_7 rfl rfl ?_
      obtain ⟨ht, b1, e_b1, hw⟩ := hw
      refine c_getr hc hr ciX11 (Nat.le_of_ble_eq_true rfl) 8 (Nat.le_of_ble_eq_true rfl) rfl dX11_append_8 lf_X11_64 ht e_b1 ?_
      refine m_aload_n hc 0 dX11_append_11 rfl rfl ?_
      obtain ⟨ht, hw⟩ := hw
      refine c_geti hc hr ciX11 (Nat.le_of_ble_eq_true rfl) 9 (Nat.le_of_ble_eq_true rfl) rfl dX11_append_12 lf_X11_68 ht ?_
      refine m_iload_n hc 1 dX11_append_15 rfl rfl ?_
      refine m_iload_n hc 2 dX11_append_16 rfl rfl ?_
      refine m_ishr hc dX11_append_17 ?_
      refine m_sipush hc 255 dX11_append_18 (by decide) ?_
      refine m_iand hc dX11_append_21 ?_
      obtain ⟨ht, hi, hw⟩ := hw
      refine c_iast hc hr ht hi dX11_append_22 ?_
      refine m_aload_n hc 0 dX11_append_23 rfl rfl ?_
      refine m_dup hc dX11_append_24 rfl ?_
      obtain ⟨ht, hw⟩ := hw
      refine c_geti hc hr ciX11 (Nat.le_of_ble_eq_true rfl) 9 (Nat.le_of_ble_eq_true rfl) rfl dX11_append_25 lf_X11_68 ht ?_
      refine m_iconst hc 1 dX11_append_28 (by decide) ?_
      refine m_iadd hc dX11_append_29 ?_
      obtain ⟨ht, hw⟩ := hw
      refine c_puti hc hr ciX11 (Nat.le_of_ble_eq_true rfl) 9 (Nat.le_of_ble_eq_true rfl) rfl dX11_append_30 lf_X11_68 ht (Or.inl rfl) ⟨rfl, rfl⟩ ?_
      refine m_iinc hc 2 (x2 + (-8)) [(2, .int (x2 + (-8))), (0, .ref x0), (1, .int x1)] dX11_append_33 rfl rfl (Nat.le_of_ble_eq_true rfl) rfl ?_
      refine m_goto hc 3 dX11_append_36 rfl ?_
      refine m_sub [1, 2, 0] rfl ?_
      exact h3 x0 x1 (x2 + (-8)) (sI (sI S b1 (Int32.toNatClampNeg (hI S x0 9)) ((x1 >>> (x2 &&& 31)) &&& 255)) x0 9 ((hI (sI S b1 (Int32.toNatClampNeg (hI S x0 9)) ((x1 >>> (x2 &&& 31)) &&& 255)) x0 9) + 1)) hw
def wp_X11_append (M : Nat × Nat) (x0 : Nat) (x1 : Int32) (S : HS) (K : Int32 → HS → Prop) : Prop := ∃ nn : Nat, wl_X11_append_3 M K nn x0 x1 24 S
set_option maxHeartbeats 4000000 in
set_option maxRecDepth 100000 in
theorem ok_X11_append {G : CG} {x0 : Nat} {x1 : Int32} {S : HS} {K : Int32 → HS → Prop} (hw : wp_X11_append (gC G, gS G) x0 x1 S K) : CC 0 yX11_append cX11_append 3 none [.ref x0, .int x1] G S (kV K) := by
  refine CC.of (by decide +kernel) (Nat.le_of_ble_eq_true rfl) (fun X hc hr hname => ?_)
  show MC G S X 3 S 0 [(0, .ref x0), (1, .int x1)] []
  unfold wp_X11_append at hw
  refine m_bipush hc 24 dX11_append_0 (by decide) ?_
  refine m_istore_n hc [(2, .int 24), (0, .ref x0), (1, .int x1)] dX11_append_2 rfl (Nat.le_of_ble_eq_true rfl) rfl ?_
  refine m_sub [1, 2, 0] rfl ?_
  obtain ⟨nn, hw⟩ := hw
  exact l_X11_append_3 hc hr nn x0 x1 24 S hw
def wp_X11_feed (M : Nat × Nat) (x0 : Nat) (x1 x2 x3 x4 x5 : Int32) (S : HS) (K : Int32 → HS → Prop) : Prop := hT S x0 = 12 ∧ (((hI S x0 9) + 20) ≤ 200 → hT S x0 = 12 ∧ wp_X11_append M x0 x1 S (fun r1 S1 => hT S1 x0 = 12 ∧ wp_X11_append M x0 x2 S1 (fun r2 S2 => hT S2 x0 = 12 ∧ wp_X11_append M x0 x3 S2 (fun r3 S3 => hT S3 x0 = 12 ∧ wp_X11_append M x0 x4 S3 (fun r4 S4 => hT S4 x0 = 12 ∧ wp_X11_append M x0 x5 S4 (fun r5 S5 => hT S5 x0 = 12 ∧ K (hI S5 x0 9) S5)))))) ∧ (¬ (((hI S x0 9) + 20) ≤ 200) → K (-1) S)
set_option maxHeartbeats 4000000 in
set_option maxRecDepth 100000 in
theorem ok_X11_feed {G : CG} {x0 : Nat} {x1 : Int32} {x2 : Int32} {x3 : Int32} {x4 : Int32} {x5 : Int32} {S : HS} {K : Int32 → HS → Prop} (hw : wp_X11_feed (gC G, gS G) x0 x1 x2 x3 x4 x5 S K) : CC 1 yX11_feed cX11_feed 6 (some .int) [.ref x0, .int x1, .int x2, .int x3, .int x4, .int x5] G S (kI K) := by
  refine CC.of (by decide +kernel) (Nat.le_of_ble_eq_true rfl) (fun X hc hr hname => ?_)
  show MC G S X 6 S 0 [(0, .ref x0), (1, .int x1), (2, .int x2), (3, .int x3), (4, .int x4), (5, .int x5)] []
  unfold wp_X11_feed at hw
  refine m_aload_n hc 0 dX11_feed_0 rfl rfl ?_
  obtain ⟨ht, hw⟩ := hw
  refine c_geti hc hr ciX11 (Nat.le_of_ble_eq_true rfl) 9 (Nat.le_of_ble_eq_true rfl) rfl dX11_feed_1 lf_X11_68 ht ?_
  refine m_bipush hc 20 dX11_feed_4 (by decide) ?_
  refine m_iadd hc dX11_feed_6 ?_
  refine m_sipush hc 200 dX11_feed_7 (by decide) ?_
  refine m_icmp_le hc 15 dX11_feed_10 rfl (fun cq => ?_) (fun cq => ?_)
  · have hw := hw.1 cq
    refine m_aload_n hc 0 dX11_feed_15 rfl rfl ?_
    refine m_iload_n hc 1 dX11_feed_16 rfl rfl ?_
    obtain ⟨ht, hw⟩ := hw
    refine c_callVv hc hr ciX11 (Nat.le_of_ble_eq_true rfl) ht mt_X11_append rfl lm_X11_90 (ok_X11_append hw) (Nat.le_of_ble_eq_true rfl) dX11_feed_17 rfl (rest := []) rfl (Nat.le_of_ble_eq_true rfl) (fun S1 hw => ?_)
    refine m_aload_n hc 0 dX11_feed_20 rfl rfl ?_
    refine m_iload_n hc 2 dX11_feed_21 rfl rfl ?_
    obtain ⟨ht, hw⟩ := hw
    refine c_callVv hc hr ciX11 (Nat.le_of_ble_eq_true rfl) ht mt_X11_append rfl lm_X11_90 (ok_X11_append hw) (Nat.le_of_ble_eq_true rfl) dX11_feed_22 rfl (rest := []) rfl (Nat.le_of_ble_eq_true rfl) (fun S2 hw => ?_)
    refine m_aload_n hc 0 dX11_feed_25 rfl rfl ?_
    refine m_iload_n hc 3 dX11_feed_26 rfl rfl ?_
    obtain ⟨ht, hw⟩ := hw
    refine c_callVv hc hr ciX11 (Nat.le_of_ble_eq_true rfl) ht mt_X11_append rfl lm_X11_90 (ok_X11_append hw) (Nat.le_of_ble_eq_true rfl) dX11_feed_27 rfl (rest := []) rfl (Nat.le_of_ble_eq_true rfl) (fun S3 hw => ?_)
    refine m_aload_n hc 0 dX11_feed_30 rfl rfl ?_
    refine m_iload hc 4 dX11_feed_31 rfl ?_
    obtain ⟨ht, hw⟩ := hw
    refine c_callVv hc hr ciX11 (Nat.le_of_ble_eq_true rfl) ht mt_X11_append rfl lm_X11_90 (ok_X11_append hw) (Nat.le_of_ble_eq_true rfl) dX11_feed_33 rfl (rest := []) rfl (Nat.le_of_ble_eq_true rfl) (fun S4 hw => ?_)
    refine m_aload_n hc 0 dX11_feed_36 rfl rfl ?_
    refine m_iload hc 5 dX11_feed_37 rfl ?_
    obtain ⟨ht, hw⟩ := hw
    refine c_callVv hc hr ciX11 (Nat.le_of_ble_eq_true rfl) ht mt_X11_append rfl lm_X11_90 (ok_X11_append hw) (Nat.le_of_ble_eq_true rfl) dX11_feed_39 rfl (rest := []) rfl (Nat.le_of_ble_eq_true rfl) (fun S5 hw => ?_)
    refine m_aload_n hc 0 dX11_feed_42 rfl rfl ?_
    obtain ⟨ht, hw⟩ := hw
    refine c_geti hc hr ciX11 (Nat.le_of_ble_eq_true rfl) 9 (Nat.le_of_ble_eq_true rfl) rfl dX11_feed_43 lf_X11_68 ht ?_
    exact c_iret hc hr dX11_feed_46 hw
  · have hw := hw.2 cq
    refine m_iconst hc (-1) dX11_feed_13 (by decide) ?_
    exact c_iret hc hr dX11_feed_14 hw
def wp_X11_isPlace (M : Nat × Nat) (x0 : Int32) (S : HS) (K : Int32 → HS → Prop) : Prop := (x0 < 0 → K 0 S) ∧ (¬ (x0 < 0) → (6 ≤ x0 → K 0 S) ∧ (¬ (6 ≤ x0) → K 1 S))
set_option maxHeartbeats 4000000 in
set_option maxRecDepth 100000 in
theorem ok_X11_isPlace {G : CG} {x0 : Int32} {S : HS} {K : Int32 → HS → Prop} (hw : wp_X11_isPlace (gC G, gS G) x0 S K) : CC 0 yX11_isPlace cX11_isPlace 1 (some .boolean) [.int x0] G S (kI K) := by
  refine CC.of (by decide +kernel) (Nat.le_of_ble_eq_true rfl) (fun X hc hr hname => ?_)
  show MC G S X 1 S 0 [(0, .int x0)] []
  unfold wp_X11_isPlace at hw
  refine m_iload_n hc 0 dX11_isPlace_0 rfl rfl ?_
  refine m_if_lt hc 14 dX11_isPlace_1 rfl (fun cq => ?_) (fun cq => ?_)
  · have hw := hw.1 cq
    refine m_iconst hc 0 dX11_isPlace_14 (by decide) ?_
    exact c_zret hc hr dX11_isPlace_15 (by decide) hw
  · have hw := hw.2 cq
    refine m_iload_n hc 0 dX11_isPlace_4 rfl rfl ?_
    refine m_bipush hc 6 dX11_isPlace_5 (by decide) ?_
    refine m_icmp_ge hc 14 dX11_isPlace_7 rfl (fun cq => ?_) (fun cq => ?_)
    · have hw := hw.1 cq
      refine m_iconst hc 0 dX11_isPlace_14 (by decide) ?_
      exact c_zret hc hr dX11_isPlace_15 (by decide) hw
    · have hw := hw.2 cq
      refine m_iconst hc 1 dX11_isPlace_10 (by decide) ?_
      refine m_goto hc 15 dX11_isPlace_11 rfl ?_
      exact c_zret hc hr dX11_isPlace_15 (by decide) hw
def wp_X11_keep (M : Nat × Nat) (x0 : Nat) (x1 : Int32) (x2 : Option Nat) (S : HS) (K : Int32 → HS → Prop) : Prop := (∀ b1 : Nat, x2 = some b1 → hT S x0 = 12 ∧ ∃ b2 : Nat, hP S x0 7 = some b2 ∧ hT S x0 = 12 ∧ ∃ b3 : Nat, hP S x0 1 = some b3 ∧ hT S b3 = 23 ∧ vp_in x1 (hN S b3) ∧ ∃ b4 : Nat, hP S b3 (Int32.toNatClampNeg x1) = some b4 ∧ hT S b2 = 1 ∧ wp_X0_note M b2 x1 b4 S (fun r5 S5 => hT S5 x0 = 12 ∧ ∃ b6 : Nat, hP S5 x0 1 = some b6 ∧ ∃ b7 : Nat, x2 = some b7 ∧ hT S5 b6 = 23 ∧ vp_in x1 (hN S5 b6) ∧ hT S5 b7 = 7 ∧ ∃ b8 : Nat, x2 = some b8 ∧ hT (sP S5 b6 (Int32.toNatClampNeg x1) (some b7)) b8 = 7 ∧ K (hI (sP S5 b6 (Int32.toNatClampNeg x1) (some b7)) b8 2) (sP S5 b6 (Int32.toNatClampNeg x1) (some b7)))) ∧ (x2 = none → K (-2) S)
set_option maxHeartbeats 4000000 in
set_option maxRecDepth 100000 in
theorem ok_X11_keep {G : CG} {x0 : Nat} {x1 : Int32} {x2 : Option Nat} {S : HS} {K : Int32 → HS → Prop} (hw : wp_X11_keep (gC G, gS G) x0 x1 x2 S K) : CC 2 yX11_keep cX11_keep 3 (some .int) [.ref x0, .int x1, va_rf x2] G S (kI K) := by
  refine CC.of (by decide +kernel) (by cases x2 <;> exact Nat.le_of_ble_eq_true rfl) (fun X hc hr hname => ?_)
  show MC G S X 3 S 0 [(0, .ref x0), (1, .int x1), (2, va_rf x2)] []
  unfold wp_X11_keep at hw
  refine q_aload_n hc 2 dX11_keep_0 rfl rfl ?_
  refine q_ifnonnull hc 7 dX11_keep_1 rfl (fun b1 cq => ?_) (fun cq => ?_)
  · have hw := hw.1 b1 cq
    refine m_aload_n hc 0 dX11_keep_7 rfl rfl ?_
    obtain ⟨ht, b2, e_b2, hw⟩ := hw
    refine c_getr hc hr ciX11 (Nat.le_of_ble_eq_true rfl) 7 (Nat.le_of_ble_eq_true rfl) rfl dX11_keep_8 lf_X11_60 ht e_b2 ?_
    refine m_iload_n hc 1 dX11_keep_11 rfl rfl ?_
    refine m_aload_n hc 0 dX11_keep_12 rfl rfl ?_
    obtain ⟨ht, b3, e_b3, hw⟩ := hw
    refine c_getr hc hr ciX11 (Nat.le_of_ble_eq_true rfl) 1 (Nat.le_of_ble_eq_true rfl) rfl dX11_keep_13 lf_X11_18 ht e_b3 ?_
    refine m_iload_n hc 1 dX11_keep_16 rfl rfl ?_
    obtain ⟨ht, hi, b4, e_b4, hw⟩ := hw
    refine c_aald hc hr ht hi e_b4 dX11_keep_17 ?_
    obtain ⟨ht, hw⟩ := hw
    refine c_callVv hc hr ciX0 (Nat.le_of_ble_eq_true rfl) ht mt_X0_note rfl lm_X11_300 (ok_X0_note hw) (Nat.le_of_ble_eq_true rfl) dX11_keep_18 rfl (rest := []) rfl (Nat.le_of_ble_eq_true rfl) (fun S5 hw => ?_)
    refine m_aload_n hc 0 dX11_keep_21 rfl rfl ?_
    obtain ⟨ht, b6, e_b6, hw⟩ := hw
    refine c_getr hc hr ciX11 (Nat.le_of_ble_eq_true rfl) 1 (Nat.le_of_ble_eq_true rfl) rfl dX11_keep_22 lf_X11_18 ht e_b6 ?_
    refine m_iload_n hc 1 dX11_keep_25 rfl rfl ?_
    refine q_aload_n hc 2 dX11_keep_26 rfl rfl ?_
    obtain ⟨b7, e_b7, hw⟩ := hw
    refine q_some e_b7 ?_
    obtain ⟨ht, hi, hv, hw⟩ := hw
    refine c_aast hc hr ht hi hv dX11_keep_27 ?_
    refine q_aload_n hc 2 dX11_keep_28 rfl rfl ?_
    obtain ⟨b8, e_b8, hw⟩ := hw
    refine q_some e_b8 ?_
    obtain ⟨ht, hw⟩ := hw
    refine c_geti hc hr ciX6 (Nat.le_of_ble_eq_true rfl) 2 (Nat.le_of_ble_eq_true rfl) rfl dX11_keep_29 lf_X11_146 ht ?_
    exact c_iret hc hr dX11_keep_32 hw
  · have hw := hw.2 cq
    refine m_bipush hc (-2) dX11_keep_4 (by decide) ?_
    exact c_iret hc hr dX11_keep_6 hw
def w_X11_tell_79 (M : Nat × Nat) (KX : String → HS → Prop) (K : Int32 → HS → Prop) (x0 : Nat) (x1 : Int32) (x3 : Nat) (x5 s0 : Int32) (s1 : Nat) (S : HS) : Prop := hT S s1 = 12 ∧ (x5 = 0 → hT (sI S s1 10 s0) x0 = 12 ∧ ∃ b1 : Nat, hP (sI S s1 10 s0) x0 2 = some b1 ∧ hT (sI S s1 10 s0) x3 = 8 ∧ wp_X7_run M x3 b1 (sI S s1 10 s0) (fun r2 S2 => (¬ r2 = 0 → hT S2 x0 = 12 ∧ hT (sP S2 x0 11 (some x3)) x3 = 8 ∧ ∃ b3 : Nat, hP (sP S2 x0 11 (some x3)) x3 6 = some b3 ∧ hT (sP S2 x0 11 (some x3)) x3 = 8 ∧ hT (sP S2 x0 11 (some x3)) b3 = 23 ∧ vp_in ((hI (sP S2 x0 11 (some x3)) x3 0) - 1) (hN (sP S2 x0 11 (some x3)) b3) ∧ ∃ b4 : Nat, hP (sP S2 x0 11 (some x3)) b3 (Int32.toNatClampNeg ((hI (sP S2 x0 11 (some x3)) x3 0) - 1)) = some b4 ∧ hT (sP S2 x0 11 (some x3)) x0 = 12 ∧ wp_X11_keep M x0 x1 (some b4) (sP S2 x0 11 (some x3)) (fun r5 S5 => K r5 S5)) ∧ (r2 = 0 → K (-2) S2))) ∧ (¬ (x5 = 0) → K ((-10) - x5) (sI S s1 10 s0))
set_option maxHeartbeats 4000000 in
set_option maxRecDepth 100000 in
theorem b_X11_tell_79 {G : CG} {S0 : HS} {X : Fx} {KX : String → HS → Prop} {K : Int32 → HS → Prop} (hc : Cx X RX11 cX11_tell 6) (hr : Cc G S0 6 (some .int) (kI K) X) (hxx : Cxx G S0 KX (kI K) X) : ∀ (x0 : Nat) (x1 : Int32) (x3 : Nat) (x5 s0 : Int32) (s1 : Nat) (S : HS), w_X11_tell_79 (gC G, gS G) KX K x0 x1 x3 x5 s0 s1 S → MC G S0 X 6 S 79 [(0, .ref x0), (1, .int x1), (3, .ref x3), (5, .int x5)] [.int s0, .ref s1] := by
  intro x0 x1 x3 x5 s0 s1 S hw
  unfold w_X11_tell_79 at hw
  obtain ⟨ht, hw⟩ := hw
  refine c_puti hc hr ciX11 (Nat.le_of_ble_eq_true rfl) 10 (Nat.le_of_ble_eq_true rfl) rfl dX11_tell_79 lf_X11_72 ht (Or.inl rfl) ⟨rfl, rfl⟩ ?_
  refine m_iload hc 3 dX11_tell_82 rfl ?_
  refine m_if_eq hc 93 dX11_tell_84 rfl (fun cq => ?_) (fun cq => ?_)
  · have hw := hw.1 cq
    refine m_aload_n hc 2 dX11_tell_93 rfl rfl ?_
    refine m_aload_n hc 0 dX11_tell_94 rfl rfl ?_
    obtain ⟨ht, b1, e_b1, hw⟩ := hw
    refine c_getr hc hr ciX11 (Nat.le_of_ble_eq_true rfl) 2 (Nat.le_of_ble_eq_true rfl) rfl dX11_tell_95 lf_X11_25 ht e_b1 ?_
    obtain ⟨ht, hw⟩ := hw
    refine c_callVi hc hr ciX7 (Nat.le_of_ble_eq_true rfl) ht mt_X7_run rfl lm_X11_118 (ok_X7_run hw) (Nat.le_of_ble_eq_true rfl) dX11_tell_98 rfl (rest := []) rfl (Nat.le_of_ble_eq_true rfl) (fun r2 S2 hw => ?_)
    refine m_if_ne hc 107 dX11_tell_101 rfl (fun cq => ?_) (fun cq => ?_)
    · have hw := hw.1 cq
      refine m_aload_n hc 0 dX11_tell_107 rfl rfl ?_
      refine m_aload_n hc 2 dX11_tell_108 rfl rfl ?_
      obtain ⟨ht, hw⟩ := hw
      refine c_putr hc hr ciX11 (Nat.le_of_ble_eq_true rfl) 11 (Nat.le_of_ble_eq_true rfl) rfl dX11_tell_109 lf_X11_75 ht (Or.inl rfl) (Or.inl ⟨_, rfl⟩) ?_
      refine m_aload_n hc 0 dX11_tell_112 rfl rfl ?_
      refine m_iload_n hc 1 dX11_tell_113 rfl rfl ?_
      refine m_aload_n hc 2 dX11_tell_114 rfl rfl ?_
      obtain ⟨ht, b3, e_b3, hw⟩ := hw
      refine c_getr hc hr ciX7 (Nat.le_of_ble_eq_true rfl) 6 (Nat.le_of_ble_eq_true rfl) rfl dX11_tell_115 lf_X11_122 ht e_b3 ?_
      refine m_aload_n hc 2 dX11_tell_118 rfl rfl ?_
      obtain ⟨ht, hw⟩ := hw
      refine c_geti hc hr ciX7 (Nat.le_of_ble_eq_true rfl) 0 (Nat.le_of_ble_eq_true rfl) rfl dX11_tell_119 lf_X11_125 ht ?_
      refine m_iconst hc 1 dX11_tell_122 (by decide) ?_
      refine m_isub hc dX11_tell_123 ?_
      obtain ⟨ht, hi, b4, e_b4, hw⟩ := hw
      refine c_aald hc hr ht hi e_b4 dX11_tell_124 ?_
      obtain ⟨ht, hw⟩ := hw
      refine c_callVi hc hr ciX11 (Nat.le_of_ble_eq_true rfl) ht mt_X11_keep rfl lm_X11_128 (ok_X11_keep hw) (Nat.le_of_ble_eq_true rfl) dX11_tell_125 rfl (rest := []) rfl (Nat.le_of_ble_eq_true rfl) (fun r5 S5 hw => ?_)
      exact c_iret hc hr dX11_tell_128 hw
    · have hw := hw.2 cq
      refine m_bipush hc (-2) dX11_tell_104 (by decide) ?_
      exact c_iret hc hr dX11_tell_106 hw
  · have hw := hw.2 cq
    refine m_bipush hc (-10) dX11_tell_87 (by decide) ?_
    refine m_iload hc 3 dX11_tell_89 rfl ?_
    refine m_isub hc dX11_tell_91 ?_
    exact c_iret hc hr dX11_tell_92 hw
def wp_X11_tell (M : Nat × Nat) (x0 : Nat) (x1 x2 : Int32) (S : HS) (KX : String → HS → Prop) (K : Int32 → HS → Prop) : Prop := wp_X11_isPlace M x1 S (fun r1 S1 => (r1 = 0 → KX xIAE S1 ∧ hX S1 + 1 ≤ M.1 ∧ hS S1 + 6 ≤ M.2) ∧ (¬ (r1 = 0) → (x2 < 0 → KX xIAE S1 ∧ hX S1 + 1 ≤ M.1 ∧ hS S1 + 6 ≤ M.2) ∧ (¬ (x2 < 0) → hT S1 x0 = 12 ∧ (x2 ≤ (hI S1 x0 9) → hT S1 x0 = 12 ∧ hX (sI S1 x0 9 0) + 1 ≤ M.1 ∧ hS (sI S1 x0 9 0) + 10 ≤ M.2 ∧ ∀ (b2 : Nat) (S2 : HS), b2 = hX (sI S1 x0 9 0) → S2 = nO (sI S1 x0 9 0) 8 10 → wp_X7_init M b2 S2 (fun r3 S3 => hX S3 + 1 ≤ M.1 ∧ hS S3 + 9 ≤ M.2 ∧ ∀ (b4 : Nat) (S4 : HS), b4 = hX S3 → S4 = nO S3 9 9 → hT S4 x0 = 12 ∧ ∃ b5 : Nat, hP S4 x0 8 = some b5 ∧ wp_X8_init M b4 b5 x2 b2 S4 (fun r6 S6 => hT S6 b4 = 9 ∧ wp_X8_read M b4 S6 (fun r7 S7 => (¬ r7 = 0 → hT S7 b4 = 9 ∧ w_X11_tell_79 M KX K x0 x1 b2 r7 (hI S7 b4 0) x0 S7) ∧ (r7 = 0 → w_X11_tell_79 M KX K x0 x1 b2 r7 (-1) x0 S7))))) ∧ (¬ (x2 ≤ (hI S1 x0 9)) → KX xIAE S1 ∧ hX S1 + 1 ≤ M.1 ∧ hS S1 + 6 ≤ M.2))))
set_option maxHeartbeats 4000000 in
set_option maxRecDepth 100000 in
theorem ok_X11_tell {G : CG} {x0 : Nat} {x1 : Int32} {x2 : Int32} {S : HS} {KX : String → HS → Prop} {K : Int32 → HS → Prop} (hw : wp_X11_tell (gC G, gS G) x0 x1 x2 S KX K) : CX 6 yX11_tell cX11_tell 6 (some .int) [.ref x0, .int x1, .int x2] G S KX (kI K) := by
  refine CX.of (by decide +kernel) (Nat.le_of_ble_eq_true rfl) (fun X hc hr hxx => ?_)
  show MC G S X 6 S 0 [(0, .ref x0), (1, .int x1), (2, .int x2)] []
  unfold wp_X11_tell at hw
  refine m_iload_n hc 1 dX11_tell_0 rfl rfl ?_
  refine c_callSi hc hr mt_X11_isPlace lm_X11_93 (ok_X11_isPlace hw) (Nat.le_of_ble_eq_true rfl) dX11_tell_1 rfl (rest := []) rfl (Nat.le_of_ble_eq_true rfl) (fun r1 S1 hw => ?_)
  refine m_if_eq hc 19 dX11_tell_4 rfl (fun cq => ?_) (fun cq => ?_)
  · have hw := hw.1 cq
    exact x_throw hc hr hxx (E := xIAE) mx_96_100 (List.mem_of_getElem? (i := 0) rfl) dX11_tell_19 dX11_tell_22 dX11_tell_23 dX11_tell_25 dX11_tell_28 (Nat.le_of_ble_eq_true rfl) hw.1 hw.2.1 hw.2.2
  · have hw := hw.2 cq
    refine m_iload_n hc 2 dX11_tell_7 rfl rfl ?_
    refine m_if_lt hc 19 dX11_tell_8 rfl (fun cq => ?_) (fun cq => ?_)
    · have hw := hw.1 cq
      exact x_throw hc hr hxx (E := xIAE) mx_96_100 (List.mem_of_getElem? (i := 0) rfl) dX11_tell_19 dX11_tell_22 dX11_tell_23 dX11_tell_25 dX11_tell_28 (Nat.le_of_ble_eq_true rfl) hw.1 hw.2.1 hw.2.2
    · have hw := hw.2 cq
      refine m_iload_n hc 2 dX11_tell_11 rfl rfl ?_
      refine m_aload_n hc 0 dX11_tell_12 rfl rfl ?_
      obtain ⟨ht, hw⟩ := hw
      refine c_geti hc hr ciX11 (Nat.le_of_ble_eq_true rfl) 9 (Nat.le_of_ble_eq_true rfl) rfl dX11_tell_13 lf_X11_68 ht ?_
      refine m_icmp_le hc 29 dX11_tell_16 rfl (fun cq => ?_) (fun cq => ?_)
      · have hw := hw.1 cq
        refine m_aload_n hc 0 dX11_tell_29 rfl rfl ?_
        refine m_iconst hc 0 dX11_tell_30 (by decide) ?_
        obtain ⟨ht, hw⟩ := hw
        refine c_puti hc hr ciX11 (Nat.le_of_ble_eq_true rfl) 9 (Nat.le_of_ble_eq_true rfl) rfl dX11_tell_31 lf_X11_68 ht (Or.inl rfl) ⟨rfl, rfl⟩ ?_
        obtain ⟨hm, hm2, hw⟩ := hw
        refine n_new hc hr ciX7 (Nat.le_of_ble_eq_true rfl) dfX7 dX11_tell_34 lcl_X11_103 lni_X7 hm hm2 (fun b2 S2 e_b2 e_S2 => ?_)
        have hw := hw b2 S2 e_b2 e_S2
        refine m_dup hc dX11_tell_37 rfl ?_
        refine c_callNv hc hr mt_X7_init ln_X11_105 (ok_X7_init hw) (Nat.le_of_ble_eq_true rfl) dX11_tell_38 rfl (rest := [.ref b2]) rfl (Nat.le_of_ble_eq_true rfl) (fun S3 hw => ?_)
        refine m_astore_n hc [(3, .ref b2), (0, .ref x0), (1, .int x1), (2, .int x2)] dX11_tell_41 rfl (Nat.le_of_ble_eq_true rfl) rfl ?_
        obtain ⟨hm, hm2, hw⟩ := hw
        refine n_new hc hr ciX8 (Nat.le_of_ble_eq_true rfl) dfX8 dX11_tell_42 lcl_X11_106 lni_X8 hm hm2 (fun b4 S4 e_b4 e_S4 => ?_)
        have hw := hw b4 S4 e_b4 e_S4
        refine m_dup hc dX11_tell_45 rfl ?_
        refine m_aload_n hc 1 dX11_tell_46 rfl rfl ?_
        obtain ⟨ht, b5, e_b5, hw⟩ := hw
        refine c_getr hc hr ciX11 (Nat.le_of_ble_eq_true rfl) 8 (Nat.le_of_ble_eq_true rfl) rfl dX11_tell_47 lf_X11_64 ht e_b5 ?_
        refine m_iload_n hc 3 dX11_tell_50 rfl rfl ?_
        refine m_aload_n hc 0 dX11_tell_51 rfl rfl ?_
        refine c_callIv hc hr mt_X8_init lm_X11_108 (ok_X8_init hw) (Nat.le_of_ble_eq_true rfl) dX11_tell_52 rfl (rest := [.ref b4]) rfl (Nat.le_of_ble_eq_true rfl) (fun S6 hw => ?_)
        refine m_astore hc [(4, .ref b4), (3, .ref b2), (0, .ref x0), (1, .int x1), (2, .int x2)] dX11_tell_55 (Nat.le_of_ble_eq_true rfl) rfl ?_
        refine m_aload hc 0 dX11_tell_57 rfl ?_
        obtain ⟨ht, hw⟩ := hw
        refine c_callVi hc hr ciX8 (Nat.le_of_ble_eq_true rfl) ht mt_X8_read rfl lm_X11_111 (ok_X8_read hw) (Nat.le_of_ble_eq_true rfl) dX11_tell_59 rfl (rest := []) rfl (Nat.le_of_ble_eq_true rfl) (fun r7 S7 hw => ?_)
        refine m_istore hc [(5, .int r7), (4, .ref b4), (3, .ref b2), (0, .ref x0), (1, .int x1), (2, .int x2)] dX11_tell_62 (Nat.le_of_ble_eq_true rfl) rfl ?_
        refine m_aload_n hc 3 dX11_tell_64 rfl rfl ?_
        refine m_iload hc 0 dX11_tell_65 rfl ?_
        refine m_if_ne hc 74 dX11_tell_67 rfl (fun cq => ?_) (fun cq => ?_)
        · have hw := hw.1 cq
          refine m_aload hc 1 dX11_tell_74 rfl ?_
          obtain ⟨ht, hw⟩ := hw
          refine c_geti hc hr ciX8 (Nat.le_of_ble_eq_true rfl) 0 (Nat.le_of_ble_eq_true rfl) rfl dX11_tell_76 lf_X11_115 ht ?_
          refine m_sub [3, 4, 2, 0] rfl ?_
          exact b_X11_tell_79 hc hr hxx x0 x1 b2 r7 (hI S7 b4 0) x0 S7 hw
        · have hw := hw.2 cq
          refine m_iconst hc (-1) dX11_tell_70 (by decide) ?_
          refine m_goto hc 79 dX11_tell_71 rfl ?_
          refine m_sub [3, 4, 2, 0] rfl ?_
          exact b_X11_tell_79 hc hr hxx x0 x1 b2 r7 (-1) x0 S7 hw
      · have hw := hw.2 cq
        exact x_throw hc hr hxx (E := xIAE) mx_96_100 (List.mem_of_getElem? (i := 0) rfl) dX11_tell_19 dX11_tell_22 dX11_tell_23 dX11_tell_25 dX11_tell_28 (Nat.le_of_ble_eq_true rfl) hw.1 hw.2.1 hw.2.2
def wp_X11_fault (M : Nat × Nat) (x0 : Nat) (S : HS) (K : Int32 → HS → Prop) : Prop := hT S x0 = 12 ∧ K (hI S x0 10) S
set_option maxHeartbeats 4000000 in
set_option maxRecDepth 100000 in
theorem ok_X11_fault {G : CG} {x0 : Nat} {S : HS} {K : Int32 → HS → Prop} (hw : wp_X11_fault (gC G, gS G) x0 S K) : CC 0 yX11_fault cX11_fault 1 (some .int) [.ref x0] G S (kI K) := by
  refine CC.of (by decide +kernel) (Nat.le_of_ble_eq_true rfl) (fun X hc hr hname => ?_)
  show MC G S X 1 S 0 [(0, .ref x0)] []
  unfold wp_X11_fault at hw
  refine m_aload_n hc 0 dX11_fault_0 rfl rfl ?_
  obtain ⟨ht, hw⟩ := hw
  refine c_geti hc hr ciX11 (Nat.le_of_ble_eq_true rfl) 10 (Nat.le_of_ble_eq_true rfl) rfl dX11_fault_1 lf_X11_72 ht ?_
  exact c_iret hc hr dX11_fault_4 hw
def wp_X11_count (M : Nat × Nat) (x0 : Nat) (x1 : Int32) (S : HS) (KX : String → HS → Prop) (K : Int32 → HS → Prop) : Prop := ((Int32.toInt x1 < 0 ∨ 3 < Int32.toInt x1) → KX xNSE S ∧ hX S + 1 ≤ M.1 ∧ hS S + 6 ≤ M.2) ∧ (x1 = 0 → hT S x0 = 12 ∧ ∃ b1 : Nat, hP S x0 2 = some b1 ∧ hT S b1 = 10 ∧ K (hI S b1 0) S) ∧ (x1 = 1 → hT S x0 = 12 ∧ (∀ b2 : Nat, hP S x0 11 = some b2 → hT S x0 = 12 ∧ ∃ b3 : Nat, hP S x0 11 = some b3 ∧ hT S b3 = 8 ∧ K (hI S b3 0) S) ∧ (hP S x0 11 = none → K 0 S)) ∧ (x1 = 2 → hT S x0 = 12 ∧ K (hI S x0 9) S) ∧ (x1 = 3 → hT S x0 = 12 ∧ ∃ b4 : Nat, hP S x0 7 = some b4 ∧ hT S b4 = 1 ∧ K (hI S b4 0) S)
set_option maxHeartbeats 4000000 in
set_option maxRecDepth 100000 in
theorem ok_X11_count {G : CG} {x0 : Nat} {x1 : Int32} {S : HS} {KX : String → HS → Prop} {K : Int32 → HS → Prop} (hw : wp_X11_count (gC G, gS G) x0 x1 S KX K) : CX 6 yX11_count cX11_count 2 (some .int) [.ref x0, .int x1] G S KX (kI K) := by
  refine CX.of (by decide +kernel) (Nat.le_of_ble_eq_true rfl) (fun X hc hr hxx => ?_)
  show MC G S X 2 S 0 [(0, .ref x0), (1, .int x1)] []
  unfold wp_X11_count at hw
  refine m_iload_n hc 1 dX11_count_0 rfl rfl ?_
  rcases sw_in 3 (x := x1) (Nat.le_of_ble_eq_true rfl) with cq | ⟨cn, cl, cq⟩
  · have hw := hw.1 cq
    refine m_tout hc 72 dX11_count_1 cq rfl ?_
    exact x_throw hc hr hxx (E := xNSE) mx_133_137 (List.mem_of_getElem? (i := 1) rfl) dX11_count_72 dX11_count_75 dX11_count_76 dX11_count_78 dX11_count_81 (Nat.le_of_ble_eq_true rfl) hw.1 hw.2.1 hw.2.2
  · have hw := hw.2
    match cn, cl, cq with
    | 0, _, cq =>
      have cq : x1 = 0 := cq
      have hw := hw.1 cq
      refine m_tin hc (off := 31) 32 dX11_count_1 (by rw [cq]; decide) (by rw [cq]; decide) (by rw [cq]; rfl) rfl ?_
      refine m_aload_n hc 0 dX11_count_32 rfl rfl ?_
      obtain ⟨ht, b1, e_b1, hw⟩ := hw
      refine c_getr hc hr ciX11 (Nat.le_of_ble_eq_true rfl) 2 (Nat.le_of_ble_eq_true rfl) rfl dX11_count_33 lf_X11_25 ht e_b1 ?_
      obtain ⟨ht, hw⟩ := hw
      refine c_geti hc hr ciX9 (Nat.le_of_ble_eq_true rfl) 0 (Nat.le_of_ble_eq_true rfl) rfl dX11_count_36 lf_X11_83 ht ?_
      exact c_iret hc hr dX11_count_39 hw
    | 1, _, cq =>
      have cq : x1 = 1 := cq
      have hw := hw.2.1 cq
      refine m_tin hc (off := 39) 40 dX11_count_1 (by rw [cq]; decide) (by rw [cq]; decide) (by rw [cq]; rfl) rfl ?_
      refine m_aload_n hc 0 dX11_count_40 rfl rfl ?_
      obtain ⟨ht, hw⟩ := hw
      refine c_getq hc hr ciX11 (Nat.le_of_ble_eq_true rfl) 11 (Nat.le_of_ble_eq_true rfl) rfl dX11_count_41 lf_X11_75 ht ?_
      refine q_ifnonnull hc 51 dX11_count_44 rfl (fun b2 cq => ?_) (fun cq => ?_)
      · have hw := hw.1 b2 cq
        refine m_aload_n hc 0 dX11_count_51 rfl rfl ?_
        obtain ⟨ht, hw⟩ := hw
        refine c_getq hc hr ciX11 (Nat.le_of_ble_eq_true rfl) 11 (Nat.le_of_ble_eq_true rfl) rfl dX11_count_52 lf_X11_75 ht ?_
        obtain ⟨b3, e_b3, hw⟩ := hw
        refine q_some e_b3 ?_
        obtain ⟨ht, hw⟩ := hw
        refine c_geti hc hr ciX7 (Nat.le_of_ble_eq_true rfl) 0 (Nat.le_of_ble_eq_true rfl) rfl dX11_count_55 lf_X11_125 ht ?_
        exact c_iret hc hr dX11_count_58 hw
      · have hw := hw.2 cq
        refine m_iconst hc 0 dX11_count_47 (by decide) ?_
        refine m_goto hc 58 dX11_count_48 rfl ?_
        exact c_iret hc hr dX11_count_58 hw
    | 2, _, cq =>
      have cq : x1 = 2 := cq
      have hw := hw.2.2.1 cq
      refine m_tin hc (off := 58) 59 dX11_count_1 (by rw [cq]; decide) (by rw [cq]; decide) (by rw [cq]; rfl) rfl ?_
      refine m_aload_n hc 0 dX11_count_59 rfl rfl ?_
      obtain ⟨ht, hw⟩ := hw
      refine c_geti hc hr ciX11 (Nat.le_of_ble_eq_true rfl) 9 (Nat.le_of_ble_eq_true rfl) rfl dX11_count_60 lf_X11_68 ht ?_
      exact c_iret hc hr dX11_count_63 hw
    | 3, _, cq =>
      have cq : x1 = 3 := cq
      have hw := hw.2.2.2 cq
      refine m_tin hc (off := 63) 64 dX11_count_1 (by rw [cq]; decide) (by rw [cq]; decide) (by rw [cq]; rfl) rfl ?_
      refine m_aload_n hc 0 dX11_count_64 rfl rfl ?_
      obtain ⟨ht, b4, e_b4, hw⟩ := hw
      refine c_getr hc hr ciX11 (Nat.le_of_ble_eq_true rfl) 7 (Nat.le_of_ble_eq_true rfl) rfl dX11_count_65 lf_X11_60 ht e_b4 ?_
      obtain ⟨ht, hw⟩ := hw
      refine c_geti hc hr ciX0 (Nat.le_of_ble_eq_true rfl) 0 (Nat.le_of_ble_eq_true rfl) rfl dX11_count_68 lf_X11_132 ht ?_
      exact c_iret hc hr dX11_count_71 hw
    | nn + 4, cl, _ => exact absurd cl (by omega)
def wp_X11_step (M : Nat × Nat) (x0 : Nat) (x1 x2 : Int32) (S : HS) (KX : String → HS → Prop) (K : Int32 → HS → Prop) : Prop := hT S x0 = 12 ∧ (hP S x0 11 = none → KX xNSE S ∧ hX S + 1 ≤ M.1 ∧ hS S + 6 ≤ M.2) ∧ (∀ b1 : Nat, hP S x0 11 = some b1 → (x1 < 0 → KX xNSE S ∧ hX S + 1 ≤ M.1 ∧ hS S + 6 ≤ M.2) ∧ (¬ (x1 < 0) → ∃ b2 : Nat, hP S x0 11 = some b2 ∧ hT S b2 = 8 ∧ (x1 < (hI S b2 0) → ((Int32.toInt x2 < 0 ∨ 6 < Int32.toInt x2) → KX xNSE S ∧ hX S + 1 ≤ M.1 ∧ hS S + 6 ≤ M.2) ∧ (x2 = 0 → ∃ b3 : Nat, hP S x0 11 = some b3 ∧ hT S b3 = 8 ∧ ∃ b4 : Nat, hP S b3 5 = some b4 ∧ hT S b4 = 21 ∧ vp_in x1 (hN S b4) ∧ K (hI S b4 (Int32.toNatClampNeg x1)) S) ∧ (x2 = 1 → ∃ b5 : Nat, hP S x0 11 = some b5 ∧ hT S b5 = 8 ∧ ∃ b6 : Nat, hP S b5 6 = some b6 ∧ hT S b6 = 23 ∧ vp_in x1 (hN S b6) ∧ ∃ b7 : Nat, hP S b6 (Int32.toNatClampNeg x1) = some b7 ∧ hT S b7 = 7 ∧ wp_X6_degree M b7 S (fun r8 S8 => K r8 S8)) ∧ (x2 = 2 → ∃ b9 : Nat, hP S x0 11 = some b9 ∧ hT S b9 = 8 ∧ ∃ b10 : Nat, hP S b9 6 = some b10 ∧ hT S b10 = 23 ∧ vp_in x1 (hN S b10) ∧ ∃ b11 : Nat, hP S b10 (Int32.toNatClampNeg x1) = some b11 ∧ hT S b11 = 7 ∧ K (hI S b11 2) S) ∧ (x2 = 3 → ∃ b12 : Nat, hP S x0 11 = some b12 ∧ hT S b12 = 8 ∧ ∃ b13 : Nat, hP S b12 1 = some b13 ∧ hT S b13 = 21 ∧ vp_in x1 (hN S b13) ∧ K (hI S b13 (Int32.toNatClampNeg x1)) S) ∧ (x2 = 4 → ∃ b14 : Nat, hP S x0 11 = some b14 ∧ hT S b14 = 8 ∧ wp_X7_lastStandsOn M b14 x1 S (fun r15 S15 => (r15 = 0 → K 0 S15) ∧ (¬ (r15 = 0) → K 1 S15))) ∧ (x2 = 5 → ∃ b16 : Nat, hP S x0 11 = some b16 ∧ hT S b16 = 8 ∧ wp_X7_firstLike M b16 x1 S (fun r17 S17 => K r17 S17)) ∧ (x2 = 6 → ∃ b18 : Nat, hP S x0 11 = some b18 ∧ hT S b18 = 8 ∧ wp_X7_usersOf M b18 x1 S (fun r19 S19 => K r19 S19))) ∧ (¬ (x1 < (hI S b2 0)) → KX xNSE S ∧ hX S + 1 ≤ M.1 ∧ hS S + 6 ≤ M.2)))
set_option maxHeartbeats 4000000 in
set_option maxRecDepth 100000 in
theorem ok_X11_step {G : CG} {x0 : Nat} {x1 : Int32} {x2 : Int32} {S : HS} {KX : String → HS → Prop} {K : Int32 → HS → Prop} (hw : wp_X11_step (gC G, gS G) x0 x1 x2 S KX K) : CX 6 yX11_step cX11_step 4 (some .int) [.ref x0, .int x1, .int x2] G S KX (kI K) := by
  refine CX.of (by decide +kernel) (Nat.le_of_ble_eq_true rfl) (fun X hc hr hxx => ?_)
  show MC G S X 4 S 0 [(0, .ref x0), (1, .int x1), (2, .int x2)] []
  unfold wp_X11_step at hw
  refine m_aload_n hc 0 dX11_step_0 rfl rfl ?_
  obtain ⟨ht, hw⟩ := hw
  refine c_getq hc hr ciX11 (Nat.le_of_ble_eq_true rfl) 11 (Nat.le_of_ble_eq_true rfl) rfl dX11_step_1 lf_X11_75 ht ?_
  refine q_astore_n hc [(3, va_rf (hP S x0 11)), (0, .ref x0), (1, .int x1), (2, .int x2)] dX11_step_4 rfl (Nat.le_of_ble_eq_true rfl) rfl ?_
  refine q_aload_n hc 0 dX11_step_5 rfl rfl ?_
  refine q_ifnull hc 21 dX11_step_6 rfl (fun cq => ?_) (fun b1 cq => ?_)
  · have hw := hw.1 cq
    exact x_throw hc hr hxx (E := xNSE) mx_133_137 (List.mem_of_getElem? (i := 2) rfl) dX11_step_21 dX11_step_24 dX11_step_25 dX11_step_27 dX11_step_30 (Nat.le_of_ble_eq_true rfl) hw.1 hw.2.1 hw.2.2
  · have hw := hw.2 b1 cq
    refine m_iload_n hc 2 dX11_step_9 rfl rfl ?_
    refine m_if_lt hc 21 dX11_step_10 rfl (fun cq => ?_) (fun cq => ?_)
    · have hw := hw.1 cq
      exact x_throw hc hr hxx (E := xNSE) mx_133_137 (List.mem_of_getElem? (i := 2) rfl) dX11_step_21 dX11_step_24 dX11_step_25 dX11_step_27 dX11_step_30 (Nat.le_of_ble_eq_true rfl) hw.1 hw.2.1 hw.2.2
    · have hw := hw.2 cq
      refine m_iload_n hc 2 dX11_step_13 rfl rfl ?_
      refine q_aload_n hc 0 dX11_step_14 rfl rfl ?_
      obtain ⟨b2, e_b2, hw⟩ := hw
      refine q_some e_b2 ?_
      obtain ⟨ht, hw⟩ := hw
      refine c_geti hc hr ciX7 (Nat.le_of_ble_eq_true rfl) 0 (Nat.le_of_ble_eq_true rfl) rfl dX11_step_15 lf_X11_125 ht ?_
      refine m_icmp_lt hc 31 dX11_step_18 rfl (fun cq => ?_) (fun cq => ?_)
      · have hw := hw.1 cq
        refine m_iload_n hc 3 dX11_step_31 rfl rfl ?_
        rcases sw_in 6 (x := x2) (Nat.le_of_ble_eq_true rfl) with cq | ⟨cn, cl, cq⟩
        · have hw := hw.1 cq
          refine m_tout hc 136 dX11_step_32 cq rfl ?_
          exact x_throw hc hr hxx (E := xNSE) mx_133_137 (List.mem_of_getElem? (i := 3) rfl) dX11_step_136 dX11_step_139 dX11_step_140 dX11_step_142 dX11_step_145 (Nat.le_of_ble_eq_true rfl) hw.1 hw.2.1 hw.2.2
        · have hw := hw.2
          match cn, cl, cq with
          | 0, _, cq =>
            have cq : x2 = 0 := cq
            have hw := hw.1 cq
            refine m_tin hc (off := 44) 76 dX11_step_32 (by rw [cq]; decide) (by rw [cq]; decide) (by rw [cq]; rfl) rfl ?_
            refine q_aload_n hc 0 dX11_step_76 rfl rfl ?_
            obtain ⟨b3, e_b3, hw⟩ := hw
            refine q_some e_b3 ?_
            obtain ⟨ht, b4, e_b4, hw⟩ := hw
            refine c_getr hc hr ciX7 (Nat.le_of_ble_eq_true rfl) 5 (Nat.le_of_ble_eq_true rfl) rfl dX11_step_77 lf_X11_140 ht e_b4 ?_
            refine m_iload_n hc 2 dX11_step_80 rfl rfl ?_
            obtain ⟨ht, hi, hw⟩ := hw
            refine c_iald hc hr ht hi dX11_step_81 ?_
            exact c_iret hc hr dX11_step_82 hw
          | 1, _, cq =>
            have cq : x2 = 1 := cq
            have hw := hw.2.1 cq
            refine m_tin hc (off := 51) 83 dX11_step_32 (by rw [cq]; decide) (by rw [cq]; decide) (by rw [cq]; rfl) rfl ?_
            refine q_aload_n hc 0 dX11_step_83 rfl rfl ?_
            obtain ⟨b5, e_b5, hw⟩ := hw
            refine q_some e_b5 ?_
            obtain ⟨ht, b6, e_b6, hw⟩ := hw
            refine c_getr hc hr ciX7 (Nat.le_of_ble_eq_true rfl) 6 (Nat.le_of_ble_eq_true rfl) rfl dX11_step_84 lf_X11_122 ht e_b6 ?_
            refine m_iload_n hc 2 dX11_step_87 rfl rfl ?_
            obtain ⟨ht, hi, b7, e_b7, hw⟩ := hw
            refine c_aald hc hr ht hi e_b7 dX11_step_88 ?_
            obtain ⟨ht, hw⟩ := hw
            refine c_callVi hc hr ciX6 (Nat.le_of_ble_eq_true rfl) ht mt_X6_degree rfl lm_X11_143 (ok_X6_degree hw) (Nat.le_of_ble_eq_true rfl) dX11_step_89 rfl (rest := []) rfl (Nat.le_of_ble_eq_true rfl) (fun r8 S8 hw => ?_)
            exact c_iret hc hr dX11_step_92 hw
          | 2, _, cq =>
            have cq : x2 = 2 := cq
            have hw := hw.2.2.1 cq
            refine m_tin hc (off := 61) 93 dX11_step_32 (by rw [cq]; decide) (by rw [cq]; decide) (by rw [cq]; rfl) rfl ?_
            refine q_aload_n hc 0 dX11_step_93 rfl rfl ?_
            obtain ⟨b9, e_b9, hw⟩ := hw
            refine q_some e_b9 ?_
            obtain ⟨ht, b10, e_b10, hw⟩ := hw
            refine c_getr hc hr ciX7 (Nat.le_of_ble_eq_true rfl) 6 (Nat.le_of_ble_eq_true rfl) rfl dX11_step_94 lf_X11_122 ht e_b10 ?_
            refine m_iload_n hc 2 dX11_step_97 rfl rfl ?_
            obtain ⟨ht, hi, b11, e_b11, hw⟩ := hw
            refine c_aald hc hr ht hi e_b11 dX11_step_98 ?_
            obtain ⟨ht, hw⟩ := hw
            refine c_geti hc hr ciX6 (Nat.le_of_ble_eq_true rfl) 2 (Nat.le_of_ble_eq_true rfl) rfl dX11_step_99 lf_X11_146 ht ?_
            exact c_iret hc hr dX11_step_102 hw
          | 3, _, cq =>
            have cq : x2 = 3 := cq
            have hw := hw.2.2.2.1 cq
            refine m_tin hc (off := 71) 103 dX11_step_32 (by rw [cq]; decide) (by rw [cq]; decide) (by rw [cq]; rfl) rfl ?_
            refine q_aload_n hc 0 dX11_step_103 rfl rfl ?_
            obtain ⟨b12, e_b12, hw⟩ := hw
            refine q_some e_b12 ?_
            obtain ⟨ht, b13, e_b13, hw⟩ := hw
            refine c_getr hc hr ciX7 (Nat.le_of_ble_eq_true rfl) 1 (Nat.le_of_ble_eq_true rfl) rfl dX11_step_104 lf_X11_147 ht e_b13 ?_
            refine m_iload_n hc 2 dX11_step_107 rfl rfl ?_
            obtain ⟨ht, hi, hw⟩ := hw
            refine c_iald hc hr ht hi dX11_step_108 ?_
            exact c_iret hc hr dX11_step_109 hw
          | 4, _, cq =>
            have cq : x2 = 4 := cq
            have hw := hw.2.2.2.2.1 cq
            refine m_tin hc (off := 78) 110 dX11_step_32 (by rw [cq]; decide) (by rw [cq]; decide) (by rw [cq]; rfl) rfl ?_
            refine q_aload_n hc 0 dX11_step_110 rfl rfl ?_
            obtain ⟨b14, e_b14, hw⟩ := hw
            refine q_some e_b14 ?_
            refine m_iload_n hc 2 dX11_step_111 rfl rfl ?_
            obtain ⟨ht, hw⟩ := hw
            refine c_callVi hc hr ciX7 (Nat.le_of_ble_eq_true rfl) ht mt_X7_lastStandsOn rfl lm_X11_150 (ok_X7_lastStandsOn hw) (Nat.le_of_ble_eq_true rfl) dX11_step_112 rfl (rest := []) rfl (Nat.le_of_ble_eq_true rfl) (fun r15 S15 hw => ?_)
            refine m_if_eq hc 122 dX11_step_115 rfl (fun cq => ?_) (fun cq => ?_)
            · have hw := hw.1 cq
              refine m_iconst hc 0 dX11_step_122 (by decide) ?_
              exact c_iret hc hr dX11_step_123 hw
            · have hw := hw.2 cq
              refine m_iconst hc 1 dX11_step_118 (by decide) ?_
              refine m_goto hc 123 dX11_step_119 rfl ?_
              exact c_iret hc hr dX11_step_123 hw
          | 5, _, cq =>
            have cq : x2 = 5 := cq
            have hw := hw.2.2.2.2.2.1 cq
            refine m_tin hc (off := 92) 124 dX11_step_32 (by rw [cq]; decide) (by rw [cq]; decide) (by rw [cq]; rfl) rfl ?_
            refine q_aload_n hc 0 dX11_step_124 rfl rfl ?_
            obtain ⟨b16, e_b16, hw⟩ := hw
            refine q_some e_b16 ?_
            refine m_iload_n hc 2 dX11_step_125 rfl rfl ?_
            obtain ⟨ht, hw⟩ := hw
            refine c_callVi hc hr ciX7 (Nat.le_of_ble_eq_true rfl) ht mt_X7_firstLike rfl lm_X11_153 (ok_X7_firstLike hw) (Nat.le_of_ble_eq_true rfl) dX11_step_126 rfl (rest := []) rfl (Nat.le_of_ble_eq_true rfl) (fun r17 S17 hw => ?_)
            exact c_iret hc hr dX11_step_129 hw
          | 6, _, cq =>
            have cq : x2 = 6 := cq
            have hw := hw.2.2.2.2.2.2 cq
            refine m_tin hc (off := 98) 130 dX11_step_32 (by rw [cq]; decide) (by rw [cq]; decide) (by rw [cq]; rfl) rfl ?_
            refine q_aload_n hc 0 dX11_step_130 rfl rfl ?_
            obtain ⟨b18, e_b18, hw⟩ := hw
            refine q_some e_b18 ?_
            refine m_iload_n hc 2 dX11_step_131 rfl rfl ?_
            obtain ⟨ht, hw⟩ := hw
            refine c_callVi hc hr ciX7 (Nat.le_of_ble_eq_true rfl) ht mt_X7_usersOf rfl lm_X11_157 (ok_X7_usersOf hw) (Nat.le_of_ble_eq_true rfl) dX11_step_132 rfl (rest := []) rfl (Nat.le_of_ble_eq_true rfl) (fun r19 S19 hw => ?_)
            exact c_iret hc hr dX11_step_135 hw
          | nn + 7, cl, _ => exact absurd cl (by omega)
      · have hw := hw.2 cq
        exact x_throw hc hr hxx (E := xNSE) mx_133_137 (List.mem_of_getElem? (i := 2) rfl) dX11_step_21 dX11_step_24 dX11_step_25 dX11_step_27 dX11_step_30 (Nat.le_of_ble_eq_true rfl) hw.1 hw.2.1 hw.2.2
def wp_X11_at (M : Nat × Nat) (x0 : Nat) (x1 x2 x3 x4 x5 : Int32) (S : HS) (KX : String → HS → Prop) (K : Int32 → HS → Prop) : Prop := hT S x0 = 12 ∧ (hP S x0 11 = none → KX xNSE S ∧ hX S + 1 ≤ M.1 ∧ hS S + 6 ≤ M.2) ∧ (∀ b1 : Nat, hP S x0 11 = some b1 → (x1 < 0 → KX xNSE S ∧ hX S + 1 ≤ M.1 ∧ hS S + 6 ≤ M.2) ∧ (¬ (x1 < 0) → ∃ b2 : Nat, hP S x0 11 = some b2 ∧ hT S b2 = 8 ∧ (x1 < (hI S b2 0) → hT S x0 = 12 ∧ ∃ b3 : Nat, hP S x0 2 = some b3 ∧ hT S b3 = 10 ∧ wp_X9_isPoint M b3 x3 x4 x5 S (fun r4 S4 => (¬ r4 = 0 → ∃ b5 : Nat, hP S x0 11 = some b5 ∧ hT S4 x0 = 12 ∧ ∃ b6 : Nat, hP S4 x0 2 = some b6 ∧ hT S4 b6 = 10 ∧ hT S4 b5 = 8 ∧ wp_X7_findValues M b5 x3 x4 x5 (hI S4 b6 0) S4 (fun r7 S7 => (x2 = 0 → ∃ b8 : Nat, hP S x0 11 = some b8 ∧ hT S7 b8 = 8 ∧ ∃ b9 : Nat, hP S7 b8 7 = some b9 ∧ hT S7 b9 = 21 ∧ vp_in x1 (hN S7 b9) ∧ K (hI S7 b9 (Int32.toNatClampNeg x1)) S7) ∧ (¬ (x2 = 0) → ∃ b10 : Nat, hP S x0 11 = some b10 ∧ hT S7 x0 = 12 ∧ ∃ b11 : Nat, hP S7 x0 2 = some b11 ∧ hT S7 b11 = 10 ∧ hT S7 b10 = 8 ∧ wp_X7_turnOf M b10 x1 (hI S7 b11 0) S7 (fun r12 S12 => K r12 S12)))) ∧ (r4 = 0 → KX xIAE S4 ∧ hX S4 + 1 ≤ M.1 ∧ hS S4 + 6 ≤ M.2))) ∧ (¬ (x1 < (hI S b2 0)) → KX xNSE S ∧ hX S + 1 ≤ M.1 ∧ hS S + 6 ≤ M.2)))
set_option maxHeartbeats 4000000 in
set_option maxRecDepth 100000 in
theorem ok_X11_at {G : CG} {x0 : Nat} {x1 : Int32} {x2 : Int32} {x3 : Int32} {x4 : Int32} {x5 : Int32} {S : HS} {KX : String → HS → Prop} {K : Int32 → HS → Prop} (hw : wp_X11_at (gC G, gS G) x0 x1 x2 x3 x4 x5 S KX K) : CX 6 yX11_at cX11_at 7 (some .int) [.ref x0, .int x1, .int x2, .int x3, .int x4, .int x5] G S KX (kI K) := by
  refine CX.of (by decide +kernel) (Nat.le_of_ble_eq_true rfl) (fun X hc hr hxx => ?_)
  show MC G S X 7 S 0 [(0, .ref x0), (1, .int x1), (2, .int x2), (3, .int x3), (4, .int x4), (5, .int x5)] []
  unfold wp_X11_at at hw
  refine m_aload_n hc 0 dX11_at_0 rfl rfl ?_
  obtain ⟨ht, hw⟩ := hw
  refine c_getq hc hr ciX11 (Nat.le_of_ble_eq_true rfl) 11 (Nat.le_of_ble_eq_true rfl) rfl dX11_at_1 lf_X11_75 ht ?_
  refine q_astore hc [(6, va_rf (hP S x0 11)), (0, .ref x0), (1, .int x1), (2, .int x2), (3, .int x3), (4, .int x4), (5, .int x5)] dX11_at_4 (Nat.le_of_ble_eq_true rfl) rfl ?_
  refine q_aload hc 0 dX11_at_6 rfl ?_
  refine q_ifnull hc 24 dX11_at_8 rfl (fun cq => ?_) (fun b1 cq => ?_)
  · have hw := hw.1 cq
    exact x_throw hc hr hxx (E := xNSE) mx_133_137 (List.mem_of_getElem? (i := 2) rfl) dX11_at_24 dX11_at_27 dX11_at_28 dX11_at_30 dX11_at_33 (Nat.le_of_ble_eq_true rfl) hw.1 hw.2.1 hw.2.2
  · have hw := hw.2 b1 cq
    refine m_iload_n hc 2 dX11_at_11 rfl rfl ?_
    refine m_if_lt hc 24 dX11_at_12 rfl (fun cq => ?_) (fun cq => ?_)
    · have hw := hw.1 cq
      exact x_throw hc hr hxx (E := xNSE) mx_133_137 (List.mem_of_getElem? (i := 2) rfl) dX11_at_24 dX11_at_27 dX11_at_28 dX11_at_30 dX11_at_33 (Nat.le_of_ble_eq_true rfl) hw.1 hw.2.1 hw.2.2
    · have hw := hw.2 cq
      refine m_iload_n hc 2 dX11_at_15 rfl rfl ?_
      refine q_aload hc 0 dX11_at_16 rfl ?_
      obtain ⟨b2, e_b2, hw⟩ := hw
      refine q_some e_b2 ?_
      obtain ⟨ht, hw⟩ := hw
      refine c_geti hc hr ciX7 (Nat.le_of_ble_eq_true rfl) 0 (Nat.le_of_ble_eq_true rfl) rfl dX11_at_18 lf_X11_125 ht ?_
      refine m_icmp_lt hc 34 dX11_at_21 rfl (fun cq => ?_) (fun cq => ?_)
      · have hw := hw.1 cq
        refine m_aload_n hc 1 dX11_at_34 rfl rfl ?_
        obtain ⟨ht, b3, e_b3, hw⟩ := hw
        refine c_getr hc hr ciX11 (Nat.le_of_ble_eq_true rfl) 2 (Nat.le_of_ble_eq_true rfl) rfl dX11_at_35 lf_X11_25 ht e_b3 ?_
        refine m_iload_n hc 4 dX11_at_38 rfl rfl ?_
        refine m_iload hc 5 dX11_at_39 rfl ?_
        refine m_iload hc 6 dX11_at_41 rfl ?_
        obtain ⟨ht, hw⟩ := hw
        refine c_callVi hc hr ciX9 (Nat.le_of_ble_eq_true rfl) ht mt_X9_isPoint rfl lm_X11_162 (ok_X9_isPoint hw) (Nat.le_of_ble_eq_true rfl) dX11_at_43 rfl (rest := []) rfl (Nat.le_of_ble_eq_true rfl) (fun r4 S4 hw => ?_)
        refine m_if_ne hc 59 dX11_at_46 rfl (fun cq => ?_) (fun cq => ?_)
        · have hw := hw.1 cq
          refine q_aload hc 0 dX11_at_59 rfl ?_
          obtain ⟨b5, e_b5, hw⟩ := hw
          refine q_some e_b5 ?_
          refine m_iload_n hc 4 dX11_at_61 rfl rfl ?_
          refine m_iload hc 5 dX11_at_62 rfl ?_
          refine m_iload hc 6 dX11_at_64 rfl ?_
          refine m_aload_n hc 1 dX11_at_66 rfl rfl ?_
          obtain ⟨ht, b6, e_b6, hw⟩ := hw
          refine c_getr hc hr ciX11 (Nat.le_of_ble_eq_true rfl) 2 (Nat.le_of_ble_eq_true rfl) rfl dX11_at_67 lf_X11_25 ht e_b6 ?_
          obtain ⟨ht, hw⟩ := hw
          refine c_geti hc hr ciX9 (Nat.le_of_ble_eq_true rfl) 0 (Nat.le_of_ble_eq_true rfl) rfl dX11_at_70 lf_X11_83 ht ?_
          obtain ⟨ht, hw⟩ := hw
          refine c_callVv hc hr ciX7 (Nat.le_of_ble_eq_true rfl) ht mt_X7_findValues rfl lm_X11_168 (ok_X7_findValues hw) (Nat.le_of_ble_eq_true rfl) dX11_at_73 rfl (rest := []) rfl (Nat.le_of_ble_eq_true rfl) (fun S7 hw => ?_)
          refine m_iload_n hc 3 dX11_at_76 rfl rfl ?_
          refine m_if_eq hc 96 dX11_at_77 rfl (fun cq => ?_) (fun cq => ?_)
          · have hw := hw.1 cq
            refine q_aload hc 0 dX11_at_96 rfl ?_
            obtain ⟨b8, e_b8, hw⟩ := hw
            refine q_some e_b8 ?_
            obtain ⟨ht, b9, e_b9, hw⟩ := hw
            refine c_getr hc hr ciX7 (Nat.le_of_ble_eq_true rfl) 7 (Nat.le_of_ble_eq_true rfl) rfl dX11_at_98 lf_X11_176 ht e_b9 ?_
            refine m_iload_n hc 2 dX11_at_101 rfl rfl ?_
            obtain ⟨ht, hi, hw⟩ := hw
            refine c_iald hc hr ht hi dX11_at_102 ?_
            exact c_iret hc hr dX11_at_103 hw
          · have hw := hw.2 cq
            refine q_aload hc 0 dX11_at_80 rfl ?_
            obtain ⟨b10, e_b10, hw⟩ := hw
            refine q_some e_b10 ?_
            refine m_iload_n hc 2 dX11_at_82 rfl rfl ?_
            refine m_aload_n hc 1 dX11_at_83 rfl rfl ?_
            obtain ⟨ht, b11, e_b11, hw⟩ := hw
            refine c_getr hc hr ciX11 (Nat.le_of_ble_eq_true rfl) 2 (Nat.le_of_ble_eq_true rfl) rfl dX11_at_84 lf_X11_25 ht e_b11 ?_
            obtain ⟨ht, hw⟩ := hw
            refine c_geti hc hr ciX9 (Nat.le_of_ble_eq_true rfl) 0 (Nat.le_of_ble_eq_true rfl) rfl dX11_at_87 lf_X11_83 ht ?_
            obtain ⟨ht, hw⟩ := hw
            refine c_callVi hc hr ciX7 (Nat.le_of_ble_eq_true rfl) ht mt_X7_turnOf rfl lm_X11_172 (ok_X7_turnOf hw) (Nat.le_of_ble_eq_true rfl) dX11_at_90 rfl (rest := []) rfl (Nat.le_of_ble_eq_true rfl) (fun r12 S12 hw => ?_)
            refine m_goto hc 103 dX11_at_93 rfl ?_
            exact c_iret hc hr dX11_at_103 hw
        · have hw := hw.2 cq
          exact x_throw hc hr hxx (E := xIAE) mx_96_100 (List.mem_of_getElem? (i := 4) rfl) dX11_at_49 dX11_at_52 dX11_at_53 dX11_at_55 dX11_at_58 (Nat.le_of_ble_eq_true rfl) hw.1 hw.2.1 hw.2.2
      · have hw := hw.2 cq
        exact x_throw hc hr hxx (E := xNSE) mx_133_137 (List.mem_of_getElem? (i := 2) rfl) dX11_at_24 dX11_at_27 dX11_at_28 dX11_at_30 dX11_at_33 (Nat.le_of_ble_eq_true rfl) hw.1 hw.2.1 hw.2.2
def wp_X11_canMake (M : Nat × Nat) (x0 : Nat) (x1 x2 x3 : Int32) (S : HS) (K : Int32 → HS → Prop) : Prop := ((Int32.toInt x1 < 0 ∨ 9 < Int32.toInt x1) → K 0 S) ∧ (x1 = 0 → wp_X11_isPlace M x3 S (fun r1 S1 => (r1 = 0 ∨ r1 = 1) ∧ K r1 S1)) ∧ (x1 = 1 → wp_X11_isPlace M x3 S (fun r2 S2 => (r2 = 0 ∨ r2 = 1) ∧ K r2 S2)) ∧ (x1 = 2 → wp_X11_isPlace M x3 S (fun r3 S3 => (r3 = 0 ∨ r3 = 1) ∧ K r3 S3)) ∧ (x1 = 3 → (x3 < 0 → K 0 S) ∧ (¬ (x3 < 0) → (3 ≤ x3 → K 0 S) ∧ (¬ (3 ≤ x3) → K 1 S))) ∧ (x1 = 4 → (x3 < 0 → K 0 S) ∧ (¬ (x3 < 0) → (9 < x3 → K 0 S) ∧ (¬ (9 < x3) → K 1 S))) ∧ (x1 = 5 → (x3 < 0 → K 0 S) ∧ (¬ (x3 < 0) → (120 < x3 → K 0 S) ∧ (¬ (120 < x3) → K 1 S))) ∧ (x1 = 6 → K 1 S) ∧ (x1 = 7 → hT S x0 = 12 ∧ ∃ b4 : Nat, hP S x0 1 = some b4 ∧ hT S b4 = 23 ∧ vp_in x2 (hN S b4) ∧ ∃ b5 : Nat, hP S b4 (Int32.toNatClampNeg x2) = some b5 ∧ hT S b5 = 7 ∧ ((hI S b5 2) ≤ 0 → K 0 S) ∧ (¬ ((hI S b5 2) ≤ 0) → K 1 S)) ∧ (x1 = 8 → wp_X11_isPlace M x3 S (fun r6 S6 => (r6 = 0 → K 0 S6) ∧ (¬ (r6 = 0) → hT S6 x0 = 12 ∧ ∃ b7 : Nat, hP S6 x0 1 = some b7 ∧ hT S6 b7 = 23 ∧ vp_in x2 (hN S6 b7) ∧ ∃ b8 : Nat, hP S6 b7 (Int32.toNatClampNeg x2) = some b8 ∧ hT S6 b8 = 7 ∧ wp_X6_isInXAlone M b8 S6 (fun r9 S9 => (r9 = 0 → K 0 S9) ∧ (¬ (r9 = 0) → hT S9 x0 = 12 ∧ ∃ b10 : Nat, hP S9 x0 1 = some b10 ∧ hT S9 b10 = 23 ∧ vp_in x3 (hN S9 b10) ∧ ∃ b11 : Nat, hP S9 b10 (Int32.toNatClampNeg x3) = some b11 ∧ hT S9 b11 = 7 ∧ wp_X6_isInXAlone M b11 S9 (fun r12 S12 => (r12 = 0 → K 0 S12) ∧ (¬ (r12 = 0) → K 1 S12))))))) ∧ (x1 = 9 → (x3 < 0 → K 0 S) ∧ (¬ (x3 < 0) → (5 < x3 → K 0 S) ∧ (¬ (5 < x3) → K 1 S)))
set_option maxHeartbeats 4000000 in
set_option maxRecDepth 100000 in
theorem ok_X11_canMake {G : CG} {x0 : Nat} {x1 : Int32} {x2 : Int32} {x3 : Int32} {S : HS} {K : Int32 → HS → Prop} (hw : wp_X11_canMake (gC G, gS G) x0 x1 x2 x3 S K) : CC 3 yX11_canMake cX11_canMake 4 (some .boolean) [.ref x0, .int x1, .int x2, .int x3] G S (kI K) := by
  refine CC.of (by decide +kernel) (Nat.le_of_ble_eq_true rfl) (fun X hc hr hname => ?_)
  show MC G S X 4 S 0 [(0, .ref x0), (1, .int x1), (2, .int x2), (3, .int x3)] []
  unfold wp_X11_canMake at hw
  refine m_iload_n hc 1 dX11_canMake_0 rfl rfl ?_
  rcases sw_in 9 (x := x1) (Nat.le_of_ble_eq_true rfl) with cq | ⟨cn, cl, cq⟩
  · have hw := hw.1 cq
    refine m_tout hc 180 dX11_canMake_1 cq rfl ?_
    refine m_iconst hc 0 dX11_canMake_180 (by decide) ?_
    exact c_zret hc hr dX11_canMake_181 (by decide) hw
  · have hw := hw.2
    match cn, cl, cq with
    | 0, _, cq =>
      have cq : x1 = 0 := cq
      have hw := hw.1 cq
      refine m_tin hc (off := 55) 56 dX11_canMake_1 (by rw [cq]; decide) (by rw [cq]; decide) (by rw [cq]; rfl) rfl ?_
      refine m_iload_n hc 3 dX11_canMake_56 rfl rfl ?_
      refine c_callSi hc hr mt_X11_isPlace lm_X11_93 (ok_X11_isPlace hw) (Nat.le_of_ble_eq_true rfl) dX11_canMake_57 rfl (rest := []) rfl (Nat.le_of_ble_eq_true rfl) (fun r1 S1 hw => ?_)
      exact c_zret hc hr dX11_canMake_60 hw.1 hw.2
    | 1, _, cq =>
      have cq : x1 = 1 := cq
      have hw := hw.2.1 cq
      refine m_tin hc (off := 55) 56 dX11_canMake_1 (by rw [cq]; decide) (by rw [cq]; decide) (by rw [cq]; rfl) rfl ?_
      refine m_iload_n hc 3 dX11_canMake_56 rfl rfl ?_
      refine c_callSi hc hr mt_X11_isPlace lm_X11_93 (ok_X11_isPlace hw) (Nat.le_of_ble_eq_true rfl) dX11_canMake_57 rfl (rest := []) rfl (Nat.le_of_ble_eq_true rfl) (fun r2 S2 hw => ?_)
      exact c_zret hc hr dX11_canMake_60 hw.1 hw.2
    | 2, _, cq =>
      have cq : x1 = 2 := cq
      have hw := hw.2.2.1 cq
      refine m_tin hc (off := 55) 56 dX11_canMake_1 (by rw [cq]; decide) (by rw [cq]; decide) (by rw [cq]; rfl) rfl ?_
      refine m_iload_n hc 3 dX11_canMake_56 rfl rfl ?_
      refine c_callSi hc hr mt_X11_isPlace lm_X11_93 (ok_X11_isPlace hw) (Nat.le_of_ble_eq_true rfl) dX11_canMake_57 rfl (rest := []) rfl (Nat.le_of_ble_eq_true rfl) (fun r3 S3 hw => ?_)
      exact c_zret hc hr dX11_canMake_60 hw.1 hw.2
    | 3, _, cq =>
      have cq : x1 = 3 := cq
      have hw := hw.2.2.2.1 cq
      refine m_tin hc (off := 60) 61 dX11_canMake_1 (by rw [cq]; decide) (by rw [cq]; decide) (by rw [cq]; rfl) rfl ?_
      refine m_iload_n hc 3 dX11_canMake_61 rfl rfl ?_
      refine m_if_lt hc 74 dX11_canMake_62 rfl (fun cq => ?_) (fun cq => ?_)
      · have hw := hw.1 cq
        refine m_iconst hc 0 dX11_canMake_74 (by decide) ?_
        exact c_zret hc hr dX11_canMake_75 (by decide) hw
      · have hw := hw.2 cq
        refine m_iload_n hc 3 dX11_canMake_65 rfl rfl ?_
        refine m_iconst hc 3 dX11_canMake_66 (by decide) ?_
        refine m_icmp_ge hc 74 dX11_canMake_67 rfl (fun cq => ?_) (fun cq => ?_)
        · have hw := hw.1 cq
          refine m_iconst hc 0 dX11_canMake_74 (by decide) ?_
          exact c_zret hc hr dX11_canMake_75 (by decide) hw
        · have hw := hw.2 cq
          refine m_iconst hc 1 dX11_canMake_70 (by decide) ?_
          refine m_goto hc 75 dX11_canMake_71 rfl ?_
          exact c_zret hc hr dX11_canMake_75 (by decide) hw
    | 4, _, cq =>
      have cq : x1 = 4 := cq
      have hw := hw.2.2.2.2.1 cq
      refine m_tin hc (off := 75) 76 dX11_canMake_1 (by rw [cq]; decide) (by rw [cq]; decide) (by rw [cq]; rfl) rfl ?_
      refine m_iload_n hc 3 dX11_canMake_76 rfl rfl ?_
      refine m_if_lt hc 90 dX11_canMake_77 rfl (fun cq => ?_) (fun cq => ?_)
      · have hw := hw.1 cq
        refine m_iconst hc 0 dX11_canMake_90 (by decide) ?_
        exact c_zret hc hr dX11_canMake_91 (by decide) hw
      · have hw := hw.2 cq
        refine m_iload_n hc 3 dX11_canMake_80 rfl rfl ?_
        refine m_bipush hc 9 dX11_canMake_81 (by decide) ?_
        refine m_icmp_gt hc 90 dX11_canMake_83 rfl (fun cq => ?_) (fun cq => ?_)
        · have hw := hw.1 cq
          refine m_iconst hc 0 dX11_canMake_90 (by decide) ?_
          exact c_zret hc hr dX11_canMake_91 (by decide) hw
        · have hw := hw.2 cq
          refine m_iconst hc 1 dX11_canMake_86 (by decide) ?_
          refine m_goto hc 91 dX11_canMake_87 rfl ?_
          exact c_zret hc hr dX11_canMake_91 (by decide) hw
    | 5, _, cq =>
      have cq : x1 = 5 := cq
      have hw := hw.2.2.2.2.2.1 cq
      refine m_tin hc (off := 91) 92 dX11_canMake_1 (by rw [cq]; decide) (by rw [cq]; decide) (by rw [cq]; rfl) rfl ?_
      refine m_iload_n hc 3 dX11_canMake_92 rfl rfl ?_
      refine m_if_lt hc 106 dX11_canMake_93 rfl (fun cq => ?_) (fun cq => ?_)
      · have hw := hw.1 cq
        refine m_iconst hc 0 dX11_canMake_106 (by decide) ?_
        exact c_zret hc hr dX11_canMake_107 (by decide) hw
      · have hw := hw.2 cq
        refine m_iload_n hc 3 dX11_canMake_96 rfl rfl ?_
        refine m_bipush hc 120 dX11_canMake_97 (by decide) ?_
        refine m_icmp_gt hc 106 dX11_canMake_99 rfl (fun cq => ?_) (fun cq => ?_)
        · have hw := hw.1 cq
          refine m_iconst hc 0 dX11_canMake_106 (by decide) ?_
          exact c_zret hc hr dX11_canMake_107 (by decide) hw
        · have hw := hw.2 cq
          refine m_iconst hc 1 dX11_canMake_102 (by decide) ?_
          refine m_goto hc 107 dX11_canMake_103 rfl ?_
          exact c_zret hc hr dX11_canMake_107 (by decide) hw
    | 6, _, cq =>
      have cq : x1 = 6 := cq
      have hw := hw.2.2.2.2.2.2.1 cq
      refine m_tin hc (off := 107) 108 dX11_canMake_1 (by rw [cq]; decide) (by rw [cq]; decide) (by rw [cq]; rfl) rfl ?_
      refine m_iconst hc 1 dX11_canMake_108 (by decide) ?_
      exact c_zret hc hr dX11_canMake_109 (by decide) hw
    | 7, _, cq =>
      have cq : x1 = 7 := cq
      have hw := hw.2.2.2.2.2.2.2.1 cq
      refine m_tin hc (off := 109) 110 dX11_canMake_1 (by rw [cq]; decide) (by rw [cq]; decide) (by rw [cq]; rfl) rfl ?_
      refine m_aload_n hc 0 dX11_canMake_110 rfl rfl ?_
      obtain ⟨ht, b4, e_b4, hw⟩ := hw
      refine c_getr hc hr ciX11 (Nat.le_of_ble_eq_true rfl) 1 (Nat.le_of_ble_eq_true rfl) rfl dX11_canMake_111 lf_X11_18 ht e_b4 ?_
      refine m_iload_n hc 2 dX11_canMake_114 rfl rfl ?_
      obtain ⟨ht, hi, b5, e_b5, hw⟩ := hw
      refine c_aald hc hr ht hi e_b5 dX11_canMake_115 ?_
      obtain ⟨ht, hw⟩ := hw
      refine c_geti hc hr ciX6 (Nat.le_of_ble_eq_true rfl) 2 (Nat.le_of_ble_eq_true rfl) rfl dX11_canMake_116 lf_X11_146 ht ?_
      refine m_if_le hc 126 dX11_canMake_119 rfl (fun cq => ?_) (fun cq => ?_)
      · have hw := hw.1 cq
        refine m_iconst hc 0 dX11_canMake_126 (by decide) ?_
        exact c_zret hc hr dX11_canMake_127 (by decide) hw
      · have hw := hw.2 cq
        refine m_iconst hc 1 dX11_canMake_122 (by decide) ?_
        refine m_goto hc 127 dX11_canMake_123 rfl ?_
        exact c_zret hc hr dX11_canMake_127 (by decide) hw
    | 8, _, cq =>
      have cq : x1 = 8 := cq
      have hw := hw.2.2.2.2.2.2.2.2.1 cq
      refine m_tin hc (off := 127) 128 dX11_canMake_1 (by rw [cq]; decide) (by rw [cq]; decide) (by rw [cq]; rfl) rfl ?_
      refine m_iload_n hc 3 dX11_canMake_128 rfl rfl ?_
      refine c_callSi hc hr mt_X11_isPlace lm_X11_93 (ok_X11_isPlace hw) (Nat.le_of_ble_eq_true rfl) dX11_canMake_129 rfl (rest := []) rfl (Nat.le_of_ble_eq_true rfl) (fun r6 S6 hw => ?_)
      refine m_if_eq hc 163 dX11_canMake_132 rfl (fun cq => ?_) (fun cq => ?_)
      · have hw := hw.1 cq
        refine m_iconst hc 0 dX11_canMake_163 (by decide) ?_
        exact c_zret hc hr dX11_canMake_164 (by decide) hw
      · have hw := hw.2 cq
        refine m_aload_n hc 0 dX11_canMake_135 rfl rfl ?_
        obtain ⟨ht, b7, e_b7, hw⟩ := hw
        refine c_getr hc hr ciX11 (Nat.le_of_ble_eq_true rfl) 1 (Nat.le_of_ble_eq_true rfl) rfl dX11_canMake_136 lf_X11_18 ht e_b7 ?_
        refine m_iload_n hc 2 dX11_canMake_139 rfl rfl ?_
        obtain ⟨ht, hi, b8, e_b8, hw⟩ := hw
        refine c_aald hc hr ht hi e_b8 dX11_canMake_140 ?_
        obtain ⟨ht, hw⟩ := hw
        refine c_callVi hc hr ciX6 (Nat.le_of_ble_eq_true rfl) ht mt_X6_isInXAlone rfl lm_X11_304 (ok_X6_isInXAlone hw) (Nat.le_of_ble_eq_true rfl) dX11_canMake_141 rfl (rest := []) rfl (Nat.le_of_ble_eq_true rfl) (fun r9 S9 hw => ?_)
        refine m_if_eq hc 163 dX11_canMake_144 rfl (fun cq => ?_) (fun cq => ?_)
        · have hw := hw.1 cq
          refine m_iconst hc 0 dX11_canMake_163 (by decide) ?_
          exact c_zret hc hr dX11_canMake_164 (by decide) hw
        · have hw := hw.2 cq
          refine m_aload_n hc 0 dX11_canMake_147 rfl rfl ?_
          obtain ⟨ht, b10, e_b10, hw⟩ := hw
          refine c_getr hc hr ciX11 (Nat.le_of_ble_eq_true rfl) 1 (Nat.le_of_ble_eq_true rfl) rfl dX11_canMake_148 lf_X11_18 ht e_b10 ?_
          refine m_iload_n hc 3 dX11_canMake_151 rfl rfl ?_
          obtain ⟨ht, hi, b11, e_b11, hw⟩ := hw
          refine c_aald hc hr ht hi e_b11 dX11_canMake_152 ?_
          obtain ⟨ht, hw⟩ := hw
          refine c_callVi hc hr ciX6 (Nat.le_of_ble_eq_true rfl) ht mt_X6_isInXAlone rfl lm_X11_304 (ok_X6_isInXAlone hw) (Nat.le_of_ble_eq_true rfl) dX11_canMake_153 rfl (rest := []) rfl (Nat.le_of_ble_eq_true rfl) (fun r12 S12 hw => ?_)
          refine m_if_eq hc 163 dX11_canMake_156 rfl (fun cq => ?_) (fun cq => ?_)
          · have hw := hw.1 cq
            refine m_iconst hc 0 dX11_canMake_163 (by decide) ?_
            exact c_zret hc hr dX11_canMake_164 (by decide) hw
          · have hw := hw.2 cq
            refine m_iconst hc 1 dX11_canMake_159 (by decide) ?_
            refine m_goto hc 164 dX11_canMake_160 rfl ?_
            exact c_zret hc hr dX11_canMake_164 (by decide) hw
    | 9, _, cq =>
      have cq : x1 = 9 := cq
      have hw := hw.2.2.2.2.2.2.2.2.2 cq
      refine m_tin hc (off := 164) 165 dX11_canMake_1 (by rw [cq]; decide) (by rw [cq]; decide) (by rw [cq]; rfl) rfl ?_
      refine m_iload_n hc 3 dX11_canMake_165 rfl rfl ?_
      refine m_if_lt hc 178 dX11_canMake_166 rfl (fun cq => ?_) (fun cq => ?_)
      · have hw := hw.1 cq
        refine m_iconst hc 0 dX11_canMake_178 (by decide) ?_
        exact c_zret hc hr dX11_canMake_179 (by decide) hw
      · have hw := hw.2 cq
        refine m_iload_n hc 3 dX11_canMake_169 rfl rfl ?_
        refine m_iconst hc 5 dX11_canMake_170 (by decide) ?_
        refine m_icmp_gt hc 178 dX11_canMake_171 rfl (fun cq => ?_) (fun cq => ?_)
        · have hw := hw.1 cq
          refine m_iconst hc 0 dX11_canMake_178 (by decide) ?_
          exact c_zret hc hr dX11_canMake_179 (by decide) hw
        · have hw := hw.2 cq
          refine m_iconst hc 1 dX11_canMake_174 (by decide) ?_
          refine m_goto hc 179 dX11_canMake_175 rfl ?_
          exact c_zret hc hr dX11_canMake_179 (by decide) hw
    | nn + 10, cl, _ => exact absurd cl (by omega)
