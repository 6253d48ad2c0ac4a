def wb_X8_readNumber_5 (M : Nat × Nat) (K5 : Nat → HS → Prop) (K : Int32 → HS → Prop) (x0 : Nat) (S : HS) : Prop := hT S x0 = 9 ∧ hT S x0 = 9 ∧ ((hI S x0 2) ≤ (hI S x0 5) → K 0 S) ∧ (¬ ((hI S x0 2) ≤ (hI S x0 5)) → hT S x0 = 9 ∧ ∃ b1 : Nat, hP S x0 1 = some b1 ∧ hT S x0 = 9 ∧ hT S b1 = 21 ∧ vp_in (hI S x0 5) (hN S b1) ∧ wp_X8_isFigure M (hI S b1 (Int32.toNatClampNeg (hI S x0 5))) S (fun r2 S2 => (r2 = 0 → K 0 S2) ∧ (¬ (r2 = 0) → hT S2 x0 = 9 ∧ hT S2 x0 = 9 ∧ ∃ b3 : Nat, hP S2 x0 1 = some b3 ∧ hT S2 x0 = 9 ∧ hT S2 b3 = 21 ∧ vp_in (hI S2 x0 5) (hN S2 b3) ∧ hT S2 x0 = 9 ∧ hT (sI S2 x0 7 (if 1000 < (((hI S2 x0 7) * 10) + (hI S2 b3 (Int32.toNatClampNeg (hI S2 x0 5)))) - 48 then 1000 else (((hI S2 x0 7) * 10) + (hI S2 b3 (Int32.toNatClampNeg (hI S2 x0 5)))) - 48)) x0 = 9 ∧ hT (sI S2 x0 7 (if 1000 < (((hI S2 x0 7) * 10) + (hI S2 b3 (Int32.toNatClampNeg (hI S2 x0 5)))) - 48 then 1000 else (((hI S2 x0 7) * 10) + (hI S2 b3 (Int32.toNatClampNeg (hI S2 x0 5)))) - 48)) x0 = 9 ∧ K5 x0 (sI (sI S2 x0 7 (if 1000 < (((hI S2 x0 7) * 10) + (hI S2 b3 (Int32.toNatClampNeg (hI S2 x0 5)))) - 48 then 1000 else (((hI S2 x0 7) * 10) + (hI S2 b3 (Int32.toNatClampNeg (hI S2 x0 5)))) - 48)) x0 5 ((hI (sI S2 x0 7 (if 1000 < (((hI S2 x0 7) * 10) + (hI S2 b3 (Int32.toNatClampNeg (hI S2 x0 5)))) - 48 then 1000 else (((hI S2 x0 7) * 10) + (hI S2 b3 (Int32.toNatClampNeg (hI S2 x0 5)))) - 48)) x0 5) + 1)))))
def wl_X8_readNumber_5 (M : Nat × Nat) (K : Int32 → HS → Prop) : Nat → Nat → HS → Prop
  | 0 => fun _ _ => False
  | nn + 1 => wb_X8_readNumber_5 M (wl_X8_readNumber_5 M K nn) K
set_option maxHeartbeats 4000000 in
set_option maxRecDepth 100000 in
theorem l_X8_readNumber_5 {G : CG} {S0 : HS} {X : Fx} {K : Int32 → HS → Prop} (hc : Cx X RX8 cX8_readNumber 1) (hr : Cc G S0 1 none (kV K) X) : ∀ (nn : Nat) (x0 : Nat) (S : HS), wl_X8_readNumber_5 (gC G, gS G) K nn x0 S → MC G S0 X 1 S 5 [(0, .ref x0)] [] := by
  intro nn
  induction nn with
  | zero => intro x0 S hw; exact False.elim hw
  | succ nn ih =>
    intro x0 S hw
    have hw : wb_X8_readNumber_5 (gC G, gS G) (wl_X8_readNumber_5 (gC G, gS G) K nn) K x0 S := hw
    have h5 := ih
    generalize wl_X8_readNumber_5 (gC G, gS G) K nn = K5 at hw h5
    unfold wb_X8_readNumber_5 at hw
    refine m_aload_n hc 0 dX8_readNumber_5 rfl rfl ?_
    obtain ⟨ht, hw⟩ := hw
    refine c_geti hc hr ciX8 (Nat.le_of_ble_eq_true rfl) 5 (Nat.le_of_ble_eq_true rfl) rfl dX8_readNumber_6 lf_X8_19 ht ?_
    refine m_aload_n hc 0 dX8_readNumber_9 rfl rfl ?_
    obtain ⟨ht, hw⟩ := hw
    refine c_geti hc hr ciX8 (Nat.le_of_ble_eq_true rfl) 2 (Nat.le_of_ble_eq_true rfl) rfl dX8_readNumber_10 lf_X8_34 ht ?_
    refine m_icmp_ge hc 74 dX8_readNumber_13 rfl (fun cq => ?_) (fun cq => ?_)
    · have hw := hw.1 cq
      exact c_vret hc hr dX8_readNumber_74 hw
    · have hw := hw.2 cq
      refine m_aload_n hc 0 dX8_readNumber_16 rfl rfl ?_
      obtain ⟨ht, b1, e_b1, hw⟩ := hw
      refine c_getr hc hr ciX8 (Nat.le_of_ble_eq_true rfl) 1 (Nat.le_of_ble_eq_true rfl) rfl dX8_readNumber_17 lf_X8_31 ht e_b1 ?_
      refine m_aload_n hc 0 dX8_readNumber_20 rfl rfl ?_
      obtain ⟨ht, hw⟩ := hw
      refine c_geti hc hr ciX8 (Nat.le_of_ble_eq_true rfl) 5 (Nat.le_of_ble_eq_true rfl) rfl dX8_readNumber_21 lf_X8_19 ht ?_
      obtain ⟨ht, hi, hw⟩ := hw
      refine c_iald hc hr ht hi dX8_readNumber_24 ?_
      refine c_callSi hc hr mt_X8_isFigure lm_X8_54 (ok_X8_isFigure hw) (Nat.le_of_ble_eq_true rfl) dX8_readNumber_25 rfl (rest := []) rfl (Nat.le_of_ble_eq_true rfl) (fun r2 S2 hw => ?_)
      refine m_if_eq hc 74 dX8_readNumber_28 rfl (fun cq => ?_) (fun cq => ?_)
      · have hw := hw.1 cq
        exact c_vret hc hr dX8_readNumber_74 hw
      · have hw := hw.2 cq
        refine m_aload_n hc 0 dX8_readNumber_31 rfl rfl ?_
        refine m_aload_n hc 0 dX8_readNumber_32 rfl rfl ?_
        obtain ⟨ht, hw⟩ := hw
        refine c_geti hc hr ciX8 (Nat.le_of_ble_eq_true rfl) 7 (Nat.le_of_ble_eq_true rfl) rfl dX8_readNumber_33 lf_X8_25 ht ?_
        refine m_bipush hc 10 dX8_readNumber_36 (by decide) ?_
        refine m_imul hc dX8_readNumber_38 ?_
        refine m_aload_n hc 0 dX8_readNumber_39 rfl rfl ?_
        obtain ⟨ht, b3, e_b3, hw⟩ := hw
        refine c_getr hc hr ciX8 (Nat.le_of_ble_eq_true rfl) 1 (Nat.le_of_ble_eq_true rfl) rfl dX8_readNumber_40 lf_X8_31 ht e_b3 ?_
        refine m_aload_n hc 0 dX8_readNumber_43 rfl rfl ?_
        obtain ⟨ht, hw⟩ := hw
        refine c_geti hc hr ciX8 (Nat.le_of_ble_eq_true rfl) 5 (Nat.le_of_ble_eq_true rfl) rfl dX8_readNumber_44 lf_X8_19 ht ?_
        obtain ⟨ht, hi, hw⟩ := hw
        refine c_iald hc hr ht hi dX8_readNumber_47 ?_
        refine m_iadd hc dX8_readNumber_48 ?_
        refine m_bipush hc 48 dX8_readNumber_49 (by decide) ?_
        refine m_isub hc dX8_readNumber_51 ?_
        refine m_sipush hc 1000 dX8_readNumber_52 (by decide) ?_
        refine c_bnd (fun g1 g2 => ?_)
        refine m_mmin hc dX8_readNumber_55 lm_X8_61 lM_min (c_room hr g1 g2) (Nat.le_of_ble_eq_true rfl) ?_
        obtain ⟨ht, hw⟩ := hw
        refine c_puti hc hr ciX8 (Nat.le_of_ble_eq_true rfl) 7 (Nat.le_of_ble_eq_true rfl) rfl dX8_readNumber_58 lf_X8_25 ht (Or.inl rfl) ⟨rfl, rfl⟩ ?_
        refine m_aload_n hc 0 dX8_readNumber_61 rfl rfl ?_
        refine m_dup hc dX8_readNumber_62 rfl ?_
        obtain ⟨ht, hw⟩ := hw
        refine c_geti hc hr ciX8 (Nat.le_of_ble_eq_true rfl) 5 (Nat.le_of_ble_eq_true rfl) rfl dX8_readNumber_63 lf_X8_19 ht ?_
        refine m_iconst hc 1 dX8_readNumber_66 (by decide) ?_
        refine m_iadd hc dX8_readNumber_67 ?_
        obtain ⟨ht, hw⟩ := hw
        refine c_puti hc hr ciX8 (Nat.le_of_ble_eq_true rfl) 5 (Nat.le_of_ble_eq_true rfl) rfl dX8_readNumber_68 lf_X8_19 ht (Or.inl rfl) ⟨rfl, rfl⟩ ?_
        refine m_goto hc 5 dX8_readNumber_71 rfl ?_
        exact h5 x0 (sI (sI S2 x0 7 (if 1000 < (((hI S2 x0 7) * 10) + (hI S2 b3 (Int32.toNatClampNeg (hI S2 x0 5)))) - 48 then 1000 else (((hI S2 x0 7) * 10) + (hI S2 b3 (Int32.toNatClampNeg (hI S2 x0 5)))) - 48)) x0 5 ((hI (sI S2 x0 7 (if 1000 < (((hI S2 x0 7) * 10) + (hI S2 b3 (Int32.toNatClampNeg (hI S2 x0 5)))) - 48 then 1000 else (((hI S2 x0 7) * 10) + (hI S2 b3 (Int32.toNatClampNeg (hI S2 x0 5)))) - 48)) x0 5) + 1)) hw
def wp_X8_readNumber (M : Nat × Nat) (x0 : Nat) (S : HS) (K : Int32 → HS → Prop) : Prop := hT S x0 = 9 ∧ ∃ nn : Nat, wl_X8_readNumber_5 M K nn x0 (sI S x0 7 0)
set_option maxHeartbeats 4000000 in
set_option maxRecDepth 100000 in
theorem ok_X8_readNumber {G : CG} {x0 : Nat} {S : HS} {K : Int32 → HS → Prop} (hw : wp_X8_readNumber (gC G, gS G) x0 S K) : CC 1 yX8_readNumber cX8_readNumber 1 none [.ref x0] G S (kV K) := by
  refine CC.of (by decide +kernel) (Nat.le_of_ble_eq_true rfl) (fun X hc hr hname => ?_)
  show MC G S X 1 S 0 [(0, .ref x0)] []
  unfold wp_X8_readNumber at hw
  refine m_aload_n hc 0 dX8_readNumber_0 rfl rfl ?_
  refine m_iconst hc 0 dX8_readNumber_1 (by decide) ?_
  obtain ⟨ht, hw⟩ := hw
  refine c_puti hc hr ciX8 (Nat.le_of_ble_eq_true rfl) 7 (Nat.le_of_ble_eq_true rfl) rfl dX8_readNumber_2 lf_X8_25 ht (Or.inl rfl) ⟨rfl, rfl⟩ ?_
  obtain ⟨nn, hw⟩ := hw
  exact l_X8_readNumber_5 hc hr nn x0 (sI S x0 7 0) hw
def w_X8_readToken_52 (M : Nat × Nat) (K : Int32 → HS → Prop) (x0 : Nat) (S : HS) : Prop := hT S x0 = 9 ∧ hT S x0 = 9 ∧ hT (sI S x0 0 (hI S x0 5)) x0 = 9 ∧ hT (sI S x0 0 (hI S x0 5)) x0 = 9 ∧ ((hI (sI S x0 0 (hI S x0 5)) x0 5) < (hI (sI S x0 0 (hI S x0 5)) x0 2) → hT (sI S x0 0 (hI S x0 5)) x0 = 9 ∧ ∃ b1 : Nat, hP (sI S x0 0 (hI S x0 5)) x0 1 = some b1 ∧ hT (sI S x0 0 (hI S x0 5)) x0 = 9 ∧ hT (sI S x0 0 (hI S x0 5)) b1 = 21 ∧ vp_in (hI (sI S x0 0 (hI S x0 5)) x0 5) (hN (sI S x0 0 (hI S x0 5)) b1) ∧ wp_X8_isFigure M (hI (sI S x0 0 (hI S x0 5)) b1 (Int32.toNatClampNeg (hI (sI S x0 0 (hI S x0 5)) x0 5))) (sI S x0 0 (hI S x0 5)) (fun r2 S2 => (r2 = 0 → hT S2 x0 = 9 ∧ ∃ b3 : Nat, hP S2 x0 1 = some b3 ∧ hT S2 x0 = 9 ∧ hT S2 b3 = 21 ∧ vp_in (hI S2 x0 5) (hN S2 b3) ∧ hT S2 x0 = 9 ∧ hT (sI S2 x0 6 (hI S2 b3 (Int32.toNatClampNeg (hI S2 x0 5)))) x0 = 9 ∧ hT (sI S2 x0 6 (hI S2 b3 (Int32.toNatClampNeg (hI S2 x0 5)))) x0 = 9 ∧ K 0 (sI (sI S2 x0 6 (hI S2 b3 (Int32.toNatClampNeg (hI S2 x0 5)))) x0 5 ((hI (sI S2 x0 6 (hI S2 b3 (Int32.toNatClampNeg (hI S2 x0 5)))) x0 5) + 1))) ∧ (¬ (r2 = 0) → hT S2 x0 = 9 ∧ hT (sI S2 x0 6 256) x0 = 9 ∧ wp_X8_readNumber M x0 (sI S2 x0 6 256) (fun r4 S4 => K 0 S4)))) ∧ (¬ ((hI (sI S x0 0 (hI S x0 5)) x0 5) < (hI (sI S x0 0 (hI S x0 5)) x0 2)) → hT (sI S x0 0 (hI S x0 5)) x0 = 9 ∧ K 0 (sI (sI S x0 0 (hI S x0 5)) x0 6 257))
set_option maxHeartbeats 4000000 in
set_option maxRecDepth 100000 in
theorem b_X8_readToken_52 {G : CG} {S0 : HS} {X : Fx} {K : Int32 → HS → Prop} (hc : Cx X RX8 cX8_readToken 1) (hr : Cc G S0 2 none (kV K) X) : ∀ (x0 : Nat) (S : HS), w_X8_readToken_52 (gC G, gS G) K x0 S → MC G S0 X 1 S 52 [(0, .ref x0)] [] := by
  intro x0 S hw
  unfold w_X8_readToken_52 at hw
  refine m_aload_n hc 0 dX8_readToken_52 rfl rfl ?_
  refine m_aload_n hc 0 dX8_readToken_53 rfl rfl ?_
  obtain ⟨ht, hw⟩ := hw
  refine c_geti hc hr ciX8 (Nat.le_of_ble_eq_true rfl) 5 (Nat.le_of_ble_eq_true rfl) rfl dX8_readToken_54 lf_X8_19 ht ?_
  obtain ⟨ht, hw⟩ := hw
  refine c_puti hc hr ciX8 (Nat.le_of_ble_eq_true rfl) 0 (Nat.le_of_ble_eq_true rfl) rfl dX8_readToken_57 lf_X8_9 ht (Or.inl rfl) ⟨rfl, rfl⟩ ?_
  refine m_aload_n hc 0 dX8_readToken_60 rfl rfl ?_
  obtain ⟨ht, hw⟩ := hw
  refine c_geti hc hr ciX8 (Nat.le_of_ble_eq_true rfl) 5 (Nat.le_of_ble_eq_true rfl) rfl dX8_readToken_61 lf_X8_19 ht ?_
  refine m_aload_n hc 0 dX8_readToken_64 rfl rfl ?_
  obtain ⟨ht, hw⟩ := hw
  refine c_geti hc hr ciX8 (Nat.le_of_ble_eq_true rfl) 2 (Nat.le_of_ble_eq_true rfl) rfl dX8_readToken_65 lf_X8_34 ht ?_
  refine m_icmp_lt hc 81 dX8_readToken_68 rfl (fun cq => ?_) (fun cq => ?_)
  · have hw := hw.1 cq
    refine m_aload_n hc 0 dX8_readToken_81 rfl rfl ?_
    obtain ⟨ht, b1, e_b1, hw⟩ := hw
    refine c_getr hc hr ciX8 (Nat.le_of_ble_eq_true rfl) 1 (Nat.le_of_ble_eq_true rfl) rfl dX8_readToken_82 lf_X8_31 ht e_b1 ?_
    refine m_aload_n hc 0 dX8_readToken_85 rfl rfl ?_
    obtain ⟨ht, hw⟩ := hw
    refine c_geti hc hr ciX8 (Nat.le_of_ble_eq_true rfl) 5 (Nat.le_of_ble_eq_true rfl) rfl dX8_readToken_86 lf_X8_19 ht ?_
    obtain ⟨ht, hi, hw⟩ := hw
    refine c_iald hc hr ht hi dX8_readToken_89 ?_
    refine c_callSi hc hr mt_X8_isFigure lm_X8_54 (ok_X8_isFigure hw) (Nat.le_of_ble_eq_true rfl) dX8_readToken_90 rfl (rest := []) rfl (Nat.le_of_ble_eq_true rfl) (fun r2 S2 hw => ?_)
    refine m_if_eq hc 110 dX8_readToken_93 rfl (fun cq => ?_) (fun cq => ?_)
    · have hw := hw.1 cq
      refine m_aload_n hc 0 dX8_readToken_110 rfl rfl ?_
      refine m_aload_n hc 0 dX8_readToken_111 rfl rfl ?_
      obtain ⟨ht, b3, e_b3, hw⟩ := hw
      refine c_getr hc hr ciX8 (Nat.le_of_ble_eq_true rfl) 1 (Nat.le_of_ble_eq_true rfl) rfl dX8_readToken_112 lf_X8_31 ht e_b3 ?_
      refine m_aload_n hc 0 dX8_readToken_115 rfl rfl ?_
      obtain ⟨ht, hw⟩ := hw
      refine c_geti hc hr ciX8 (Nat.le_of_ble_eq_true rfl) 5 (Nat.le_of_ble_eq_true rfl) rfl dX8_readToken_116 lf_X8_19 ht ?_
      obtain ⟨ht, hi, hw⟩ := hw
      refine c_iald hc hr ht hi dX8_readToken_119 ?_
      obtain ⟨ht, hw⟩ := hw
      refine c_puti hc hr ciX8 (Nat.le_of_ble_eq_true rfl) 6 (Nat.le_of_ble_eq_true rfl) rfl dX8_readToken_120 lf_X8_22 ht (Or.inl rfl) ⟨rfl, rfl⟩ ?_
      refine m_aload_n hc 0 dX8_readToken_123 rfl rfl ?_
      refine m_dup hc dX8_readToken_124 rfl ?_
      obtain ⟨ht, hw⟩ := hw
      refine c_geti hc hr ciX8 (Nat.le_of_ble_eq_true rfl) 5 (Nat.le_of_ble_eq_true rfl) rfl dX8_readToken_125 lf_X8_19 ht ?_
      refine m_iconst hc 1 dX8_readToken_128 (by decide) ?_
      refine m_iadd hc dX8_readToken_129 ?_
      obtain ⟨ht, hw⟩ := hw
      refine c_puti hc hr ciX8 (Nat.le_of_ble_eq_true rfl) 5 (Nat.le_of_ble_eq_true rfl) rfl dX8_readToken_130 lf_X8_19 ht (Or.inl rfl) ⟨rfl, rfl⟩ ?_
      exact c_vret hc hr dX8_readToken_133 hw
    · have hw := hw.2 cq
      refine m_aload_n hc 0 dX8_readToken_96 rfl rfl ?_
      refine m_sipush hc 256 dX8_readToken_97 (by decide) ?_
      obtain ⟨ht, hw⟩ := hw
      refine c_puti hc hr ciX8 (Nat.le_of_ble_eq_true rfl) 6 (Nat.le_of_ble_eq_true rfl) rfl dX8_readToken_100 lf_X8_22 ht (Or.inl rfl) ⟨rfl, rfl⟩ ?_
      refine m_aload_n hc 0 dX8_readToken_103 rfl rfl ?_
      obtain ⟨ht, hw⟩ := hw
      refine c_callVv hc hr ciX8 (Nat.le_of_ble_eq_true rfl) ht mt_X8_readNumber rfl lm_X8_58 (ok_X8_readNumber hw) (Nat.le_of_ble_eq_true rfl) dX8_readToken_104 rfl (rest := []) rfl (Nat.le_of_ble_eq_true rfl) (fun S4 hw => ?_)
      refine m_goto hc 133 dX8_readToken_107 rfl ?_
      exact c_vret hc hr dX8_readToken_133 hw
  · have hw := hw.2 cq
    refine m_aload_n hc 0 dX8_readToken_71 rfl rfl ?_
    refine m_sipush hc 257 dX8_readToken_72 (by decide) ?_
    obtain ⟨ht, hw⟩ := hw
    refine c_puti hc hr ciX8 (Nat.le_of_ble_eq_true rfl) 6 (Nat.le_of_ble_eq_true rfl) rfl dX8_readToken_75 lf_X8_22 ht (Or.inl rfl) ⟨rfl, rfl⟩ ?_
    refine m_goto hc 133 dX8_readToken_78 rfl ?_
    exact c_vret hc hr dX8_readToken_133 hw
def w_X8_readToken_39 (M : Nat × Nat) (K0 : Nat → HS → Prop) (K : Int32 → HS → Prop) (x0 : Nat) (S : HS) : Prop := hT S x0 = 9 ∧ hT S x0 = 9 ∧ K0 x0 (sI S x0 5 ((hI S x0 5) + 1))
set_option maxHeartbeats 4000000 in
set_option maxRecDepth 100000 in
theorem b_X8_readToken_39 {G : CG} {S0 : HS} {X : Fx} {K : Int32 → HS → Prop} (hc : Cx X RX8 cX8_readToken 1) (hr : Cc G S0 2 none (kV K) X) (K0 : Nat → HS → Prop) (h0 : ∀ (x0 : Nat) (S : HS), K0 x0 S → MC G S0 X 1 S 0 [(0, .ref x0)] []) : ∀ (x0 : Nat) (S : HS), w_X8_readToken_39 (gC G, gS G) K0 K x0 S → MC G S0 X 1 S 39 [(0, .ref x0)] [] := by
  intro x0 S hw
  unfold w_X8_readToken_39 at hw
  refine m_aload_n hc 0 dX8_readToken_39 rfl rfl ?_
  refine m_dup hc dX8_readToken_40 rfl ?_
  obtain ⟨ht, hw⟩ := hw
  refine c_geti hc hr ciX8 (Nat.le_of_ble_eq_true rfl) 5 (Nat.le_of_ble_eq_true rfl) rfl dX8_readToken_41 lf_X8_19 ht ?_
  refine m_iconst hc 1 dX8_readToken_44 (by decide) ?_
  refine m_iadd hc dX8_readToken_45 ?_
  obtain ⟨ht, hw⟩ := hw
  refine c_puti hc hr ciX8 (Nat.le_of_ble_eq_true rfl) 5 (Nat.le_of_ble_eq_true rfl) rfl dX8_readToken_46 lf_X8_19 ht (Or.inl rfl) ⟨rfl, rfl⟩ ?_
  refine m_goto hc 0 dX8_readToken_49 rfl ?_
  exact h0 x0 (sI S x0 5 ((hI S x0 5) + 1)) hw
def wb_X8_readToken_0 (M : Nat × Nat) (K0 : Nat → HS → Prop) (K : Int32 → HS → Prop) (x0 : Nat) (S : HS) : Prop := hT S x0 = 9 ∧ hT S x0 = 9 ∧ ((hI S x0 2) ≤ (hI S x0 5) → w_X8_readToken_52 M K x0 S) ∧ (¬ ((hI S x0 2) ≤ (hI S x0 5)) → hT S x0 = 9 ∧ ∃ b1 : Nat, hP S x0 1 = some b1 ∧ hT S x0 = 9 ∧ hT S b1 = 21 ∧ vp_in (hI S x0 5) (hN S b1) ∧ ((hI S b1 (Int32.toNatClampNeg (hI S x0 5))) = 32 → w_X8_readToken_39 M K0 K x0 S) ∧ (¬ ((hI S b1 (Int32.toNatClampNeg (hI S x0 5))) = 32) → hT S x0 = 9 ∧ ∃ b2 : Nat, hP S x0 1 = some b2 ∧ hT S x0 = 9 ∧ hT S b2 = 21 ∧ vp_in (hI S x0 5) (hN S b2) ∧ (¬ (hI S b2 (Int32.toNatClampNeg (hI S x0 5))) = 10 → w_X8_readToken_52 M K x0 S) ∧ ((hI S b2 (Int32.toNatClampNeg (hI S x0 5))) = 10 → w_X8_readToken_39 M K0 K x0 S)))
def wl_X8_readToken_0 (M : Nat × Nat) (K : Int32 → HS → Prop) : Nat → Nat → HS → Prop
  | 0 => fun _ _ => False
  | nn + 1 => wb_X8_readToken_0 M (wl_X8_readToken_0 M K nn) K
set_option maxHeartbeats 4000000 in
set_option maxRecDepth 100000 in
theorem l_X8_readToken_0 {G : CG} {S0 : HS} {X : Fx} {K : Int32 → HS → Prop} (hc : Cx X RX8 cX8_readToken 1) (hr : Cc G S0 2 none (kV K) X) : ∀ (nn : Nat) (x0 : Nat) (S : HS), wl_X8_readToken_0 (gC G, gS G) K nn x0 S → MC G S0 X 1 S 0 [(0, .ref x0)] [] := by
  intro nn
  induction nn with
  | zero => intro x0 S hw; exact False.elim hw
  | succ nn ih =>
    intro x0 S hw
    have hw : wb_X8_readToken_0 (gC G, gS G) (wl_X8_readToken_0 (gC G, gS G) K nn) K x0 S := hw
    have h0 := ih
    generalize wl_X8_readToken_0 (gC G, gS G) K nn = K0 at hw h0
    unfold wb_X8_readToken_0 at hw
    refine m_aload_n hc 0 dX8_readToken_0 rfl rfl ?_
    obtain ⟨ht, hw⟩ := hw
    refine c_geti hc hr ciX8 (Nat.le_of_ble_eq_true rfl) 5 (Nat.le_of_ble_eq_true rfl) rfl dX8_readToken_1 lf_X8_19 ht ?_
    refine m_aload_n hc 0 dX8_readToken_4 rfl rfl ?_
    obtain ⟨ht, hw⟩ := hw
    refine c_geti hc hr ciX8 (Nat.le_of_ble_eq_true rfl) 2 (Nat.le_of_ble_eq_true rfl) rfl dX8_readToken_5 lf_X8_34 ht ?_
    refine m_icmp_ge hc 52 dX8_readToken_8 rfl (fun cq => ?_) (fun cq => ?_)
    · have hw := hw.1 cq
      exact b_X8_readToken_52 hc hr x0 S hw
    · have hw := hw.2 cq
      refine m_aload_n hc 0 dX8_readToken_11 rfl rfl ?_
      obtain ⟨ht, b1, e_b1, hw⟩ := hw
      refine c_getr hc hr ciX8 (Nat.le_of_ble_eq_true rfl) 1 (Nat.le_of_ble_eq_true rfl) rfl dX8_readToken_12 lf_X8_31 ht e_b1 ?_
      refine m_aload_n hc 0 dX8_readToken_15 rfl rfl ?_
      obtain ⟨ht, hw⟩ := hw
      refine c_geti hc hr ciX8 (Nat.le_of_ble_eq_true rfl) 5 (Nat.le_of_ble_eq_true rfl) rfl dX8_readToken_16 lf_X8_19 ht ?_
      obtain ⟨ht, hi, hw⟩ := hw
      refine c_iald hc hr ht hi dX8_readToken_19 ?_
      refine m_bipush hc 32 dX8_readToken_20 (by decide) ?_
      refine m_icmp_eq hc 39 dX8_readToken_22 rfl (fun cq => ?_) (fun cq => ?_)
      · have hw := hw.1 cq
        exact b_X8_readToken_39 hc hr K0 h0 x0 S hw
      · have hw := hw.2 cq
        refine m_aload_n hc 0 dX8_readToken_25 rfl rfl ?_
        obtain ⟨ht, b2, e_b2, hw⟩ := hw
        refine c_getr hc hr ciX8 (Nat.le_of_ble_eq_true rfl) 1 (Nat.le_of_ble_eq_true rfl) rfl dX8_readToken_26 lf_X8_31 ht e_b2 ?_
        refine m_aload_n hc 0 dX8_readToken_29 rfl rfl ?_
        obtain ⟨ht, hw⟩ := hw
        refine c_geti hc hr ciX8 (Nat.le_of_ble_eq_true rfl) 5 (Nat.le_of_ble_eq_true rfl) rfl dX8_readToken_30 lf_X8_19 ht ?_
        obtain ⟨ht, hi, hw⟩ := hw
        refine c_iald hc hr ht hi dX8_readToken_33 ?_
        refine m_bipush hc 10 dX8_readToken_34 (by decide) ?_
        refine m_icmp_ne hc 52 dX8_readToken_36 rfl (fun cq => ?_) (fun cq => ?_)
        · have hw := hw.1 cq
          exact b_X8_readToken_52 hc hr x0 S hw
        · have hw := hw.2 cq
          exact b_X8_readToken_39 hc hr K0 h0 x0 S hw
def wp_X8_readToken (M : Nat × Nat) (x0 : Nat) (S : HS) (K : Int32 → HS → Prop) : Prop := ∃ nn : Nat, wl_X8_readToken_0 M K nn x0 S
set_option maxHeartbeats 4000000 in
set_option maxRecDepth 100000 in
theorem ok_X8_readToken {G : CG} {x0 : Nat} {S : HS} {K : Int32 → HS → Prop} (hw : wp_X8_readToken (gC G, gS G) x0 S K) : CC 2 yX8_readToken cX8_readToken 1 none [.ref x0] G S (kV K) := by
  refine CC.of (by decide +kernel) (Nat.le_of_ble_eq_true rfl) (fun X hc hr hname => ?_)
  show MC G S X 1 S 0 [(0, .ref x0)] []
  unfold wp_X8_readToken at hw
  obtain ⟨nn, hw⟩ := hw
  exact l_X8_readToken_0 hc hr nn x0 S hw
def wp_X8_go (M : Nat × Nat) (x0 : Nat) (x1 : Int32) (S : HS) (K : Int32 → HS → Prop) : Prop := hT S x0 = 9 ∧ K 0 (sI S x0 8 x1)
set_option maxHeartbeats 4000000 in
set_option maxRecDepth 100000 in
theorem ok_X8_go {G : CG} {x0 : Nat} {x1 : Int32} {S : HS} {K : Int32 → HS → Prop} (hw : wp_X8_go (gC G, gS G) x0 x1 S K) : CC 0 yX8_go cX8_go 2 (some .int) [.ref x0, .int x1] G S (kI K) := by
  refine CC.of (by decide +kernel) (Nat.le_of_ble_eq_true rfl) (fun X hc hr hname => ?_)
  show MC G S X 2 S 0 [(0, .ref x0), (1, .int x1)] []
  unfold wp_X8_go at hw
  refine m_aload_n hc 0 dX8_go_0 rfl rfl ?_
  refine m_iload_n hc 1 dX8_go_1 rfl rfl ?_
  obtain ⟨ht, hw⟩ := hw
  refine c_puti hc hr ciX8 (Nat.le_of_ble_eq_true rfl) 8 (Nat.le_of_ble_eq_true rfl) rfl dX8_go_2 lf_X8_28 ht (Or.inl rfl) ⟨rfl, rfl⟩ ?_
  refine m_iconst hc 0 dX8_go_5 (by decide) ?_
  exact c_iret hc hr dX8_go_6 hw
def wp_X8_setAtom (M : Nat × Nat) (x0 : Nat) (x1 : Int32) (S : HS) (K : Int32 → HS → Prop) : Prop := hT S x0 = 9 ∧ (¬ (hI S x0 8) = 3 → hT S x0 = 9 ∧ ∃ b1 : Nat, hP S x0 3 = some b1 ∧ hT S b1 = 8 ∧ ∃ b2 : Nat, hP S b1 4 = some b2 ∧ hT S x0 = 9 ∧ ∃ b3 : Nat, hP S x0 3 = some b3 ∧ hT S b3 = 8 ∧ hT S b2 = 21 ∧ vp_in (hI S b3 0) (hN S b2) ∧ hT (sI S b2 (Int32.toNatClampNeg (hI S b3 0)) x1) x0 = 9 ∧ wp_X8_go M x0 7 (sI S b2 (Int32.toNatClampNeg (hI S b3 0)) x1) (fun r4 S4 => K r4 S4)) ∧ ((hI S x0 8) = 3 → hT S x0 = 9 ∧ ∃ b5 : Nat, hP S x0 3 = some b5 ∧ hT S b5 = 8 ∧ ∃ b6 : Nat, hP S b5 3 = some b6 ∧ hT S x0 = 9 ∧ ∃ b7 : Nat, hP S x0 3 = some b7 ∧ hT S b7 = 8 ∧ hT S b6 = 21 ∧ vp_in (hI S b7 0) (hN S b6) ∧ hT (sI S b6 (Int32.toNatClampNeg (hI S b7 0)) x1) x0 = 9 ∧ wp_X8_go M x0 4 (sI S b6 (Int32.toNatClampNeg (hI S b7 0)) x1) (fun r8 S8 => K r8 S8))
set_option maxHeartbeats 4000000 in
set_option maxRecDepth 100000 in
theorem ok_X8_setAtom {G : CG} {x0 : Nat} {x1 : Int32} {S : HS} {K : Int32 → HS → Prop} (hw : wp_X8_setAtom (gC G, gS G) x0 x1 S K) : CC 1 yX8_setAtom cX8_setAtom 2 (some .int) [.ref x0, .int x1] G S (kI K) := by
  refine CC.of (by decide +kernel) (Nat.le_of_ble_eq_true rfl) (fun X hc hr hname => ?_)
  show MC G S X 2 S 0 [(0, .ref x0), (1, .int x1)] []
  unfold wp_X8_setAtom at hw
  refine m_aload_n hc 0 dX8_setAtom_0 rfl rfl ?_
  obtain ⟨ht, hw⟩ := hw
  refine c_geti hc hr ciX8 (Nat.le_of_ble_eq_true rfl) 8 (Nat.le_of_ble_eq_true rfl) rfl dX8_setAtom_1 lf_X8_28 ht ?_
  refine m_iconst hc 3 dX8_setAtom_4 (by decide) ?_
  refine m_icmp_ne hc 30 dX8_setAtom_5 rfl (fun cq => ?_) (fun cq => ?_)
  · have hw := hw.1 cq
    refine m_aload_n hc 0 dX8_setAtom_30 rfl rfl ?_
    obtain ⟨ht, b1, e_b1, hw⟩ := hw
    refine c_getr hc hr ciX8 (Nat.le_of_ble_eq_true rfl) 3 (Nat.le_of_ble_eq_true rfl) rfl dX8_setAtom_31 lf_X8_37 ht e_b1 ?_
    obtain ⟨ht, b2, e_b2, hw⟩ := hw
    refine c_getr hc hr ciX7 (Nat.le_of_ble_eq_true rfl) 4 (Nat.le_of_ble_eq_true rfl) rfl dX8_setAtom_34 lf_X8_100 ht e_b2 ?_
    refine m_aload_n hc 0 dX8_setAtom_37 rfl rfl ?_
    obtain ⟨ht, b3, e_b3, hw⟩ := hw
    refine c_getr hc hr ciX8 (Nat.le_of_ble_eq_true rfl) 3 (Nat.le_of_ble_eq_true rfl) rfl dX8_setAtom_38 lf_X8_37 ht e_b3 ?_
    obtain ⟨ht, hw⟩ := hw
    refine c_geti hc hr ciX7 (Nat.le_of_ble_eq_true rfl) 0 (Nat.le_of_ble_eq_true rfl) rfl dX8_setAtom_41 lf_X8_86 ht ?_
    refine m_iload_n hc 1 dX8_setAtom_44 rfl rfl ?_
    obtain ⟨ht, hi, hw⟩ := hw
    refine c_iast hc hr ht hi dX8_setAtom_45 ?_
    refine m_aload_n hc 0 dX8_setAtom_46 rfl rfl ?_
    refine m_bipush hc 7 dX8_setAtom_47 (by decide) ?_
    obtain ⟨ht, hw⟩ := hw
    refine c_callVi hc hr ciX8 (Nat.le_of_ble_eq_true rfl) ht mt_X8_go rfl lm_X8_70 (ok_X8_go hw) (Nat.le_of_ble_eq_true rfl) dX8_setAtom_49 rfl (rest := []) rfl (Nat.le_of_ble_eq_true rfl) (fun r4 S4 hw => ?_)
    exact c_iret hc hr dX8_setAtom_52 hw
  · have hw := hw.2 cq
    refine m_aload_n hc 0 dX8_setAtom_8 rfl rfl ?_
    obtain ⟨ht, b5, e_b5, hw⟩ := hw
    refine c_getr hc hr ciX8 (Nat.le_of_ble_eq_true rfl) 3 (Nat.le_of_ble_eq_true rfl) rfl dX8_setAtom_9 lf_X8_37 ht e_b5 ?_
    obtain ⟨ht, b6, e_b6, hw⟩ := hw
    refine c_getr hc hr ciX7 (Nat.le_of_ble_eq_true rfl) 3 (Nat.le_of_ble_eq_true rfl) rfl dX8_setAtom_12 lf_X8_97 ht e_b6 ?_
    refine m_aload_n hc 0 dX8_setAtom_15 rfl rfl ?_
    obtain ⟨ht, b7, e_b7, hw⟩ := hw
    refine c_getr hc hr ciX8 (Nat.le_of_ble_eq_true rfl) 3 (Nat.le_of_ble_eq_true rfl) rfl dX8_setAtom_16 lf_X8_37 ht e_b7 ?_
    obtain ⟨ht, hw⟩ := hw
    refine c_geti hc hr ciX7 (Nat.le_of_ble_eq_true rfl) 0 (Nat.le_of_ble_eq_true rfl) rfl dX8_setAtom_19 lf_X8_86 ht ?_
    refine m_iload_n hc 1 dX8_setAtom_22 rfl rfl ?_
    obtain ⟨ht, hi, hw⟩ := hw
    refine c_iast hc hr ht hi dX8_setAtom_23 ?_
    refine m_aload_n hc 0 dX8_setAtom_24 rfl rfl ?_
    refine m_iconst hc 4 dX8_setAtom_25 (by decide) ?_
    obtain ⟨ht, hw⟩ := hw
    refine c_callVi hc hr ciX8 (Nat.le_of_ble_eq_true rfl) ht mt_X8_go rfl lm_X8_70 (ok_X8_go hw) (Nat.le_of_ble_eq_true rfl) dX8_setAtom_26 rfl (rest := []) rfl (Nat.le_of_ble_eq_true rfl) (fun r8 S8 hw => ?_)
    exact c_iret hc hr dX8_setAtom_29 hw
def wp_X8_takeAtom (M : Nat × Nat) (x0 : Nat) (S : HS) (K : Int32 → HS → Prop) : Prop := hT S x0 = 9 ∧ (¬ (hI S x0 6) = 256 → hT S x0 = 9 ∧ ((hI S x0 6) < 97 → K 1 S) ∧ (¬ ((hI S x0 6) < 97) → hT S x0 = 9 ∧ ((hI S x0 6) ≤ 122 → hT S x0 = 9 ∧ ((hI S x0 6) < 120 → hT S x0 = 9 ∧ ∃ b1 : Nat, hP S x0 4 = some b1 ∧ hT S x0 = 9 ∧ hT S b1 = 21 ∧ vp_in ((hI S x0 6) - 97) (hN S b1) ∧ ∀ v2 : Int32, v2 = (hI S b1 (Int32.toNatClampNeg ((hI S x0 6) - 97))) → (¬ v2 = (-1) → hT S x0 = 9 ∧ wp_X8_setAtom M x0 (103 + v2) S (fun r3 S3 => K r3 S3)) ∧ (v2 = (-1) → K 3 S)) ∧ (¬ ((hI S x0 6) < 120) → hT S x0 = 9 ∧ hT S x0 = 9 ∧ wp_X8_setAtom M x0 ((100 + (hI S x0 6)) - 120) S (fun r4 S4 => K r4 S4))) ∧ (¬ ((hI S x0 6) ≤ 122) → K 1 S))) ∧ ((hI S x0 6) = 256 → hT S x0 = 9 ∧ ((hI S x0 7) ≤ 99 → hT S x0 = 9 ∧ hT S x0 = 9 ∧ wp_X8_setAtom M x0 (hI S x0 7) S (fun r5 S5 => K r5 S5)) ∧ (¬ ((hI S x0 7) ≤ 99) → K 2 S))
set_option maxHeartbeats 4000000 in
set_option maxRecDepth 100000 in
theorem ok_X8_takeAtom {G : CG} {x0 : Nat} {S : HS} {K : Int32 → HS → Prop} (hw : wp_X8_takeAtom (gC G, gS G) x0 S K) : CC 2 yX8_takeAtom cX8_takeAtom 2 (some .int) [.ref x0] G S (kI K) := by
  refine CC.of (by decide +kernel) (Nat.le_of_ble_eq_true rfl) (fun X hc hr hname => ?_)
  show MC G S X 2 S 0 [(0, .ref x0)] []
  unfold wp_X8_takeAtom at hw
  refine m_aload_n hc 0 dX8_takeAtom_0 rfl rfl ?_
  obtain ⟨ht, hw⟩ := hw
  refine c_geti hc hr ciX8 (Nat.le_of_ble_eq_true rfl) 6 (Nat.le_of_ble_eq_true rfl) rfl dX8_takeAtom_1 lf_X8_22 ht ?_
  refine m_sipush hc 256 dX8_takeAtom_4 (by decide) ?_
  refine m_icmp_ne hc 32 dX8_takeAtom_7 rfl (fun cq => ?_) (fun cq => ?_)
  · have hw := hw.1 cq
    refine m_aload_n hc 0 dX8_takeAtom_32 rfl rfl ?_
    obtain ⟨ht, hw⟩ := hw
    refine c_geti hc hr ciX8 (Nat.le_of_ble_eq_true rfl) 6 (Nat.le_of_ble_eq_true rfl) rfl dX8_takeAtom_33 lf_X8_22 ht ?_
    refine m_bipush hc 97 dX8_takeAtom_36 (by decide) ?_
    refine m_icmp_lt hc 50 dX8_takeAtom_38 rfl (fun cq => ?_) (fun cq => ?_)
    · have hw := hw.1 cq
      refine m_iconst hc 1 dX8_takeAtom_50 (by decide) ?_
      exact c_iret hc hr dX8_takeAtom_51 hw
    · have hw := hw.2 cq
      refine m_aload_n hc 0 dX8_takeAtom_41 rfl rfl ?_
      obtain ⟨ht, hw⟩ := hw
      refine c_geti hc hr ciX8 (Nat.le_of_ble_eq_true rfl) 6 (Nat.le_of_ble_eq_true rfl) rfl dX8_takeAtom_42 lf_X8_22 ht ?_
      refine m_bipush hc 122 dX8_takeAtom_45 (by decide) ?_
      refine m_icmp_le hc 52 dX8_takeAtom_47 rfl (fun cq => ?_) (fun cq => ?_)
      · have hw := hw.1 cq
        refine m_aload_n hc 0 dX8_takeAtom_52 rfl rfl ?_
        obtain ⟨ht, hw⟩ := hw
        refine c_geti hc hr ciX8 (Nat.le_of_ble_eq_true rfl) 6 (Nat.le_of_ble_eq_true rfl) rfl dX8_takeAtom_53 lf_X8_22 ht ?_
        refine m_bipush hc 120 dX8_takeAtom_56 (by decide) ?_
        refine m_icmp_lt hc 76 dX8_takeAtom_58 rfl (fun cq => ?_) (fun cq => ?_)
        · have hw := hw.1 cq
          refine m_aload_n hc 0 dX8_takeAtom_76 rfl rfl ?_
          obtain ⟨ht, b1, e_b1, hw⟩ := hw
          refine c_getr hc hr ciX8 (Nat.le_of_ble_eq_true rfl) 4 (Nat.le_of_ble_eq_true rfl) rfl dX8_takeAtom_77 lf_X8_15 ht e_b1 ?_
          refine m_aload_n hc 0 dX8_takeAtom_80 rfl rfl ?_
          obtain ⟨ht, hw⟩ := hw
          refine c_geti hc hr ciX8 (Nat.le_of_ble_eq_true rfl) 6 (Nat.le_of_ble_eq_true rfl) rfl dX8_takeAtom_81 lf_X8_22 ht ?_
          refine m_bipush hc 97 dX8_takeAtom_84 (by decide) ?_
          refine m_isub hc dX8_takeAtom_86 ?_
          obtain ⟨ht, hi, hw⟩ := hw
          refine c_iald hc hr ht hi dX8_takeAtom_87 ?_
          refine m_topi (fun v2 e_v2 => ?_)
          have hw := hw v2 e_v2
          refine m_istore_n hc [(1, .int v2), (0, .ref x0)] dX8_takeAtom_88 rfl (Nat.le_of_ble_eq_true rfl) rfl ?_
          refine m_iload_n hc 0 dX8_takeAtom_89 rfl rfl ?_
          refine m_iconst hc (-1) dX8_takeAtom_90 (by decide) ?_
          refine m_icmp_ne hc 98 dX8_takeAtom_91 rfl (fun cq => ?_) (fun cq => ?_)
          · have hw := hw.1 cq
            refine m_aload_n hc 1 dX8_takeAtom_98 rfl rfl ?_
            refine m_bipush hc 103 dX8_takeAtom_99 (by decide) ?_
            refine m_iload_n hc 0 dX8_takeAtom_101 rfl rfl ?_
            refine m_iadd hc dX8_takeAtom_102 ?_
            obtain ⟨ht, hw⟩ := hw
            refine c_callVi hc hr ciX8 (Nat.le_of_ble_eq_true rfl) ht mt_X8_setAtom rfl lm_X8_94 (ok_X8_setAtom hw) (Nat.le_of_ble_eq_true rfl) dX8_takeAtom_103 rfl (rest := []) rfl (Nat.le_of_ble_eq_true rfl) (fun r3 S3 hw => ?_)
            exact c_iret hc hr dX8_takeAtom_106 hw
          · have hw := hw.2 cq
            refine m_iconst hc 3 dX8_takeAtom_94 (by decide) ?_
            refine m_goto hc 106 dX8_takeAtom_95 rfl ?_
            exact c_iret hc hr dX8_takeAtom_106 hw
        · have hw := hw.2 cq
          refine m_aload_n hc 0 dX8_takeAtom_61 rfl rfl ?_
          refine m_bipush hc 100 dX8_takeAtom_62 (by decide) ?_
          refine m_aload_n hc 0 dX8_takeAtom_64 rfl rfl ?_
          obtain ⟨ht, hw⟩ := hw
          refine c_geti hc hr ciX8 (Nat.le_of_ble_eq_true rfl) 6 (Nat.le_of_ble_eq_true rfl) rfl dX8_takeAtom_65 lf_X8_22 ht ?_
          refine m_iadd hc dX8_takeAtom_68 ?_
          refine m_bipush hc 120 dX8_takeAtom_69 (by decide) ?_
          refine m_isub hc dX8_takeAtom_71 ?_
          obtain ⟨ht, hw⟩ := hw
          refine c_callVi hc hr ciX8 (Nat.le_of_ble_eq_true rfl) ht mt_X8_setAtom rfl lm_X8_94 (ok_X8_setAtom hw) (Nat.le_of_ble_eq_true rfl) dX8_takeAtom_72 rfl (rest := []) rfl (Nat.le_of_ble_eq_true rfl) (fun r4 S4 hw => ?_)
          exact c_iret hc hr dX8_takeAtom_75 hw
      · have hw := hw.2 cq
        refine m_iconst hc 1 dX8_takeAtom_50 (by decide) ?_
        exact c_iret hc hr dX8_takeAtom_51 hw
  · have hw := hw.2 cq
    refine m_aload_n hc 0 dX8_takeAtom_10 rfl rfl ?_
    obtain ⟨ht, hw⟩ := hw
    refine c_geti hc hr ciX8 (Nat.le_of_ble_eq_true rfl) 7 (Nat.le_of_ble_eq_true rfl) rfl dX8_takeAtom_11 lf_X8_25 ht ?_
    refine m_bipush hc 99 dX8_takeAtom_14 (by decide) ?_
    refine m_icmp_le hc 23 dX8_takeAtom_16 rfl (fun cq => ?_) (fun cq => ?_)
    · have hw := hw.1 cq
      refine m_aload_n hc 0 dX8_takeAtom_23 rfl rfl ?_
      refine m_aload_n hc 0 dX8_takeAtom_24 rfl rfl ?_
      obtain ⟨ht, hw⟩ := hw
      refine c_geti hc hr ciX8 (Nat.le_of_ble_eq_true rfl) 7 (Nat.le_of_ble_eq_true rfl) rfl dX8_takeAtom_25 lf_X8_25 ht ?_
      obtain ⟨ht, hw⟩ := hw
      refine c_callVi hc hr ciX8 (Nat.le_of_ble_eq_true rfl) ht mt_X8_setAtom rfl lm_X8_94 (ok_X8_setAtom hw) (Nat.le_of_ble_eq_true rfl) dX8_takeAtom_28 rfl (rest := []) rfl (Nat.le_of_ble_eq_true rfl) (fun r5 S5 hw => ?_)
      exact c_iret hc hr dX8_takeAtom_31 hw
    · have hw := hw.2 cq
      refine m_iconst hc 2 dX8_takeAtom_19 (by decide) ?_
      refine m_goto hc 31 dX8_takeAtom_20 rfl ?_
      exact c_iret hc hr dX8_takeAtom_31 hw
def wp_X8_takeExponent (M : Nat × Nat) (x0 : Nat) (S : HS) (K : Int32 → HS → Prop) : Prop := hT S x0 = 9 ∧ ((hI S x0 6) = 256 → hT S x0 = 9 ∧ ((hI S x0 7) ≤ 9 → hT S x0 = 9 ∧ ∃ b1 : Nat, hP S x0 3 = some b1 ∧ hT S b1 = 8 ∧ ∃ b2 : Nat, hP S b1 4 = some b2 ∧ hT S x0 = 9 ∧ ∃ b3 : Nat, hP S x0 3 = some b3 ∧ hT S b3 = 8 ∧ hT S x0 = 9 ∧ hT S b2 = 21 ∧ vp_in (hI S b3 0) (hN S b2) ∧ hT (sI S b2 (Int32.toNatClampNeg (hI S b3 0)) (hI S x0 7)) x0 = 9 ∧ wp_X8_go M x0 7 (sI S b2 (Int32.toNatClampNeg (hI S b3 0)) (hI S x0 7)) (fun r4 S4 => K r4 S4)) ∧ (¬ ((hI S x0 7) ≤ 9) → K 2 S)) ∧ (¬ ((hI S x0 6) = 256) → K 1 S)
set_option maxHeartbeats 4000000 in
set_option maxRecDepth 100000 in
theorem ok_X8_takeExponent {G : CG} {x0 : Nat} {S : HS} {K : Int32 → HS → Prop} (hw : wp_X8_takeExponent (gC G, gS G) x0 S K) : CC 1 yX8_takeExponent cX8_takeExponent 1 (some .int) [.ref x0] G S (kI K) := by
  refine CC.of (by decide +kernel) (Nat.le_of_ble_eq_true rfl) (fun X hc hr hname => ?_)
  show MC G S X 1 S 0 [(0, .ref x0)] []
  unfold wp_X8_takeExponent at hw
  refine m_aload_n hc 0 dX8_takeExponent_0 rfl rfl ?_
  obtain ⟨ht, hw⟩ := hw
  refine c_geti hc hr ciX8 (Nat.le_of_ble_eq_true rfl) 6 (Nat.le_of_ble_eq_true rfl) rfl dX8_takeExponent_1 lf_X8_22 ht ?_
  refine m_sipush hc 256 dX8_takeExponent_4 (by decide) ?_
  refine m_icmp_eq hc 12 dX8_takeExponent_7 rfl (fun cq => ?_) (fun cq => ?_)
  · have hw := hw.1 cq
    refine m_aload_n hc 0 dX8_takeExponent_12 rfl rfl ?_
    obtain ⟨ht, hw⟩ := hw
    refine c_geti hc hr ciX8 (Nat.le_of_ble_eq_true rfl) 7 (Nat.le_of_ble_eq_true rfl) rfl dX8_takeExponent_13 lf_X8_25 ht ?_
    refine m_bipush hc 9 dX8_takeExponent_16 (by decide) ?_
    refine m_icmp_le hc 23 dX8_takeExponent_18 rfl (fun cq => ?_) (fun cq => ?_)
    · have hw := hw.1 cq
      refine m_aload_n hc 0 dX8_takeExponent_23 rfl rfl ?_
      obtain ⟨ht, b1, e_b1, hw⟩ := hw
      refine c_getr hc hr ciX8 (Nat.le_of_ble_eq_true rfl) 3 (Nat.le_of_ble_eq_true rfl) rfl dX8_takeExponent_24 lf_X8_37 ht e_b1 ?_
      obtain ⟨ht, b2, e_b2, hw⟩ := hw
      refine c_getr hc hr ciX7 (Nat.le_of_ble_eq_true rfl) 4 (Nat.le_of_ble_eq_true rfl) rfl dX8_takeExponent_27 lf_X8_100 ht e_b2 ?_
      refine m_aload_n hc 0 dX8_takeExponent_30 rfl rfl ?_
      obtain ⟨ht, b3, e_b3, hw⟩ := hw
      refine c_getr hc hr ciX8 (Nat.le_of_ble_eq_true rfl) 3 (Nat.le_of_ble_eq_true rfl) rfl dX8_takeExponent_31 lf_X8_37 ht e_b3 ?_
      obtain ⟨ht, hw⟩ := hw
      refine c_geti hc hr ciX7 (Nat.le_of_ble_eq_true rfl) 0 (Nat.le_of_ble_eq_true rfl) rfl dX8_takeExponent_34 lf_X8_86 ht ?_
      refine m_aload_n hc 0 dX8_takeExponent_37 rfl rfl ?_
      obtain ⟨ht, hw⟩ := hw
      refine c_geti hc hr ciX8 (Nat.le_of_ble_eq_true rfl) 7 (Nat.le_of_ble_eq_true rfl) rfl dX8_takeExponent_38 lf_X8_25 ht ?_
      obtain ⟨ht, hi, hw⟩ := hw
      refine c_iast hc hr ht hi dX8_takeExponent_41 ?_
      refine m_aload_n hc 0 dX8_takeExponent_42 rfl rfl ?_
      refine m_bipush hc 7 dX8_takeExponent_43 (by decide) ?_
      obtain ⟨ht, hw⟩ := hw
      refine c_callVi hc hr ciX8 (Nat.le_of_ble_eq_true rfl) ht mt_X8_go rfl lm_X8_70 (ok_X8_go hw) (Nat.le_of_ble_eq_true rfl) dX8_takeExponent_45 rfl (rest := []) rfl (Nat.le_of_ble_eq_true rfl) (fun r4 S4 hw => ?_)
      exact c_iret hc hr dX8_takeExponent_48 hw
    · have hw := hw.2 cq
      refine m_iconst hc 2 dX8_takeExponent_21 (by decide) ?_
      exact c_iret hc hr dX8_takeExponent_22 hw
  · have hw := hw.2 cq
    refine m_iconst hc 1 dX8_takeExponent_10 (by decide) ?_
    exact c_iret hc hr dX8_takeExponent_11 hw
def w_X8_takeName_20 (M : Nat × Nat) (K : Int32 → HS → Prop) (x0 : Nat) (S : HS) : Prop := hT S x0 = 9 ∧ ((hI S x0 6) < 97 → K 1 S) ∧ (¬ ((hI S x0 6) < 97) → hT S x0 = 9 ∧ ((hI S x0 6) ≤ 119 → hT S x0 = 9 ∧ ∃ b1 : Nat, hP S x0 4 = some b1 ∧ hT S x0 = 9 ∧ hT S b1 = 21 ∧ vp_in ((hI S x0 6) - 97) (hN S b1) ∧ (¬ (hI S b1 (Int32.toNatClampNeg ((hI S x0 6) - 97))) = (-1) → K 3 S) ∧ ((hI S b1 (Int32.toNatClampNeg ((hI S x0 6) - 97))) = (-1) → hT S x0 = 9 ∧ ∃ b2 : Nat, hP S x0 3 = some b2 ∧ hT S b2 = 8 ∧ ((hI S b2 0) < 23 → hT S x0 = 9 ∧ ∃ b3 : Nat, hP S x0 3 = some b3 ∧ hT S b3 = 8 ∧ ∃ b4 : Nat, hP S b3 1 = some b4 ∧ hT S x0 = 9 ∧ ∃ b5 : Nat, hP S x0 3 = some b5 ∧ hT S b5 = 8 ∧ hT S x0 = 9 ∧ hT S b4 = 21 ∧ vp_in (hI S b5 0) (hN S b4) ∧ hT (sI S b4 (Int32.toNatClampNeg (hI S b5 0)) (((hI S x0 6) - 97) + 1)) x0 = 9 ∧ wp_X8_go M x0 2 (sI S b4 (Int32.toNatClampNeg (hI S b5 0)) (((hI S x0 6) - 97) + 1)) (fun r6 S6 => K r6 S6)) ∧ (¬ ((hI S b2 0) < 23) → K 3 S))) ∧ (¬ ((hI S x0 6) ≤ 119) → K 1 S))
set_option maxHeartbeats 4000000 in
set_option maxRecDepth 100000 in
theorem b_X8_takeName_20 {G : CG} {S0 : HS} {X : Fx} {K : Int32 → HS → Prop} (hc : Cx X RX8 cX8_takeName 1) (hr : Cc G S0 1 (some .int) (kI K) X) : ∀ (x0 : Nat) (S : HS), w_X8_takeName_20 (gC G, gS G) K x0 S → MC G S0 X 1 S 20 [(0, .ref x0)] [] := by
  intro x0 S hw
  unfold w_X8_takeName_20 at hw
  refine m_aload_n hc 0 dX8_takeName_20 rfl rfl ?_
  obtain ⟨ht, hw⟩ := hw
  refine c_geti hc hr ciX8 (Nat.le_of_ble_eq_true rfl) 6 (Nat.le_of_ble_eq_true rfl) rfl dX8_takeName_21 lf_X8_22 ht ?_
  refine m_bipush hc 97 dX8_takeName_24 (by decide) ?_
  refine m_icmp_lt hc 38 dX8_takeName_26 rfl (fun cq => ?_) (fun cq => ?_)
  · have hw := hw.1 cq
    refine m_iconst hc 1 dX8_takeName_38 (by decide) ?_
    exact c_iret hc hr dX8_takeName_39 hw
  · have hw := hw.2 cq
    refine m_aload_n hc 0 dX8_takeName_29 rfl rfl ?_
    obtain ⟨ht, hw⟩ := hw
    refine c_geti hc hr ciX8 (Nat.le_of_ble_eq_true rfl) 6 (Nat.le_of_ble_eq_true rfl) rfl dX8_takeName_30 lf_X8_22 ht ?_
    refine m_bipush hc 119 dX8_takeName_33 (by decide) ?_
    refine m_icmp_le hc 40 dX8_takeName_35 rfl (fun cq => ?_) (fun cq => ?_)
    · have hw := hw.1 cq
      refine m_aload_n hc 0 dX8_takeName_40 rfl rfl ?_
      obtain ⟨ht, b1, e_b1, hw⟩ := hw
      refine c_getr hc hr ciX8 (Nat.le_of_ble_eq_true rfl) 4 (Nat.le_of_ble_eq_true rfl) rfl dX8_takeName_41 lf_X8_15 ht e_b1 ?_
      refine m_aload_n hc 0 dX8_takeName_44 rfl rfl ?_
      obtain ⟨ht, hw⟩ := hw
      refine c_geti hc hr ciX8 (Nat.le_of_ble_eq_true rfl) 6 (Nat.le_of_ble_eq_true rfl) rfl dX8_takeName_45 lf_X8_22 ht ?_
      refine m_bipush hc 97 dX8_takeName_48 (by decide) ?_
      refine m_isub hc dX8_takeName_50 ?_
      obtain ⟨ht, hi, hw⟩ := hw
      refine c_iald hc hr ht hi dX8_takeName_51 ?_
      refine m_iconst hc (-1) dX8_takeName_52 (by decide) ?_
      refine m_icmp_ne hc 68 dX8_takeName_53 rfl (fun cq => ?_) (fun cq => ?_)
      · have hw := hw.1 cq
        refine m_iconst hc 3 dX8_takeName_68 (by decide) ?_
        exact c_iret hc hr dX8_takeName_69 hw
      · have hw := hw.2 cq
        refine m_aload_n hc 0 dX8_takeName_56 rfl rfl ?_
        obtain ⟨ht, b2, e_b2, hw⟩ := hw
        refine c_getr hc hr ciX8 (Nat.le_of_ble_eq_true rfl) 3 (Nat.le_of_ble_eq_true rfl) rfl dX8_takeName_57 lf_X8_37 ht e_b2 ?_
        obtain ⟨ht, hw⟩ := hw
        refine c_geti hc hr ciX7 (Nat.le_of_ble_eq_true rfl) 0 (Nat.le_of_ble_eq_true rfl) rfl dX8_takeName_60 lf_X8_86 ht ?_
        refine m_bipush hc 23 dX8_takeName_63 (by decide) ?_
        refine m_icmp_lt hc 70 dX8_takeName_65 rfl (fun cq => ?_) (fun cq => ?_)
        · have hw := hw.1 cq
          refine m_aload_n hc 0 dX8_takeName_70 rfl rfl ?_
          obtain ⟨ht, b3, e_b3, hw⟩ := hw
          refine c_getr hc hr ciX8 (Nat.le_of_ble_eq_true rfl) 3 (Nat.le_of_ble_eq_true rfl) rfl dX8_takeName_71 lf_X8_37 ht e_b3 ?_
          obtain ⟨ht, b4, e_b4, hw⟩ := hw
          refine c_getr hc hr ciX7 (Nat.le_of_ble_eq_true rfl) 1 (Nat.le_of_ble_eq_true rfl) rfl dX8_takeName_74 lf_X8_91 ht e_b4 ?_
          refine m_aload_n hc 0 dX8_takeName_77 rfl rfl ?_
          obtain ⟨ht, b5, e_b5, hw⟩ := hw
          refine c_getr hc hr ciX8 (Nat.le_of_ble_eq_true rfl) 3 (Nat.le_of_ble_eq_true rfl) rfl dX8_takeName_78 lf_X8_37 ht e_b5 ?_
          obtain ⟨ht, hw⟩ := hw
          refine c_geti hc hr ciX7 (Nat.le_of_ble_eq_true rfl) 0 (Nat.le_of_ble_eq_true rfl) rfl dX8_takeName_81 lf_X8_86 ht ?_
          refine m_aload_n hc 0 dX8_takeName_84 rfl rfl ?_
          obtain ⟨ht, hw⟩ := hw
          refine c_geti hc hr ciX8 (Nat.le_of_ble_eq_true rfl) 6 (Nat.le_of_ble_eq_true rfl) rfl dX8_takeName_85 lf_X8_22 ht ?_
          refine m_bipush hc 97 dX8_takeName_88 (by decide) ?_
          refine m_isub hc dX8_takeName_90 ?_
          refine m_iconst hc 1 dX8_takeName_91 (by decide) ?_
          refine m_iadd hc dX8_takeName_92 ?_
          obtain ⟨ht, hi, hw⟩ := hw
          refine c_iast hc hr ht hi dX8_takeName_93 ?_
          refine m_aload_n hc 0 dX8_takeName_94 rfl rfl ?_
          refine m_iconst hc 2 dX8_takeName_95 (by decide) ?_
          obtain ⟨ht, hw⟩ := hw
          refine c_callVi hc hr ciX8 (Nat.le_of_ble_eq_true rfl) ht mt_X8_go rfl lm_X8_70 (ok_X8_go hw) (Nat.le_of_ble_eq_true rfl) dX8_takeName_96 rfl (rest := []) rfl (Nat.le_of_ble_eq_true rfl) (fun r6 S6 hw => ?_)
          exact c_iret hc hr dX8_takeName_99 hw
        · have hw := hw.2 cq
          refine m_iconst hc 3 dX8_takeName_68 (by decide) ?_
          exact c_iret hc hr dX8_takeName_69 hw
    · have hw := hw.2 cq
      refine m_iconst hc 1 dX8_takeName_38 (by decide) ?_
      exact c_iret hc hr dX8_takeName_39 hw
def wp_X8_takeName (M : Nat × Nat) (x0 : Nat) (S : HS) (K : Int32 → HS → Prop) : Prop := hT S x0 = 9 ∧ (¬ (hI S x0 6) = 257 → w_X8_takeName_20 M K x0 S) ∧ ((hI S x0 6) = 257 → hT S x0 = 9 ∧ (¬ (hI S x0 8) = 1 → w_X8_takeName_20 M K x0 S) ∧ ((hI S x0 8) = 1 → K 0 S))
set_option maxHeartbeats 4000000 in
set_option maxRecDepth 100000 in
theorem ok_X8_takeName {G : CG} {x0 : Nat} {S : HS} {K : Int32 → HS → Prop} (hw : wp_X8_takeName (gC G, gS G) x0 S K) : CC 1 yX8_takeName cX8_takeName 1 (some .int) [.ref x0] G S (kI K) := by
  refine CC.of (by decide +kernel) (Nat.le_of_ble_eq_true rfl) (fun X hc hr hname => ?_)
  show MC G S X 1 S 0 [(0, .ref x0)] []
  unfold wp_X8_takeName at hw
  refine m_aload_n hc 0 dX8_takeName_0 rfl rfl ?_
  obtain ⟨ht, hw⟩ := hw
  refine c_geti hc hr ciX8 (Nat.le_of_ble_eq_true rfl) 6 (Nat.le_of_ble_eq_true rfl) rfl dX8_takeName_1 lf_X8_22 ht ?_
  refine m_sipush hc 257 dX8_takeName_4 (by decide) ?_
  refine m_icmp_ne hc 20 dX8_takeName_7 rfl (fun cq => ?_) (fun cq => ?_)
  · have hw := hw.1 cq
    exact b_X8_takeName_20 hc hr x0 S hw
  · have hw := hw.2 cq
    refine m_aload_n hc 0 dX8_takeName_10 rfl rfl ?_
    obtain ⟨ht, hw⟩ := hw
    refine c_geti hc hr ciX8 (Nat.le_of_ble_eq_true rfl) 8 (Nat.le_of_ble_eq_true rfl) rfl dX8_takeName_11 lf_X8_28 ht ?_
    refine m_iconst hc 1 dX8_takeName_14 (by decide) ?_
    refine m_icmp_ne hc 20 dX8_takeName_15 rfl (fun cq => ?_) (fun cq => ?_)
    · have hw := hw.1 cq
      exact b_X8_takeName_20 hc hr x0 S hw
    · have hw := hw.2 cq
      refine m_iconst hc 0 dX8_takeName_18 (by decide) ?_
      exact c_iret hc hr dX8_takeName_19 hw
def w_X8_takeStepEnd_21 (M : Nat × Nat) (K : Int32 → HS → Prop) (x0 : Nat) (S : HS) : Prop := hT S x0 = 9 ∧ ∃ b1 : Nat, hP S x0 4 = some b1 ∧ hT S x0 = 9 ∧ ∃ b2 : Nat, hP S x0 3 = some b2 ∧ hT S b2 = 8 ∧ ∃ b3 : Nat, hP S b2 1 = some b3 ∧ hT S x0 = 9 ∧ ∃ b4 : Nat, hP S x0 3 = some b4 ∧ hT S b4 = 8 ∧ hT S b3 = 21 ∧ vp_in (hI S b4 0) (hN S b3) ∧ hT S x0 = 9 ∧ ∃ b5 : Nat, hP S x0 3 = some b5 ∧ hT S b5 = 8 ∧ hT S b1 = 21 ∧ vp_in ((hI S b3 (Int32.toNatClampNeg (hI S b4 0))) - 1) (hN S b1) ∧ hT (sI S b1 (Int32.toNatClampNeg ((hI S b3 (Int32.toNatClampNeg (hI S b4 0))) - 1)) (hI S b5 0)) x0 = 9 ∧ ∃ b6 : Nat, hP (sI S b1 (Int32.toNatClampNeg ((hI S b3 (Int32.toNatClampNeg (hI S b4 0))) - 1)) (hI S b5 0)) x0 3 = some b6 ∧ hT (sI S b1 (Int32.toNatClampNeg ((hI S b3 (Int32.toNatClampNeg (hI S b4 0))) - 1)) (hI S b5 0)) b6 = 8 ∧ hT (sI S b1 (Int32.toNatClampNeg ((hI S b3 (Int32.toNatClampNeg (hI S b4 0))) - 1)) (hI S b5 0)) b6 = 8 ∧ hT (sI (sI S b1 (Int32.toNatClampNeg ((hI S b3 (Int32.toNatClampNeg (hI S b4 0))) - 1)) (hI S b5 0)) b6 0 ((hI (sI S b1 (Int32.toNatClampNeg ((hI S b3 (Int32.toNatClampNeg (hI S b4 0))) - 1)) (hI S b5 0)) b6 0) + 1)) x0 = 9 ∧ wp_X8_go M x0 1 (sI (sI S b1 (Int32.toNatClampNeg ((hI S b3 (Int32.toNatClampNeg (hI S b4 0))) - 1)) (hI S b5 0)) b6 0 ((hI (sI S b1 (Int32.toNatClampNeg ((hI S b3 (Int32.toNatClampNeg (hI S b4 0))) - 1)) (hI S b5 0)) b6 0) + 1)) (fun r7 S7 => K r7 S7)
set_option maxHeartbeats 4000000 in
set_option maxRecDepth 100000 in
theorem b_X8_takeStepEnd_21 {G : CG} {S0 : HS} {X : Fx} {K : Int32 → HS → Prop} (hc : Cx X RX8 cX8_takeStepEnd 1) (hr : Cc G S0 1 (some .int) (kI K) X) : ∀ (x0 : Nat) (S : HS), w_X8_takeStepEnd_21 (gC G, gS G) K x0 S → MC G S0 X 1 S 21 [(0, .ref x0)] [] := by
  intro x0 S hw
  unfold w_X8_takeStepEnd_21 at hw
  refine m_aload_n hc 0 dX8_takeStepEnd_21 rfl rfl ?_
  obtain ⟨ht, b1, e_b1, hw⟩ := hw
  refine c_getr hc hr ciX8 (Nat.le_of_ble_eq_true rfl) 4 (Nat.le_of_ble_eq_true rfl) rfl dX8_takeStepEnd_22 lf_X8_15 ht e_b1 ?_
  refine m_aload_n hc 0 dX8_takeStepEnd_25 rfl rfl ?_
  obtain ⟨ht, b2, e_b2, hw⟩ := hw
  refine c_getr hc hr ciX8 (Nat.le_of_ble_eq_true rfl) 3 (Nat.le_of_ble_eq_true rfl) rfl dX8_takeStepEnd_26 lf_X8_37 ht e_b2 ?_
  obtain ⟨ht, b3, e_b3, hw⟩ := hw
  refine c_getr hc hr ciX7 (Nat.le_of_ble_eq_true rfl) 1 (Nat.le_of_ble_eq_true rfl) rfl dX8_takeStepEnd_29 lf_X8_91 ht e_b3 ?_
  refine m_aload_n hc 0 dX8_takeStepEnd_32 rfl rfl ?_
  obtain ⟨ht, b4, e_b4, hw⟩ := hw
  refine c_getr hc hr ciX8 (Nat.le_of_ble_eq_true rfl) 3 (Nat.le_of_ble_eq_true rfl) rfl dX8_takeStepEnd_33 lf_X8_37 ht e_b4 ?_
  obtain ⟨ht, hw⟩ := hw
  refine c_geti hc hr ciX7 (Nat.le_of_ble_eq_true rfl) 0 (Nat.le_of_ble_eq_true rfl) rfl dX8_takeStepEnd_36 lf_X8_86 ht ?_
  obtain ⟨ht, hi, hw⟩ := hw
  refine c_iald hc hr ht hi dX8_takeStepEnd_39 ?_
  refine m_iconst hc 1 dX8_takeStepEnd_40 (by decide) ?_
  refine m_isub hc dX8_takeStepEnd_41 ?_
  refine m_aload_n hc 0 dX8_takeStepEnd_42 rfl rfl ?_
  obtain ⟨ht, b5, e_b5, hw⟩ := hw
  refine c_getr hc hr ciX8 (Nat.le_of_ble_eq_true rfl) 3 (Nat.le_of_ble_eq_true rfl) rfl dX8_takeStepEnd_43 lf_X8_37 ht e_b5 ?_
  obtain ⟨ht, hw⟩ := hw
  refine c_geti hc hr ciX7 (Nat.le_of_ble_eq_true rfl) 0 (Nat.le_of_ble_eq_true rfl) rfl dX8_takeStepEnd_46 lf_X8_86 ht ?_
  obtain ⟨ht, hi, hw⟩ := hw
  refine c_iast hc hr ht hi dX8_takeStepEnd_49 ?_
  refine m_aload_n hc 0 dX8_takeStepEnd_50 rfl rfl ?_
  obtain ⟨ht, b6, e_b6, hw⟩ := hw
  refine c_getr hc hr ciX8 (Nat.le_of_ble_eq_true rfl) 3 (Nat.le_of_ble_eq_true rfl) rfl dX8_takeStepEnd_51 lf_X8_37 ht e_b6 ?_
  refine m_dup hc dX8_takeStepEnd_54 rfl ?_
  obtain ⟨ht, hw⟩ := hw
  refine c_geti hc hr ciX7 (Nat.le_of_ble_eq_true rfl) 0 (Nat.le_of_ble_eq_true rfl) rfl dX8_takeStepEnd_55 lf_X8_86 ht ?_
  refine m_iconst hc 1 dX8_takeStepEnd_58 (by decide) ?_
  refine m_iadd hc dX8_takeStepEnd_59 ?_
  obtain ⟨ht, hw⟩ := hw
  refine c_puti hc hr ciX7 (Nat.le_of_ble_eq_true rfl) 0 (Nat.le_of_ble_eq_true rfl) rfl dX8_takeStepEnd_60 lf_X8_86 ht (Or.inl rfl) ⟨rfl, rfl⟩ ?_
  refine m_aload_n hc 0 dX8_takeStepEnd_63 rfl rfl ?_
  refine m_iconst hc 1 dX8_takeStepEnd_64 (by decide) ?_
  obtain ⟨ht, hw⟩ := hw
  refine c_callVi hc hr ciX8 (Nat.le_of_ble_eq_true rfl) ht mt_X8_go rfl lm_X8_70 (ok_X8_go hw) (Nat.le_of_ble_eq_true rfl) dX8_takeStepEnd_65 rfl (rest := []) rfl (Nat.le_of_ble_eq_true rfl) (fun r7 S7 hw => ?_)
  exact c_iret hc hr dX8_takeStepEnd_68 hw
def wp_X8_takeStepEnd (M : Nat × Nat) (x0 : Nat) (S : HS) (K : Int32 → HS → Prop) : Prop := hT S x0 = 9 ∧ ((hI S x0 6) = 59 → w_X8_takeStepEnd_21 M K x0 S) ∧ (¬ ((hI S x0 6) = 59) → hT S x0 = 9 ∧ ((hI S x0 6) = 257 → w_X8_takeStepEnd_21 M K x0 S) ∧ (¬ ((hI S x0 6) = 257) → K 1 S))
set_option maxHeartbeats 4000000 in
set_option maxRecDepth 100000 in
theorem ok_X8_takeStepEnd {G : CG} {x0 : Nat} {S : HS} {K : Int32 → HS → Prop} (hw : wp_X8_takeStepEnd (gC G, gS G) x0 S K) : CC 1 yX8_takeStepEnd cX8_takeStepEnd 1 (some .int) [.ref x0] G S (kI K) := by
  refine CC.of (by decide +kernel) (Nat.le_of_ble_eq_true rfl) (fun X hc hr hname => ?_)
  show MC G S X 1 S 0 [(0, .ref x0)] []
  unfold wp_X8_takeStepEnd at hw
  refine m_aload_n hc 0 dX8_takeStepEnd_0 rfl rfl ?_
  obtain ⟨ht, hw⟩ := hw
  refine c_geti hc hr ciX8 (Nat.le_of_ble_eq_true rfl) 6 (Nat.le_of_ble_eq_true rfl) rfl dX8_takeStepEnd_1 lf_X8_22 ht ?_
  refine m_bipush hc 59 dX8_takeStepEnd_4 (by decide) ?_
  refine m_icmp_eq hc 21 dX8_takeStepEnd_6 rfl (fun cq => ?_) (fun cq => ?_)
  · have hw := hw.1 cq
    exact b_X8_takeStepEnd_21 hc hr x0 S hw
  · have hw := hw.2 cq
    refine m_aload_n hc 0 dX8_takeStepEnd_9 rfl rfl ?_
    obtain ⟨ht, hw⟩ := hw
    refine c_geti hc hr ciX8 (Nat.le_of_ble_eq_true rfl) 6 (Nat.le_of_ble_eq_true rfl) rfl dX8_takeStepEnd_10 lf_X8_22 ht ?_
    refine m_sipush hc 257 dX8_takeStepEnd_13 (by decide) ?_
    refine m_icmp_eq hc 21 dX8_takeStepEnd_16 rfl (fun cq => ?_) (fun cq => ?_)
    · have hw := hw.1 cq
      exact b_X8_takeStepEnd_21 hc hr x0 S hw
    · have hw := hw.2 cq
      refine m_iconst hc 1 dX8_takeStepEnd_19 (by decide) ?_
      exact c_iret hc hr dX8_takeStepEnd_20 hw
def w_X8_takeSign_71 (M : Nat × Nat) (K : Int32 → HS → Prop) (s0 : Int32) (s1 : Nat) (S : HS) : Prop := hT S s1 = 9 ∧ wp_X8_go M s1 s0 S (fun r1 S1 => K r1 S1)
set_option maxHeartbeats 4000000 in
set_option maxRecDepth 100000 in
theorem b_X8_takeSign_71 {G : CG} {S0 : HS} {X : Fx} {K : Int32 → HS → Prop} (hc : Cx X RX8 cX8_takeSign 1) (hr : Cc G S0 2 (some .int) (kI K) X) : ∀ (s0 : Int32) (s1 : Nat) (S : HS), w_X8_takeSign_71 (gC G, gS G) K s0 s1 S → MC G S0 X 1 S 71 [] [.int s0, .ref s1] := by
  intro s0 s1 S hw
  unfold w_X8_takeSign_71 at hw
  obtain ⟨ht, hw⟩ := hw
  refine c_callVi hc hr ciX8 (Nat.le_of_ble_eq_true rfl) ht mt_X8_go rfl lm_X8_70 (ok_X8_go hw) (Nat.le_of_ble_eq_true rfl) dX8_takeSign_71 rfl (rest := []) rfl (Nat.le_of_ble_eq_true rfl) (fun r1 S1 hw => ?_)
  exact c_iret hc hr dX8_takeSign_74 hw
def w_X8_takeSign_36 (M : Nat × Nat) (K : Int32 → HS → Prop) (x0 : Nat) (S : HS) : Prop := hT S x0 = 9 ∧ ∃ b1 : Nat, hP S x0 3 = some b1 ∧ hT S b1 = 8 ∧ ∃ b2 : Nat, hP S b1 2 = some b2 ∧ hT S x0 = 9 ∧ ∃ b3 : Nat, hP S x0 3 = some b3 ∧ hT S b3 = 8 ∧ hT S x0 = 9 ∧ hT S b2 = 21 ∧ vp_in (hI S b3 0) (hN S b2) ∧ hT (sI S b2 (Int32.toNatClampNeg (hI S b3 0)) (hI S x0 6)) x0 = 9 ∧ (¬ (hI (sI S b2 (Int32.toNatClampNeg (hI S b3 0)) (hI S x0 6)) x0 6) = 94 → w_X8_takeSign_71 M K 5 x0 (sI S b2 (Int32.toNatClampNeg (hI S b3 0)) (hI S x0 6))) ∧ ((hI (sI S b2 (Int32.toNatClampNeg (hI S b3 0)) (hI S x0 6)) x0 6) = 94 → w_X8_takeSign_71 M K 6 x0 (sI S b2 (Int32.toNatClampNeg (hI S b3 0)) (hI S x0 6)))
set_option maxHeartbeats 4000000 in
set_option maxRecDepth 100000 in
theorem b_X8_takeSign_36 {G : CG} {S0 : HS} {X : Fx} {K : Int32 → HS → Prop} (hc : Cx X RX8 cX8_takeSign 1) (hr : Cc G S0 2 (some .int) (kI K) X) : ∀ (x0 : Nat) (S : HS), w_X8_takeSign_36 (gC G, gS G) K x0 S → MC G S0 X 1 S 36 [(0, .ref x0)] [] := by
  intro x0 S hw
  unfold w_X8_takeSign_36 at hw
  refine m_aload_n hc 0 dX8_takeSign_36 rfl rfl ?_
  obtain ⟨ht, b1, e_b1, hw⟩ := hw
  refine c_getr hc hr ciX8 (Nat.le_of_ble_eq_true rfl) 3 (Nat.le_of_ble_eq_true rfl) rfl dX8_takeSign_37 lf_X8_37 ht e_b1 ?_
  obtain ⟨ht, b2, e_b2, hw⟩ := hw
  refine c_getr hc hr ciX7 (Nat.le_of_ble_eq_true rfl) 2 (Nat.le_of_ble_eq_true rfl) rfl dX8_takeSign_40 lf_X8_103 ht e_b2 ?_
  refine m_aload_n hc 0 dX8_takeSign_43 rfl rfl ?_
  obtain ⟨ht, b3, e_b3, hw⟩ := hw
  refine c_getr hc hr ciX8 (Nat.le_of_ble_eq_true rfl) 3 (Nat.le_of_ble_eq_true rfl) rfl dX8_takeSign_44 lf_X8_37 ht e_b3 ?_
  obtain ⟨ht, hw⟩ := hw
  refine c_geti hc hr ciX7 (Nat.le_of_ble_eq_true rfl) 0 (Nat.le_of_ble_eq_true rfl) rfl dX8_takeSign_47 lf_X8_86 ht ?_
  refine m_aload_n hc 0 dX8_takeSign_50 rfl rfl ?_
  obtain ⟨ht, hw⟩ := hw
  refine c_geti hc hr ciX8 (Nat.le_of_ble_eq_true rfl) 6 (Nat.le_of_ble_eq_true rfl) rfl dX8_takeSign_51 lf_X8_22 ht ?_
  obtain ⟨ht, hi, hw⟩ := hw
  refine c_iast hc hr ht hi dX8_takeSign_54 ?_
  refine m_aload_n hc 0 dX8_takeSign_55 rfl rfl ?_
  refine m_aload_n hc 0 dX8_takeSign_56 rfl rfl ?_
  obtain ⟨ht, hw⟩ := hw
  refine c_geti hc hr ciX8 (Nat.le_of_ble_eq_true rfl) 6 (Nat.le_of_ble_eq_true rfl) rfl dX8_takeSign_57 lf_X8_22 ht ?_
  refine m_bipush hc 94 dX8_takeSign_60 (by decide) ?_
  refine m_icmp_ne hc 70 dX8_takeSign_62 rfl (fun cq => ?_) (fun cq => ?_)
  · have hw := hw.1 cq
    refine m_iconst hc 5 dX8_takeSign_70 (by decide) ?_
    refine m_sub [] rfl ?_
    exact b_X8_takeSign_71 hc hr 5 x0 (sI S b2 (Int32.toNatClampNeg (hI S b3 0)) (hI S x0 6)) hw
  · have hw := hw.2 cq
    refine m_bipush hc 6 dX8_takeSign_65 (by decide) ?_
    refine m_goto hc 71 dX8_takeSign_67 rfl ?_
    refine m_sub [] rfl ?_
    exact b_X8_takeSign_71 hc hr 6 x0 (sI S b2 (Int32.toNatClampNeg (hI S b3 0)) (hI S x0 6)) hw
def wp_X8_takeSign (M : Nat × Nat) (x0 : Nat) (S : HS) (K : Int32 → HS → Prop) : Prop := hT S x0 = 9 ∧ ((hI S x0 6) = 43 → w_X8_takeSign_36 M K x0 S) ∧ (¬ ((hI S x0 6) = 43) → hT S x0 = 9 ∧ ((hI S x0 6) = 45 → w_X8_takeSign_36 M K x0 S) ∧ (¬ ((hI S x0 6) = 45) → hT S x0 = 9 ∧ ((hI S x0 6) = 42 → w_X8_takeSign_36 M K x0 S) ∧ (¬ ((hI S x0 6) = 42) → hT S x0 = 9 ∧ (¬ (hI S x0 6) = 94 → hT S x0 = 9 ∧ wp_X8_takeStepEnd M x0 S (fun r1 S1 => K r1 S1)) ∧ ((hI S x0 6) = 94 → w_X8_takeSign_36 M K x0 S))))
set_option maxHeartbeats 4000000 in
set_option maxRecDepth 100000 in
theorem ok_X8_takeSign {G : CG} {x0 : Nat} {S : HS} {K : Int32 → HS → Prop} (hw : wp_X8_takeSign (gC G, gS G) x0 S K) : CC 2 yX8_takeSign cX8_takeSign 1 (some .int) [.ref x0] G S (kI K) := by
  refine CC.of (by decide +kernel) (Nat.le_of_ble_eq_true rfl) (fun X hc hr hname => ?_)
  show MC G S X 1 S 0 [(0, .ref x0)] []
  unfold wp_X8_takeSign at hw
  refine m_aload_n hc 0 dX8_takeSign_0 rfl rfl ?_
  obtain ⟨ht, hw⟩ := hw
  refine c_geti hc hr ciX8 (Nat.le_of_ble_eq_true rfl) 6 (Nat.le_of_ble_eq_true rfl) rfl dX8_takeSign_1 lf_X8_22 ht ?_
  refine m_bipush hc 43 dX8_takeSign_4 (by decide) ?_
  refine m_icmp_eq hc 36 dX8_takeSign_6 rfl (fun cq => ?_) (fun cq => ?_)
  · have hw := hw.1 cq
    exact b_X8_takeSign_36 hc hr x0 S hw
  · have hw := hw.2 cq
    refine m_aload_n hc 0 dX8_takeSign_9 rfl rfl ?_
    obtain ⟨ht, hw⟩ := hw
    refine c_geti hc hr ciX8 (Nat.le_of_ble_eq_true rfl) 6 (Nat.le_of_ble_eq_true rfl) rfl dX8_takeSign_10 lf_X8_22 ht ?_
    refine m_bipush hc 45 dX8_takeSign_13 (by decide) ?_
    refine m_icmp_eq hc 36 dX8_takeSign_15 rfl (fun cq => ?_) (fun cq => ?_)
    · have hw := hw.1 cq
      exact b_X8_takeSign_36 hc hr x0 S hw
    · have hw := hw.2 cq
      refine m_aload_n hc 0 dX8_takeSign_18 rfl rfl ?_
      obtain ⟨ht, hw⟩ := hw
      refine c_geti hc hr ciX8 (Nat.le_of_ble_eq_true rfl) 6 (Nat.le_of_ble_eq_true rfl) rfl dX8_takeSign_19 lf_X8_22 ht ?_
      refine m_bipush hc 42 dX8_takeSign_22 (by decide) ?_
      refine m_icmp_eq hc 36 dX8_takeSign_24 rfl (fun cq => ?_) (fun cq => ?_)
      · have hw := hw.1 cq
        exact b_X8_takeSign_36 hc hr x0 S hw
      · have hw := hw.2 cq
        refine m_aload_n hc 0 dX8_takeSign_27 rfl rfl ?_
        obtain ⟨ht, hw⟩ := hw
        refine c_geti hc hr ciX8 (Nat.le_of_ble_eq_true rfl) 6 (Nat.le_of_ble_eq_true rfl) rfl dX8_takeSign_28 lf_X8_22 ht ?_
        refine m_bipush hc 94 dX8_takeSign_31 (by decide) ?_
        refine m_icmp_ne hc 75 dX8_takeSign_33 rfl (fun cq => ?_) (fun cq => ?_)
        · have hw := hw.1 cq
          refine m_aload_n hc 0 dX8_takeSign_75 rfl rfl ?_
          obtain ⟨ht, hw⟩ := hw
          refine c_callVi hc hr ciX8 (Nat.le_of_ble_eq_true rfl) ht mt_X8_takeStepEnd rfl lm_X8_83 (ok_X8_takeStepEnd hw) (Nat.le_of_ble_eq_true rfl) dX8_takeSign_76 rfl (rest := []) rfl (Nat.le_of_ble_eq_true rfl) (fun r1 S1 hw => ?_)
          exact c_iret hc hr dX8_takeSign_79 hw
        · have hw := hw.2 cq
          exact b_X8_takeSign_36 hc hr x0 S hw
def wp_X8_take (M : Nat × Nat) (x0 : Nat) (S : HS) (K : Int32 → HS → Prop) : Prop := hT S x0 = 9 ∧ ((Int32.toInt (hI S x0 8) < 0 ∨ 6 < Int32.toInt (hI S x0 8)) → hT S x0 = 9 ∧ wp_X8_takeStepEnd M x0 S (fun r1 S1 => K r1 S1)) ∧ ((hI S x0 8) = 0 → hT S x0 = 9 ∧ wp_X8_takeName M x0 S (fun r2 S2 => K r2 S2)) ∧ ((hI S x0 8) = 1 → hT S x0 = 9 ∧ wp_X8_takeName M x0 S (fun r3 S3 => K r3 S3)) ∧ ((hI S x0 8) = 2 → hT S x0 = 9 ∧ (¬ (hI S x0 6) = 61 → K 1 S) ∧ ((hI S x0 6) = 61 → hT S x0 = 9 ∧ wp_X8_go M x0 3 S (fun r4 S4 => K r4 S4))) ∧ ((hI S x0 8) = 3 → hT S x0 = 9 ∧ wp_X8_takeAtom M x0 S (fun r5 S5 => K r5 S5)) ∧ ((hI S x0 8) = 4 → hT S x0 = 9 ∧ wp_X8_takeSign M x0 S (fun r6 S6 => K r6 S6)) ∧ ((hI S x0 8) = 5 → hT S x0 = 9 ∧ wp_X8_takeAtom M x0 S (fun r7 S7 => K r7 S7)) ∧ ((hI S x0 8) = 6 → hT S x0 = 9 ∧ wp_X8_takeExponent M x0 S (fun r8 S8 => K r8 S8))
set_option maxHeartbeats 4000000 in
set_option maxRecDepth 100000 in
theorem ok_X8_take {G : CG} {x0 : Nat} {S : HS} {K : Int32 → HS → Prop} (hw : wp_X8_take (gC G, gS G) x0 S K) : CC 3 yX8_take cX8_take 1 (some .int) [.ref x0] G S (kI K) := by
  refine CC.of (by decide +kernel) (Nat.le_of_ble_eq_true rfl) (fun X hc hr hname => ?_)
  show MC G S X 1 S 0 [(0, .ref x0)] []
  unfold wp_X8_take at hw
  refine m_aload_n hc 0 dX8_take_0 rfl rfl ?_
  obtain ⟨ht, hw⟩ := hw
  refine c_geti hc hr ciX8 (Nat.le_of_ble_eq_true rfl) 8 (Nat.le_of_ble_eq_true rfl) rfl dX8_take_1 lf_X8_28 ht ?_
  rcases sw_in 6 (x := hI S x0 8) (Nat.le_of_ble_eq_true rfl) with cq | ⟨cn, cl, cq⟩
  · have hw := hw.1 cq
    refine m_tout hc 87 dX8_take_4 cq rfl ?_
    refine m_aload_n hc 0 dX8_take_87 rfl rfl ?_
    obtain ⟨ht, hw⟩ := hw
    refine c_callVi hc hr ciX8 (Nat.le_of_ble_eq_true rfl) ht mt_X8_takeStepEnd rfl lm_X8_83 (ok_X8_takeStepEnd hw) (Nat.le_of_ble_eq_true rfl) dX8_take_88 rfl (rest := []) rfl (Nat.le_of_ble_eq_true rfl) (fun r1 S1 hw => ?_)
    exact c_iret hc hr dX8_take_91 hw
  · have hw := hw.2
    match cn, cl, cq with
    | 0, _, cq =>
      have cq : hI S x0 8 = 0 := cq
      have hw := hw.1 cq
      refine m_tin hc (off := 44) 48 dX8_take_4 (by rw [cq]; decide) (by rw [cq]; decide) (by rw [cq]; rfl) rfl ?_
      refine m_aload_n hc 0 dX8_take_48 rfl rfl ?_
      obtain ⟨ht, hw⟩ := hw
      refine c_callVi hc hr ciX8 (Nat.le_of_ble_eq_true rfl) ht mt_X8_takeName rfl lm_X8_67 (ok_X8_takeName hw) (Nat.le_of_ble_eq_true rfl) dX8_take_49 rfl (rest := []) rfl (Nat.le_of_ble_eq_true rfl) (fun r2 S2 hw => ?_)
      exact c_iret hc hr dX8_take_52 hw
    | 1, _, cq =>
      have cq : hI S x0 8 = 1 := cq
      have hw := hw.2.1 cq
      refine m_tin hc (off := 44) 48 dX8_take_4 (by rw [cq]; decide) (by rw [cq]; decide) (by rw [cq]; rfl) rfl ?_
      refine m_aload_n hc 0 dX8_take_48 rfl rfl ?_
      obtain ⟨ht, hw⟩ := hw
      refine c_callVi hc hr ciX8 (Nat.le_of_ble_eq_true rfl) ht mt_X8_takeName rfl lm_X8_67 (ok_X8_takeName hw) (Nat.le_of_ble_eq_true rfl) dX8_take_49 rfl (rest := []) rfl (Nat.le_of_ble_eq_true rfl) (fun r3 S3 hw => ?_)
      exact c_iret hc hr dX8_take_52 hw
    | 2, _, cq =>
      have cq : hI S x0 8 = 2 := cq
      have hw := hw.2.2.1 cq
      refine m_tin hc (off := 49) 53 dX8_take_4 (by rw [cq]; decide) (by rw [cq]; decide) (by rw [cq]; rfl) rfl ?_
      refine m_aload_n hc 0 dX8_take_53 rfl rfl ?_
      obtain ⟨ht, hw⟩ := hw
      refine c_geti hc hr ciX8 (Nat.le_of_ble_eq_true rfl) 6 (Nat.le_of_ble_eq_true rfl) rfl dX8_take_54 lf_X8_22 ht ?_
      refine m_bipush hc 61 dX8_take_57 (by decide) ?_
      refine m_icmp_ne hc 70 dX8_take_59 rfl (fun cq => ?_) (fun cq => ?_)
      · have hw := hw.1 cq
        refine m_iconst hc 1 dX8_take_70 (by decide) ?_
        exact c_iret hc hr dX8_take_71 hw
      · have hw := hw.2 cq
        refine m_aload_n hc 0 dX8_take_62 rfl rfl ?_
        refine m_iconst hc 3 dX8_take_63 (by decide) ?_
        obtain ⟨ht, hw⟩ := hw
        refine c_callVi hc hr ciX8 (Nat.le_of_ble_eq_true rfl) ht mt_X8_go rfl lm_X8_70 (ok_X8_go hw) (Nat.le_of_ble_eq_true rfl) dX8_take_64 rfl (rest := []) rfl (Nat.le_of_ble_eq_true rfl) (fun r4 S4 hw => ?_)
        refine m_goto hc 71 dX8_take_67 rfl ?_
        exact c_iret hc hr dX8_take_71 hw
    | 3, _, cq =>
      have cq : hI S x0 8 = 3 := cq
      have hw := hw.2.2.2.1 cq
      refine m_tin hc (off := 68) 72 dX8_take_4 (by rw [cq]; decide) (by rw [cq]; decide) (by rw [cq]; rfl) rfl ?_
      refine m_aload_n hc 0 dX8_take_72 rfl rfl ?_
      obtain ⟨ht, hw⟩ := hw
      refine c_callVi hc hr ciX8 (Nat.le_of_ble_eq_true rfl) ht mt_X8_takeAtom rfl lm_X8_74 (ok_X8_takeAtom hw) (Nat.le_of_ble_eq_true rfl) dX8_take_73 rfl (rest := []) rfl (Nat.le_of_ble_eq_true rfl) (fun r5 S5 hw => ?_)
      exact c_iret hc hr dX8_take_76 hw
    | 4, _, cq =>
      have cq : hI S x0 8 = 4 := cq
      have hw := hw.2.2.2.2.1 cq
      refine m_tin hc (off := 73) 77 dX8_take_4 (by rw [cq]; decide) (by rw [cq]; decide) (by rw [cq]; rfl) rfl ?_
      refine m_aload_n hc 0 dX8_take_77 rfl rfl ?_
      obtain ⟨ht, hw⟩ := hw
      refine c_callVi hc hr ciX8 (Nat.le_of_ble_eq_true rfl) ht mt_X8_takeSign rfl lm_X8_77 (ok_X8_takeSign hw) (Nat.le_of_ble_eq_true rfl) dX8_take_78 rfl (rest := []) rfl (Nat.le_of_ble_eq_true rfl) (fun r6 S6 hw => ?_)
      exact c_iret hc hr dX8_take_81 hw
    | 5, _, cq =>
      have cq : hI S x0 8 = 5 := cq
      have hw := hw.2.2.2.2.2.1 cq
      refine m_tin hc (off := 68) 72 dX8_take_4 (by rw [cq]; decide) (by rw [cq]; decide) (by rw [cq]; rfl) rfl ?_
      refine m_aload_n hc 0 dX8_take_72 rfl rfl ?_
      obtain ⟨ht, hw⟩ := hw
      refine c_callVi hc hr ciX8 (Nat.le_of_ble_eq_true rfl) ht mt_X8_takeAtom rfl lm_X8_74 (ok_X8_takeAtom hw) (Nat.le_of_ble_eq_true rfl) dX8_take_73 rfl (rest := []) rfl (Nat.le_of_ble_eq_true rfl) (fun r7 S7 hw => ?_)
      exact c_iret hc hr dX8_take_76 hw
    | 6, _, cq =>
      have cq : hI S x0 8 = 6 := cq
      have hw := hw.2.2.2.2.2.2 cq
      refine m_tin hc (off := 78) 82 dX8_take_4 (by rw [cq]; decide) (by rw [cq]; decide) (by rw [cq]; rfl) rfl ?_
      refine m_aload_n hc 0 dX8_take_82 rfl rfl ?_
      obtain ⟨ht, hw⟩ := hw
      refine c_callVi hc hr ciX8 (Nat.le_of_ble_eq_true rfl) ht mt_X8_takeExponent rfl lm_X8_80 (ok_X8_takeExponent hw) (Nat.le_of_ble_eq_true rfl) dX8_take_83 rfl (rest := []) rfl (Nat.le_of_ble_eq_true rfl) (fun r8 S8 hw => ?_)
      exact c_iret hc hr dX8_take_86 hw
    | nn + 7, cl, _ => exact absurd cl (by omega)
def wb_X8_read_2 (M : Nat × Nat) (K2 : Nat → Int32 → HS → Prop) (K : Int32 → HS → Prop) (x0 : Nat) (x1 : Int32) (S : HS) : Prop := hT S x0 = 9 ∧ ((hI S x0 2) < x1 → K 1 S) ∧ (¬ ((hI S x0 2) < x1) → hT S x0 = 9 ∧ wp_X8_readToken M x0 S (fun r1 S1 => hT S1 x0 = 9 ∧ wp_X8_take M x0 S1 (fun r2 S2 => (¬ r2 = 0 → K r2 S2) ∧ (r2 = 0 → hT S2 x0 = 9 ∧ (¬ (hI S2 x0 6) = 257 → K2 x0 (x1 + 1) S2) ∧ ((hI S2 x0 6) = 257 → K r2 S2)))))
def wl_X8_read_2 (M : Nat × Nat) (K : Int32 → HS → Prop) : Nat → Nat → Int32 → HS → Prop
  | 0 => fun _ _ _ => False
  | nn + 1 => wb_X8_read_2 M (wl_X8_read_2 M K nn) K
set_option maxHeartbeats 4000000 in
set_option maxRecDepth 100000 in
theorem l_X8_read_2 {G : CG} {S0 : HS} {X : Fx} {K : Int32 → HS → Prop} (hc : Cx X RX8 cX8_read 3) (hr : Cc G S0 4 (some .int) (kI K) X) : ∀ (nn : Nat) (x0 : Nat) (x1 : Int32) (S : HS), wl_X8_read_2 (gC G, gS G) K nn x0 x1 S → MC G S0 X 3 S 2 [(0, .ref x0), (1, .int x1)] [] := by
  intro nn
  induction nn with
  | zero => intro x0 x1 S hw; exact False.elim hw
  | succ nn ih =>
    intro x0 x1 S hw
    have hw : wb_X8_read_2 (gC G, gS G) (wl_X8_read_2 (gC G, gS G) K nn) K x0 x1 S := hw
    have h2 := ih
    generalize wl_X8_read_2 (gC G, gS G) K nn = K2 at hw h2
    unfold wb_X8_read_2 at hw
    refine m_iload_n hc 1 dX8_read_2 rfl rfl ?_
    refine m_aload_n hc 0 dX8_read_3 rfl rfl ?_
    obtain ⟨ht, hw⟩ := hw
    refine c_geti hc hr ciX8 (Nat.le_of_ble_eq_true rfl) 2 (Nat.le_of_ble_eq_true rfl) rfl dX8_read_4 lf_X8_34 ht ?_
    refine m_icmp_gt hc 41 dX8_read_7 rfl (fun cq => ?_) (fun cq => ?_)
    · have hw := hw.1 cq
      refine m_iconst hc 1 dX8_read_41 (by decide) ?_
      exact c_iret hc hr dX8_read_42 hw
    · have hw := hw.2 cq
      refine m_aload_n hc 0 dX8_read_10 rfl rfl ?_
      obtain ⟨ht, hw⟩ := hw
      refine c_callVv hc hr ciX8 (Nat.le_of_ble_eq_true rfl) ht mt_X8_readToken rfl lm_X8_47 (ok_X8_readToken hw) (Nat.le_of_ble_eq_true rfl) dX8_read_11 rfl (rest := []) rfl (Nat.le_of_ble_eq_true rfl) (fun S1 hw => ?_)
      refine m_aload_n hc 0 dX8_read_14 rfl rfl ?_
      obtain ⟨ht, hw⟩ := hw
      refine c_callVi hc hr ciX8 (Nat.le_of_ble_eq_true rfl) ht mt_X8_take rfl lm_X8_50 (ok_X8_take hw) (Nat.le_of_ble_eq_true rfl) dX8_read_15 rfl (rest := []) rfl (Nat.le_of_ble_eq_true rfl) (fun r2 S2 hw => ?_)
      refine m_istore_n hc [(2, .int r2), (0, .ref x0), (1, .int x1)] dX8_read_18 rfl (Nat.le_of_ble_eq_true rfl) rfl ?_
      refine m_iload_n hc 0 dX8_read_19 rfl rfl ?_
      refine m_if_ne hc 33 dX8_read_20 rfl (fun cq => ?_) (fun cq => ?_)
      · have hw := hw.1 cq
        refine m_iload_n hc 0 dX8_read_33 rfl rfl ?_
        exact c_iret hc hr dX8_read_34 hw
      · have hw := hw.2 cq
        refine m_aload_n hc 1 dX8_read_23 rfl rfl ?_
        obtain ⟨ht, hw⟩ := hw
        refine c_geti hc hr ciX8 (Nat.le_of_ble_eq_true rfl) 6 (Nat.le_of_ble_eq_true rfl) rfl dX8_read_24 lf_X8_22 ht ?_
        refine m_sipush hc 257 dX8_read_27 (by decide) ?_
        refine m_icmp_ne hc 35 dX8_read_30 rfl (fun cq => ?_) (fun cq => ?_)
        · have hw := hw.1 cq
          refine m_iinc hc 2 (x1 + 1) [(1, .int (x1 + 1)), (2, .int r2), (0, .ref x0)] dX8_read_35 rfl rfl (Nat.le_of_ble_eq_true rfl) rfl ?_
          refine m_goto hc 2 dX8_read_38 rfl ?_
          refine m_sub [2, 0] rfl ?_
          exact h2 x0 (x1 + 1) S2 hw
        · have hw := hw.2 cq
          refine m_iload_n hc 0 dX8_read_33 rfl rfl ?_
          exact c_iret hc hr dX8_read_34 hw
def wp_X8_read (M : Nat × Nat) (x0 : Nat) (S : HS) (K : Int32 → HS → Prop) : Prop := ∃ nn : Nat, wl_X8_read_2 M K nn x0 0 S
set_option maxHeartbeats 4000000 in
set_option maxRecDepth 100000 in
theorem ok_X8_read {G : CG} {x0 : Nat} {S : HS} {K : Int32 → HS → Prop} (hw : wp_X8_read (gC G, gS G) x0 S K) : CC 4 yX8_read cX8_read 3 (some .int) [.ref x0] G S (kI K) := by
  refine CC.of (by decide +kernel) (Nat.le_of_ble_eq_true rfl) (fun X hc hr hname => ?_)
  show MC G S X 3 S 0 [(0, .ref x0)] []
  unfold wp_X8_read at hw
  refine m_iconst hc 0 dX8_read_0 (by decide) ?_
  refine m_istore_n hc [(1, .int 0), (0, .ref x0)] dX8_read_1 rfl (Nat.le_of_ble_eq_true rfl) rfl ?_
  refine m_sub [1, 0] rfl ?_
  obtain ⟨nn, hw⟩ := hw
  exact l_X8_read_2 hc hr nn x0 0 S hw
def wp_X9_init (M : Nat × Nat) (x0 : Nat) (S : HS) (K : Int32 → HS → Prop) : Prop := hT S x0 = 10 ∧ hX (sI S x0 0 5) + 1 ≤ M.1 ∧ hS (sI S x0 0 5) + 4 ≤ M.2 ∧ ∀ (b1 : Nat) (S1 : HS), b1 = hX (sI S x0 0 5) → S1 = nO (sI S x0 0 5) 7 4 → wp_X6_init M b1 300 S1 (fun r2 S2 => hT S2 x0 = 10 ∧ hX (sP S2 x0 1 (some b1)) + 1 ≤ M.1 ∧ hS (sP S2 x0 1 (some b1)) + 4 ≤ M.2 ∧ ∀ (b3 : Nat) (S3 : HS), b3 = hX (sP S2 x0 1 (some b1)) → S3 = nO (sP S2 x0 1 (some b1)) 7 4 → wp_X6_init M b3 300 S3 (fun r4 S4 => hT S4 x0 = 10 ∧ hX (sP S4 x0 2 (some b3)) + 1 ≤ M.1 ∧ hS (sP S4 x0 2 (some b3)) + 3 ≤ M.2 ∧ ∀ (b5 : Nat) (S5 : HS), b5 = hX (sP S4 x0 2 (some b3)) → S5 = nO (sP S4 x0 2 (some b3)) 2 3 → wp_X1_init M b5 S5 (fun r6 S6 => hT S6 x0 = 10 ∧ hX (sP S6 x0 3 (some b5)) + 1 ≤ M.1 ∧ hS (sP S6 x0 3 (some b5)) + 3 ≤ M.2 ∧ ∀ (b7 : Nat) (S7 : HS), b7 = hX (sP S6 x0 3 (some b5)) → S7 = nO (sP S6 x0 3 (some b5)) 2 3 → wp_X1_init M b7 S7 (fun r8 S8 => hT S8 x0 = 10 ∧ ¬ (300 : Int32) < 0 ∧ (Int32.toNatClampNeg 300) ≤ 100000000 ∧ hX (sP S8 x0 4 (some b7)) + 1 ≤ M.1 ∧ hS (sP S8 x0 4 (some b7)) + (Int32.toNatClampNeg 300) ≤ M.2 ∧ ∀ (b9 : Nat) (S9 : HS), b9 = hX (sP S8 x0 4 (some b7)) → S9 = nO (sP S8 x0 4 (some b7)) 21 (Int32.toNatClampNeg 300) → hT S9 x0 = 10 ∧ ¬ (123 : Int32) < 0 ∧ (Int32.toNatClampNeg 123) ≤ 100000000 ∧ hX (sP S9 x0 5 (some b9)) + 1 ≤ M.1 ∧ hS (sP S9 x0 5 (some b9)) + (Int32.toNatClampNeg 123) ≤ M.2 ∧ ∀ (b10 : Nat) (S10 : HS), b10 = hX (sP S9 x0 5 (some b9)) → S10 = nO (sP S9 x0 5 (some b9)) 21 (Int32.toNatClampNeg 123) → hT S10 x0 = 10 ∧ ¬ (41 : Int32) < 0 ∧ (Int32.toNatClampNeg 41) ≤ 100000000 ∧ hX (sP S10 x0 6 (some b10)) + 1 ≤ M.1 ∧ hS (sP S10 x0 6 (some b10)) + (Int32.toNatClampNeg 41) ≤ M.2 ∧ ∀ (b11 : Nat) (S11 : HS), b11 = hX (sP S10 x0 6 (some b10)) → S11 = nO (sP S10 x0 6 (some b10)) 21 (Int32.toNatClampNeg 41) → hT S11 x0 = 10 ∧ ¬ (41 : Int32) < 0 ∧ (Int32.toNatClampNeg 41) ≤ 100000000 ∧ hX (sP S11 x0 7 (some b11)) + 1 ≤ M.1 ∧ hS (sP S11 x0 7 (some b11)) + (Int32.toNatClampNeg 41) ≤ M.2 ∧ ∀ (b12 : Nat) (S12 : HS), b12 = hX (sP S11 x0 7 (some b11)) → S12 = nO (sP S11 x0 7 (some b11)) 21 (Int32.toNatClampNeg 41) → hT S12 x0 = 10 ∧ K 0 (sP S12 x0 8 (some b12))))))
set_option maxHeartbeats 4000000 in
set_option maxRecDepth 100000 in
theorem ok_X9_init {G : CG} {x0 : Nat} {S : HS} {K : Int32 → HS → Prop} (hw : wp_X9_init (gC G, gS G) x0 S K) : CC 2 yX9_init cX9_init 1 none [.ref x0] G S (kV K) := by
  refine CC.of (by decide +kernel) (Nat.le_of_ble_eq_true rfl) (fun X hc hr hname => ?_)
  have hnm : Ci X := hname
  show MC G S X 1 S 0 [(0, .ref x0)] []
  unfold wp_X9_init at hw
  refine m_aload_n hc 0 dX9_init_0 rfl rfl ?_
  refine c_bnd (fun g1 g2 => ?_)
  refine q_objinit hc dX9_init_1 lm_X9_3 lObj (c_room hr g1 g2) (Nat.le_of_ble_eq_true rfl) ?_
  refine m_aload_n hc 0 dX9_init_4 rfl rfl ?_
  refine m_iconst hc 5 dX9_init_5 (by decide) ?_
  obtain ⟨ht, hw⟩ := hw
  refine c_puti hc hr ciX9 (Nat.le_of_ble_eq_true rfl) 0 (Nat.le_of_ble_eq_true rfl) rfl dX9_init_6 lf_X9_9 ht (Or.inl rfl) ⟨rfl, rfl⟩ ?_
  refine m_aload_n hc 0 dX9_init_9 rfl rfl ?_
  obtain ⟨hm, hm2, hw⟩ := hw
  refine n_new hc hr ciX6 (Nat.le_of_ble_eq_true rfl) dfX6 dX9_init_10 lcl_X9_15 lni_X6 hm hm2 (fun b1 S1 e_b1 e_S1 => ?_)
  have hw := hw b1 S1 e_b1 e_S1
  refine m_dup hc dX9_init_13 rfl ?_
  refine m_sipush hc 300 dX9_init_14 (by decide) ?_
  refine c_callIv hc hr mt_X6_init lm_X9_17 (ok_X6_init hw) (Nat.le_of_ble_eq_true rfl) dX9_init_17 rfl (rest := [.ref b1, .ref x0]) rfl (Nat.le_of_ble_eq_true rfl) (fun S2 hw => ?_)
  obtain ⟨ht, hw⟩ := hw
  refine c_putr hc hr ciX9 (Nat.le_of_ble_eq_true rfl) 1 (Nat.le_of_ble_eq_true rfl) rfl dX9_init_20 lf_X9_20 ht (Or.inr ⟨rfl, hnm, rfl⟩) (Or.inl ⟨_, rfl⟩) ?_
  refine m_aload_n hc 0 dX9_init_23 rfl rfl ?_
  obtain ⟨hm, hm2, hw⟩ := hw
  refine n_new hc hr ciX6 (Nat.le_of_ble_eq_true rfl) dfX6 dX9_init_24 lcl_X9_15 lni_X6 hm hm2 (fun b3 S3 e_b3 e_S3 => ?_)
  have hw := hw b3 S3 e_b3 e_S3
  refine m_dup hc dX9_init_27 rfl ?_
  refine m_sipush hc 300 dX9_init_28 (by decide) ?_
  refine c_callIv hc hr mt_X6_init lm_X9_17 (ok_X6_init hw) (Nat.le_of_ble_eq_true rfl) dX9_init_31 rfl (rest := [.ref b3, .ref x0]) rfl (Nat.le_of_ble_eq_true rfl) (fun S4 hw => ?_)
  obtain ⟨ht, hw⟩ := hw
  refine c_putr hc hr ciX9 (Nat.le_of_ble_eq_true rfl) 2 (Nat.le_of_ble_eq_true rfl) rfl dX9_init_34 lf_X9_24 ht (Or.inr ⟨rfl, hnm, rfl⟩) (Or.inl ⟨_, rfl⟩) ?_
  refine m_aload_n hc 0 dX9_init_37 rfl rfl ?_
  obtain ⟨hm, hm2, hw⟩ := hw
  refine n_new hc hr ciX1 (Nat.le_of_ble_eq_true rfl) dfX1 dX9_init_38 lcl_X9_27 lni_X1 hm hm2 (fun b5 S5 e_b5 e_S5 => ?_)
  have hw := hw b5 S5 e_b5 e_S5
  refine m_dup hc dX9_init_41 rfl ?_
  refine c_callNv hc hr mt_X1_init ln_X9_29 (ok_X1_init hw) (Nat.le_of_ble_eq_true rfl) dX9_init_42 rfl (rest := [.ref b5, .ref x0]) rfl (Nat.le_of_ble_eq_true rfl) (fun S6 hw => ?_)
  obtain ⟨ht, hw⟩ := hw
  refine c_putr hc hr ciX9 (Nat.le_of_ble_eq_true rfl) 3 (Nat.le_of_ble_eq_true rfl) rfl dX9_init_45 lf_X9_30 ht (Or.inr ⟨rfl, hnm, rfl⟩) (Or.inl ⟨_, rfl⟩) ?_
  refine m_aload_n hc 0 dX9_init_48 rfl rfl ?_
  obtain ⟨hm, hm2, hw⟩ := hw
  refine n_new hc hr ciX1 (Nat.le_of_ble_eq_true rfl) dfX1 dX9_init_49 lcl_X9_27 lni_X1 hm hm2 (fun b7 S7 e_b7 e_S7 => ?_)
  have hw := hw b7 S7 e_b7 e_S7
  refine m_dup hc dX9_init_52 rfl ?_
  refine c_callNv hc hr mt_X1_init ln_X9_29 (ok_X1_init hw) (Nat.le_of_ble_eq_true rfl) dX9_init_53 rfl (rest := [.ref b7, .ref x0]) rfl (Nat.le_of_ble_eq_true rfl) (fun S8 hw => ?_)
  obtain ⟨ht, hw⟩ := hw
  refine c_putr hc hr ciX9 (Nat.le_of_ble_eq_true rfl) 4 (Nat.le_of_ble_eq_true rfl) rfl dX9_init_56 lf_X9_34 ht (Or.inr ⟨rfl, hnm, rfl⟩) (Or.inl ⟨_, rfl⟩) ?_
  refine m_aload_n hc 0 dX9_init_59 rfl rfl ?_
  refine m_sipush hc 300 dX9_init_60 (by decide) ?_
  obtain ⟨hn0, hn1, hm, hm2, hw⟩ := hw
  refine n_newi hc hr dX9_init_63 laI hn0 hn1 hm hm2 (fun b9 S9 e_b9 e_S9 => ?_)
  have hw := hw b9 S9 e_b9 e_S9
  obtain ⟨ht, hw⟩ := hw
  refine c_putr hc hr ciX9 (Nat.le_of_ble_eq_true rfl) 5 (Nat.le_of_ble_eq_true rfl) rfl dX9_init_65 lf_X9_37 ht (Or.inr ⟨rfl, hnm, rfl⟩) (Or.inr ⟨_, rfl⟩) ?_
  refine m_aload_n hc 0 dX9_init_68 rfl rfl ?_
  refine m_bipush hc 123 dX9_init_69 (by decide) ?_
  obtain ⟨hn0, hn1, hm, hm2, hw⟩ := hw
  refine n_newi hc hr dX9_init_71 laI hn0 hn1 hm hm2 (fun b10 S10 e_b10 e_S10 => ?_)
  have hw := hw b10 S10 e_b10 e_S10
  obtain ⟨ht, hw⟩ := hw
  refine c_putr hc hr ciX9 (Nat.le_of_ble_eq_true rfl) 6 (Nat.le_of_ble_eq_true rfl) rfl dX9_init_73 lf_X9_41 ht (Or.inr ⟨rfl, hnm, rfl⟩) (Or.inr ⟨_, rfl⟩) ?_
  refine m_aload_n hc 0 dX9_init_76 rfl rfl ?_
  refine m_bipush hc 41 dX9_init_77 (by decide) ?_
  obtain ⟨hn0, hn1, hm, hm2, hw⟩ := hw
  refine n_newi hc hr dX9_init_79 laI hn0 hn1 hm hm2 (fun b11 S11 e_b11 e_S11 => ?_)
  have hw := hw b11 S11 e_b11 e_S11
  obtain ⟨ht, hw⟩ := hw
  refine c_putr hc hr ciX9 (Nat.le_of_ble_eq_true rfl) 7 (Nat.le_of_ble_eq_true rfl) rfl dX9_init_81 lf_X9_44 ht (Or.inr ⟨rfl, hnm, rfl⟩) (Or.inr ⟨_, rfl⟩) ?_
  refine m_aload_n hc 0 dX9_init_84 rfl rfl ?_
  refine m_bipush hc 41 dX9_init_85 (by decide) ?_
  obtain ⟨hn0, hn1, hm, hm2, hw⟩ := hw
  refine n_newi hc hr dX9_init_87 laI hn0 hn1 hm hm2 (fun b12 S12 e_b12 e_S12 => ?_)
  have hw := hw b12 S12 e_b12 e_S12
  obtain ⟨ht, hw⟩ := hw
  refine c_putr hc hr ciX9 (Nat.le_of_ble_eq_true rfl) 8 (Nat.le_of_ble_eq_true rfl) rfl dX9_init_89 lf_X9_47 ht (Or.inr ⟨rfl, hnm, rfl⟩) (Or.inr ⟨_, rfl⟩) ?_
  exact c_vret hc hr dX9_init_92 hw
