def wb_X2_inAll_4 (M : Nat × Nat) (K4 : Nat → Int32 → Int32 → HS → Prop) (K : Int32 → HS → Prop) (x0 : Nat) (x1 x2 : Int32) (S : HS) : Prop := hT S x0 = 3 ∧ ((hI S x0 1) ≤ x2 → K x1 S) ∧ (¬ ((hI S x0 1) ≤ x2) → hT S x0 = 3 ∧ ∃ b1 : Nat, hP S x0 0 = some b1 ∧ hT S b1 = 21 ∧ vp_in ((x2 * 5) + 4) (hN S b1) ∧ ∀ v2 : Int32, v2 = (x1 + (hI S b1 (Int32.toNatClampNeg ((x2 * 5) + 4)))) → K4 x0 v2 (x2 + 1) S)
def wl_X2_inAll_4 (M : Nat × Nat) (K : Int32 → HS → Prop) : Nat → Nat → Int32 → Int32 → HS → Prop
  | 0 => fun _ _ _ _ => False
  | nn + 1 => wb_X2_inAll_4 M (wl_X2_inAll_4 M K nn) K
set_option maxHeartbeats 4000000 in
set_option maxRecDepth 100000 in
theorem l_X2_inAll_4 {G : CG} {S0 : HS} {X : Fx} {K : Int32 → HS → Prop} (hc : Cx X RX2 cX2_inAll 3) (hr : Cc G S0 0 (some .int) (kI K) X) : ∀ (nn : Nat) (x0 : Nat) (x1 x2 : Int32) (S : HS), wl_X2_inAll_4 (gC G, gS G) K nn x0 x1 x2 S → MC G S0 X 3 S 4 [(0, .ref x0), (1, .int x1), (2, .int x2)] [] := by
  intro nn
  induction nn with
  | zero => intro x0 x1 x2 S hw; exact False.elim hw
  | succ nn ih =>
    intro x0 x1 x2 S hw
    have hw : wb_X2_inAll_4 (gC G, gS G) (wl_X2_inAll_4 (gC G, gS G) K nn) K x0 x1 x2 S := hw
    have h4 := ih
    generalize wl_X2_inAll_4 (gC G, gS G) K nn = K4 at hw h4
    unfold wb_X2_inAll_4 at hw
    refine m_iload_n hc 2 dX2_inAll_4 rfl rfl ?_
    refine m_aload_n hc 0 dX2_inAll_5 rfl rfl ?_
    obtain ⟨ht, hw⟩ := hw
    refine c_geti hc hr ciX2 (Nat.le_of_ble_eq_true rfl) 1 (Nat.le_of_ble_eq_true rfl) rfl dX2_inAll_6 lf_X2_15 ht ?_
    refine m_icmp_ge hc 31 dX2_inAll_9 rfl (fun cq => ?_) (fun cq => ?_)
    · have hw := hw.1 cq
      refine m_iload_n hc 1 dX2_inAll_31 rfl rfl ?_
      exact c_iret hc hr dX2_inAll_32 hw
    · have hw := hw.2 cq
      refine m_iload_n hc 1 dX2_inAll_12 rfl rfl ?_
      refine m_aload_n hc 0 dX2_inAll_13 rfl rfl ?_
      obtain ⟨ht, b1, e_b1, hw⟩ := hw
      refine c_getr hc hr ciX2 (Nat.le_of_ble_eq_true rfl) 0 (Nat.le_of_ble_eq_true rfl) rfl dX2_inAll_14 lf_X2_11 ht e_b1 ?_
      refine m_iload_n hc 2 dX2_inAll_17 rfl rfl ?_
      refine m_iconst hc 5 dX2_inAll_18 (by decide) ?_
      refine m_imul hc dX2_inAll_19 ?_
      refine m_iconst hc 4 dX2_inAll_20 (by decide) ?_
      refine m_iadd hc dX2_inAll_21 ?_
      obtain ⟨ht, hi, hw⟩ := hw
      refine c_iald hc hr ht hi dX2_inAll_22 ?_
      refine m_iadd hc dX2_inAll_23 ?_
      refine m_topi (fun v2 e_v2 => ?_)
      have hw := hw v2 e_v2
      refine m_istore_n hc [(1, .int v2), (0, .ref x0), (2, .int x2)] dX2_inAll_24 rfl (Nat.le_of_ble_eq_true rfl) rfl ?_
      refine m_iinc hc 2 (x2 + 1) [(2, .int (x2 + 1)), (1, .int v2), (0, .ref x0)] dX2_inAll_25 rfl rfl (Nat.le_of_ble_eq_true rfl) rfl ?_
      refine m_goto hc 4 dX2_inAll_28 rfl ?_
      refine m_sub [2, 1, 0] rfl ?_
      exact h4 x0 v2 (x2 + 1) S hw
def wp_X2_inAll (M : Nat × Nat) (x0 : Nat) (S : HS) (K : Int32 → HS → Prop) : Prop := ∃ nn : Nat, wl_X2_inAll_4 M K nn x0 0 0 S
set_option maxHeartbeats 4000000 in
set_option maxRecDepth 100000 in
theorem ok_X2_inAll {G : CG} {x0 : Nat} {S : HS} {K : Int32 → HS → Prop} (hw : wp_X2_inAll (gC G, gS G) x0 S K) : CC 0 yX2_inAll cX2_inAll 3 (some .int) [.ref x0] G S (kI K) := by
  refine CC.of (by decide +kernel) (Nat.le_of_ble_eq_true rfl) (fun X hc hr hname => ?_)
  show MC G S X 3 S 0 [(0, .ref x0)] []
  unfold wp_X2_inAll at hw
  refine m_iconst hc 0 dX2_inAll_0 (by decide) ?_
  refine m_istore_n hc [(1, .int 0), (0, .ref x0)] dX2_inAll_1 rfl (Nat.le_of_ble_eq_true rfl) rfl ?_
  refine m_iconst hc 0 dX2_inAll_2 (by decide) ?_
  refine m_istore_n hc [(2, .int 0), (1, .int 0), (0, .ref x0)] dX2_inAll_3 rfl (Nat.le_of_ble_eq_true rfl) rfl ?_
  refine m_sub [2, 1, 0] rfl ?_
  obtain ⟨nn, hw⟩ := hw
  exact l_X2_inAll_4 hc hr nn x0 0 0 S hw
def wp_X6_kept (M : Nat × Nat) (x0 : Nat) (S : HS) (K : Option Nat → HS → Prop) : Prop := hT S x0 = 7 ∧ ((hI S x0 3) = 0 → hX S + 1 ≤ M.1 ∧ hS S + 4 ≤ M.2 ∧ ∀ (b1 : Nat) (S1 : HS), b1 = hX S → S1 = nO S 7 4 → hT S1 x0 = 7 ∧ wp_X6_init M b1 (hI S1 x0 2) S1 (fun r2 S2 => hT S2 x0 = 7 ∧ ∃ b3 : Nat, hP S2 x0 0 = some b3 ∧ hT S2 b1 = 7 ∧ ∃ b4 : Nat, hP S2 b1 0 = some b4 ∧ hT S2 x0 = 7 ∧ hT S2 b3 = 21 ∧ hT S2 b4 = 21 ∧ ¬ (0 : Int32) < 0 ∧ ¬ (0 : Int32) < 0 ∧ ¬ ((hI S2 x0 2) : Int32) < 0 ∧ Int32.toNatClampNeg 0 + Int32.toNatClampNeg (hI S2 x0 2) ≤ hN S2 b3 ∧ Int32.toNatClampNeg 0 + Int32.toNatClampNeg (hI S2 x0 2) ≤ hN S2 b4 ∧ hT (sR S2 b4 (va_cpy (hI S2 b3) (hI S2 b4) (Int32.toNatClampNeg 0) (Int32.toNatClampNeg 0) (Int32.toNatClampNeg (hI S2 x0 2)))) x0 = 7 ∧ ∃ b5 : Nat, hP (sR S2 b4 (va_cpy (hI S2 b3) (hI S2 b4) (Int32.toNatClampNeg 0) (Int32.toNatClampNeg 0) (Int32.toNatClampNeg (hI S2 x0 2)))) x0 1 = some b5 ∧ hT (sR S2 b4 (va_cpy (hI S2 b3) (hI S2 b4) (Int32.toNatClampNeg 0) (Int32.toNatClampNeg 0) (Int32.toNatClampNeg (hI S2 x0 2)))) b1 = 7 ∧ ∃ b6 : Nat, hP (sR S2 b4 (va_cpy (hI S2 b3) (hI S2 b4) (Int32.toNatClampNeg 0) (Int32.toNatClampNeg 0) (Int32.toNatClampNeg (hI S2 x0 2)))) b1 1 = some b6 ∧ hT (sR S2 b4 (va_cpy (hI S2 b3) (hI S2 b4) (Int32.toNatClampNeg 0) (Int32.toNatClampNeg 0) (Int32.toNatClampNeg (hI S2 x0 2)))) x0 = 7 ∧ hT (sR S2 b4 (va_cpy (hI S2 b3) (hI S2 b4) (Int32.toNatClampNeg 0) (Int32.toNatClampNeg 0) (Int32.toNatClampNeg (hI S2 x0 2)))) b5 = 21 ∧ hT (sR S2 b4 (va_cpy (hI S2 b3) (hI S2 b4) (Int32.toNatClampNeg 0) (Int32.toNatClampNeg 0) (Int32.toNatClampNeg (hI S2 x0 2)))) b6 = 21 ∧ ¬ (0 : Int32) < 0 ∧ ¬ (0 : Int32) < 0 ∧ ¬ ((hI (sR S2 b4 (va_cpy (hI S2 b3) (hI S2 b4) (Int32.toNatClampNeg 0) (Int32.toNatClampNeg 0) (Int32.toNatClampNeg (hI S2 x0 2)))) x0 2) : Int32) < 0 ∧ Int32.toNatClampNeg 0 + Int32.toNatClampNeg (hI (sR S2 b4 (va_cpy (hI S2 b3) (hI S2 b4) (Int32.toNatClampNeg 0) (Int32.toNatClampNeg 0) (Int32.toNatClampNeg (hI S2 x0 2)))) x0 2) ≤ hN (sR S2 b4 (va_cpy (hI S2 b3) (hI S2 b4) (Int32.toNatClampNeg 0) (Int32.toNatClampNeg 0) (Int32.toNatClampNeg (hI S2 x0 2)))) b5 ∧ Int32.toNatClampNeg 0 + Int32.toNatClampNeg (hI (sR S2 b4 (va_cpy (hI S2 b3) (hI S2 b4) (Int32.toNatClampNeg 0) (Int32.toNatClampNeg 0) (Int32.toNatClampNeg (hI S2 x0 2)))) x0 2) ≤ hN (sR S2 b4 (va_cpy (hI S2 b3) (hI S2 b4) (Int32.toNatClampNeg 0) (Int32.toNatClampNeg 0) (Int32.toNatClampNeg (hI S2 x0 2)))) b6 ∧ hT (sR (sR S2 b4 (va_cpy (hI S2 b3) (hI S2 b4) (Int32.toNatClampNeg 0) (Int32.toNatClampNeg 0) (Int32.toNatClampNeg (hI S2 x0 2)))) b6 (va_cpy (hI (sR S2 b4 (va_cpy (hI S2 b3) (hI S2 b4) (Int32.toNatClampNeg 0) (Int32.toNatClampNeg 0) (Int32.toNatClampNeg (hI S2 x0 2)))) b5) (hI (sR S2 b4 (va_cpy (hI S2 b3) (hI S2 b4) (Int32.toNatClampNeg 0) (Int32.toNatClampNeg 0) (Int32.toNatClampNeg (hI S2 x0 2)))) b6) (Int32.toNatClampNeg 0) (Int32.toNatClampNeg 0) (Int32.toNatClampNeg (hI (sR S2 b4 (va_cpy (hI S2 b3) (hI S2 b4) (Int32.toNatClampNeg 0) (Int32.toNatClampNeg 0) (Int32.toNatClampNeg (hI S2 x0 2)))) x0 2)))) x0 = 7 ∧ hT (sR (sR S2 b4 (va_cpy (hI S2 b3) (hI S2 b4) (Int32.toNatClampNeg 0) (Int32.toNatClampNeg 0) (Int32.toNatClampNeg (hI S2 x0 2)))) b6 (va_cpy (hI (sR S2 b4 (va_cpy (hI S2 b3) (hI S2 b4) (Int32.toNatClampNeg 0) (Int32.toNatClampNeg 0) (Int32.toNatClampNeg (hI S2 x0 2)))) b5) (hI (sR S2 b4 (va_cpy (hI S2 b3) (hI S2 b4) (Int32.toNatClampNeg 0) (Int32.toNatClampNeg 0) (Int32.toNatClampNeg (hI S2 x0 2)))) b6) (Int32.toNatClampNeg 0) (Int32.toNatClampNeg 0) (Int32.toNatClampNeg (hI (sR S2 b4 (va_cpy (hI S2 b3) (hI S2 b4) (Int32.toNatClampNeg 0) (Int32.toNatClampNeg 0) (Int32.toNatClampNeg (hI S2 x0 2)))) x0 2)))) b1 = 7 ∧ K (some b1) (sI (sR (sR S2 b4 (va_cpy (hI S2 b3) (hI S2 b4) (Int32.toNatClampNeg 0) (Int32.toNatClampNeg 0) (Int32.toNatClampNeg (hI S2 x0 2)))) b6 (va_cpy (hI (sR S2 b4 (va_cpy (hI S2 b3) (hI S2 b4) (Int32.toNatClampNeg 0) (Int32.toNatClampNeg 0) (Int32.toNatClampNeg (hI S2 x0 2)))) b5) (hI (sR S2 b4 (va_cpy (hI S2 b3) (hI S2 b4) (Int32.toNatClampNeg 0) (Int32.toNatClampNeg 0) (Int32.toNatClampNeg (hI S2 x0 2)))) b6) (Int32.toNatClampNeg 0) (Int32.toNatClampNeg 0) (Int32.toNatClampNeg (hI (sR S2 b4 (va_cpy (hI S2 b3) (hI S2 b4) (Int32.toNatClampNeg 0) (Int32.toNatClampNeg 0) (Int32.toNatClampNeg (hI S2 x0 2)))) x0 2)))) b1 2 (hI (sR (sR S2 b4 (va_cpy (hI S2 b3) (hI S2 b4) (Int32.toNatClampNeg 0) (Int32.toNatClampNeg 0) (Int32.toNatClampNeg (hI S2 x0 2)))) b6 (va_cpy (hI (sR S2 b4 (va_cpy (hI S2 b3) (hI S2 b4) (Int32.toNatClampNeg 0) (Int32.toNatClampNeg 0) (Int32.toNatClampNeg (hI S2 x0 2)))) b5) (hI (sR S2 b4 (va_cpy (hI S2 b3) (hI S2 b4) (Int32.toNatClampNeg 0) (Int32.toNatClampNeg 0) (Int32.toNatClampNeg (hI S2 x0 2)))) b6) (Int32.toNatClampNeg 0) (Int32.toNatClampNeg 0) (Int32.toNatClampNeg (hI (sR S2 b4 (va_cpy (hI S2 b3) (hI S2 b4) (Int32.toNatClampNeg 0) (Int32.toNatClampNeg 0) (Int32.toNatClampNeg (hI S2 x0 2)))) x0 2)))) x0 2)))) ∧ (¬ ((hI S x0 3) = 0) → K none S)
set_option maxHeartbeats 4000000 in
set_option maxRecDepth 100000 in
theorem ok_X6_kept {G : CG} {x0 : Nat} {S : HS} {K : Option Nat → HS → Prop} (hw : wp_X6_kept (gC G, gS G) x0 S K) : CC 2 yX6_kept cX6_kept 2 (some (.object "StraightPolys$Poly")) [.ref x0] G S (kR K) := by
  refine CC.of (by decide +kernel) (Nat.le_of_ble_eq_true rfl) (fun X hc hr hname => ?_)
  show MC G S X 2 S 0 [(0, .ref x0)] []
  unfold wp_X6_kept at hw
  refine m_aload_n hc 0 dX6_kept_0 rfl rfl ?_
  obtain ⟨ht, hw⟩ := hw
  refine c_geti hc hr ciX6 (Nat.le_of_ble_eq_true rfl) 3 (Nat.le_of_ble_eq_true rfl) rfl dX6_kept_1 lf_X6_15 ht ?_
  refine m_if_eq hc 9 dX6_kept_4 rfl (fun cq => ?_) (fun cq => ?_)
  · have hw := hw.1 cq
    obtain ⟨hm, hm2, hw⟩ := hw
    refine n_new hc hr ciX6 (Nat.le_of_ble_eq_true rfl) dfX6 dX6_kept_9 lcl_X6_10 lni_X6 hm hm2 (fun b1 S1 e_b1 e_S1 => ?_)
    have hw := hw b1 S1 e_b1 e_S1
    refine m_dup hc dX6_kept_12 rfl ?_
    refine m_aload_n hc 0 dX6_kept_13 rfl rfl ?_
    obtain ⟨ht, hw⟩ := hw
    refine c_geti hc hr ciX6 (Nat.le_of_ble_eq_true rfl) 2 (Nat.le_of_ble_eq_true rfl) rfl dX6_kept_14 lf_X6_9 ht ?_
    refine c_callIv hc hr mt_X6_init lm_X6_30 (ok_X6_init hw) (Nat.le_of_ble_eq_true rfl) dX6_kept_17 rfl (rest := [.ref b1]) rfl (Nat.le_of_ble_eq_true rfl) (fun S2 hw => ?_)
    refine m_astore_n hc [(1, .ref b1), (0, .ref x0)] dX6_kept_20 rfl (Nat.le_of_ble_eq_true rfl) rfl ?_
    refine m_aload_n hc 1 dX6_kept_21 rfl rfl ?_
    obtain ⟨ht, b3, e_b3, hw⟩ := hw
    refine c_getr hc hr ciX6 (Nat.le_of_ble_eq_true rfl) 0 (Nat.le_of_ble_eq_true rfl) rfl dX6_kept_22 lf_X6_19 ht e_b3 ?_
    refine m_iconst hc 0 dX6_kept_25 (by decide) ?_
    refine m_aload_n hc 0 dX6_kept_26 rfl rfl ?_
    obtain ⟨ht, b4, e_b4, hw⟩ := hw
    refine c_getr hc hr ciX6 (Nat.le_of_ble_eq_true rfl) 0 (Nat.le_of_ble_eq_true rfl) rfl dX6_kept_27 lf_X6_19 ht e_b4 ?_
    refine m_iconst hc 0 dX6_kept_30 (by decide) ?_
    refine m_aload_n hc 1 dX6_kept_31 rfl rfl ?_
    obtain ⟨ht, hw⟩ := hw
    refine c_geti hc hr ciX6 (Nat.le_of_ble_eq_true rfl) 2 (Nat.le_of_ble_eq_true rfl) rfl dX6_kept_32 lf_X6_9 ht ?_
    obtain ⟨ht0, ht1, q1, q2, q3, q4, q5, hw⟩ := hw
    refine c_copy hc hr dX6_kept_35 lm_X6_37 lAC ht0 ht1 q1 q2 q3 q4 q5 (Nat.le_of_ble_eq_true rfl) ?_
    refine m_aload_n hc 1 dX6_kept_38 rfl rfl ?_
    obtain ⟨ht, b5, e_b5, hw⟩ := hw
    refine c_getr hc hr ciX6 (Nat.le_of_ble_eq_true rfl) 1 (Nat.le_of_ble_eq_true rfl) rfl dX6_kept_39 lf_X6_23 ht e_b5 ?_
    refine m_iconst hc 0 dX6_kept_42 (by decide) ?_
    refine m_aload_n hc 0 dX6_kept_43 rfl rfl ?_
    obtain ⟨ht, b6, e_b6, hw⟩ := hw
    refine c_getr hc hr ciX6 (Nat.le_of_ble_eq_true rfl) 1 (Nat.le_of_ble_eq_true rfl) rfl dX6_kept_44 lf_X6_23 ht e_b6 ?_
    refine m_iconst hc 0 dX6_kept_47 (by decide) ?_
    refine m_aload_n hc 1 dX6_kept_48 rfl rfl ?_
    obtain ⟨ht, hw⟩ := hw
    refine c_geti hc hr ciX6 (Nat.le_of_ble_eq_true rfl) 2 (Nat.le_of_ble_eq_true rfl) rfl dX6_kept_49 lf_X6_9 ht ?_
    obtain ⟨ht0, ht1, q1, q2, q3, q4, q5, hw⟩ := hw
    refine c_copy hc hr dX6_kept_52 lm_X6_37 lAC ht0 ht1 q1 q2 q3 q4 q5 (Nat.le_of_ble_eq_true rfl) ?_
    refine m_aload_n hc 0 dX6_kept_55 rfl rfl ?_
    refine m_aload_n hc 1 dX6_kept_56 rfl rfl ?_
    obtain ⟨ht, hw⟩ := hw
    refine c_geti hc hr ciX6 (Nat.le_of_ble_eq_true rfl) 2 (Nat.le_of_ble_eq_true rfl) rfl dX6_kept_57 lf_X6_9 ht ?_
    obtain ⟨ht, hw⟩ := hw
    refine c_puti hc hr ciX6 (Nat.le_of_ble_eq_true rfl) 2 (Nat.le_of_ble_eq_true rfl) rfl dX6_kept_60 lf_X6_9 ht (Or.inl rfl) ⟨rfl, rfl⟩ ?_
    refine m_aload_n hc 0 dX6_kept_63 rfl rfl ?_
    exact c_aret hc hr (r := (some b1)) dX6_kept_64 hw
  · have hw := hw.2 cq
    refine m_null hc dX6_kept_7 ?_
    exact c_aret hc hr (r := none) dX6_kept_8 hw
def wp_X2_rest (M : Nat × Nat) (x0 : Nat) (S : HS) (K : Option Nat → HS → Prop) : Prop := hT S x0 = 3 ∧ ∃ b1 : Nat, hP S x0 6 = some b1 ∧ hT S x0 = 3 ∧ ∃ b2 : Nat, hP S x0 3 = some b2 ∧ hT S x0 = 3 ∧ hT S b1 = 2 ∧ wp_X1_readInto M b1 b2 (hI S x0 12) S (fun r3 S3 => hT S3 x0 = 3 ∧ ∃ b4 : Nat, hP S3 x0 3 = some b4 ∧ hT S3 b4 = 7 ∧ wp_X6_kept M b4 S3 (fun r5 S5 => K r5 S5))
set_option maxHeartbeats 4000000 in
set_option maxRecDepth 100000 in
theorem ok_X2_rest {G : CG} {x0 : Nat} {S : HS} {K : Option Nat → HS → Prop} (hw : wp_X2_rest (gC G, gS G) x0 S K) : CC 3 yX2_rest cX2_rest 1 (some (.object "StraightPolys$Poly")) [.ref x0] G S (kR K) := by
  refine CC.of (by decide +kernel) (Nat.le_of_ble_eq_true rfl) (fun X hc hr hname => ?_)
  show MC G S X 1 S 0 [(0, .ref x0)] []
  unfold wp_X2_rest at hw
  refine m_aload_n hc 0 dX2_rest_0 rfl rfl ?_
  obtain ⟨ht, b1, e_b1, hw⟩ := hw
  refine c_getr hc hr ciX2 (Nat.le_of_ble_eq_true rfl) 6 (Nat.le_of_ble_eq_true rfl) rfl dX2_rest_1 lf_X2_44 ht e_b1 ?_
  refine m_aload_n hc 0 dX2_rest_4 rfl rfl ?_
  obtain ⟨ht, b2, e_b2, hw⟩ := hw
  refine c_getr hc hr ciX2 (Nat.le_of_ble_eq_true rfl) 3 (Nat.le_of_ble_eq_true rfl) rfl dX2_rest_5 lf_X2_28 ht e_b2 ?_
  refine m_aload_n hc 0 dX2_rest_8 rfl rfl ?_
  obtain ⟨ht, hw⟩ := hw
  refine c_geti hc hr ciX2 (Nat.le_of_ble_eq_true rfl) 12 (Nat.le_of_ble_eq_true rfl) rfl dX2_rest_9 lf_X2_69 ht ?_
  obtain ⟨ht, hw⟩ := hw
  refine c_callVv hc hr ciX1 (Nat.le_of_ble_eq_true rfl) ht mt_X1_readInto rfl lm_X2_94 (ok_X1_readInto hw) (Nat.le_of_ble_eq_true rfl) dX2_rest_12 rfl (rest := []) rfl (Nat.le_of_ble_eq_true rfl) (fun S3 hw => ?_)
  refine m_aload_n hc 0 dX2_rest_15 rfl rfl ?_
  obtain ⟨ht, b4, e_b4, hw⟩ := hw
  refine c_getr hc hr ciX2 (Nat.le_of_ble_eq_true rfl) 3 (Nat.le_of_ble_eq_true rfl) rfl dX2_rest_16 lf_X2_28 ht e_b4 ?_
  obtain ⟨ht, hw⟩ := hw
  refine c_callVq hc hr ciX6 (Nat.le_of_ble_eq_true rfl) ht mt_X6_kept rfl lm_X2_97 (ok_X6_kept hw) (Nat.le_of_ble_eq_true rfl) dX2_rest_19 rfl (rest := []) rfl (Nat.le_of_ble_eq_true rfl) (fun r5 S5 hw => ?_)
  skip
  exact c_aret hc hr (r := r5) dX2_rest_22 hw
def wp_X2_timesOf (M : Nat × Nat) (x0 x1 : Nat) (x2 : Int32) (x3 : Nat) (S : HS) (K : Int32 → HS → Prop) : Prop := hT S x0 = 3 ∧ wp_X2_layOut M x0 x1 x2 S (fun r1 S1 => hT S1 x0 = 3 ∧ hT (sP S1 x0 13 none) x0 = 3 ∧ wp_X2_takeOut M x0 x3 (sP S1 x0 13 none) (fun r2 S2 => K r2 S2))
set_option maxHeartbeats 4000000 in
set_option maxRecDepth 100000 in
theorem ok_X2_timesOf {G : CG} {x0 : Nat} {x1 : Nat} {x2 : Int32} {x3 : Nat} {S : HS} {K : Int32 → HS → Prop} (hw : wp_X2_timesOf (gC G, gS G) x0 x1 x2 x3 S K) : CC 4 yX2_timesOf cX2_timesOf 4 (some .int) [.ref x0, .ref x1, .int x2, .ref x3] G S (kI K) := by
  refine CC.of (by decide +kernel) (Nat.le_of_ble_eq_true rfl) (fun X hc hr hname => ?_)
  show MC G S X 4 S 0 [(0, .ref x0), (1, .ref x1), (2, .int x2), (3, .ref x3)] []
  unfold wp_X2_timesOf at hw
  refine m_aload_n hc 0 dX2_timesOf_0 rfl rfl ?_
  refine m_aload_n hc 1 dX2_timesOf_1 rfl rfl ?_
  refine m_iload_n hc 2 dX2_timesOf_2 rfl rfl ?_
  obtain ⟨ht, hw⟩ := hw
  refine c_callVv hc hr ciX2 (Nat.le_of_ble_eq_true rfl) ht mt_X2_layOut rfl lm_X2_75 (ok_X2_layOut hw) (Nat.le_of_ble_eq_true rfl) dX2_timesOf_3 rfl (rest := []) rfl (Nat.le_of_ble_eq_true rfl) (fun S1 hw => ?_)
  refine m_aload_n hc 0 dX2_timesOf_6 rfl rfl ?_
  refine m_null hc dX2_timesOf_7 ?_
  obtain ⟨ht, hw⟩ := hw
  refine c_putq hc hr ciX2 (Nat.le_of_ble_eq_true rfl) 13 (Nat.le_of_ble_eq_true rfl) rfl dX2_timesOf_8 lf_X2_72 ht (Or.inl rfl) (r := none) (Or.inl ⟨_, rfl⟩) ?_
  refine m_aload_n hc 0 dX2_timesOf_11 rfl rfl ?_
  refine m_aload_n hc 3 dX2_timesOf_12 rfl rfl ?_
  obtain ⟨ht, hw⟩ := hw
  refine c_callVi hc hr ciX2 (Nat.le_of_ble_eq_true rfl) ht mt_X2_takeOut rfl lm_X2_101 (ok_X2_takeOut hw) (Nat.le_of_ble_eq_true rfl) dX2_timesOf_13 rfl (rest := []) rfl (Nat.le_of_ble_eq_true rfl) (fun r2 S2 hw => ?_)
  exact c_iret hc hr dX2_timesOf_16 hw
def wp_X4_init (M : Nat × Nat) (x0 : Nat) (S : HS) (K : Int32 → HS → Prop) : Prop := ¬ (300 : Int32) < 0 ∧ (Int32.toNatClampNeg 300) ≤ 100000000 ∧ hX S + 1 ≤ M.1 ∧ hS S + (Int32.toNatClampNeg 300) ≤ M.2 ∧ ∀ (b1 : Nat) (S1 : HS), b1 = hX S → S1 = nO S 21 (Int32.toNatClampNeg 300) → hT S1 x0 = 5 ∧ K 0 (sP S1 x0 0 (some b1))
set_option maxHeartbeats 4000000 in
set_option maxRecDepth 100000 in
theorem ok_X4_init {G : CG} {x0 : Nat} {S : HS} {K : Int32 → HS → Prop} (hw : wp_X4_init (gC G, gS G) x0 S K) : CC 1 yX4_init cX4_init 1 none [.ref x0] G S (kV K) := by
  refine CC.of (by decide +kernel) (Nat.le_of_ble_eq_true rfl) (fun X hc hr hname => ?_)
  have hnm : Ci X := hname
  show MC G S X 1 S 0 [(0, .ref x0)] []
  unfold wp_X4_init at hw
  refine m_aload_n hc 0 dX4_init_0 rfl rfl ?_
  refine c_bnd (fun g1 g2 => ?_)
  refine q_objinit hc dX4_init_1 lm_X4_3 lObj (c_room hr g1 g2) (Nat.le_of_ble_eq_true rfl) ?_
  refine m_aload_n hc 0 dX4_init_4 rfl rfl ?_
  refine m_sipush hc 300 dX4_init_5 (by decide) ?_
  obtain ⟨hn0, hn1, hm, hm2, hw⟩ := hw
  refine n_newi hc hr dX4_init_8 laI hn0 hn1 hm hm2 (fun b1 S1 e_b1 e_S1 => ?_)
  have hw := hw b1 S1 e_b1 e_S1
  obtain ⟨ht, hw⟩ := hw
  refine c_putr hc hr ciX4 (Nat.le_of_ble_eq_true rfl) 0 (Nat.le_of_ble_eq_true rfl) rfl dX4_init_10 lf_X4_9 ht (Or.inr ⟨rfl, hnm, rfl⟩) (Or.inr ⟨_, rfl⟩) ?_
  exact c_vret hc hr dX4_init_13 hw
def wp_X4_indexOf (M : Nat × Nat) (x0 : Nat) (x1 : Int32) (S : HS) (K : Int32 → HS → Prop) : Prop := hT S x0 = 5 ∧ ∃ b1 : Nat, hP S x0 0 = some b1 ∧ hT S b1 = 21 ∧ vp_in x1 (hN S b1) ∧ K ((hI S b1 (Int32.toNatClampNeg x1)) &&& 511) S
set_option maxHeartbeats 4000000 in
set_option maxRecDepth 100000 in
theorem ok_X4_indexOf {G : CG} {x0 : Nat} {x1 : Int32} {S : HS} {K : Int32 → HS → Prop} (hw : wp_X4_indexOf (gC G, gS G) x0 x1 S K) : CC 0 yX4_indexOf cX4_indexOf 2 (some .int) [.ref x0, .int x1] G S (kI K) := by
  refine CC.of (by decide +kernel) (Nat.le_of_ble_eq_true rfl) (fun X hc hr hname => ?_)
  show MC G S X 2 S 0 [(0, .ref x0), (1, .int x1)] []
  unfold wp_X4_indexOf at hw
  refine m_aload_n hc 0 dX4_indexOf_0 rfl rfl ?_
  obtain ⟨ht, b1, e_b1, hw⟩ := hw
  refine c_getr hc hr ciX4 (Nat.le_of_ble_eq_true rfl) 0 (Nat.le_of_ble_eq_true rfl) rfl dX4_indexOf_1 lf_X4_9 ht e_b1 ?_
  refine m_iload_n hc 1 dX4_indexOf_4 rfl rfl ?_
  obtain ⟨ht, hi, hw⟩ := hw
  refine c_iald hc hr ht hi dX4_indexOf_5 ?_
  refine m_sipush hc 511 dX4_indexOf_6 (by decide) ?_
  refine m_iand hc dX4_indexOf_9 ?_
  exact c_iret hc hr dX4_indexOf_10 hw
def wp_X4_rank (M : Nat × Nat) (x0 x1 : Int32) (S : HS) (K : Int32 → HS → Prop) : Prop := (x1 = 0 → wp_X6_degreeOf M x0 S (fun r1 S1 => K ((r1 <<< (12 &&& 31)) ||| (x0 >>> (6 &&& 31))) S1)) ∧ (x1 = 1 → K x0 S) ∧ (¬ x1 = 0 ∧ ¬ x1 = 1 → wp_X6_exponent M x0 2 S (fun r2 S2 => wp_X6_exponent M x0 1 S2 (fun r3 S3 => wp_X6_exponent M x0 0 S3 (fun r4 S4 => wp_X6_key M r2 r3 r4 S4 (fun r5 S5 => K r5 S5)))))
set_option maxHeartbeats 4000000 in
set_option maxRecDepth 100000 in
theorem ok_X4_rank {G : CG} {x0 : Int32} {x1 : Int32} {S : HS} {K : Int32 → HS → Prop} (hw : wp_X4_rank (gC G, gS G) x0 x1 S K) : CC 2 yX4_rank cX4_rank 2 (some .int) [.int x0, .int x1] G S (kI K) := by
  refine CC.of (by decide +kernel) (Nat.le_of_ble_eq_true rfl) (fun X hc hr hname => ?_)
  show MC G S X 2 S 0 [(0, .int x0), (1, .int x1)] []
  unfold wp_X4_rank at hw
  refine m_iload_n hc 1 dX4_rank_0 rfl rfl ?_
  by_cases q0 : x1 = 0
  · have hw := hw.1 q0
    refine m_look hc (off := 27) 28 dX4_rank_1 (by decide +kernel) (by rw [q0]; rfl) rfl ?_
    refine m_iload_n hc 0 dX4_rank_28 rfl rfl ?_
    refine c_callSi hc hr mt_X6_degreeOf lm_X4_32 (ok_X6_degreeOf hw) (Nat.le_of_ble_eq_true rfl) dX4_rank_29 rfl (rest := []) rfl (Nat.le_of_ble_eq_true rfl) (fun r1 S1 hw => ?_)
    refine m_bipush hc 12 dX4_rank_32 (by decide) ?_
    refine m_ishl hc dX4_rank_34 ?_
    refine m_iload_n hc 0 dX4_rank_35 rfl rfl ?_
    refine m_bipush hc 6 dX4_rank_36 (by decide) ?_
    refine m_ishr hc dX4_rank_38 ?_
    refine m_ior hc dX4_rank_39 ?_
    exact c_iret hc hr dX4_rank_40 hw
  · skip
    by_cases q1 : x1 = 1
    · have hw := hw.2.1 q1
      refine m_look hc (off := 40) 41 dX4_rank_1 (by decide +kernel) (by rw [q1]; rfl) rfl ?_
      refine m_iload_n hc 0 dX4_rank_41 rfl rfl ?_
      exact c_iret hc hr dX4_rank_42 hw
    · skip
      have hw := hw.2.2 ⟨q0, q1⟩
      refine m_look hc (off := 42) 43 dX4_rank_1 (by decide +kernel) (lk_no 0 q0 rfl (lk_no 1 q1 rfl (rfl))) rfl ?_
      refine m_iload_n hc 0 dX4_rank_43 rfl rfl ?_
      refine m_iconst hc 2 dX4_rank_44 (by decide) ?_
      refine c_callSi hc hr mt_X6_exponent lm_X4_36 (ok_X6_exponent hw) (Nat.le_of_ble_eq_true rfl) dX4_rank_45 rfl (rest := []) rfl (Nat.le_of_ble_eq_true rfl) (fun r2 S2 hw => ?_)
      refine m_iload_n hc 0 dX4_rank_48 rfl rfl ?_
      refine m_iconst hc 1 dX4_rank_49 (by decide) ?_
      refine c_callSi hc hr mt_X6_exponent lm_X4_36 (ok_X6_exponent hw) (Nat.le_of_ble_eq_true rfl) dX4_rank_50 rfl (rest := [.int r2]) rfl (Nat.le_of_ble_eq_true rfl) (fun r3 S3 hw => ?_)
      refine m_iload_n hc 0 dX4_rank_53 rfl rfl ?_
      refine m_iconst hc 0 dX4_rank_54 (by decide) ?_
      refine c_callSi hc hr mt_X6_exponent lm_X4_36 (ok_X6_exponent hw) (Nat.le_of_ble_eq_true rfl) dX4_rank_55 rfl (rest := [.int r3, .int r2]) rfl (Nat.le_of_ble_eq_true rfl) (fun r4 S4 hw => ?_)
      refine c_callSi hc hr mt_X6_key lm_X4_39 (ok_X6_key hw) (Nat.le_of_ble_eq_true rfl) dX4_rank_58 rfl (rest := []) rfl (Nat.le_of_ble_eq_true rfl) (fun r5 S5 hw => ?_)
      exact c_iret hc hr dX4_rank_61 hw
def w_X4_sink_54 (M : Nat × Nat) (K : Int32 → HS → Prop) (x0 : Nat) (x3 x4 : Int32) (S : HS) : Prop := hT S x0 = 5 ∧ ∃ b1 : Nat, hP S x0 0 = some b1 ∧ hT S b1 = 21 ∧ vp_in x4 (hN S b1) ∧ K 0 (sI S b1 (Int32.toNatClampNeg x4) x3)
set_option maxHeartbeats 4000000 in
set_option maxRecDepth 100000 in
theorem b_X4_sink_54 {G : CG} {S0 : HS} {X : Fx} {K : Int32 → HS → Prop} (hc : Cx X RX4 cX4_sink 5) (hr : Cc G S0 0 none (kV K) X) : ∀ (x0 : Nat) (x3 x4 : Int32) (S : HS), w_X4_sink_54 (gC G, gS G) K x0 x3 x4 S → MC G S0 X 5 S 54 [(0, .ref x0), (3, .int x3), (4, .int x4)] [] := by
  intro x0 x3 x4 S hw
  unfold w_X4_sink_54 at hw
  refine m_aload_n hc 0 dX4_sink_54 rfl rfl ?_
  obtain ⟨ht, b1, e_b1, hw⟩ := hw
  refine c_getr hc hr ciX4 (Nat.le_of_ble_eq_true rfl) 0 (Nat.le_of_ble_eq_true rfl) rfl dX4_sink_55 lf_X4_9 ht e_b1 ?_
  refine m_iload hc 2 dX4_sink_58 rfl ?_
  refine m_iload_n hc 1 dX4_sink_60 rfl rfl ?_
  obtain ⟨ht, hi, hw⟩ := hw
  refine c_iast hc hr ht hi dX4_sink_61 ?_
  exact c_vret hc hr dX4_sink_62 hw
def wb_X4_sink_10 (M : Nat × Nat) (K10 : Nat → Int32 → Int32 → Int32 → HS → Prop) (K : Int32 → HS → Prop) (x0 : Nat) (x2 x3 x4 : Int32) (S : HS) : Prop := (x4 < x2 → w_X4_sink_54 M K x0 x3 x4 S) ∧ (¬ (x4 < x2) → hT S x0 = 5 ∧ ∃ b1 : Nat, hP S x0 0 = some b1 ∧ hT S b1 = 21 ∧ vp_in (x4 - x2) (hN S b1) ∧ (x3 ≤ (hI S b1 (Int32.toNatClampNeg (x4 - x2))) → w_X4_sink_54 M K x0 x3 x4 S) ∧ (¬ (x3 ≤ (hI S b1 (Int32.toNatClampNeg (x4 - x2)))) → hT S x0 = 5 ∧ ∃ b2 : Nat, hP S x0 0 = some b2 ∧ hT S x0 = 5 ∧ ∃ b3 : Nat, hP S x0 0 = some b3 ∧ hT S b3 = 21 ∧ vp_in (x4 - x2) (hN S b3) ∧ hT S b2 = 21 ∧ vp_in x4 (hN S b2) ∧ K10 x0 x2 x3 (x4 - x2) (sI S b2 (Int32.toNatClampNeg x4) (hI S b3 (Int32.toNatClampNeg (x4 - x2))))))
def wl_X4_sink_10 (M : Nat × Nat) (K : Int32 → HS → Prop) : Nat → Nat → Int32 → Int32 → Int32 → HS → Prop
  | 0 => fun _ _ _ _ _ => False
  | nn + 1 => wb_X4_sink_10 M (wl_X4_sink_10 M K nn) K
set_option maxHeartbeats 4000000 in
set_option maxRecDepth 100000 in
theorem l_X4_sink_10 {G : CG} {S0 : HS} {X : Fx} {K : Int32 → HS → Prop} (hc : Cx X RX4 cX4_sink 5) (hr : Cc G S0 0 none (kV K) X) : ∀ (nn : Nat) (x0 : Nat) (x2 x3 x4 : Int32) (S : HS), wl_X4_sink_10 (gC G, gS G) K nn x0 x2 x3 x4 S → MC G S0 X 5 S 10 [(0, .ref x0), (2, .int x2), (3, .int x3), (4, .int x4)] [] := by
  intro nn
  induction nn with
  | zero => intro x0 x2 x3 x4 S hw; exact False.elim hw
  | succ nn ih =>
    intro x0 x2 x3 x4 S hw
    have hw : wb_X4_sink_10 (gC G, gS G) (wl_X4_sink_10 (gC G, gS G) K nn) K x0 x2 x3 x4 S := hw
    have h10 := ih
    generalize wl_X4_sink_10 (gC G, gS G) K nn = K10 at hw h10
    unfold wb_X4_sink_10 at hw
    refine m_iload hc 3 dX4_sink_10 rfl ?_
    refine m_iload_n hc 1 dX4_sink_12 rfl rfl ?_
    refine m_icmp_lt hc 54 dX4_sink_13 rfl (fun cq => ?_) (fun cq => ?_)
    · have hw := hw.1 cq
      refine m_sub [0, 2, 3] rfl ?_
      exact b_X4_sink_54 hc hr x0 x3 x4 S hw
    · have hw := hw.2 cq
      refine m_aload_n hc 0 dX4_sink_16 rfl rfl ?_
      obtain ⟨ht, b1, e_b1, hw⟩ := hw
      refine c_getr hc hr ciX4 (Nat.le_of_ble_eq_true rfl) 0 (Nat.le_of_ble_eq_true rfl) rfl dX4_sink_17 lf_X4_9 ht e_b1 ?_
      refine m_iload hc 3 dX4_sink_20 rfl ?_
      refine m_iload_n hc 1 dX4_sink_22 rfl rfl ?_
      refine m_isub hc dX4_sink_23 ?_
      obtain ⟨ht, hi, hw⟩ := hw
      refine c_iald hc hr ht hi dX4_sink_24 ?_
      refine m_iload_n hc 2 dX4_sink_25 rfl rfl ?_
      refine m_icmp_ge hc 54 dX4_sink_26 rfl (fun cq => ?_) (fun cq => ?_)
      · have hw := hw.1 cq
        refine m_sub [0, 2, 3] rfl ?_
        exact b_X4_sink_54 hc hr x0 x3 x4 S hw
      · have hw := hw.2 cq
        refine m_aload_n hc 0 dX4_sink_29 rfl rfl ?_
        obtain ⟨ht, b2, e_b2, hw⟩ := hw
        refine c_getr hc hr ciX4 (Nat.le_of_ble_eq_true rfl) 0 (Nat.le_of_ble_eq_true rfl) rfl dX4_sink_30 lf_X4_9 ht e_b2 ?_
        refine m_iload hc 3 dX4_sink_33 rfl ?_
        refine m_aload_n hc 0 dX4_sink_35 rfl rfl ?_
        obtain ⟨ht, b3, e_b3, hw⟩ := hw
        refine c_getr hc hr ciX4 (Nat.le_of_ble_eq_true rfl) 0 (Nat.le_of_ble_eq_true rfl) rfl dX4_sink_36 lf_X4_9 ht e_b3 ?_
        refine m_iload hc 3 dX4_sink_39 rfl ?_
        refine m_iload_n hc 1 dX4_sink_41 rfl rfl ?_
        refine m_isub hc dX4_sink_42 ?_
        obtain ⟨ht, hi, hw⟩ := hw
        refine c_iald hc hr ht hi dX4_sink_43 ?_
        obtain ⟨ht, hi, hw⟩ := hw
        refine c_iast hc hr ht hi dX4_sink_44 ?_
        refine m_iload hc 3 dX4_sink_45 rfl ?_
        refine m_iload_n hc 1 dX4_sink_47 rfl rfl ?_
        refine m_isub hc dX4_sink_48 ?_
        refine m_istore hc [(4, .int (x4 - x2)), (0, .ref x0), (2, .int x2), (3, .int x3)] dX4_sink_49 (Nat.le_of_ble_eq_true rfl) rfl ?_
        refine m_goto hc 10 dX4_sink_51 rfl ?_
        refine m_sub [1, 2, 3, 0] rfl ?_
        exact h10 x0 x2 x3 (x4 - x2) (sI S b2 (Int32.toNatClampNeg x4) (hI S b3 (Int32.toNatClampNeg (x4 - x2)))) hw
def wp_X4_sink (M : Nat × Nat) (x0 : Nat) (x1 x2 : Int32) (S : HS) (K : Int32 → HS → Prop) : Prop := hT S x0 = 5 ∧ ∃ b1 : Nat, hP S x0 0 = some b1 ∧ hT S b1 = 21 ∧ vp_in x1 (hN S b1) ∧ ∀ v2 : Int32, v2 = (hI S b1 (Int32.toNatClampNeg x1)) → ∃ nn : Nat, wl_X4_sink_10 M K nn x0 x2 v2 x1 S
set_option maxHeartbeats 4000000 in
set_option maxRecDepth 100000 in
theorem ok_X4_sink {G : CG} {x0 : Nat} {x1 : Int32} {x2 : Int32} {S : HS} {K : Int32 → HS → Prop} (hw : wp_X4_sink (gC G, gS G) x0 x1 x2 S K) : CC 0 yX4_sink cX4_sink 5 none [.ref x0, .int x1, .int x2] G S (kV K) := by
  refine CC.of (by decide +kernel) (Nat.le_of_ble_eq_true rfl) (fun X hc hr hname => ?_)
  show MC G S X 5 S 0 [(0, .ref x0), (1, .int x1), (2, .int x2)] []
  unfold wp_X4_sink at hw
  refine m_aload_n hc 0 dX4_sink_0 rfl rfl ?_
  obtain ⟨ht, b1, e_b1, hw⟩ := hw
  refine c_getr hc hr ciX4 (Nat.le_of_ble_eq_true rfl) 0 (Nat.le_of_ble_eq_true rfl) rfl dX4_sink_1 lf_X4_9 ht e_b1 ?_
  refine m_iload_n hc 1 dX4_sink_4 rfl rfl ?_
  obtain ⟨ht, hi, hw⟩ := hw
  refine c_iald hc hr ht hi dX4_sink_5 ?_
  refine m_topi (fun v2 e_v2 => ?_)
  have hw := hw v2 e_v2
  refine m_istore_n hc [(3, .int v2), (0, .ref x0), (1, .int x1), (2, .int x2)] dX4_sink_6 rfl (Nat.le_of_ble_eq_true rfl) rfl ?_
  refine m_iload_n hc 2 dX4_sink_7 rfl rfl ?_
  refine m_istore hc [(4, .int x1), (3, .int v2), (0, .ref x0), (1, .int x1), (2, .int x2)] dX4_sink_8 (Nat.le_of_ble_eq_true rfl) rfl ?_
  refine m_sub [2, 4, 1, 0] rfl ?_
  obtain ⟨nn, hw⟩ := hw
  exact l_X4_sink_10 hc hr nn x0 x2 v2 x1 S hw
def wb_X4_sort_57 (M : Nat × Nat) (K50 : Nat → Nat → Int32 → HS → Prop) (K57 : Nat → Nat → Int32 → Int32 → HS → Prop) (K : Int32 → HS → Prop) (x0 x1 : Nat) (x3 x4 : Int32) (S : HS) : Prop := hT S x1 = 7 ∧ ((hI S x1 2) ≤ x4 → K50 x0 x1 (x3 / 2) S) ∧ (¬ ((hI S x1 2) ≤ x4) → hT S x0 = 5 ∧ wp_X4_sink M x0 x4 x3 S (fun r1 S1 => K57 x0 x1 x3 (x4 + 1) S1))
def wl_X4_sort_57 (M : Nat × Nat) (K50 : Nat → Nat → Int32 → HS → Prop) (K : Int32 → HS → Prop) : Nat → Nat → Nat → Int32 → Int32 → HS → Prop
  | 0 => fun _ _ _ _ _ => False
  | nn + 1 => wb_X4_sort_57 M K50 (wl_X4_sort_57 M K50 K nn) K
set_option maxHeartbeats 4000000 in
set_option maxRecDepth 100000 in
theorem l_X4_sort_57 {G : CG} {S0 : HS} {X : Fx} {K : Int32 → HS → Prop} (hc : Cx X RX4 cX4_sort 5) (hr : Cc G S0 3 none (kV K) X) (K50 : Nat → Nat → Int32 → HS → Prop) (h50 : ∀ (x0 x1 : Nat) (x3 : Int32) (S : HS), K50 x0 x1 x3 S → MC G S0 X 5 S 50 [(0, .ref x0), (1, .ref x1), (3, .int x3)] []) : ∀ (nn : Nat) (x0 x1 : Nat) (x3 x4 : Int32) (S : HS), wl_X4_sort_57 (gC G, gS G) K50 K nn x0 x1 x3 x4 S → MC G S0 X 5 S 57 [(0, .ref x0), (1, .ref x1), (3, .int x3), (4, .int x4)] [] := by
  intro nn
  induction nn with
  | zero => intro x0 x1 x3 x4 S hw; exact False.elim hw
  | succ nn ih =>
    intro x0 x1 x3 x4 S hw
    have hw : wb_X4_sort_57 (gC G, gS G) K50 (wl_X4_sort_57 (gC G, gS G) K50 K nn) K x0 x1 x3 x4 S := hw
    have h57 := ih
    generalize wl_X4_sort_57 (gC G, gS G) K50 K nn = K57 at hw h57
    unfold wb_X4_sort_57 at hw
    refine m_iload hc 3 dX4_sort_57 rfl ?_
    refine m_aload_n hc 1 dX4_sort_59 rfl rfl ?_
    obtain ⟨ht, hw⟩ := hw
    refine c_geti hc hr ciX6 (Nat.le_of_ble_eq_true rfl) 2 (Nat.le_of_ble_eq_true rfl) rfl dX4_sort_60 lf_X4_15 ht ?_
    refine m_icmp_ge hc 79 dX4_sort_63 rfl (fun cq => ?_) (fun cq => ?_)
    · have hw := hw.1 cq
      refine m_iload_n hc 2 dX4_sort_79 rfl rfl ?_
      refine m_iconst hc 2 dX4_sort_80 (by decide) ?_
      refine m_idiv hc dX4_sort_81 (by decide) ?_
      refine m_istore_n hc [(3, .int (x3 / 2)), (0, .ref x0), (1, .ref x1), (4, .int x4)] dX4_sort_82 rfl (Nat.le_of_ble_eq_true rfl) rfl ?_
      refine m_goto hc 50 dX4_sort_83 rfl ?_
      refine m_sub [1, 2, 0] rfl ?_
      exact h50 x0 x1 (x3 / 2) S hw
    · have hw := hw.2 cq
      refine m_aload_n hc 0 dX4_sort_66 rfl rfl ?_
      refine m_iload hc 3 dX4_sort_67 rfl ?_
      refine m_iload_n hc 2 dX4_sort_69 rfl rfl ?_
      obtain ⟨ht, hw⟩ := hw
      refine c_callVv hc hr ciX4 (Nat.le_of_ble_eq_true rfl) ht mt_X4_sink rfl lm_X4_28 (ok_X4_sink hw) (Nat.le_of_ble_eq_true rfl) dX4_sort_70 rfl (rest := []) rfl (Nat.le_of_ble_eq_true rfl) (fun S1 hw => ?_)
      refine m_iinc hc 3 (x4 + 1) [(4, .int (x4 + 1)), (0, .ref x0), (1, .ref x1), (3, .int x3)] dX4_sort_73 rfl rfl (Nat.le_of_ble_eq_true rfl) rfl ?_
      refine m_goto hc 57 dX4_sort_76 rfl ?_
      refine m_sub [1, 2, 3, 0] rfl ?_
      exact h57 x0 x1 x3 (x4 + 1) S1 hw
def wb_X4_sort_50 (M : Nat × Nat) (K50 : Nat → Nat → Int32 → HS → Prop) (K : Int32 → HS → Prop) (x0 x1 : Nat) (x3 : Int32) (S : HS) : Prop := (x3 ≤ 0 → K 0 S) ∧ (¬ (x3 ≤ 0) → ∃ nn : Nat, wl_X4_sort_57 M K50 K nn x0 x1 x3 x3 S)
def wl_X4_sort_50 (M : Nat × Nat) (K : Int32 → HS → Prop) : Nat → Nat → Nat → Int32 → HS → Prop
  | 0 => fun _ _ _ _ => False
  | nn + 1 => wb_X4_sort_50 M (wl_X4_sort_50 M K nn) K
set_option maxHeartbeats 4000000 in
set_option maxRecDepth 100000 in
theorem l_X4_sort_50 {G : CG} {S0 : HS} {X : Fx} {K : Int32 → HS → Prop} (hc : Cx X RX4 cX4_sort 5) (hr : Cc G S0 3 none (kV K) X) : ∀ (nn : Nat) (x0 x1 : Nat) (x3 : Int32) (S : HS), wl_X4_sort_50 (gC G, gS G) K nn x0 x1 x3 S → MC G S0 X 5 S 50 [(0, .ref x0), (1, .ref x1), (3, .int x3)] [] := by
  intro nn
  induction nn with
  | zero => intro x0 x1 x3 S hw; exact False.elim hw
  | succ nn ih =>
    intro x0 x1 x3 S hw
    have hw : wb_X4_sort_50 (gC G, gS G) (wl_X4_sort_50 (gC G, gS G) K nn) K x0 x1 x3 S := hw
    have h50 := ih
    generalize wl_X4_sort_50 (gC G, gS G) K nn = K50 at hw h50
    unfold wb_X4_sort_50 at hw
    refine m_iload_n hc 2 dX4_sort_50 rfl rfl ?_
    refine m_if_le hc 86 dX4_sort_51 rfl (fun cq => ?_) (fun cq => ?_)
    · have hw := hw.1 cq
      exact c_vret hc hr dX4_sort_86 hw
    · have hw := hw.2 cq
      refine m_iload_n hc 2 dX4_sort_54 rfl rfl ?_
      refine m_istore hc [(4, .int x3), (0, .ref x0), (1, .ref x1), (3, .int x3)] dX4_sort_55 (Nat.le_of_ble_eq_true rfl) rfl ?_
      refine m_sub [1, 2, 3, 0] rfl ?_
      obtain ⟨nn, hw⟩ := hw
      exact l_X4_sort_57 hc hr K50 h50 nn x0 x1 x3 x3 S hw
def wb_X4_sort_2 (M : Nat × Nat) (K2 : Nat → Nat → Int32 → Int32 → HS → Prop) (K : Int32 → HS → Prop) (x0 x1 : Nat) (x2 x3 : Int32) (S : HS) : Prop := hT S x1 = 7 ∧ ((hI S x1 2) ≤ x3 → (¬ x2 = 1 → hT S x1 = 7 ∧ ∃ nn : Nat, wl_X4_sort_50 M K nn x0 x1 ((hI S x1 2) / 2) S) ∧ (x2 = 1 → K 0 S)) ∧ (¬ ((hI S x1 2) ≤ x3) → hT S x0 = 5 ∧ ∃ b1 : Nat, hP S x0 0 = some b1 ∧ hT S x1 = 7 ∧ ∃ b2 : Nat, hP S x1 0 = some b2 ∧ hT S b2 = 21 ∧ vp_in x3 (hN S b2) ∧ wp_X4_rank M (hI S b2 (Int32.toNatClampNeg x3)) x2 S (fun r3 S3 => hT S3 b1 = 21 ∧ vp_in x3 (hN S3 b1) ∧ K2 x0 x1 x2 (x3 + 1) (sI S3 b1 (Int32.toNatClampNeg x3) ((r3 <<< (9 &&& 31)) ||| x3))))
def wl_X4_sort_2 (M : Nat × Nat) (K : Int32 → HS → Prop) : Nat → Nat → Nat → Int32 → Int32 → HS → Prop
  | 0 => fun _ _ _ _ _ => False
  | nn + 1 => wb_X4_sort_2 M (wl_X4_sort_2 M K nn) K
set_option maxHeartbeats 4000000 in
set_option maxRecDepth 100000 in
theorem l_X4_sort_2 {G : CG} {S0 : HS} {X : Fx} {K : Int32 → HS → Prop} (hc : Cx X RX4 cX4_sort 5) (hr : Cc G S0 3 none (kV K) X) : ∀ (nn : Nat) (x0 x1 : Nat) (x2 x3 : Int32) (S : HS), wl_X4_sort_2 (gC G, gS G) K nn x0 x1 x2 x3 S → MC G S0 X 5 S 2 [(0, .ref x0), (1, .ref x1), (2, .int x2), (3, .int x3)] [] := by
  intro nn
  induction nn with
  | zero => intro x0 x1 x2 x3 S hw; exact False.elim hw
  | succ nn ih =>
    intro x0 x1 x2 x3 S hw
    have hw : wb_X4_sort_2 (gC G, gS G) (wl_X4_sort_2 (gC G, gS G) K nn) K x0 x1 x2 x3 S := hw
    have h2 := ih
    generalize wl_X4_sort_2 (gC G, gS G) K nn = K2 at hw h2
    unfold wb_X4_sort_2 at hw
    refine m_iload_n hc 3 dX4_sort_2 rfl rfl ?_
    refine m_aload_n hc 1 dX4_sort_3 rfl rfl ?_
    obtain ⟨ht, hw⟩ := hw
    refine c_geti hc hr ciX6 (Nat.le_of_ble_eq_true rfl) 2 (Nat.le_of_ble_eq_true rfl) rfl dX4_sort_4 lf_X4_15 ht ?_
    refine m_icmp_ge hc 37 dX4_sort_7 rfl (fun cq => ?_) (fun cq => ?_)
    · have hw := hw.1 cq
      refine m_iload_n hc 2 dX4_sort_37 rfl rfl ?_
      refine m_iconst hc 1 dX4_sort_38 (by decide) ?_
      refine m_icmp_ne hc 43 dX4_sort_39 rfl (fun cq => ?_) (fun cq => ?_)
      · have hw := hw.1 cq
        refine m_aload_n hc 1 dX4_sort_43 rfl rfl ?_
        obtain ⟨ht, hw⟩ := hw
        refine c_geti hc hr ciX6 (Nat.le_of_ble_eq_true rfl) 2 (Nat.le_of_ble_eq_true rfl) rfl dX4_sort_44 lf_X4_15 ht ?_
        refine m_iconst hc 2 dX4_sort_47 (by decide) ?_
        refine m_idiv hc dX4_sort_48 (by decide) ?_
        refine m_istore_n hc [(3, .int ((hI S x1 2) / 2)), (0, .ref x0), (1, .ref x1), (2, .int x2)] dX4_sort_49 rfl (Nat.le_of_ble_eq_true rfl) rfl ?_
        refine m_sub [1, 2, 0] rfl ?_
        obtain ⟨nn, hw⟩ := hw
        exact l_X4_sort_50 hc hr nn x0 x1 ((hI S x1 2) / 2) S hw
      · have hw := hw.2 cq
        exact c_vret hc hr dX4_sort_42 hw
    · have hw := hw.2 cq
      refine m_aload_n hc 0 dX4_sort_10 rfl rfl ?_
      obtain ⟨ht, b1, e_b1, hw⟩ := hw
      refine c_getr hc hr ciX4 (Nat.le_of_ble_eq_true rfl) 0 (Nat.le_of_ble_eq_true rfl) rfl dX4_sort_11 lf_X4_9 ht e_b1 ?_
      refine m_iload_n hc 3 dX4_sort_14 rfl rfl ?_
      refine m_aload_n hc 1 dX4_sort_15 rfl rfl ?_
      obtain ⟨ht, b2, e_b2, hw⟩ := hw
      refine c_getr hc hr ciX6 (Nat.le_of_ble_eq_true rfl) 0 (Nat.le_of_ble_eq_true rfl) rfl dX4_sort_16 lf_X4_21 ht e_b2 ?_
      refine m_iload_n hc 3 dX4_sort_19 rfl rfl ?_
      obtain ⟨ht, hi, hw⟩ := hw
      refine c_iald hc hr ht hi dX4_sort_20 ?_
      refine m_iload_n hc 2 dX4_sort_21 rfl rfl ?_
      refine c_callSi hc hr mt_X4_rank lm_X4_24 (ok_X4_rank hw) (Nat.le_of_ble_eq_true rfl) dX4_sort_22 rfl (rest := [.int x3, .ref b1]) rfl (Nat.le_of_ble_eq_true rfl) (fun r3 S3 hw => ?_)
      refine m_bipush hc 9 dX4_sort_25 (by decide) ?_
      refine m_ishl hc dX4_sort_27 ?_
      refine m_iload_n hc 3 dX4_sort_28 rfl rfl ?_
      refine m_ior hc dX4_sort_29 ?_
      obtain ⟨ht, hi, hw⟩ := hw
      refine c_iast hc hr ht hi dX4_sort_30 ?_
      refine m_iinc hc 3 (x3 + 1) [(3, .int (x3 + 1)), (0, .ref x0), (1, .ref x1), (2, .int x2)] dX4_sort_31 rfl rfl (Nat.le_of_ble_eq_true rfl) rfl ?_
      refine m_goto hc 2 dX4_sort_34 rfl ?_
      refine m_sub [1, 2, 3, 0] rfl ?_
      exact h2 x0 x1 x2 (x3 + 1) (sI S3 b1 (Int32.toNatClampNeg x3) ((r3 <<< (9 &&& 31)) ||| x3)) hw
def wp_X4_sort (M : Nat × Nat) (x0 x1 : Nat) (x2 : Int32) (S : HS) (K : Int32 → HS → Prop) : Prop := ∃ nn : Nat, wl_X4_sort_2 M K nn x0 x1 x2 0 S
set_option maxHeartbeats 4000000 in
set_option maxRecDepth 100000 in
theorem ok_X4_sort {G : CG} {x0 : Nat} {x1 : Nat} {x2 : Int32} {S : HS} {K : Int32 → HS → Prop} (hw : wp_X4_sort (gC G, gS G) x0 x1 x2 S K) : CC 3 yX4_sort cX4_sort 5 none [.ref x0, .ref x1, .int x2] G S (kV K) := by
  refine CC.of (by decide +kernel) (Nat.le_of_ble_eq_true rfl) (fun X hc hr hname => ?_)
  show MC G S X 5 S 0 [(0, .ref x0), (1, .ref x1), (2, .int x2)] []
  unfold wp_X4_sort at hw
  refine m_iconst hc 0 dX4_sort_0 (by decide) ?_
  refine m_istore_n hc [(3, .int 0), (0, .ref x0), (1, .ref x1), (2, .int x2)] dX4_sort_1 rfl (Nat.le_of_ble_eq_true rfl) rfl ?_
  refine m_sub [1, 2, 3, 0] rfl ?_
  obtain ⟨nn, hw⟩ := hw
  exact l_X4_sort_2 hc hr nn x0 x1 x2 0 S hw
def wb_X5_zeros_4 (M : Nat × Nat) (K4 : Nat → Int32 → Int32 → HS → Prop) (K : Int32 → HS → Prop) (x0 : Nat) (x1 x2 : Int32) (S : HS) : Prop := hT S x0 = 6 ∧ ((hI S x0 3) ≤ x2 → K x1 S) ∧ (¬ ((hI S x0 3) ≤ x2) → hT S x0 = 6 ∧ ∃ b1 : Nat, hP S x0 0 = some b1 ∧ hT S b1 = 21 ∧ vp_in x2 (hN S b1) ∧ (¬ (hI S b1 (Int32.toNatClampNeg x2)) = 0 → K4 x0 (x1 + 0) (x2 + 1) S) ∧ ((hI S b1 (Int32.toNatClampNeg x2)) = 0 → K4 x0 (x1 + 1) (x2 + 1) S))
def wl_X5_zeros_4 (M : Nat × Nat) (K : Int32 → HS → Prop) : Nat → Nat → Int32 → Int32 → HS → Prop
  | 0 => fun _ _ _ _ => False
  | nn + 1 => wb_X5_zeros_4 M (wl_X5_zeros_4 M K nn) K
set_option maxHeartbeats 4000000 in
set_option maxRecDepth 100000 in
theorem l_X5_zeros_4 {G : CG} {S0 : HS} {X : Fx} {K : Int32 → HS → Prop} (hc : Cx X RX5 cX5_zeros 3) (hr : Cc G S0 0 (some .int) (kI K) X) : ∀ (nn : Nat) (x0 : Nat) (x1 x2 : Int32) (S : HS), wl_X5_zeros_4 (gC G, gS G) K nn x0 x1 x2 S → MC G S0 X 3 S 4 [(0, .ref x0), (1, .int x1), (2, .int x2)] [] := by
  intro nn
  induction nn with
  | zero => intro x0 x1 x2 S hw; exact False.elim hw
  | succ nn ih =>
    intro x0 x1 x2 S hw
    have hw : wb_X5_zeros_4 (gC G, gS G) (wl_X5_zeros_4 (gC G, gS G) K nn) K x0 x1 x2 S := hw
    have h4 := ih
    generalize wl_X5_zeros_4 (gC G, gS G) K nn = K4 at hw h4
    unfold wb_X5_zeros_4 at hw
    refine m_iload_n hc 2 dX5_zeros_4 rfl rfl ?_
    refine m_aload_n hc 0 dX5_zeros_5 rfl rfl ?_
    obtain ⟨ht, hw⟩ := hw
    refine c_geti hc hr ciX5 (Nat.le_of_ble_eq_true rfl) 3 (Nat.le_of_ble_eq_true rfl) rfl dX5_zeros_6 lf_X5_22 ht ?_
    refine m_icmp_ge hc 35 dX5_zeros_9 rfl (fun cq => ?_) (fun cq => ?_)
    · have hw := hw.1 cq
      refine m_iload_n hc 1 dX5_zeros_35 rfl rfl ?_
      exact c_iret hc hr dX5_zeros_36 hw
    · have hw := hw.2 cq
      refine m_iload_n hc 1 dX5_zeros_12 rfl rfl ?_
      refine m_aload_n hc 0 dX5_zeros_13 rfl rfl ?_
      obtain ⟨ht, b1, e_b1, hw⟩ := hw
      refine c_getr hc hr ciX5 (Nat.le_of_ble_eq_true rfl) 0 (Nat.le_of_ble_eq_true rfl) rfl dX5_zeros_14 lf_X5_9 ht e_b1 ?_
      refine m_iload_n hc 2 dX5_zeros_17 rfl rfl ?_
      obtain ⟨ht, hi, hw⟩ := hw
      refine c_iald hc hr ht hi dX5_zeros_18 ?_
      refine m_if_ne hc 26 dX5_zeros_19 rfl (fun cq => ?_) (fun cq => ?_)
      · have hw := hw.1 cq
        refine m_iconst hc 0 dX5_zeros_26 (by decide) ?_
        refine m_iadd hc dX5_zeros_27 ?_
        refine m_istore_n hc [(1, .int (x1 + 0)), (0, .ref x0), (2, .int x2)] dX5_zeros_28 rfl (Nat.le_of_ble_eq_true rfl) rfl ?_
        refine m_iinc hc 2 (x2 + 1) [(2, .int (x2 + 1)), (1, .int (x1 + 0)), (0, .ref x0)] dX5_zeros_29 rfl rfl (Nat.le_of_ble_eq_true rfl) rfl ?_
        refine m_goto hc 4 dX5_zeros_32 rfl ?_
        refine m_sub [2, 1, 0] rfl ?_
        exact h4 x0 (x1 + 0) (x2 + 1) S hw
      · have hw := hw.2 cq
        refine m_iconst hc 1 dX5_zeros_22 (by decide) ?_
        refine m_goto hc 27 dX5_zeros_23 rfl ?_
        refine m_iadd hc dX5_zeros_27 ?_
        refine m_istore_n hc [(1, .int (x1 + 1)), (0, .ref x0), (2, .int x2)] dX5_zeros_28 rfl (Nat.le_of_ble_eq_true rfl) rfl ?_
        refine m_iinc hc 2 (x2 + 1) [(2, .int (x2 + 1)), (1, .int (x1 + 1)), (0, .ref x0)] dX5_zeros_29 rfl rfl (Nat.le_of_ble_eq_true rfl) rfl ?_
        refine m_goto hc 4 dX5_zeros_32 rfl ?_
        refine m_sub [2, 1, 0] rfl ?_
        exact h4 x0 (x1 + 1) (x2 + 1) S hw
def wp_X5_zeros (M : Nat × Nat) (x0 : Nat) (S : HS) (K : Int32 → HS → Prop) : Prop := ∃ nn : Nat, wl_X5_zeros_4 M K nn x0 0 0 S
set_option maxHeartbeats 4000000 in
set_option maxRecDepth 100000 in
theorem ok_X5_zeros {G : CG} {x0 : Nat} {S : HS} {K : Int32 → HS → Prop} (hw : wp_X5_zeros (gC G, gS G) x0 S K) : CC 0 yX5_zeros cX5_zeros 3 (some .int) [.ref x0] G S (kI K) := by
  refine CC.of (by decide +kernel) (Nat.le_of_ble_eq_true rfl) (fun X hc hr hname => ?_)
  show MC G S X 3 S 0 [(0, .ref x0)] []
  unfold wp_X5_zeros at hw
  refine m_iconst hc 0 dX5_zeros_0 (by decide) ?_
  refine m_istore_n hc [(1, .int 0), (0, .ref x0)] dX5_zeros_1 rfl (Nat.le_of_ble_eq_true rfl) rfl ?_
  refine m_iconst hc 0 dX5_zeros_2 (by decide) ?_
  refine m_istore_n hc [(2, .int 0), (1, .int 0), (0, .ref x0)] dX5_zeros_3 rfl (Nat.le_of_ble_eq_true rfl) rfl ?_
  refine m_sub [2, 1, 0] rfl ?_
  obtain ⟨nn, hw⟩ := hw
  exact l_X5_zeros_4 hc hr nn x0 0 0 S hw
def wb_X5_firstNotZero_2 (M : Nat × Nat) (K2 : Nat → Int32 → HS → Prop) (K : Int32 → HS → Prop) (x0 : Nat) (x1 : Int32) (S : HS) : Prop := hT S x0 = 6 ∧ ((hI S x0 3) ≤ x1 → K (-1) S) ∧ (¬ ((hI S x0 3) ≤ x1) → hT S x0 = 6 ∧ ∃ b1 : Nat, hP S x0 0 = some b1 ∧ hT S b1 = 21 ∧ vp_in x1 (hN S b1) ∧ ((hI S b1 (Int32.toNatClampNeg x1)) = 0 → K2 x0 (x1 + 1) S) ∧ (¬ ((hI S b1 (Int32.toNatClampNeg x1)) = 0) → K x1 S))
def wl_X5_firstNotZero_2 (M : Nat × Nat) (K : Int32 → HS → Prop) : Nat → Nat → Int32 → HS → Prop
  | 0 => fun _ _ _ => False
  | nn + 1 => wb_X5_firstNotZero_2 M (wl_X5_firstNotZero_2 M K nn) K
set_option maxHeartbeats 4000000 in
set_option maxRecDepth 100000 in
theorem l_X5_firstNotZero_2 {G : CG} {S0 : HS} {X : Fx} {K : Int32 → HS → Prop} (hc : Cx X RX5 cX5_firstNotZero 2) (hr : Cc G S0 0 (some .int) (kI K) X) : ∀ (nn : Nat) (x0 : Nat) (x1 : Int32) (S : HS), wl_X5_firstNotZero_2 (gC G, gS G) K nn x0 x1 S → MC G S0 X 2 S 2 [(0, .ref x0), (1, .int x1)] [] := by
  intro nn
  induction nn with
  | zero => intro x0 x1 S hw; exact False.elim hw
  | succ nn ih =>
    intro x0 x1 S hw
    have hw : wb_X5_firstNotZero_2 (gC G, gS G) (wl_X5_firstNotZero_2 (gC G, gS G) K nn) K x0 x1 S := hw
    have h2 := ih
    generalize wl_X5_firstNotZero_2 (gC G, gS G) K nn = K2 at hw h2
    unfold wb_X5_firstNotZero_2 at hw
    refine m_iload_n hc 1 dX5_firstNotZero_2 rfl rfl ?_
    refine m_aload_n hc 0 dX5_firstNotZero_3 rfl rfl ?_
    obtain ⟨ht, hw⟩ := hw
    refine c_geti hc hr ciX5 (Nat.le_of_ble_eq_true rfl) 3 (Nat.le_of_ble_eq_true rfl) rfl dX5_firstNotZero_4 lf_X5_22 ht ?_
    refine m_icmp_ge hc 27 dX5_firstNotZero_7 rfl (fun cq => ?_) (fun cq => ?_)
    · have hw := hw.1 cq
      refine m_iconst hc (-1) dX5_firstNotZero_27 (by decide) ?_
      exact c_iret hc hr dX5_firstNotZero_28 hw
    · have hw := hw.2 cq
      refine m_aload_n hc 0 dX5_firstNotZero_10 rfl rfl ?_
      obtain ⟨ht, b1, e_b1, hw⟩ := hw
      refine c_getr hc hr ciX5 (Nat.le_of_ble_eq_true rfl) 0 (Nat.le_of_ble_eq_true rfl) rfl dX5_firstNotZero_11 lf_X5_9 ht e_b1 ?_
      refine m_iload_n hc 1 dX5_firstNotZero_14 rfl rfl ?_
      obtain ⟨ht, hi, hw⟩ := hw
      refine c_iald hc hr ht hi dX5_firstNotZero_15 ?_
      refine m_if_eq hc 21 dX5_firstNotZero_16 rfl (fun cq => ?_) (fun cq => ?_)
      · have hw := hw.1 cq
        refine m_iinc hc 1 (x1 + 1) [(1, .int (x1 + 1)), (0, .ref x0)] dX5_firstNotZero_21 rfl rfl (Nat.le_of_ble_eq_true rfl) rfl ?_
        refine m_goto hc 2 dX5_firstNotZero_24 rfl ?_
        refine m_sub [1, 0] rfl ?_
        exact h2 x0 (x1 + 1) S hw
      · have hw := hw.2 cq
        refine m_iload_n hc 1 dX5_firstNotZero_19 rfl rfl ?_
        exact c_iret hc hr dX5_firstNotZero_20 hw
def wp_X5_firstNotZero (M : Nat × Nat) (x0 : Nat) (S : HS) (K : Int32 → HS → Prop) : Prop := ∃ nn : Nat, wl_X5_firstNotZero_2 M K nn x0 0 S
set_option maxHeartbeats 4000000 in
set_option maxRecDepth 100000 in
theorem ok_X5_firstNotZero {G : CG} {x0 : Nat} {S : HS} {K : Int32 → HS → Prop} (hw : wp_X5_firstNotZero (gC G, gS G) x0 S K) : CC 0 yX5_firstNotZero cX5_firstNotZero 2 (some .int) [.ref x0] G S (kI K) := by
  refine CC.of (by decide +kernel) (Nat.le_of_ble_eq_true rfl) (fun X hc hr hname => ?_)
  show MC G S X 2 S 0 [(0, .ref x0)] []
  unfold wp_X5_firstNotZero at hw
  refine m_iconst hc 0 dX5_firstNotZero_0 (by decide) ?_
  refine m_istore_n hc [(1, .int 0), (0, .ref x0)] dX5_firstNotZero_1 rfl (Nat.le_of_ble_eq_true rfl) rfl ?_
  refine m_sub [1, 0] rfl ?_
  obtain ⟨nn, hw⟩ := hw
  exact l_X5_firstNotZero_2 hc hr nn x0 0 S hw
def w_X6_single_13 (M : Nat × Nat) (K : Option Nat → HS → Prop) (x0 x1 s0 : Int32) (s1 s2 : Nat) (S : HS) : Prop := wp_X6_init M s1 s0 S (fun r1 S1 => hT S1 s2 = 7 ∧ wp_X6_push M s2 x0 x1 S1 (fun r2 S2 => K (some s2) S2))
set_option maxHeartbeats 4000000 in
set_option maxRecDepth 100000 in
theorem b_X6_single_13 {G : CG} {S0 : HS} {X : Fx} {K : Option Nat → HS → Prop} (hc : Cx X RX6 cX6_single 3) (hr : Cc G S0 2 (some (.object "StraightPolys$Poly")) (kR K) X) : ∀ (x0 x1 s0 : Int32) (s1 s2 : Nat) (S : HS), w_X6_single_13 (gC G, gS G) K x0 x1 s0 s1 s2 S → MC G S0 X 3 S 13 [(0, .int x0), (1, .int x1)] [.int s0, .ref s1, .ref s2] := by
  intro x0 x1 s0 s1 s2 S hw
  unfold w_X6_single_13 at hw
  refine c_callIv hc hr mt_X6_init lm_X6_30 (ok_X6_init hw) (Nat.le_of_ble_eq_true rfl) dX6_single_13 rfl (rest := [.ref s2]) rfl (Nat.le_of_ble_eq_true rfl) (fun S1 hw => ?_)
  refine m_astore_n hc [(2, .ref s2), (0, .int x0), (1, .int x1)] dX6_single_16 rfl (Nat.le_of_ble_eq_true rfl) rfl ?_
  refine m_aload_n hc 0 dX6_single_17 rfl rfl ?_
  refine m_iload_n hc 1 dX6_single_18 rfl rfl ?_
  refine m_iload_n hc 2 dX6_single_19 rfl rfl ?_
  obtain ⟨ht, hw⟩ := hw
  refine c_callVv hc hr ciX6 (Nat.le_of_ble_eq_true rfl) ht mt_X6_push rfl lm_X6_33 (ok_X6_push hw) (Nat.le_of_ble_eq_true rfl) dX6_single_20 rfl (rest := []) rfl (Nat.le_of_ble_eq_true rfl) (fun S2 hw => ?_)
  refine m_aload_n hc 0 dX6_single_23 rfl rfl ?_
  exact c_aret hc hr (r := (some s2)) dX6_single_24 hw
def wp_X6_single (M : Nat × Nat) (x0 x1 : Int32) (S : HS) (K : Option Nat → HS → Prop) : Prop := hX S + 1 ≤ M.1 ∧ hS S + 4 ≤ M.2 ∧ ∀ (b1 : Nat) (S1 : HS), b1 = hX S → S1 = nO S 7 4 → (¬ x1 = 0 → w_X6_single_13 M K x0 x1 1 b1 b1 S1) ∧ (x1 = 0 → w_X6_single_13 M K x0 x1 0 b1 b1 S1)
set_option maxHeartbeats 4000000 in
set_option maxRecDepth 100000 in
theorem ok_X6_single {G : CG} {x0 : Int32} {x1 : Int32} {S : HS} {K : Option Nat → HS → Prop} (hw : wp_X6_single (gC G, gS G) x0 x1 S K) : CC 2 yX6_single cX6_single 3 (some (.object "StraightPolys$Poly")) [.int x0, .int x1] G S (kR K) := by
  refine CC.of (by decide +kernel) (Nat.le_of_ble_eq_true rfl) (fun X hc hr hname => ?_)
  show MC G S X 3 S 0 [(0, .int x0), (1, .int x1)] []
  unfold wp_X6_single at hw
  obtain ⟨hm, hm2, hw⟩ := hw
  refine n_new hc hr ciX6 (Nat.le_of_ble_eq_true rfl) dfX6 dX6_single_0 lcl_X6_10 lni_X6 hm hm2 (fun b1 S1 e_b1 e_S1 => ?_)
  have hw := hw b1 S1 e_b1 e_S1
  refine m_dup hc dX6_single_3 rfl ?_
  refine m_iload_n hc 1 dX6_single_4 rfl rfl ?_
  refine m_if_ne hc 12 dX6_single_5 rfl (fun cq => ?_) (fun cq => ?_)
  · have hw := hw.1 cq
    refine m_iconst hc 1 dX6_single_12 (by decide) ?_
    exact b_X6_single_13 hc hr x0 x1 1 b1 b1 S1 hw
  · have hw := hw.2 cq
    refine m_iconst hc 0 dX6_single_8 (by decide) ?_
    refine m_goto hc 13 dX6_single_9 rfl ?_
    exact b_X6_single_13 hc hr x0 x1 0 b1 b1 S1 hw
def wp_X6_isInXAlone (M : Nat × Nat) (x0 : Nat) (S : HS) (K : Int32 → HS → Prop) : Prop := hT S x0 = 7 ∧ wp_X6_degreeIn M x0 1 S (fun r1 S1 => (0 < r1 → K 0 S1) ∧ (¬ (0 < r1) → hT S1 x0 = 7 ∧ wp_X6_degreeIn M x0 2 S1 (fun r2 S2 => (0 < r2 → K 0 S2) ∧ (¬ (0 < r2) → K 1 S2))))
set_option maxHeartbeats 4000000 in
set_option maxRecDepth 100000 in
theorem ok_X6_isInXAlone {G : CG} {x0 : Nat} {S : HS} {K : Int32 → HS → Prop} (hw : wp_X6_isInXAlone (gC G, gS G) x0 S K) : CC 2 yX6_isInXAlone cX6_isInXAlone 1 (some .boolean) [.ref x0] G S (kI K) := by
  refine CC.of (by decide +kernel) (Nat.le_of_ble_eq_true rfl) (fun X hc hr hname => ?_)
  show MC G S X 1 S 0 [(0, .ref x0)] []
  unfold wp_X6_isInXAlone at hw
  refine m_aload_n hc 0 dX6_isInXAlone_0 rfl rfl ?_
  refine m_iconst hc 1 dX6_isInXAlone_1 (by decide) ?_
  obtain ⟨ht, hw⟩ := hw
  refine c_callVi hc hr ciX6 (Nat.le_of_ble_eq_true rfl) ht mt_X6_degreeIn rfl lm_X6_52 (ok_X6_degreeIn hw) (Nat.le_of_ble_eq_true rfl) dX6_isInXAlone_2 rfl (rest := []) rfl (Nat.le_of_ble_eq_true rfl) (fun r1 S1 hw => ?_)
  refine m_if_gt hc 20 dX6_isInXAlone_5 rfl (fun cq => ?_) (fun cq => ?_)
  · have hw := hw.1 cq
    refine m_iconst hc 0 dX6_isInXAlone_20 (by decide) ?_
    exact c_zret hc hr dX6_isInXAlone_21 (by decide) hw
  · have hw := hw.2 cq
    refine m_aload_n hc 0 dX6_isInXAlone_8 rfl rfl ?_
    refine m_iconst hc 2 dX6_isInXAlone_9 (by decide) ?_
    obtain ⟨ht, hw⟩ := hw
    refine c_callVi hc hr ciX6 (Nat.le_of_ble_eq_true rfl) ht mt_X6_degreeIn rfl lm_X6_52 (ok_X6_degreeIn hw) (Nat.le_of_ble_eq_true rfl) dX6_isInXAlone_10 rfl (rest := []) rfl (Nat.le_of_ble_eq_true rfl) (fun r2 S2 hw => ?_)
    refine m_if_gt hc 20 dX6_isInXAlone_13 rfl (fun cq => ?_) (fun cq => ?_)
    · have hw := hw.1 cq
      refine m_iconst hc 0 dX6_isInXAlone_20 (by decide) ?_
      exact c_zret hc hr dX6_isInXAlone_21 (by decide) hw
    · have hw := hw.2 cq
      refine m_iconst hc 1 dX6_isInXAlone_16 (by decide) ?_
      refine m_goto hc 21 dX6_isInXAlone_17 rfl ?_
      exact c_zret hc hr dX6_isInXAlone_21 (by decide) hw
def wb_X6_hasOneDegree_2 (M : Nat × Nat) (K2 : Nat → Int32 → HS → Prop) (K : Int32 → HS → Prop) (x0 : Nat) (x1 : Int32) (S : HS) : Prop := hT S x0 = 7 ∧ ((hI S x0 2) ≤ x1 → K 1 S) ∧ (¬ ((hI S x0 2) ≤ x1) → hT S x0 = 7 ∧ ∃ b1 : Nat, hP S x0 0 = some b1 ∧ hT S b1 = 21 ∧ vp_in x1 (hN S b1) ∧ wp_X6_degreeOf M (hI S b1 (Int32.toNatClampNeg x1)) S (fun r2 S2 => hT S2 x0 = 7 ∧ ∃ b3 : Nat, hP S2 x0 0 = some b3 ∧ hT S2 b3 = 21 ∧ vp_in 0 (hN S2 b3) ∧ wp_X6_degreeOf M (hI S2 b3 (Int32.toNatClampNeg 0)) S2 (fun r4 S4 => (r2 = r4 → K2 x0 (x1 + 1) S4) ∧ (¬ (r2 = r4) → K 0 S4))))
def wl_X6_hasOneDegree_2 (M : Nat × Nat) (K : Int32 → HS → Prop) : Nat → Nat → Int32 → HS → Prop
  | 0 => fun _ _ _ => False
  | nn + 1 => wb_X6_hasOneDegree_2 M (wl_X6_hasOneDegree_2 M K nn) K
set_option maxHeartbeats 4000000 in
set_option maxRecDepth 100000 in
theorem l_X6_hasOneDegree_2 {G : CG} {S0 : HS} {X : Fx} {K : Int32 → HS → Prop} (hc : Cx X RX6 cX6_hasOneDegree 2) (hr : Cc G S0 2 (some .boolean) (kI K) X) : ∀ (nn : Nat) (x0 : Nat) (x1 : Int32) (S : HS), wl_X6_hasOneDegree_2 (gC G, gS G) K nn x0 x1 S → MC G S0 X 2 S 2 [(0, .ref x0), (1, .int x1)] [] := by
  intro nn
  induction nn with
  | zero => intro x0 x1 S hw; exact False.elim hw
  | succ nn ih =>
    intro x0 x1 S hw
    have hw : wb_X6_hasOneDegree_2 (gC G, gS G) (wl_X6_hasOneDegree_2 (gC G, gS G) K nn) K x0 x1 S := hw
    have h2 := ih
    generalize wl_X6_hasOneDegree_2 (gC G, gS G) K nn = K2 at hw h2
    unfold wb_X6_hasOneDegree_2 at hw
    refine m_iload_n hc 1 dX6_hasOneDegree_2 rfl rfl ?_
    refine m_aload_n hc 0 dX6_hasOneDegree_3 rfl rfl ?_
    obtain ⟨ht, hw⟩ := hw
    refine c_geti hc hr ciX6 (Nat.le_of_ble_eq_true rfl) 2 (Nat.le_of_ble_eq_true rfl) rfl dX6_hasOneDegree_4 lf_X6_9 ht ?_
    refine m_icmp_ge hc 39 dX6_hasOneDegree_7 rfl (fun cq => ?_) (fun cq => ?_)
    · have hw := hw.1 cq
      refine m_iconst hc 1 dX6_hasOneDegree_39 (by decide) ?_
      exact c_zret hc hr dX6_hasOneDegree_40 (by decide) hw
    · have hw := hw.2 cq
      refine m_aload_n hc 0 dX6_hasOneDegree_10 rfl rfl ?_
      obtain ⟨ht, b1, e_b1, hw⟩ := hw
      refine c_getr hc hr ciX6 (Nat.le_of_ble_eq_true rfl) 0 (Nat.le_of_ble_eq_true rfl) rfl dX6_hasOneDegree_11 lf_X6_19 ht e_b1 ?_
      refine m_iload_n hc 1 dX6_hasOneDegree_14 rfl rfl ?_
      obtain ⟨ht, hi, hw⟩ := hw
      refine c_iald hc hr ht hi dX6_hasOneDegree_15 ?_
      refine c_callSi hc hr mt_X6_degreeOf lm_X6_43 (ok_X6_degreeOf hw) (Nat.le_of_ble_eq_true rfl) dX6_hasOneDegree_16 rfl (rest := []) rfl (Nat.le_of_ble_eq_true rfl) (fun r2 S2 hw => ?_)
      refine m_aload_n hc 0 dX6_hasOneDegree_19 rfl rfl ?_
      obtain ⟨ht, b3, e_b3, hw⟩ := hw
      refine c_getr hc hr ciX6 (Nat.le_of_ble_eq_true rfl) 0 (Nat.le_of_ble_eq_true rfl) rfl dX6_hasOneDegree_20 lf_X6_19 ht e_b3 ?_
      refine m_iconst hc 0 dX6_hasOneDegree_23 (by decide) ?_
      obtain ⟨ht, hi, hw⟩ := hw
      refine c_iald hc hr ht hi dX6_hasOneDegree_24 ?_
      refine c_callSi hc hr mt_X6_degreeOf lm_X6_43 (ok_X6_degreeOf hw) (Nat.le_of_ble_eq_true rfl) dX6_hasOneDegree_25 rfl (rest := [.int r2]) rfl (Nat.le_of_ble_eq_true rfl) (fun r4 S4 hw => ?_)
      refine m_icmp_eq hc 33 dX6_hasOneDegree_28 rfl (fun cq => ?_) (fun cq => ?_)
      · have hw := hw.1 cq
        refine m_iinc hc 1 (x1 + 1) [(1, .int (x1 + 1)), (0, .ref x0)] dX6_hasOneDegree_33 rfl rfl (Nat.le_of_ble_eq_true rfl) rfl ?_
        refine m_goto hc 2 dX6_hasOneDegree_36 rfl ?_
        refine m_sub [1, 0] rfl ?_
        exact h2 x0 (x1 + 1) S4 hw
      · have hw := hw.2 cq
        refine m_iconst hc 0 dX6_hasOneDegree_31 (by decide) ?_
        exact c_zret hc hr dX6_hasOneDegree_32 (by decide) hw
def wp_X6_hasOneDegree (M : Nat × Nat) (x0 : Nat) (S : HS) (K : Int32 → HS → Prop) : Prop := ∃ nn : Nat, wl_X6_hasOneDegree_2 M K nn x0 1 S
set_option maxHeartbeats 4000000 in
set_option maxRecDepth 100000 in
theorem ok_X6_hasOneDegree {G : CG} {x0 : Nat} {S : HS} {K : Int32 → HS → Prop} (hw : wp_X6_hasOneDegree (gC G, gS G) x0 S K) : CC 2 yX6_hasOneDegree cX6_hasOneDegree 2 (some .boolean) [.ref x0] G S (kI K) := by
  refine CC.of (by decide +kernel) (Nat.le_of_ble_eq_true rfl) (fun X hc hr hname => ?_)
  show MC G S X 2 S 0 [(0, .ref x0)] []
  unfold wp_X6_hasOneDegree at hw
  refine m_iconst hc 1 dX6_hasOneDegree_0 (by decide) ?_
  refine m_istore_n hc [(1, .int 1), (0, .ref x0)] dX6_hasOneDegree_1 rfl (Nat.le_of_ble_eq_true rfl) rfl ?_
  refine m_sub [1, 0] rfl ?_
  obtain ⟨nn, hw⟩ := hw
  exact l_X6_hasOneDegree_2 hc hr nn x0 1 S hw
def wb_X6_numberWith_2 (M : Nat × Nat) (K2 : Nat → Int32 → Int32 → HS → Prop) (K : Int32 → HS → Prop) (x0 : Nat) (x1 x2 : Int32) (S : HS) : Prop := hT S x0 = 7 ∧ ((hI S x0 2) ≤ x2 → K 0 S) ∧ (¬ ((hI S x0 2) ≤ x2) → hT S x0 = 7 ∧ ∃ b1 : Nat, hP S x0 0 = some b1 ∧ hT S b1 = 21 ∧ vp_in x2 (hN S b1) ∧ (¬ (hI S b1 (Int32.toNatClampNeg x2)) = x1 → K2 x0 x1 (x2 + 1) S) ∧ ((hI S b1 (Int32.toNatClampNeg x2)) = x1 → hT S x0 = 7 ∧ ∃ b2 : Nat, hP S x0 1 = some b2 ∧ hT S b2 = 21 ∧ vp_in x2 (hN S b2) ∧ K (hI S b2 (Int32.toNatClampNeg x2)) S))
def wl_X6_numberWith_2 (M : Nat × Nat) (K : Int32 → HS → Prop) : Nat → Nat → Int32 → Int32 → HS → Prop
  | 0 => fun _ _ _ _ => False
  | nn + 1 => wb_X6_numberWith_2 M (wl_X6_numberWith_2 M K nn) K
set_option maxHeartbeats 4000000 in
set_option maxRecDepth 100000 in
theorem l_X6_numberWith_2 {G : CG} {S0 : HS} {X : Fx} {K : Int32 → HS → Prop} (hc : Cx X RX6 cX6_numberWith 3) (hr : Cc G S0 0 (some .int) (kI K) X) : ∀ (nn : Nat) (x0 : Nat) (x1 x2 : Int32) (S : HS), wl_X6_numberWith_2 (gC G, gS G) K nn x0 x1 x2 S → MC G S0 X 3 S 2 [(0, .ref x0), (1, .int x1), (2, .int x2)] [] := by
  intro nn
  induction nn with
  | zero => intro x0 x1 x2 S hw; exact False.elim hw
  | succ nn ih =>
    intro x0 x1 x2 S hw
    have hw : wb_X6_numberWith_2 (gC G, gS G) (wl_X6_numberWith_2 (gC G, gS G) K nn) K x0 x1 x2 S := hw
    have h2 := ih
    generalize wl_X6_numberWith_2 (gC G, gS G) K nn = K2 at hw h2
    unfold wb_X6_numberWith_2 at hw
    refine m_iload_n hc 2 dX6_numberWith_2 rfl rfl ?_
    refine m_aload_n hc 0 dX6_numberWith_3 rfl rfl ?_
    obtain ⟨ht, hw⟩ := hw
    refine c_geti hc hr ciX6 (Nat.le_of_ble_eq_true rfl) 2 (Nat.le_of_ble_eq_true rfl) rfl dX6_numberWith_4 lf_X6_9 ht ?_
    refine m_icmp_ge hc 33 dX6_numberWith_7 rfl (fun cq => ?_) (fun cq => ?_)
    · have hw := hw.1 cq
      refine m_iconst hc 0 dX6_numberWith_33 (by decide) ?_
      exact c_iret hc hr dX6_numberWith_34 hw
    · have hw := hw.2 cq
      refine m_aload_n hc 0 dX6_numberWith_10 rfl rfl ?_
      obtain ⟨ht, b1, e_b1, hw⟩ := hw
      refine c_getr hc hr ciX6 (Nat.le_of_ble_eq_true rfl) 0 (Nat.le_of_ble_eq_true rfl) rfl dX6_numberWith_11 lf_X6_19 ht e_b1 ?_
      refine m_iload_n hc 2 dX6_numberWith_14 rfl rfl ?_
      obtain ⟨ht, hi, hw⟩ := hw
      refine c_iald hc hr ht hi dX6_numberWith_15 ?_
      refine m_iload_n hc 1 dX6_numberWith_16 rfl rfl ?_
      refine m_icmp_ne hc 27 dX6_numberWith_17 rfl (fun cq => ?_) (fun cq => ?_)
      · have hw := hw.1 cq
        refine m_iinc hc 2 (x2 + 1) [(2, .int (x2 + 1)), (0, .ref x0), (1, .int x1)] dX6_numberWith_27 rfl rfl (Nat.le_of_ble_eq_true rfl) rfl ?_
        refine m_goto hc 2 dX6_numberWith_30 rfl ?_
        refine m_sub [1, 2, 0] rfl ?_
        exact h2 x0 x1 (x2 + 1) S hw
      · have hw := hw.2 cq
        refine m_aload_n hc 0 dX6_numberWith_20 rfl rfl ?_
        obtain ⟨ht, b2, e_b2, hw⟩ := hw
        refine c_getr hc hr ciX6 (Nat.le_of_ble_eq_true rfl) 1 (Nat.le_of_ble_eq_true rfl) rfl dX6_numberWith_21 lf_X6_23 ht e_b2 ?_
        refine m_iload_n hc 2 dX6_numberWith_24 rfl rfl ?_
        obtain ⟨ht, hi, hw⟩ := hw
        refine c_iald hc hr ht hi dX6_numberWith_25 ?_
        exact c_iret hc hr dX6_numberWith_26 hw
def wp_X6_numberWith (M : Nat × Nat) (x0 : Nat) (x1 : Int32) (S : HS) (K : Int32 → HS → Prop) : Prop := ∃ nn : Nat, wl_X6_numberWith_2 M K nn x0 x1 0 S
set_option maxHeartbeats 4000000 in
set_option maxRecDepth 100000 in
theorem ok_X6_numberWith {G : CG} {x0 : Nat} {x1 : Int32} {S : HS} {K : Int32 → HS → Prop} (hw : wp_X6_numberWith (gC G, gS G) x0 x1 S K) : CC 0 yX6_numberWith cX6_numberWith 3 (some .int) [.ref x0, .int x1] G S (kI K) := by
  refine CC.of (by decide +kernel) (Nat.le_of_ble_eq_true rfl) (fun X hc hr hname => ?_)
  show MC G S X 3 S 0 [(0, .ref x0), (1, .int x1)] []
  unfold wp_X6_numberWith at hw
  refine m_iconst hc 0 dX6_numberWith_0 (by decide) ?_
  refine m_istore_n hc [(2, .int 0), (0, .ref x0), (1, .int x1)] dX6_numberWith_1 rfl (Nat.le_of_ble_eq_true rfl) rfl ?_
  refine m_sub [1, 2, 0] rfl ?_
  obtain ⟨nn, hw⟩ := hw
  exact l_X6_numberWith_2 hc hr nn x0 x1 0 S hw
def wb_X6_isLike_15 (M : Nat × Nat) (K15 : Nat → Nat → Int32 → HS → Prop) (K : Int32 → HS → Prop) (x0 x1 : Nat) (x2 : Int32) (S : HS) : Prop := hT S x0 = 7 ∧ ((hI S x0 2) ≤ x2 → K 1 S) ∧ (¬ ((hI S x0 2) ≤ x2) → hT S x0 = 7 ∧ ∃ b1 : Nat, hP S x0 0 = some b1 ∧ hT S b1 = 21 ∧ vp_in x2 (hN S b1) ∧ hT S x1 = 7 ∧ ∃ b2 : Nat, hP S x1 0 = some b2 ∧ hT S b2 = 21 ∧ vp_in x2 (hN S b2) ∧ (¬ (hI S b1 (Int32.toNatClampNeg x2)) = (hI S b2 (Int32.toNatClampNeg x2)) → K 0 S) ∧ ((hI S b1 (Int32.toNatClampNeg x2)) = (hI S b2 (Int32.toNatClampNeg x2)) → hT S x0 = 7 ∧ ∃ b3 : Nat, hP S x0 1 = some b3 ∧ hT S b3 = 21 ∧ vp_in x2 (hN S b3) ∧ hT S x1 = 7 ∧ ∃ b4 : Nat, hP S x1 1 = some b4 ∧ hT S b4 = 21 ∧ vp_in x2 (hN S b4) ∧ ((hI S b3 (Int32.toNatClampNeg x2)) = (hI S b4 (Int32.toNatClampNeg x2)) → K15 x0 x1 (x2 + 1) S) ∧ (¬ ((hI S b3 (Int32.toNatClampNeg x2)) = (hI S b4 (Int32.toNatClampNeg x2))) → K 0 S)))
def wl_X6_isLike_15 (M : Nat × Nat) (K : Int32 → HS → Prop) : Nat → Nat → Nat → Int32 → HS → Prop
  | 0 => fun _ _ _ _ => False
  | nn + 1 => wb_X6_isLike_15 M (wl_X6_isLike_15 M K nn) K
set_option maxHeartbeats 4000000 in
set_option maxRecDepth 100000 in
theorem l_X6_isLike_15 {G : CG} {S0 : HS} {X : Fx} {K : Int32 → HS → Prop} (hc : Cx X RX6 cX6_isLike 3) (hr : Cc G S0 0 (some .boolean) (kI K) X) : ∀ (nn : Nat) (x0 x1 : Nat) (x2 : Int32) (S : HS), wl_X6_isLike_15 (gC G, gS G) K nn x0 x1 x2 S → MC G S0 X 3 S 15 [(0, .ref x0), (1, .ref x1), (2, .int x2)] [] := by
  intro nn
  induction nn with
  | zero => intro x0 x1 x2 S hw; exact False.elim hw
  | succ nn ih =>
    intro x0 x1 x2 S hw
    have hw : wb_X6_isLike_15 (gC G, gS G) (wl_X6_isLike_15 (gC G, gS G) K nn) K x0 x1 x2 S := hw
    have h15 := ih
    generalize wl_X6_isLike_15 (gC G, gS G) K nn = K15 at hw h15
    unfold wb_X6_isLike_15 at hw
    refine m_iload_n hc 2 dX6_isLike_15 rfl rfl ?_
    refine m_aload_n hc 0 dX6_isLike_16 rfl rfl ?_
    obtain ⟨ht, hw⟩ := hw
    refine c_geti hc hr ciX6 (Nat.le_of_ble_eq_true rfl) 2 (Nat.le_of_ble_eq_true rfl) rfl dX6_isLike_17 lf_X6_9 ht ?_
    refine m_icmp_ge hc 61 dX6_isLike_20 rfl (fun cq => ?_) (fun cq => ?_)
    · have hw := hw.1 cq
      refine m_iconst hc 1 dX6_isLike_61 (by decide) ?_
      exact c_zret hc hr dX6_isLike_62 (by decide) hw
    · have hw := hw.2 cq
      refine m_aload_n hc 0 dX6_isLike_23 rfl rfl ?_
      obtain ⟨ht, b1, e_b1, hw⟩ := hw
      refine c_getr hc hr ciX6 (Nat.le_of_ble_eq_true rfl) 0 (Nat.le_of_ble_eq_true rfl) rfl dX6_isLike_24 lf_X6_19 ht e_b1 ?_
      refine m_iload_n hc 2 dX6_isLike_27 rfl rfl ?_
      obtain ⟨ht, hi, hw⟩ := hw
      refine c_iald hc hr ht hi dX6_isLike_28 ?_
      refine m_aload_n hc 1 dX6_isLike_29 rfl rfl ?_
      obtain ⟨ht, b2, e_b2, hw⟩ := hw
      refine c_getr hc hr ciX6 (Nat.le_of_ble_eq_true rfl) 0 (Nat.le_of_ble_eq_true rfl) rfl dX6_isLike_30 lf_X6_19 ht e_b2 ?_
      refine m_iload_n hc 2 dX6_isLike_33 rfl rfl ?_
      obtain ⟨ht, hi, hw⟩ := hw
      refine c_iald hc hr ht hi dX6_isLike_34 ?_
      refine m_icmp_ne hc 53 dX6_isLike_35 rfl (fun cq => ?_) (fun cq => ?_)
      · have hw := hw.1 cq
        refine m_iconst hc 0 dX6_isLike_53 (by decide) ?_
        exact c_zret hc hr dX6_isLike_54 (by decide) hw
      · have hw := hw.2 cq
        refine m_aload_n hc 0 dX6_isLike_38 rfl rfl ?_
        obtain ⟨ht, b3, e_b3, hw⟩ := hw
        refine c_getr hc hr ciX6 (Nat.le_of_ble_eq_true rfl) 1 (Nat.le_of_ble_eq_true rfl) rfl dX6_isLike_39 lf_X6_23 ht e_b3 ?_
        refine m_iload_n hc 2 dX6_isLike_42 rfl rfl ?_
        obtain ⟨ht, hi, hw⟩ := hw
        refine c_iald hc hr ht hi dX6_isLike_43 ?_
        refine m_aload_n hc 1 dX6_isLike_44 rfl rfl ?_
        obtain ⟨ht, b4, e_b4, hw⟩ := hw
        refine c_getr hc hr ciX6 (Nat.le_of_ble_eq_true rfl) 1 (Nat.le_of_ble_eq_true rfl) rfl dX6_isLike_45 lf_X6_23 ht e_b4 ?_
        refine m_iload_n hc 2 dX6_isLike_48 rfl rfl ?_
        obtain ⟨ht, hi, hw⟩ := hw
        refine c_iald hc hr ht hi dX6_isLike_49 ?_
        refine m_icmp_eq hc 55 dX6_isLike_50 rfl (fun cq => ?_) (fun cq => ?_)
        · have hw := hw.1 cq
          refine m_iinc hc 2 (x2 + 1) [(2, .int (x2 + 1)), (0, .ref x0), (1, .ref x1)] dX6_isLike_55 rfl rfl (Nat.le_of_ble_eq_true rfl) rfl ?_
          refine m_goto hc 15 dX6_isLike_58 rfl ?_
          refine m_sub [1, 2, 0] rfl ?_
          exact h15 x0 x1 (x2 + 1) S hw
        · have hw := hw.2 cq
          refine m_iconst hc 0 dX6_isLike_53 (by decide) ?_
          exact c_zret hc hr dX6_isLike_54 (by decide) hw
def wp_X6_isLike (M : Nat × Nat) (x0 x1 : Nat) (S : HS) (K : Int32 → HS → Prop) : Prop := hT S x0 = 7 ∧ hT S x1 = 7 ∧ ((hI S x0 2) = (hI S x1 2) → ∃ nn : Nat, wl_X6_isLike_15 M K nn x0 x1 0 S) ∧ (¬ ((hI S x0 2) = (hI S x1 2)) → K 0 S)
set_option maxHeartbeats 4000000 in
set_option maxRecDepth 100000 in
theorem ok_X6_isLike {G : CG} {x0 : Nat} {x1 : Nat} {S : HS} {K : Int32 → HS → Prop} (hw : wp_X6_isLike (gC G, gS G) x0 x1 S K) : CC 0 yX6_isLike cX6_isLike 3 (some .boolean) [.ref x0, .ref x1] G S (kI K) := by
  refine CC.of (by decide +kernel) (Nat.le_of_ble_eq_true rfl) (fun X hc hr hname => ?_)
  show MC G S X 3 S 0 [(0, .ref x0), (1, .ref x1)] []
  unfold wp_X6_isLike at hw
  refine m_aload_n hc 0 dX6_isLike_0 rfl rfl ?_
  obtain ⟨ht, hw⟩ := hw
  refine c_geti hc hr ciX6 (Nat.le_of_ble_eq_true rfl) 2 (Nat.le_of_ble_eq_true rfl) rfl dX6_isLike_1 lf_X6_9 ht ?_
  refine m_aload_n hc 1 dX6_isLike_4 rfl rfl ?_
  obtain ⟨ht, hw⟩ := hw
  refine c_geti hc hr ciX6 (Nat.le_of_ble_eq_true rfl) 2 (Nat.le_of_ble_eq_true rfl) rfl dX6_isLike_5 lf_X6_9 ht ?_
  refine m_icmp_eq hc 13 dX6_isLike_8 rfl (fun cq => ?_) (fun cq => ?_)
  · have hw := hw.1 cq
    refine m_iconst hc 0 dX6_isLike_13 (by decide) ?_
    refine m_istore_n hc [(2, .int 0), (0, .ref x0), (1, .ref x1)] dX6_isLike_14 rfl (Nat.le_of_ble_eq_true rfl) rfl ?_
    refine m_sub [1, 2, 0] rfl ?_
    obtain ⟨nn, hw⟩ := hw
    exact l_X6_isLike_15 hc hr nn x0 x1 0 S hw
  · have hw := hw.2 cq
    refine m_iconst hc 0 dX6_isLike_11 (by decide) ?_
    exact c_zret hc hr dX6_isLike_12 (by decide) hw
def wp_X7_init (M : Nat × Nat) (x0 : Nat) (S : HS) (K : Int32 → HS → Prop) : Prop := hT S x0 = 8 ∧ ¬ (23 : Int32) < 0 ∧ (Int32.toNatClampNeg 23) ≤ 100000000 ∧ hX (sI S x0 0 0) + 1 ≤ M.1 ∧ hS (sI S x0 0 0) + (Int32.toNatClampNeg 23) ≤ M.2 ∧ ∀ (b1 : Nat) (S1 : HS), b1 = hX (sI S x0 0 0) → S1 = nO (sI S x0 0 0) 21 (Int32.toNatClampNeg 23) → hT S1 x0 = 8 ∧ ¬ (23 : Int32) < 0 ∧ (Int32.toNatClampNeg 23) ≤ 100000000 ∧ hX (sP S1 x0 1 (some b1)) + 1 ≤ M.1 ∧ hS (sP S1 x0 1 (some b1)) + (Int32.toNatClampNeg 23) ≤ M.2 ∧ ∀ (b2 : Nat) (S2 : HS), b2 = hX (sP S1 x0 1 (some b1)) → S2 = nO (sP S1 x0 1 (some b1)) 21 (Int32.toNatClampNeg 23) → hT S2 x0 = 8 ∧ ¬ (23 : Int32) < 0 ∧ (Int32.toNatClampNeg 23) ≤ 100000000 ∧ hX (sP S2 x0 2 (some b2)) + 1 ≤ M.1 ∧ hS (sP S2 x0 2 (some b2)) + (Int32.toNatClampNeg 23) ≤ M.2 ∧ ∀ (b3 : Nat) (S3 : HS), b3 = hX (sP S2 x0 2 (some b2)) → S3 = nO (sP S2 x0 2 (some b2)) 21 (Int32.toNatClampNeg 23) → hT S3 x0 = 8 ∧ ¬ (23 : Int32) < 0 ∧ (Int32.toNatClampNeg 23) ≤ 100000000 ∧ hX (sP S3 x0 3 (some b3)) + 1 ≤ M.1 ∧ hS (sP S3 x0 3 (some b3)) + (Int32.toNatClampNeg 23) ≤ M.2 ∧ ∀ (b4 : Nat) (S4 : HS), b4 = hX (sP S3 x0 3 (some b3)) → S4 = nO (sP S3 x0 3 (some b3)) 21 (Int32.toNatClampNeg 23) → hT S4 x0 = 8 ∧ ¬ (23 : Int32) < 0 ∧ (Int32.toNatClampNeg 23) ≤ 100000000 ∧ hX (sP S4 x0 4 (some b4)) + 1 ≤ M.1 ∧ hS (sP S4 x0 4 (some b4)) + (Int32.toNatClampNeg 23) ≤ M.2 ∧ ∀ (b5 : Nat) (S5 : HS), b5 = hX (sP S4 x0 4 (some b4)) → S5 = nO (sP S4 x0 4 (some b4)) 21 (Int32.toNatClampNeg 23) → hT S5 x0 = 8 ∧ ¬ (23 : Int32) < 0 ∧ (Int32.toNatClampNeg 23) ≤ 100000000 ∧ hX (sP S5 x0 5 (some b5)) + 1 ≤ M.1 ∧ hS (sP S5 x0 5 (some b5)) + (Int32.toNatClampNeg 23) ≤ M.2 ∧ ∀ (b6 : Nat) (S6 : HS), b6 = hX (sP S5 x0 5 (some b5)) → S6 = nO (sP S5 x0 5 (some b5)) 23 (Int32.toNatClampNeg 23) → hT S6 x0 = 8 ∧ ¬ (23 : Int32) < 0 ∧ (Int32.toNatClampNeg 23) ≤ 100000000 ∧ hX (sP S6 x0 6 (some b6)) + 1 ≤ M.1 ∧ hS (sP S6 x0 6 (some b6)) + (Int32.toNatClampNeg 23) ≤ M.2 ∧ ∀ (b7 : Nat) (S7 : HS), b7 = hX (sP S6 x0 6 (some b6)) → S7 = nO (sP S6 x0 6 (some b6)) 21 (Int32.toNatClampNeg 23) → hT S7 x0 = 8 ∧ ¬ (23 : Int32) < 0 ∧ (Int32.toNatClampNeg 23) ≤ 100000000 ∧ hX (sP S7 x0 7 (some b7)) + 1 ≤ M.1 ∧ hS (sP S7 x0 7 (some b7)) + (Int32.toNatClampNeg 23) ≤ M.2 ∧ ∀ (b8 : Nat) (S8 : HS), b8 = hX (sP S7 x0 7 (some b7)) → S8 = nO (sP S7 x0 7 (some b7)) 21 (Int32.toNatClampNeg 23) → hT S8 x0 = 8 ∧ ¬ (3 : Int32) < 0 ∧ (Int32.toNatClampNeg 3) ≤ 100000000 ∧ hX (sP S8 x0 8 (some b8)) + 1 ≤ M.1 ∧ hS (sP S8 x0 8 (some b8)) + (Int32.toNatClampNeg 3) ≤ M.2 ∧ ∀ (b9 : Nat) (S9 : HS), b9 = hX (sP S8 x0 8 (some b8)) → S9 = nO (sP S8 x0 8 (some b8)) 21 (Int32.toNatClampNeg 3) → hT S9 x0 = 8 ∧ K 0 (sP S9 x0 9 (some b9))
set_option maxHeartbeats 4000000 in
set_option maxRecDepth 100000 in
theorem ok_X7_init {G : CG} {x0 : Nat} {S : HS} {K : Int32 → HS → Prop} (hw : wp_X7_init (gC G, gS G) x0 S K) : CC 1 yX7_init cX7_init 1 none [.ref x0] G S (kV K) := by
  refine CC.of (by decide +kernel) (Nat.le_of_ble_eq_true rfl) (fun X hc hr hname => ?_)
  have hnm : Ci X := hname
  show MC G S X 1 S 0 [(0, .ref x0)] []
  unfold wp_X7_init at hw
  refine m_aload_n hc 0 dX7_init_0 rfl rfl ?_
  refine c_bnd (fun g1 g2 => ?_)
  refine q_objinit hc dX7_init_1 lm_X7_5 lObj (c_room hr g1 g2) (Nat.le_of_ble_eq_true rfl) ?_
  refine m_aload_n hc 0 dX7_init_4 rfl rfl ?_
  refine m_iconst hc 0 dX7_init_5 (by decide) ?_
  obtain ⟨ht, hw⟩ := hw
  refine c_puti hc hr ciX7 (Nat.le_of_ble_eq_true rfl) 0 (Nat.le_of_ble_eq_true rfl) rfl dX7_init_6 lf_X7_11 ht (Or.inl rfl) ⟨rfl, rfl⟩ ?_
  refine m_aload_n hc 0 dX7_init_9 rfl rfl ?_
  refine m_bipush hc 23 dX7_init_10 (by decide) ?_
  obtain ⟨hn0, hn1, hm, hm2, hw⟩ := hw
  refine n_newi hc hr dX7_init_12 laI hn0 hn1 hm hm2 (fun b1 S1 e_b1 e_S1 => ?_)
  have hw := hw b1 S1 e_b1 e_S1
  obtain ⟨ht, hw⟩ := hw
  refine c_putr hc hr ciX7 (Nat.le_of_ble_eq_true rfl) 1 (Nat.le_of_ble_eq_true rfl) rfl dX7_init_14 lf_X7_15 ht (Or.inr ⟨rfl, hnm, rfl⟩) (Or.inr ⟨_, rfl⟩) ?_
  refine m_aload_n hc 0 dX7_init_17 rfl rfl ?_
  refine m_bipush hc 23 dX7_init_18 (by decide) ?_
  obtain ⟨hn0, hn1, hm, hm2, hw⟩ := hw
  refine n_newi hc hr dX7_init_20 laI hn0 hn1 hm hm2 (fun b2 S2 e_b2 e_S2 => ?_)
  have hw := hw b2 S2 e_b2 e_S2
  obtain ⟨ht, hw⟩ := hw
  refine c_putr hc hr ciX7 (Nat.le_of_ble_eq_true rfl) 2 (Nat.le_of_ble_eq_true rfl) rfl dX7_init_22 lf_X7_19 ht (Or.inr ⟨rfl, hnm, rfl⟩) (Or.inr ⟨_, rfl⟩) ?_
  refine m_aload_n hc 0 dX7_init_25 rfl rfl ?_
  refine m_bipush hc 23 dX7_init_26 (by decide) ?_
  obtain ⟨hn0, hn1, hm, hm2, hw⟩ := hw
  refine n_newi hc hr dX7_init_28 laI hn0 hn1 hm hm2 (fun b3 S3 e_b3 e_S3 => ?_)
  have hw := hw b3 S3 e_b3 e_S3
  obtain ⟨ht, hw⟩ := hw
  refine c_putr hc hr ciX7 (Nat.le_of_ble_eq_true rfl) 3 (Nat.le_of_ble_eq_true rfl) rfl dX7_init_30 lf_X7_22 ht (Or.inr ⟨rfl, hnm, rfl⟩) (Or.inr ⟨_, rfl⟩) ?_
  refine m_aload_n hc 0 dX7_init_33 rfl rfl ?_
  refine m_bipush hc 23 dX7_init_34 (by decide) ?_
  obtain ⟨hn0, hn1, hm, hm2, hw⟩ := hw
  refine n_newi hc hr dX7_init_36 laI hn0 hn1 hm hm2 (fun b4 S4 e_b4 e_S4 => ?_)
  have hw := hw b4 S4 e_b4 e_S4
  obtain ⟨ht, hw⟩ := hw
  refine c_putr hc hr ciX7 (Nat.le_of_ble_eq_true rfl) 4 (Nat.le_of_ble_eq_true rfl) rfl dX7_init_38 lf_X7_25 ht (Or.inr ⟨rfl, hnm, rfl⟩) (Or.inr ⟨_, rfl⟩) ?_
  refine m_aload_n hc 0 dX7_init_41 rfl rfl ?_
  refine m_bipush hc 23 dX7_init_42 (by decide) ?_
  obtain ⟨hn0, hn1, hm, hm2, hw⟩ := hw
  refine n_newi hc hr dX7_init_44 laI hn0 hn1 hm hm2 (fun b5 S5 e_b5 e_S5 => ?_)
  have hw := hw b5 S5 e_b5 e_S5
  obtain ⟨ht, hw⟩ := hw
  refine c_putr hc hr ciX7 (Nat.le_of_ble_eq_true rfl) 5 (Nat.le_of_ble_eq_true rfl) rfl dX7_init_46 lf_X7_28 ht (Or.inr ⟨rfl, hnm, rfl⟩) (Or.inr ⟨_, rfl⟩) ?_
  refine m_aload_n hc 0 dX7_init_49 rfl rfl ?_
  refine m_bipush hc 23 dX7_init_50 (by decide) ?_
  obtain ⟨hn0, hn1, hm, hm2, hw⟩ := hw
  refine n_newp hc hr dX7_init_52 lcl_X7_31 hn0 hn1 hm hm2 (fun b6 S6 e_b6 e_S6 => ?_)
  have hw := hw b6 S6 e_b6 e_S6
  obtain ⟨ht, hw⟩ := hw
  refine c_putr hc hr ciX7 (Nat.le_of_ble_eq_true rfl) 6 (Nat.le_of_ble_eq_true rfl) rfl dX7_init_55 lf_X7_33 ht (Or.inr ⟨rfl, hnm, rfl⟩) (Or.inr ⟨_, rfl⟩) ?_
  refine m_aload_n hc 0 dX7_init_58 rfl rfl ?_
  refine m_bipush hc 23 dX7_init_59 (by decide) ?_
  obtain ⟨hn0, hn1, hm, hm2, hw⟩ := hw
  refine n_newi hc hr dX7_init_61 laI hn0 hn1 hm hm2 (fun b7 S7 e_b7 e_S7 => ?_)
  have hw := hw b7 S7 e_b7 e_S7
  obtain ⟨ht, hw⟩ := hw
  refine c_putr hc hr ciX7 (Nat.le_of_ble_eq_true rfl) 7 (Nat.le_of_ble_eq_true rfl) rfl dX7_init_63 lf_X7_37 ht (Or.inr ⟨rfl, hnm, rfl⟩) (Or.inr ⟨_, rfl⟩) ?_
  refine m_aload_n hc 0 dX7_init_66 rfl rfl ?_
  refine m_bipush hc 23 dX7_init_67 (by decide) ?_
  obtain ⟨hn0, hn1, hm, hm2, hw⟩ := hw
  refine n_newi hc hr dX7_init_69 laI hn0 hn1 hm hm2 (fun b8 S8 e_b8 e_S8 => ?_)
  have hw := hw b8 S8 e_b8 e_S8
  obtain ⟨ht, hw⟩ := hw
  refine c_putr hc hr ciX7 (Nat.le_of_ble_eq_true rfl) 8 (Nat.le_of_ble_eq_true rfl) rfl dX7_init_71 lf_X7_40 ht (Or.inr ⟨rfl, hnm, rfl⟩) (Or.inr ⟨_, rfl⟩) ?_
  refine m_aload_n hc 0 dX7_init_74 rfl rfl ?_
  refine m_iconst hc 3 dX7_init_75 (by decide) ?_
  obtain ⟨hn0, hn1, hm, hm2, hw⟩ := hw
  refine n_newi hc hr dX7_init_76 laI hn0 hn1 hm hm2 (fun b9 S9 e_b9 e_S9 => ?_)
  have hw := hw b9 S9 e_b9 e_S9
  obtain ⟨ht, hw⟩ := hw
  refine c_putr hc hr ciX7 (Nat.le_of_ble_eq_true rfl) 9 (Nat.le_of_ble_eq_true rfl) rfl dX7_init_78 lf_X7_43 ht (Or.inr ⟨rfl, hnm, rfl⟩) (Or.inr ⟨_, rfl⟩) ?_
  exact c_vret hc hr dX7_init_81 hw
