def w_X9_putInto_115 (M : Nat × Nat) (K85 : Nat → Nat → Int32 → Nat → Int32 → Int32 → HS → Prop) (K : Option Nat → HS → Prop) (x0 x1 : Nat) (x2 : Int32) (x3 : Nat) (x4 x5 : Int32) (S : HS) : Prop := hT S x0 = 10 ∧ wp_X9_addPut M x0 x1 x2 x5 S (fun r1 S1 => K85 x0 x1 x2 x3 x4 (x5 + 1) S1)
set_option maxHeartbeats 4000000 in
set_option maxRecDepth 100000 in
theorem b_X9_putInto_115 {G : CG} {S0 : HS} {X : Fx} {K : Option Nat → HS → Prop} (hc : Cx X RX9 cX9_putInto 6) (hr : Cc G S0 4 (some (.object "StraightPolys$Poly")) (kR K) X) (K85 : Nat → Nat → Int32 → Nat → Int32 → Int32 → HS → Prop) (h85 : ∀ (x0 x1 : Nat) (x2 : Int32) (x3 : Nat) (x4 x5 : Int32) (S : HS), K85 x0 x1 x2 x3 x4 x5 S → MC G S0 X 6 S 85 [(0, .ref x0), (1, .ref x1), (2, .int x2), (3, .ref x3), (4, .int x4), (5, .int x5)] []) : ∀ (x0 x1 : Nat) (x2 : Int32) (x3 : Nat) (x4 x5 : Int32) (S : HS), w_X9_putInto_115 (gC G, gS G) K85 K x0 x1 x2 x3 x4 x5 S → MC G S0 X 6 S 115 [(0, .ref x0), (1, .ref x1), (2, .int x2), (3, .ref x3), (4, .int x4), (5, .int x5)] [] := by
  intro x0 x1 x2 x3 x4 x5 S hw
  unfold w_X9_putInto_115 at hw
  refine m_aload_n hc 0 dX9_putInto_115 rfl rfl ?_
  refine m_aload_n hc 1 dX9_putInto_116 rfl rfl ?_
  refine m_iload_n hc 2 dX9_putInto_117 rfl rfl ?_
  refine m_iload hc 5 dX9_putInto_118 rfl ?_
  obtain ⟨ht, hw⟩ := hw
  refine c_callVv hc hr ciX9 (Nat.le_of_ble_eq_true rfl) ht mt_X9_addPut rfl lm_X9_139 (ok_X9_addPut hw) (Nat.le_of_ble_eq_true rfl) dX9_putInto_120 rfl (rest := []) rfl (Nat.le_of_ble_eq_true rfl) (fun S1 hw => ?_)
  refine m_iinc hc 5 (x5 + 1) [(5, .int (x5 + 1)), (0, .ref x0), (1, .ref x1), (2, .int x2), (3, .ref x3), (4, .int x4)] dX9_putInto_123 rfl rfl (Nat.le_of_ble_eq_true rfl) rfl ?_
  refine m_goto hc 85 dX9_putInto_126 rfl ?_
  refine m_sub [1, 2, 3, 4, 5, 0] rfl ?_
  exact h85 x0 x1 x2 x3 x4 (x5 + 1) S1 hw
def wb_X9_putInto_85 (M : Nat × Nat) (K85 : Nat → Nat → Int32 → Nat → Int32 → Int32 → HS → Prop) (K : Option Nat → HS → Prop) (x0 x1 : Nat) (x2 : Int32) (x3 : Nat) (x4 x5 : Int32) (S : HS) : Prop := (x4 < x5 → hT S x0 = 10 ∧ ∃ b1 : Nat, hP S x0 4 = some b1 ∧ hT S x0 = 10 ∧ ∃ b2 : Nat, hP S x0 1 = some b2 ∧ hT S x0 = 10 ∧ hT S b1 = 2 ∧ wp_X1_readInto M b1 b2 (hI S x0 0) S (fun r3 S3 => hT S3 x0 = 10 ∧ ∃ b4 : Nat, hP S3 x0 1 = some b4 ∧ hT S3 b4 = 7 ∧ wp_X6_kept M b4 S3 (fun r5 S5 => K r5 S5))) ∧ (¬ (x4 < x5) → (x5 ≤ 0 → w_X9_putInto_115 M K85 K x0 x1 x2 x3 x4 x5 S) ∧ (¬ (x5 ≤ 0) → hT S x0 = 10 ∧ ∃ b6 : Nat, hP S x0 2 = some b6 ∧ hT S x0 = 10 ∧ ∃ b7 : Nat, hP S x0 2 = some b7 ∧ hT S x0 = 10 ∧ wp_X9_multiply M x0 b6 x3 b7 S (fun r8 S8 => (¬ r8 = 0 → w_X9_putInto_115 M K85 K x0 x1 x2 x3 x4 x5 S8) ∧ (r8 = 0 → K none S8))))
def wl_X9_putInto_85 (M : Nat × Nat) (K : Option Nat → HS → Prop) : Nat → Nat → Nat → Int32 → Nat → Int32 → Int32 → HS → Prop
  | 0 => fun _ _ _ _ _ _ _ => False
  | nn + 1 => wb_X9_putInto_85 M (wl_X9_putInto_85 M K nn) K
set_option maxHeartbeats 4000000 in
set_option maxRecDepth 100000 in
theorem l_X9_putInto_85 {G : CG} {S0 : HS} {X : Fx} {K : Option Nat → HS → Prop} (hc : Cx X RX9 cX9_putInto 6) (hr : Cc G S0 4 (some (.object "StraightPolys$Poly")) (kR K) X) : ∀ (nn : Nat) (x0 x1 : Nat) (x2 : Int32) (x3 : Nat) (x4 x5 : Int32) (S : HS), wl_X9_putInto_85 (gC G, gS G) K nn x0 x1 x2 x3 x4 x5 S → MC G S0 X 6 S 85 [(0, .ref x0), (1, .ref x1), (2, .int x2), (3, .ref x3), (4, .int x4), (5, .int x5)] [] := by
  intro nn
  induction nn with
  | zero => intro x0 x1 x2 x3 x4 x5 S hw; exact False.elim hw
  | succ nn ih =>
    intro x0 x1 x2 x3 x4 x5 S hw
    have hw : wb_X9_putInto_85 (gC G, gS G) (wl_X9_putInto_85 (gC G, gS G) K nn) K x0 x1 x2 x3 x4 x5 S := hw
    have h85 := ih
    generalize wl_X9_putInto_85 (gC G, gS G) K nn = K85 at hw h85
    unfold wb_X9_putInto_85 at hw
    refine m_iload hc 5 dX9_putInto_85 rfl ?_
    refine m_iload hc 4 dX9_putInto_87 rfl ?_
    refine m_icmp_gt hc 129 dX9_putInto_89 rfl (fun cq => ?_) (fun cq => ?_)
    · have hw := hw.1 cq
      refine m_aload_n hc 0 dX9_putInto_129 rfl rfl ?_
      obtain ⟨ht, b1, e_b1, hw⟩ := hw
      refine c_getr hc hr ciX9 (Nat.le_of_ble_eq_true rfl) 4 (Nat.le_of_ble_eq_true rfl) rfl dX9_putInto_130 lf_X9_34 ht e_b1 ?_
      refine m_aload_n hc 0 dX9_putInto_133 rfl rfl ?_
      obtain ⟨ht, b2, e_b2, hw⟩ := hw
      refine c_getr hc hr ciX9 (Nat.le_of_ble_eq_true rfl) 1 (Nat.le_of_ble_eq_true rfl) rfl dX9_putInto_134 lf_X9_20 ht e_b2 ?_
      refine m_aload_n hc 0 dX9_putInto_137 rfl rfl ?_
      obtain ⟨ht, hw⟩ := hw
      refine c_geti hc hr ciX9 (Nat.le_of_ble_eq_true rfl) 0 (Nat.le_of_ble_eq_true rfl) rfl dX9_putInto_138 lf_X9_9 ht ?_
      obtain ⟨ht, hw⟩ := hw
      refine c_callVv hc hr ciX1 (Nat.le_of_ble_eq_true rfl) ht mt_X1_readInto rfl lm_X9_100 (ok_X1_readInto hw) (Nat.le_of_ble_eq_true rfl) dX9_putInto_141 rfl (rest := []) rfl (Nat.le_of_ble_eq_true rfl) (fun S3 hw => ?_)
      refine m_aload_n hc 0 dX9_putInto_144 rfl rfl ?_
      obtain ⟨ht, b4, e_b4, hw⟩ := hw
      refine c_getr hc hr ciX9 (Nat.le_of_ble_eq_true rfl) 1 (Nat.le_of_ble_eq_true rfl) rfl dX9_putInto_145 lf_X9_20 ht e_b4 ?_
      obtain ⟨ht, hw⟩ := hw
      refine c_callVq hc hr ciX6 (Nat.le_of_ble_eq_true rfl) ht mt_X6_kept rfl lm_X9_73 (ok_X6_kept hw) (Nat.le_of_ble_eq_true rfl) dX9_putInto_148 rfl (rest := []) rfl (Nat.le_of_ble_eq_true rfl) (fun r5 S5 hw => ?_)
      skip
      exact c_aret hc hr (r := r5) dX9_putInto_151 hw
    · have hw := hw.2 cq
      refine m_iload hc 5 dX9_putInto_92 rfl ?_
      refine m_if_le hc 115 dX9_putInto_94 rfl (fun cq => ?_) (fun cq => ?_)
      · have hw := hw.1 cq
        exact b_X9_putInto_115 hc hr K85 h85 x0 x1 x2 x3 x4 x5 S hw
      · have hw := hw.2 cq
        refine m_aload_n hc 0 dX9_putInto_97 rfl rfl ?_
        refine m_aload_n hc 0 dX9_putInto_98 rfl rfl ?_
        obtain ⟨ht, b6, e_b6, hw⟩ := hw
        refine c_getr hc hr ciX9 (Nat.le_of_ble_eq_true rfl) 2 (Nat.le_of_ble_eq_true rfl) rfl dX9_putInto_99 lf_X9_24 ht e_b6 ?_
        refine m_aload_n hc 3 dX9_putInto_102 rfl rfl ?_
        refine m_aload_n hc 0 dX9_putInto_103 rfl rfl ?_
        obtain ⟨ht, b7, e_b7, hw⟩ := hw
        refine c_getr hc hr ciX9 (Nat.le_of_ble_eq_true rfl) 2 (Nat.le_of_ble_eq_true rfl) rfl dX9_putInto_104 lf_X9_24 ht e_b7 ?_
        obtain ⟨ht, hw⟩ := hw
        refine c_callVi hc hr ciX9 (Nat.le_of_ble_eq_true rfl) ht mt_X9_multiply rfl lm_X9_77 (ok_X9_multiply hw) (Nat.le_of_ble_eq_true rfl) dX9_putInto_107 rfl (rest := []) rfl (Nat.le_of_ble_eq_true rfl) (fun r8 S8 hw => ?_)
        refine m_if_ne hc 115 dX9_putInto_110 rfl (fun cq => ?_) (fun cq => ?_)
        · have hw := hw.1 cq
          exact b_X9_putInto_115 hc hr K85 h85 x0 x1 x2 x3 x4 x5 S8 hw
        · have hw := hw.2 cq
          refine m_null hc dX9_putInto_113 ?_
          exact c_aret hc hr (r := none) dX9_putInto_114 hw
def wb_X9_putInto_10 (M : Nat × Nat) (K10 : Nat → Nat → Int32 → Nat → Int32 → Int32 → HS → Prop) (K : Option Nat → HS → Prop) (x0 x1 : Nat) (x2 : Int32) (x3 : Nat) (x4 x5 : Int32) (S : HS) : Prop := (3 ≤ x5 → hT S x0 = 10 ∧ ∃ b1 : Nat, hP S x0 4 = some b1 ∧ wp_X9_putRoom M x1 x2 x3 0 S (fun r2 S2 => wp_X9_putRoom M x1 x2 x3 1 S2 (fun r3 S3 => wp_X9_putRoom M x1 x2 x3 2 S3 (fun r4 S4 => hT S4 b1 = 2 ∧ wp_X1_open M b1 r2 r3 r4 S4 (fun r5 S5 => hT S5 x0 = 10 ∧ ∃ b6 : Nat, hP S5 x0 2 = some b6 ∧ hT S5 b6 = 7 ∧ wp_X6_clear M b6 S5 (fun r7 S7 => hT S7 x0 = 10 ∧ ∃ b8 : Nat, hP S7 x0 2 = some b8 ∧ hT S7 b8 = 7 ∧ wp_X6_push M b8 0 1 S7 (fun r9 S9 => ∃ nn : Nat, wl_X9_putInto_85 M K nn x0 x1 x2 x3 x4 0 S9))))))) ∧ (¬ (3 ≤ x5) → hT S x3 = 7 ∧ wp_X6_roomIn M x3 x5 S (fun r10 S10 => ((x4 * r10) ≤ 40 → K10 x0 x1 x2 x3 x4 (x5 + 1) S10) ∧ (¬ ((x4 * r10) ≤ 40) → K none S10)))
def wl_X9_putInto_10 (M : Nat × Nat) (K : Option Nat → HS → Prop) : Nat → Nat → Nat → Int32 → Nat → Int32 → Int32 → HS → Prop
  | 0 => fun _ _ _ _ _ _ _ => False
  | nn + 1 => wb_X9_putInto_10 M (wl_X9_putInto_10 M K nn) K
set_option maxHeartbeats 4000000 in
set_option maxRecDepth 100000 in
theorem l_X9_putInto_10 {G : CG} {S0 : HS} {X : Fx} {K : Option Nat → HS → Prop} (hc : Cx X RX9 cX9_putInto 6) (hr : Cc G S0 4 (some (.object "StraightPolys$Poly")) (kR K) X) : ∀ (nn : Nat) (x0 x1 : Nat) (x2 : Int32) (x3 : Nat) (x4 x5 : Int32) (S : HS), wl_X9_putInto_10 (gC G, gS G) K nn x0 x1 x2 x3 x4 x5 S → MC G S0 X 6 S 10 [(0, .ref x0), (1, .ref x1), (2, .int x2), (3, .ref x3), (4, .int x4), (5, .int x5)] [] := by
  intro nn
  induction nn with
  | zero => intro x0 x1 x2 x3 x4 x5 S hw; exact False.elim hw
  | succ nn ih =>
    intro x0 x1 x2 x3 x4 x5 S hw
    have hw : wb_X9_putInto_10 (gC G, gS G) (wl_X9_putInto_10 (gC G, gS G) K nn) K x0 x1 x2 x3 x4 x5 S := hw
    have h10 := ih
    generalize wl_X9_putInto_10 (gC G, gS G) K nn = K10 at hw h10
    unfold wb_X9_putInto_10 at hw
    refine m_iload hc 5 dX9_putInto_10 rfl ?_
    refine m_iconst hc 3 dX9_putInto_12 (by decide) ?_
    refine m_icmp_ge hc 38 dX9_putInto_13 rfl (fun cq => ?_) (fun cq => ?_)
    · have hw := hw.1 cq
      refine m_aload_n hc 0 dX9_putInto_38 rfl rfl ?_
      obtain ⟨ht, b1, e_b1, hw⟩ := hw
      refine c_getr hc hr ciX9 (Nat.le_of_ble_eq_true rfl) 4 (Nat.le_of_ble_eq_true rfl) rfl dX9_putInto_39 lf_X9_34 ht e_b1 ?_
      refine m_aload_n hc 1 dX9_putInto_42 rfl rfl ?_
      refine m_iload_n hc 2 dX9_putInto_43 rfl rfl ?_
      refine m_aload_n hc 3 dX9_putInto_44 rfl rfl ?_
      refine m_iconst hc 0 dX9_putInto_45 (by decide) ?_
      refine c_callSi hc hr mt_X9_putRoom lm_X9_135 (ok_X9_putRoom hw) (Nat.le_of_ble_eq_true rfl) dX9_putInto_46 rfl (rest := [.ref b1]) rfl (Nat.le_of_ble_eq_true rfl) (fun r2 S2 hw => ?_)
      refine m_aload_n hc 1 dX9_putInto_49 rfl rfl ?_
      refine m_iload_n hc 2 dX9_putInto_50 rfl rfl ?_
      refine m_aload_n hc 3 dX9_putInto_51 rfl rfl ?_
      refine m_iconst hc 1 dX9_putInto_52 (by decide) ?_
      refine c_callSi hc hr mt_X9_putRoom lm_X9_135 (ok_X9_putRoom hw) (Nat.le_of_ble_eq_true rfl) dX9_putInto_53 rfl (rest := [.int r2, .ref b1]) rfl (Nat.le_of_ble_eq_true rfl) (fun r3 S3 hw => ?_)
      refine m_aload_n hc 1 dX9_putInto_56 rfl rfl ?_
      refine m_iload_n hc 2 dX9_putInto_57 rfl rfl ?_
      refine m_aload_n hc 3 dX9_putInto_58 rfl rfl ?_
      refine m_iconst hc 2 dX9_putInto_59 (by decide) ?_
      refine c_callSi hc hr mt_X9_putRoom lm_X9_135 (ok_X9_putRoom hw) (Nat.le_of_ble_eq_true rfl) dX9_putInto_60 rfl (rest := [.int r3, .int r2, .ref b1]) rfl (Nat.le_of_ble_eq_true rfl) (fun r4 S4 hw => ?_)
      obtain ⟨ht, hw⟩ := hw
      refine c_callVv hc hr ciX1 (Nat.le_of_ble_eq_true rfl) ht mt_X1_open rfl lm_X9_85 (ok_X1_open hw) (Nat.le_of_ble_eq_true rfl) dX9_putInto_63 rfl (rest := []) rfl (Nat.le_of_ble_eq_true rfl) (fun S5 hw => ?_)
      refine m_aload_n hc 0 dX9_putInto_66 rfl rfl ?_
      obtain ⟨ht, b6, e_b6, hw⟩ := hw
      refine c_getr hc hr ciX9 (Nat.le_of_ble_eq_true rfl) 2 (Nat.le_of_ble_eq_true rfl) rfl dX9_putInto_67 lf_X9_24 ht e_b6 ?_
      obtain ⟨ht, hw⟩ := hw
      refine c_callVv hc hr ciX6 (Nat.le_of_ble_eq_true rfl) ht mt_X6_clear rfl lm_X9_57 (ok_X6_clear hw) (Nat.le_of_ble_eq_true rfl) dX9_putInto_70 rfl (rest := []) rfl (Nat.le_of_ble_eq_true rfl) (fun S7 hw => ?_)
      refine m_aload_n hc 0 dX9_putInto_73 rfl rfl ?_
      obtain ⟨ht, b8, e_b8, hw⟩ := hw
      refine c_getr hc hr ciX9 (Nat.le_of_ble_eq_true rfl) 2 (Nat.le_of_ble_eq_true rfl) rfl dX9_putInto_74 lf_X9_24 ht e_b8 ?_
      refine m_iconst hc 0 dX9_putInto_77 (by decide) ?_
      refine m_iconst hc 1 dX9_putInto_78 (by decide) ?_
      obtain ⟨ht, hw⟩ := hw
      refine c_callVv hc hr ciX6 (Nat.le_of_ble_eq_true rfl) ht mt_X6_push rfl lm_X9_69 (ok_X6_push hw) (Nat.le_of_ble_eq_true rfl) dX9_putInto_79 rfl (rest := []) rfl (Nat.le_of_ble_eq_true rfl) (fun S9 hw => ?_)
      refine m_iconst hc 0 dX9_putInto_82 (by decide) ?_
      refine m_istore hc [(5, .int 0), (0, .ref x0), (1, .ref x1), (2, .int x2), (3, .ref x3), (4, .int x4)] dX9_putInto_83 (Nat.le_of_ble_eq_true rfl) rfl ?_
      refine m_sub [1, 2, 3, 4, 5, 0] rfl ?_
      obtain ⟨nn, hw⟩ := hw
      exact l_X9_putInto_85 hc hr nn x0 x1 x2 x3 x4 0 S9 hw
    · have hw := hw.2 cq
      refine m_iload hc 4 dX9_putInto_16 rfl ?_
      refine m_aload_n hc 3 dX9_putInto_18 rfl rfl ?_
      refine m_iload hc 5 dX9_putInto_19 rfl ?_
      obtain ⟨ht, hw⟩ := hw
      refine c_callVi hc hr ciX6 (Nat.le_of_ble_eq_true rfl) ht mt_X6_roomIn rfl lm_X9_121 (ok_X6_roomIn hw) (Nat.le_of_ble_eq_true rfl) dX9_putInto_21 rfl (rest := [.int x4]) rfl (Nat.le_of_ble_eq_true rfl) (fun r10 S10 hw => ?_)
      refine m_imul hc dX9_putInto_24 ?_
      refine m_bipush hc 40 dX9_putInto_25 (by decide) ?_
      refine m_icmp_le hc 32 dX9_putInto_27 rfl (fun cq => ?_) (fun cq => ?_)
      · have hw := hw.1 cq
        refine m_iinc hc 5 (x5 + 1) [(5, .int (x5 + 1)), (0, .ref x0), (1, .ref x1), (2, .int x2), (3, .ref x3), (4, .int x4)] dX9_putInto_32 rfl rfl (Nat.le_of_ble_eq_true rfl) rfl ?_
        refine m_goto hc 10 dX9_putInto_35 rfl ?_
        refine m_sub [1, 2, 3, 4, 5, 0] rfl ?_
        exact h10 x0 x1 x2 x3 x4 (x5 + 1) S10 hw
      · have hw := hw.2 cq
        refine m_null hc dX9_putInto_30 ?_
        exact c_aret hc hr (r := none) dX9_putInto_31 hw
def wp_X9_putInto (M : Nat × Nat) (x0 x1 : Nat) (x2 : Int32) (x3 : Nat) (S : HS) (K : Option Nat → HS → Prop) : Prop := hT S x1 = 7 ∧ wp_X6_roomIn M x1 x2 S (fun r1 S1 => ∃ nn : Nat, wl_X9_putInto_10 M K nn x0 x1 x2 x3 r1 0 S1)
set_option maxHeartbeats 4000000 in
set_option maxRecDepth 100000 in
theorem ok_X9_putInto {G : CG} {x0 : Nat} {x1 : Nat} {x2 : Int32} {x3 : Nat} {S : HS} {K : Option Nat → HS → Prop} (hw : wp_X9_putInto (gC G, gS G) x0 x1 x2 x3 S K) : CC 4 yX9_putInto cX9_putInto 6 (some (.object "StraightPolys$Poly")) [.ref x0, .ref x1, .int x2, .ref x3] G S (kR K) := by
  refine CC.of (by decide +kernel) (Nat.le_of_ble_eq_true rfl) (fun X hc hr hname => ?_)
  show MC G S X 6 S 0 [(0, .ref x0), (1, .ref x1), (2, .int x2), (3, .ref x3)] []
  unfold wp_X9_putInto at hw
  refine m_aload_n hc 1 dX9_putInto_0 rfl rfl ?_
  refine m_iload_n hc 2 dX9_putInto_1 rfl rfl ?_
  obtain ⟨ht, hw⟩ := hw
  refine c_callVi hc hr ciX6 (Nat.le_of_ble_eq_true rfl) ht mt_X6_roomIn rfl lm_X9_121 (ok_X6_roomIn hw) (Nat.le_of_ble_eq_true rfl) dX9_putInto_2 rfl (rest := []) rfl (Nat.le_of_ble_eq_true rfl) (fun r1 S1 hw => ?_)
  refine m_istore hc [(4, .int r1), (0, .ref x0), (1, .ref x1), (2, .int x2), (3, .ref x3)] dX9_putInto_5 (Nat.le_of_ble_eq_true rfl) rfl ?_
  refine m_iconst hc 0 dX9_putInto_7 (by decide) ?_
  refine m_istore hc [(5, .int 0), (4, .int r1), (0, .ref x0), (1, .ref x1), (2, .int x2), (3, .ref x3)] dX9_putInto_8 (Nat.le_of_ble_eq_true rfl) rfl ?_
  refine m_sub [2, 3, 4, 5, 1, 0] rfl ?_
  obtain ⟨nn, hw⟩ := hw
  exact l_X9_putInto_10 hc hr nn x0 x1 x2 x3 r1 0 S1 hw
def wb_X9_inverse_2 (M : Nat × Nat) (K2 : Nat → Int32 → Int32 → HS → Prop) (K : Int32 → HS → Prop) (x0 : Nat) (x1 x2 : Int32) (S : HS) : Prop := hT S x0 = 10 ∧ ((hI S x0 0) ≤ x2 → K 0 S) ∧ (¬ ((hI S x0 0) ≤ x2) → hT S x0 = 10 ∧ ¬ (hI S x0 0) = 0 ∧ ((¬ (iRem (x1 * x2) (hI S x0 0)) = 1 → K2 x0 x1 (x2 + 1) S) ∧ ((iRem (x1 * x2) (hI S x0 0)) = 1 → K x2 S)))
def wl_X9_inverse_2 (M : Nat × Nat) (K : Int32 → HS → Prop) : Nat → Nat → Int32 → Int32 → HS → Prop
  | 0 => fun _ _ _ _ => False
  | nn + 1 => wb_X9_inverse_2 M (wl_X9_inverse_2 M K nn) K
set_option maxHeartbeats 4000000 in
set_option maxRecDepth 100000 in
theorem l_X9_inverse_2 {G : CG} {S0 : HS} {X : Fx} {K : Int32 → HS → Prop} (hc : Cx X RX9 cX9_inverse 3) (hr : Cc G S0 0 (some .int) (kI K) X) : ∀ (nn : Nat) (x0 : Nat) (x1 x2 : Int32) (S : HS), wl_X9_inverse_2 (gC G, gS G) K nn x0 x1 x2 S → MC G S0 X 3 S 2 [(0, .ref x0), (1, .int x1), (2, .int x2)] [] := by
  intro nn
  induction nn with
  | zero => intro x0 x1 x2 S hw; exact False.elim hw
  | succ nn ih =>
    intro x0 x1 x2 S hw
    have hw : wb_X9_inverse_2 (gC G, gS G) (wl_X9_inverse_2 (gC G, gS G) K nn) K x0 x1 x2 S := hw
    have h2 := ih
    generalize wl_X9_inverse_2 (gC G, gS G) K nn = K2 at hw h2
    unfold wb_X9_inverse_2 at hw
    refine m_iload_n hc 2 dX9_inverse_2 rfl rfl ?_
    refine m_aload_n hc 0 dX9_inverse_3 rfl rfl ?_
    obtain ⟨ht, hw⟩ := hw
    refine c_geti hc hr ciX9 (Nat.le_of_ble_eq_true rfl) 0 (Nat.le_of_ble_eq_true rfl) rfl dX9_inverse_4 lf_X9_9 ht ?_
    refine m_icmp_ge hc 30 dX9_inverse_7 rfl (fun cq => ?_) (fun cq => ?_)
    · have hw := hw.1 cq
      refine m_iconst hc 0 dX9_inverse_30 (by decide) ?_
      exact c_iret hc hr dX9_inverse_31 hw
    · have hw := hw.2 cq
      refine m_iload_n hc 1 dX9_inverse_10 rfl rfl ?_
      refine m_iload_n hc 2 dX9_inverse_11 rfl rfl ?_
      refine m_imul hc dX9_inverse_12 ?_
      refine m_aload_n hc 0 dX9_inverse_13 rfl rfl ?_
      obtain ⟨ht, hw⟩ := hw
      refine c_geti hc hr ciX9 (Nat.le_of_ble_eq_true rfl) 0 (Nat.le_of_ble_eq_true rfl) rfl dX9_inverse_14 lf_X9_9 ht ?_
      obtain ⟨hq, hw⟩ := hw
      refine m_irem hc dX9_inverse_17 hq ?_
      refine m_iconst hc 1 dX9_inverse_18 (by decide) ?_
      refine m_icmp_ne hc 24 dX9_inverse_19 rfl (fun cq => ?_) (fun cq => ?_)
      · have hw := hw.1 cq
        refine m_iinc hc 2 (x2 + 1) [(2, .int (x2 + 1)), (0, .ref x0), (1, .int x1)] dX9_inverse_24 rfl rfl (Nat.le_of_ble_eq_true rfl) rfl ?_
        refine m_goto hc 2 dX9_inverse_27 rfl ?_
        refine m_sub [1, 2, 0] rfl ?_
        exact h2 x0 x1 (x2 + 1) S hw
      · have hw := hw.2 cq
        refine m_iload_n hc 2 dX9_inverse_22 rfl rfl ?_
        exact c_iret hc hr dX9_inverse_23 hw
def wp_X9_inverse (M : Nat × Nat) (x0 : Nat) (x1 : Int32) (S : HS) (K : Int32 → HS → Prop) : Prop := ∃ nn : Nat, wl_X9_inverse_2 M K nn x0 x1 1 S
set_option maxHeartbeats 4000000 in
set_option maxRecDepth 100000 in
theorem ok_X9_inverse {G : CG} {x0 : Nat} {x1 : Int32} {S : HS} {K : Int32 → HS → Prop} (hw : wp_X9_inverse (gC G, gS G) x0 x1 S K) : CC 0 yX9_inverse cX9_inverse 3 (some .int) [.ref x0, .int x1] G S (kI K) := by
  refine CC.of (by decide +kernel) (Nat.le_of_ble_eq_true rfl) (fun X hc hr hname => ?_)
  show MC G S X 3 S 0 [(0, .ref x0), (1, .int x1)] []
  unfold wp_X9_inverse at hw
  refine m_iconst hc 1 dX9_inverse_0 (by decide) ?_
  refine m_istore_n hc [(2, .int 1), (0, .ref x0), (1, .int x1)] dX9_inverse_1 rfl (Nat.le_of_ble_eq_true rfl) rfl ?_
  refine m_sub [1, 2, 0] rfl ?_
  obtain ⟨nn, hw⟩ := hw
  exact l_X9_inverse_2 hc hr nn x0 x1 1 S hw
def wb_X9_layOut_7 (M : Nat × Nat) (K7 : Nat → Nat → Int32 → HS → Prop) (K : Int32 → HS → Prop) (x0 x1 : Nat) (x2 : Int32) (S : HS) : Prop := hT S x0 = 7 ∧ ((hI S x0 2) ≤ x2 → hT S x0 = 7 ∧ wp_X6_degreeIn M x0 0 S (fun r1 S1 => K r1 S1)) ∧ (¬ ((hI S x0 2) ≤ x2) → hT S x0 = 7 ∧ ∃ b2 : Nat, hP S x0 0 = some b2 ∧ hT S b2 = 21 ∧ vp_in x2 (hN S b2) ∧ wp_X6_exponent M (hI S b2 (Int32.toNatClampNeg x2)) 0 S (fun r3 S3 => hT S3 x0 = 7 ∧ ∃ b4 : Nat, hP S3 x0 1 = some b4 ∧ hT S3 b4 = 21 ∧ vp_in x2 (hN S3 b4) ∧ hT S3 x1 = 21 ∧ vp_in r3 (hN S3 x1) ∧ K7 x0 x1 (x2 + 1) (sI S3 x1 (Int32.toNatClampNeg r3) (hI S3 b4 (Int32.toNatClampNeg x2)))))
def wl_X9_layOut_7 (M : Nat × Nat) (K : Int32 → HS → Prop) : Nat → Nat → Nat → Int32 → HS → Prop
  | 0 => fun _ _ _ _ => False
  | nn + 1 => wb_X9_layOut_7 M (wl_X9_layOut_7 M K nn) K
set_option maxHeartbeats 4000000 in
set_option maxRecDepth 100000 in
theorem l_X9_layOut_7 {G : CG} {S0 : HS} {X : Fx} {K : Int32 → HS → Prop} (hc : Cx X RX9 cX9_layOut 3) (hr : Cc G S0 2 (some .int) (kI K) X) : ∀ (nn : Nat) (x0 x1 : Nat) (x2 : Int32) (S : HS), wl_X9_layOut_7 (gC G, gS G) K nn x0 x1 x2 S → MC G S0 X 3 S 7 [(0, .ref x0), (1, .ref x1), (2, .int x2)] [] := by
  intro nn
  induction nn with
  | zero => intro x0 x1 x2 S hw; exact False.elim hw
  | succ nn ih =>
    intro x0 x1 x2 S hw
    have hw : wb_X9_layOut_7 (gC G, gS G) (wl_X9_layOut_7 (gC G, gS G) K nn) K x0 x1 x2 S := hw
    have h7 := ih
    generalize wl_X9_layOut_7 (gC G, gS G) K nn = K7 at hw h7
    unfold wb_X9_layOut_7 at hw
    refine m_iload_n hc 2 dX9_layOut_7 rfl rfl ?_
    refine m_aload_n hc 0 dX9_layOut_8 rfl rfl ?_
    obtain ⟨ht, hw⟩ := hw
    refine c_geti hc hr ciX6 (Nat.le_of_ble_eq_true rfl) 2 (Nat.le_of_ble_eq_true rfl) rfl dX9_layOut_9 lf_X9_60 ht ?_
    refine m_icmp_ge hc 39 dX9_layOut_12 rfl (fun cq => ?_) (fun cq => ?_)
    · have hw := hw.1 cq
      refine m_aload_n hc 0 dX9_layOut_39 rfl rfl ?_
      refine m_iconst hc 0 dX9_layOut_40 (by decide) ?_
      obtain ⟨ht, hw⟩ := hw
      refine c_callVi hc hr ciX6 (Nat.le_of_ble_eq_true rfl) ht mt_X6_degreeIn rfl lm_X9_81 (ok_X6_degreeIn hw) (Nat.le_of_ble_eq_true rfl) dX9_layOut_41 rfl (rest := []) rfl (Nat.le_of_ble_eq_true rfl) (fun r1 S1 hw => ?_)
      exact c_iret hc hr dX9_layOut_44 hw
    · have hw := hw.2 cq
      refine m_aload_n hc 1 dX9_layOut_15 rfl rfl ?_
      refine m_aload_n hc 0 dX9_layOut_16 rfl rfl ?_
      obtain ⟨ht, b2, e_b2, hw⟩ := hw
      refine c_getr hc hr ciX6 (Nat.le_of_ble_eq_true rfl) 0 (Nat.le_of_ble_eq_true rfl) rfl dX9_layOut_17 lf_X9_63 ht e_b2 ?_
      refine m_iload_n hc 2 dX9_layOut_20 rfl rfl ?_
      obtain ⟨ht, hi, hw⟩ := hw
      refine c_iald hc hr ht hi dX9_layOut_21 ?_
      refine m_iconst hc 0 dX9_layOut_22 (by decide) ?_
      refine c_callSi hc hr mt_X6_exponent lm_X9_111 (ok_X6_exponent hw) (Nat.le_of_ble_eq_true rfl) dX9_layOut_23 rfl (rest := [.ref x1]) rfl (Nat.le_of_ble_eq_true rfl) (fun r3 S3 hw => ?_)
      refine m_aload_n hc 0 dX9_layOut_26 rfl rfl ?_
      obtain ⟨ht, b4, e_b4, hw⟩ := hw
      refine c_getr hc hr ciX6 (Nat.le_of_ble_eq_true rfl) 1 (Nat.le_of_ble_eq_true rfl) rfl dX9_layOut_27 lf_X9_66 ht e_b4 ?_
      refine m_iload_n hc 2 dX9_layOut_30 rfl rfl ?_
      obtain ⟨ht, hi, hw⟩ := hw
      refine c_iald hc hr ht hi dX9_layOut_31 ?_
      obtain ⟨ht, hi, hw⟩ := hw
      refine c_iast hc hr ht hi dX9_layOut_32 ?_
      refine m_iinc hc 2 (x2 + 1) [(2, .int (x2 + 1)), (0, .ref x0), (1, .ref x1)] dX9_layOut_33 rfl rfl (Nat.le_of_ble_eq_true rfl) rfl ?_
      refine m_goto hc 7 dX9_layOut_36 rfl ?_
      refine m_sub [1, 2, 0] rfl ?_
      exact h7 x0 x1 (x2 + 1) (sI S3 x1 (Int32.toNatClampNeg r3) (hI S3 b4 (Int32.toNatClampNeg x2))) hw
def wp_X9_layOut (M : Nat × Nat) (x0 x1 : Nat) (S : HS) (K : Int32 → HS → Prop) : Prop := wp_J7_fill_53178 M x1 0 S (fun r1 S1 => ∃ nn : Nat, wl_X9_layOut_7 M K nn x0 x1 0 S1)
set_option maxHeartbeats 4000000 in
set_option maxRecDepth 100000 in
theorem ok_X9_layOut {G : CG} {x0 : Nat} {x1 : Nat} {S : HS} {K : Int32 → HS → Prop} (hw : wp_X9_layOut (gC G, gS G) x0 x1 S K) : CC 2 yX9_layOut cX9_layOut 3 (some .int) [.ref x0, .ref x1] G S (kI K) := by
  refine CC.of (by decide +kernel) (Nat.le_of_ble_eq_true rfl) (fun X hc hr hname => ?_)
  show MC G S X 3 S 0 [(0, .ref x0), (1, .ref x1)] []
  unfold wp_X9_layOut at hw
  refine m_aload_n hc 1 dX9_layOut_0 rfl rfl ?_
  refine m_iconst hc 0 dX9_layOut_1 (by decide) ?_
  refine c_callSv hc hr mt_J7_fill_53178 lm_X9_161 (ok_J7_fill_53178 hw) (Nat.le_of_ble_eq_true rfl) dX9_layOut_2 rfl (rest := []) rfl (Nat.le_of_ble_eq_true rfl) (fun S1 hw => ?_)
  refine m_iconst hc 0 dX9_layOut_5 (by decide) ?_
  refine m_istore_n hc [(2, .int 0), (0, .ref x0), (1, .ref x1)] dX9_layOut_6 rfl (Nat.le_of_ble_eq_true rfl) rfl ?_
  refine m_sub [1, 2, 0] rfl ?_
  obtain ⟨nn, hw⟩ := hw
  exact l_X9_layOut_7 hc hr nn x0 x1 0 S1 hw
def wb_X9_takeRemainder_102 (M : Nat × Nat) (K102 : Nat → Int32 → HS → Prop) (K : Int32 → HS → Prop) (x1 : Nat) (x6 : Int32) (S : HS) : Prop := (x6 < 0 → K x6 S) ∧ (¬ (x6 < 0) → hT S x1 = 21 ∧ vp_in x6 (hN S x1) ∧ (¬ (hI S x1 (Int32.toNatClampNeg x6)) = 0 → K x6 S) ∧ ((hI S x1 (Int32.toNatClampNeg x6)) = 0 → K102 x1 (x6 + (-1)) S))
def wl_X9_takeRemainder_102 (M : Nat × Nat) (K : Int32 → HS → Prop) : Nat → Nat → Int32 → HS → Prop
  | 0 => fun _ _ _ => False
  | nn + 1 => wb_X9_takeRemainder_102 M (wl_X9_takeRemainder_102 M K nn) K
set_option maxHeartbeats 4000000 in
set_option maxRecDepth 100000 in
theorem l_X9_takeRemainder_102 {G : CG} {S0 : HS} {X : Fx} {K : Int32 → HS → Prop} (hc : Cx X RX9 cX9_takeRemainder 10) (hr : Cc G S0 1 (some .int) (kI K) X) : ∀ (nn : Nat) (x1 : Nat) (x6 : Int32) (S : HS), wl_X9_takeRemainder_102 (gC G, gS G) K nn x1 x6 S → MC G S0 X 10 S 102 [(1, .ref x1), (6, .int x6)] [] := by
  intro nn
  induction nn with
  | zero => intro x1 x6 S hw; exact False.elim hw
  | succ nn ih =>
    intro x1 x6 S hw
    have hw : wb_X9_takeRemainder_102 (gC G, gS G) (wl_X9_takeRemainder_102 (gC G, gS G) K nn) K x1 x6 S := hw
    have h102 := ih
    generalize wl_X9_takeRemainder_102 (gC G, gS G) K nn = K102 at hw h102
    unfold wb_X9_takeRemainder_102 at hw
    refine m_iload hc 1 dX9_takeRemainder_102 rfl ?_
    refine m_if_lt hc 120 dX9_takeRemainder_104 rfl (fun cq => ?_) (fun cq => ?_)
    · have hw := hw.1 cq
      refine m_iload hc 1 dX9_takeRemainder_120 rfl ?_
      exact c_iret hc hr dX9_takeRemainder_122 hw
    · have hw := hw.2 cq
      refine m_aload_n hc 0 dX9_takeRemainder_107 rfl rfl ?_
      refine m_iload hc 1 dX9_takeRemainder_108 rfl ?_
      obtain ⟨ht, hi, hw⟩ := hw
      refine c_iald hc hr ht hi dX9_takeRemainder_110 ?_
      refine m_if_ne hc 120 dX9_takeRemainder_111 rfl (fun cq => ?_) (fun cq => ?_)
      · have hw := hw.1 cq
        refine m_iload hc 1 dX9_takeRemainder_120 rfl ?_
        exact c_iret hc hr dX9_takeRemainder_122 hw
      · have hw := hw.2 cq
        refine m_iinc hc 1 (x6 + (-1)) [(6, .int (x6 + (-1))), (1, .ref x1)] dX9_takeRemainder_114 rfl rfl (Nat.le_of_ble_eq_true rfl) rfl ?_
        refine m_goto hc 102 dX9_takeRemainder_117 rfl ?_
        refine m_sub [1, 0] rfl ?_
        exact h102 x1 (x6 + (-1)) S hw
def wb_X9_takeRemainder_42 (M : Nat × Nat) (K13 : Nat → Nat → Int32 → Nat → Int32 → Int32 → Int32 → HS → Prop) (K42 : Nat → Nat → Int32 → Nat → Int32 → Int32 → Int32 → Int32 → Int32 → HS → Prop) (K : Int32 → HS → Prop) (x0 x1 : Nat) (x2 : Int32) (x3 : Nat) (x4 x5 x6 x7 x8 : Int32) (S : HS) : Prop := (x4 < x8 → K13 x0 x1 x2 x3 x4 x5 (x6 + (-1)) S) ∧ (¬ (x4 < x8) → hT S x1 = 21 ∧ vp_in ((x6 - x4) + x8) (hN S x1) ∧ hT S x3 = 21 ∧ vp_in x8 (hN S x3) ∧ hT S x0 = 10 ∧ ¬ (hI S x0 0) = 0 ∧ (hT S x1 = 21 ∧ vp_in ((x6 - x4) + x8) (hN S x1) ∧ K42 x0 x1 x2 x3 x4 x5 x6 x7 (x8 + 1) (sI S x1 (Int32.toNatClampNeg ((x6 - x4) + x8)) (iRem ((hI S x1 (Int32.toNatClampNeg ((x6 - x4) + x8))) + (x7 * (hI S x3 (Int32.toNatClampNeg x8)))) (hI S x0 0)))))
def wl_X9_takeRemainder_42 (M : Nat × Nat) (K13 : Nat → Nat → Int32 → Nat → Int32 → Int32 → Int32 → HS → Prop) (K : Int32 → HS → Prop) : Nat → Nat → Nat → Int32 → Nat → Int32 → Int32 → Int32 → Int32 → Int32 → HS → Prop
  | 0 => fun _ _ _ _ _ _ _ _ _ _ => False
  | nn + 1 => wb_X9_takeRemainder_42 M K13 (wl_X9_takeRemainder_42 M K13 K nn) K
set_option maxHeartbeats 4000000 in
set_option maxRecDepth 100000 in
theorem l_X9_takeRemainder_42 {G : CG} {S0 : HS} {X : Fx} {K : Int32 → HS → Prop} (hc : Cx X RX9 cX9_takeRemainder 10) (hr : Cc G S0 1 (some .int) (kI K) X) (K13 : Nat → Nat → Int32 → Nat → Int32 → Int32 → Int32 → HS → Prop) (h13 : ∀ (x0 x1 : Nat) (x2 : Int32) (x3 : Nat) (x4 x5 x6 : Int32) (S : HS), K13 x0 x1 x2 x3 x4 x5 x6 S → MC G S0 X 10 S 13 [(0, .ref x0), (1, .ref x1), (2, .int x2), (3, .ref x3), (4, .int x4), (5, .int x5), (6, .int x6)] []) : ∀ (nn : Nat) (x0 x1 : Nat) (x2 : Int32) (x3 : Nat) (x4 x5 x6 x7 x8 : Int32) (S : HS), wl_X9_takeRemainder_42 (gC G, gS G) K13 K nn x0 x1 x2 x3 x4 x5 x6 x7 x8 S → MC G S0 X 10 S 42 [(0, .ref x0), (1, .ref x1), (2, .int x2), (3, .ref x3), (4, .int x4), (5, .int x5), (6, .int x6), (7, .int x7), (8, .int x8)] [] := by
  intro nn
  induction nn with
  | zero => intro x0 x1 x2 x3 x4 x5 x6 x7 x8 S hw; exact False.elim hw
  | succ nn ih =>
    intro x0 x1 x2 x3 x4 x5 x6 x7 x8 S hw
    have hw : wb_X9_takeRemainder_42 (gC G, gS G) K13 (wl_X9_takeRemainder_42 (gC G, gS G) K13 K nn) K x0 x1 x2 x3 x4 x5 x6 x7 x8 S := hw
    have h42 := ih
    generalize wl_X9_takeRemainder_42 (gC G, gS G) K13 K nn = K42 at hw h42
    unfold wb_X9_takeRemainder_42 at hw
    refine m_iload hc 8 dX9_takeRemainder_42 rfl ?_
    refine m_iload hc 4 dX9_takeRemainder_44 rfl ?_
    refine m_icmp_gt hc 86 dX9_takeRemainder_46 rfl (fun cq => ?_) (fun cq => ?_)
    · have hw := hw.1 cq
      refine m_iinc hc 6 (x6 + (-1)) [(6, .int (x6 + (-1))), (0, .ref x0), (1, .ref x1), (2, .int x2), (3, .ref x3), (4, .int x4), (5, .int x5), (7, .int x7), (8, .int x8)] dX9_takeRemainder_86 rfl rfl (Nat.le_of_ble_eq_true rfl) rfl ?_
      refine m_goto hc 13 dX9_takeRemainder_89 rfl ?_
      refine m_sub [1, 2, 3, 4, 5, 6, 0] rfl ?_
      exact h13 x0 x1 x2 x3 x4 x5 (x6 + (-1)) S hw
    · have hw := hw.2 cq
      refine m_iload hc 6 dX9_takeRemainder_49 rfl ?_
      refine m_iload hc 4 dX9_takeRemainder_51 rfl ?_
      refine m_isub hc dX9_takeRemainder_53 ?_
      refine m_iload hc 8 dX9_takeRemainder_54 rfl ?_
      refine m_iadd hc dX9_takeRemainder_56 ?_
      refine m_istore hc [(9, .int ((x6 - x4) + x8)), (0, .ref x0), (1, .ref x1), (2, .int x2), (3, .ref x3), (4, .int x4), (5, .int x5), (6, .int x6), (7, .int x7), (8, .int x8)] dX9_takeRemainder_57 (Nat.le_of_ble_eq_true rfl) rfl ?_
      refine m_aload_n hc 2 dX9_takeRemainder_59 rfl rfl ?_
      refine m_iload hc 0 dX9_takeRemainder_60 rfl ?_
      refine m_aload_n hc 2 dX9_takeRemainder_62 rfl rfl ?_
      refine m_iload hc 0 dX9_takeRemainder_63 rfl ?_
      obtain ⟨ht, hi, hw⟩ := hw
      refine c_iald hc hr ht hi dX9_takeRemainder_65 ?_
      refine m_iload hc 8 dX9_takeRemainder_66 rfl ?_
      refine m_aload_n hc 4 dX9_takeRemainder_68 rfl rfl ?_
      refine m_iload hc 9 dX9_takeRemainder_69 rfl ?_
      obtain ⟨ht, hi, hw⟩ := hw
      refine c_iald hc hr ht hi dX9_takeRemainder_71 ?_
      refine m_imul hc dX9_takeRemainder_72 ?_
      refine m_iadd hc dX9_takeRemainder_73 ?_
      refine m_aload_n hc 1 dX9_takeRemainder_74 rfl rfl ?_
      obtain ⟨ht, hw⟩ := hw
      refine c_geti hc hr ciX9 (Nat.le_of_ble_eq_true rfl) 0 (Nat.le_of_ble_eq_true rfl) rfl dX9_takeRemainder_75 lf_X9_9 ht ?_
      obtain ⟨hq, hw⟩ := hw
      refine m_irem hc dX9_takeRemainder_78 hq ?_
      obtain ⟨ht, hi, hw⟩ := hw
      refine c_iast hc hr ht hi dX9_takeRemainder_79 ?_
      refine m_iinc hc 9 (x8 + 1) [(8, .int (x8 + 1)), (9, .int ((x6 - x4) + x8)), (0, .ref x0), (1, .ref x1), (2, .int x2), (3, .ref x3), (4, .int x4), (5, .int x5), (6, .int x6), (7, .int x7)] dX9_takeRemainder_80 rfl rfl (Nat.le_of_ble_eq_true rfl) rfl ?_
      refine m_goto hc 42 dX9_takeRemainder_83 rfl ?_
      refine m_sub [2, 3, 4, 5, 6, 7, 8, 9, 0] rfl ?_
      exact h42 x0 x1 x2 x3 x4 x5 x6 x7 (x8 + 1) (sI S x1 (Int32.toNatClampNeg ((x6 - x4) + x8)) (iRem ((hI S x1 (Int32.toNatClampNeg ((x6 - x4) + x8))) + (x7 * (hI S x3 (Int32.toNatClampNeg x8)))) (hI S x0 0))) hw
def wb_X9_takeRemainder_13 (M : Nat × Nat) (K13 : Nat → Nat → Int32 → Nat → Int32 → Int32 → Int32 → HS → Prop) (K : Int32 → HS → Prop) (x0 x1 : Nat) (x2 : Int32) (x3 : Nat) (x4 x5 x6 : Int32) (S : HS) : Prop := (x6 < x4 → ∀ v1 : Int32, v1 = (if x4 - 1 < x2 then x4 - 1 else x2) → ∃ nn : Nat, wl_X9_takeRemainder_102 M K nn x1 v1 S) ∧ (¬ (x6 < x4) → hT S x0 = 10 ∧ hT S x1 = 21 ∧ vp_in x6 (hN S x1) ∧ hT S x0 = 10 ∧ ¬ (hI S x0 0) = 0 ∧ (∀ v2 : Int32, v2 = ((hI S x0 0) - (iRem ((hI S x1 (Int32.toNatClampNeg x6)) * x5) (hI S x0 0))) → ∃ nn : Nat, wl_X9_takeRemainder_42 M K13 K nn x0 x1 x2 x3 x4 x5 x6 v2 0 S))
def wl_X9_takeRemainder_13 (M : Nat × Nat) (K : Int32 → HS → Prop) : Nat → Nat → Nat → Int32 → Nat → Int32 → Int32 → Int32 → HS → Prop
  | 0 => fun _ _ _ _ _ _ _ _ => False
  | nn + 1 => wb_X9_takeRemainder_13 M (wl_X9_takeRemainder_13 M K nn) K
set_option maxHeartbeats 4000000 in
set_option maxRecDepth 100000 in
theorem l_X9_takeRemainder_13 {G : CG} {S0 : HS} {X : Fx} {K : Int32 → HS → Prop} (hc : Cx X RX9 cX9_takeRemainder 10) (hr : Cc G S0 1 (some .int) (kI K) X) : ∀ (nn : Nat) (x0 x1 : Nat) (x2 : Int32) (x3 : Nat) (x4 x5 x6 : Int32) (S : HS), wl_X9_takeRemainder_13 (gC G, gS G) K nn x0 x1 x2 x3 x4 x5 x6 S → MC G S0 X 10 S 13 [(0, .ref x0), (1, .ref x1), (2, .int x2), (3, .ref x3), (4, .int x4), (5, .int x5), (6, .int x6)] [] := by
  intro nn
  induction nn with
  | zero => intro x0 x1 x2 x3 x4 x5 x6 S hw; exact False.elim hw
  | succ nn ih =>
    intro x0 x1 x2 x3 x4 x5 x6 S hw
    have hw : wb_X9_takeRemainder_13 (gC G, gS G) (wl_X9_takeRemainder_13 (gC G, gS G) K nn) K x0 x1 x2 x3 x4 x5 x6 S := hw
    have h13 := ih
    generalize wl_X9_takeRemainder_13 (gC G, gS G) K nn = K13 at hw h13
    unfold wb_X9_takeRemainder_13 at hw
    refine m_iload hc 6 dX9_takeRemainder_13 rfl ?_
    refine m_iload hc 4 dX9_takeRemainder_15 rfl ?_
    refine m_icmp_lt hc 92 dX9_takeRemainder_17 rfl (fun cq => ?_) (fun cq => ?_)
    · have hw := hw.1 cq
      refine m_iload_n hc 2 dX9_takeRemainder_92 rfl rfl ?_
      refine m_iload hc 4 dX9_takeRemainder_93 rfl ?_
      refine m_iconst hc 1 dX9_takeRemainder_95 (by decide) ?_
      refine m_isub hc dX9_takeRemainder_96 ?_
      refine c_bnd (fun g1 g2 => ?_)
      refine m_mmin hc dX9_takeRemainder_97 lm_X9_124 lM_min (c_room hr g1 g2) (Nat.le_of_ble_eq_true rfl) ?_
      refine m_topi (fun v1 e_v1 => ?_)
      have hw := hw v1 e_v1
      refine m_istore hc [(6, .int v1), (0, .ref x0), (1, .ref x1), (2, .int x2), (3, .ref x3), (4, .int x4), (5, .int x5)] dX9_takeRemainder_100 (Nat.le_of_ble_eq_true rfl) rfl ?_
      refine m_sub [2, 0] rfl ?_
      obtain ⟨nn, hw⟩ := hw
      exact l_X9_takeRemainder_102 hc hr nn x1 v1 S hw
    · have hw := hw.2 cq
      refine m_aload_n hc 0 dX9_takeRemainder_20 rfl rfl ?_
      obtain ⟨ht, hw⟩ := hw
      refine c_geti hc hr ciX9 (Nat.le_of_ble_eq_true rfl) 0 (Nat.le_of_ble_eq_true rfl) rfl dX9_takeRemainder_21 lf_X9_9 ht ?_
      refine m_aload_n hc 1 dX9_takeRemainder_24 rfl rfl ?_
      refine m_iload hc 6 dX9_takeRemainder_25 rfl ?_
      obtain ⟨ht, hi, hw⟩ := hw
      refine c_iald hc hr ht hi dX9_takeRemainder_27 ?_
      refine m_iload hc 5 dX9_takeRemainder_28 rfl ?_
      refine m_imul hc dX9_takeRemainder_30 ?_
      refine m_aload_n hc 0 dX9_takeRemainder_31 rfl rfl ?_
      obtain ⟨ht, hw⟩ := hw
      refine c_geti hc hr ciX9 (Nat.le_of_ble_eq_true rfl) 0 (Nat.le_of_ble_eq_true rfl) rfl dX9_takeRemainder_32 lf_X9_9 ht ?_
      obtain ⟨hq, hw⟩ := hw
      refine m_irem hc dX9_takeRemainder_35 hq ?_
      refine m_isub hc dX9_takeRemainder_36 ?_
      refine m_topi (fun v2 e_v2 => ?_)
      have hw := hw v2 e_v2
      refine m_istore hc [(7, .int v2), (0, .ref x0), (1, .ref x1), (2, .int x2), (3, .ref x3), (4, .int x4), (5, .int x5), (6, .int x6)] dX9_takeRemainder_37 (Nat.le_of_ble_eq_true rfl) rfl ?_
      refine m_iconst hc 0 dX9_takeRemainder_39 (by decide) ?_
      refine m_istore hc [(8, .int 0), (7, .int v2), (0, .ref x0), (1, .ref x1), (2, .int x2), (3, .ref x3), (4, .int x4), (5, .int x5), (6, .int x6)] dX9_takeRemainder_40 (Nat.le_of_ble_eq_true rfl) rfl ?_
      refine m_sub [2, 3, 4, 5, 6, 7, 8, 1, 0] rfl ?_
      obtain ⟨nn, hw⟩ := hw
      exact l_X9_takeRemainder_42 hc hr K13 h13 nn x0 x1 x2 x3 x4 x5 x6 v2 0 S hw
def wp_X9_takeRemainder (M : Nat × Nat) (x0 x1 : Nat) (x2 : Int32) (x3 : Nat) (x4 : Int32) (S : HS) (K : Int32 → HS → Prop) : Prop := hT S x3 = 21 ∧ vp_in x4 (hN S x3) ∧ hT S x0 = 10 ∧ wp_X9_inverse M x0 (hI S x3 (Int32.toNatClampNeg x4)) S (fun r1 S1 => ∃ nn : Nat, wl_X9_takeRemainder_13 M K nn x0 x1 x2 x3 x4 r1 x2 S1)
set_option maxHeartbeats 4000000 in
set_option maxRecDepth 100000 in
theorem ok_X9_takeRemainder {G : CG} {x0 : Nat} {x1 : Nat} {x2 : Int32} {x3 : Nat} {x4 : Int32} {S : HS} {K : Int32 → HS → Prop} (hw : wp_X9_takeRemainder (gC G, gS G) x0 x1 x2 x3 x4 S K) : CC 1 yX9_takeRemainder cX9_takeRemainder 10 (some .int) [.ref x0, .ref x1, .int x2, .ref x3, .int x4] G S (kI K) := by
  refine CC.of (by decide +kernel) (Nat.le_of_ble_eq_true rfl) (fun X hc hr hname => ?_)
  show MC G S X 10 S 0 [(0, .ref x0), (1, .ref x1), (2, .int x2), (3, .ref x3), (4, .int x4)] []
  unfold wp_X9_takeRemainder at hw
  refine m_aload_n hc 0 dX9_takeRemainder_0 rfl rfl ?_
  refine m_aload_n hc 3 dX9_takeRemainder_1 rfl rfl ?_
  refine m_iload hc 4 dX9_takeRemainder_2 rfl ?_
  obtain ⟨ht, hi, hw⟩ := hw
  refine c_iald hc hr ht hi dX9_takeRemainder_4 ?_
  obtain ⟨ht, hw⟩ := hw
  refine c_callVi hc hr ciX9 (Nat.le_of_ble_eq_true rfl) ht mt_X9_inverse rfl lm_X9_154 (ok_X9_inverse hw) (Nat.le_of_ble_eq_true rfl) dX9_takeRemainder_5 rfl (rest := []) rfl (Nat.le_of_ble_eq_true rfl) (fun r1 S1 hw => ?_)
  refine m_istore hc [(5, .int r1), (0, .ref x0), (1, .ref x1), (2, .int x2), (3, .ref x3), (4, .int x4)] dX9_takeRemainder_8 (Nat.le_of_ble_eq_true rfl) rfl ?_
  refine m_iload_n hc 3 dX9_takeRemainder_10 rfl rfl ?_
  refine m_istore hc [(6, .int x2), (5, .int r1), (0, .ref x0), (1, .ref x1), (2, .int x2), (3, .ref x3), (4, .int x4)] dX9_takeRemainder_11 (Nat.le_of_ble_eq_true rfl) rfl ?_
  refine m_sub [2, 3, 4, 5, 6, 1, 0] rfl ?_
  obtain ⟨nn, hw⟩ := hw
  exact l_X9_takeRemainder_13 hc hr nn x0 x1 x2 x3 x4 r1 x2 S1 hw
def wb_X9_common_108 (M : Nat × Nat) (K108 : Nat → Nat → Int32 → Int32 → HS → Prop) (K : Option Nat → HS → Prop) (x0 x3 : Nat) (x7 x8 : Int32) (S : HS) : Prop := (x8 < 0 → hT S x0 = 10 ∧ ∃ b1 : Nat, hP S x0 1 = some b1 ∧ hT S b1 = 7 ∧ wp_X6_kept M b1 S (fun r2 S2 => K r2 S2)) ∧ (¬ (x8 < 0) → hT S x0 = 10 ∧ ∃ b3 : Nat, hP S x0 1 = some b3 ∧ wp_X6_key M x8 0 0 S (fun r4 S4 => hT S4 x3 = 21 ∧ vp_in x8 (hN S4 x3) ∧ hT S4 x0 = 10 ∧ ¬ (hI S4 x0 0) = 0 ∧ (hT S4 b3 = 7 ∧ wp_X6_push M b3 r4 (iRem ((hI S4 x3 (Int32.toNatClampNeg x8)) * x7) (hI S4 x0 0)) S4 (fun r5 S5 => K108 x0 x3 x7 (x8 + (-1)) S5))))
def wl_X9_common_108 (M : Nat × Nat) (K : Option Nat → HS → Prop) : Nat → Nat → Nat → Int32 → Int32 → HS → Prop
  | 0 => fun _ _ _ _ _ => False
  | nn + 1 => wb_X9_common_108 M (wl_X9_common_108 M K nn) K
set_option maxHeartbeats 4000000 in
set_option maxRecDepth 100000 in
theorem l_X9_common_108 {G : CG} {S0 : HS} {X : Fx} {K : Option Nat → HS → Prop} (hc : Cx X RX9 cX9_common 10) (hr : Cc G S0 3 (some (.object "StraightPolys$Poly")) (kR K) X) : ∀ (nn : Nat) (x0 x3 : Nat) (x7 x8 : Int32) (S : HS), wl_X9_common_108 (gC G, gS G) K nn x0 x3 x7 x8 S → MC G S0 X 10 S 108 [(0, .ref x0), (3, .ref x3), (7, .int x7), (8, .int x8)] [] := by
  intro nn
  induction nn with
  | zero => intro x0 x3 x7 x8 S hw; exact False.elim hw
  | succ nn ih =>
    intro x0 x3 x7 x8 S hw
    have hw : wb_X9_common_108 (gC G, gS G) (wl_X9_common_108 (gC G, gS G) K nn) K x0 x3 x7 x8 S := hw
    have h108 := ih
    generalize wl_X9_common_108 (gC G, gS G) K nn = K108 at hw h108
    unfold wb_X9_common_108 at hw
    refine m_iload hc 3 dX9_common_108 rfl ?_
    refine m_if_lt hc 145 dX9_common_110 rfl (fun cq => ?_) (fun cq => ?_)
    · have hw := hw.1 cq
      refine m_aload_n hc 0 dX9_common_145 rfl rfl ?_
      obtain ⟨ht, b1, e_b1, hw⟩ := hw
      refine c_getr hc hr ciX9 (Nat.le_of_ble_eq_true rfl) 1 (Nat.le_of_ble_eq_true rfl) rfl dX9_common_146 lf_X9_20 ht e_b1 ?_
      obtain ⟨ht, hw⟩ := hw
      refine c_callVq hc hr ciX6 (Nat.le_of_ble_eq_true rfl) ht mt_X6_kept rfl lm_X9_73 (ok_X6_kept hw) (Nat.le_of_ble_eq_true rfl) dX9_common_149 rfl (rest := []) rfl (Nat.le_of_ble_eq_true rfl) (fun r2 S2 hw => ?_)
      skip
      exact c_aret hc hr (r := r2) dX9_common_152 hw
    · have hw := hw.2 cq
      refine m_aload_n hc 0 dX9_common_113 rfl rfl ?_
      obtain ⟨ht, b3, e_b3, hw⟩ := hw
      refine c_getr hc hr ciX9 (Nat.le_of_ble_eq_true rfl) 1 (Nat.le_of_ble_eq_true rfl) rfl dX9_common_114 lf_X9_20 ht e_b3 ?_
      refine m_iload hc 3 dX9_common_117 rfl ?_
      refine m_iconst hc 0 dX9_common_119 (by decide) ?_
      refine m_iconst hc 0 dX9_common_120 (by decide) ?_
      refine c_callSi hc hr mt_X6_key lm_X9_157 (ok_X6_key hw) (Nat.le_of_ble_eq_true rfl) dX9_common_121 rfl (rest := [.ref b3]) rfl (Nat.le_of_ble_eq_true rfl) (fun r4 S4 hw => ?_)
      refine m_aload_n hc 1 dX9_common_124 rfl rfl ?_
      refine m_iload hc 3 dX9_common_125 rfl ?_
      obtain ⟨ht, hi, hw⟩ := hw
      refine c_iald hc hr ht hi dX9_common_127 ?_
      refine m_iload hc 2 dX9_common_128 rfl ?_
      refine m_imul hc dX9_common_130 ?_
      refine m_aload_n hc 0 dX9_common_131 rfl rfl ?_
      obtain ⟨ht, hw⟩ := hw
      refine c_geti hc hr ciX9 (Nat.le_of_ble_eq_true rfl) 0 (Nat.le_of_ble_eq_true rfl) rfl dX9_common_132 lf_X9_9 ht ?_
      obtain ⟨hq, hw⟩ := hw
      refine m_irem hc dX9_common_135 hq ?_
      obtain ⟨ht, hw⟩ := hw
      refine c_callVv hc hr ciX6 (Nat.le_of_ble_eq_true rfl) ht mt_X6_push rfl lm_X9_69 (ok_X6_push hw) (Nat.le_of_ble_eq_true rfl) dX9_common_136 rfl (rest := []) rfl (Nat.le_of_ble_eq_true rfl) (fun S5 hw => ?_)
      refine m_iinc hc 3 (x8 + (-1)) [(8, .int (x8 + (-1))), (0, .ref x0), (3, .ref x3), (7, .int x7)] dX9_common_139 rfl rfl (Nat.le_of_ble_eq_true rfl) rfl ?_
      refine m_goto hc 108 dX9_common_142 rfl ?_
      refine m_sub [1, 2, 3, 0] rfl ?_
      exact h108 x0 x3 x7 (x8 + (-1)) S5 hw
def w_X9_common_78 (M : Nat × Nat) (K : Option Nat → HS → Prop) (x0 x3 : Nat) (x5 : Int32) (S : HS) : Prop := hT S x0 = 10 ∧ ∃ b1 : Nat, hP S x0 1 = some b1 ∧ hT S b1 = 7 ∧ wp_X6_clear M b1 S (fun r2 S2 => (0 ≤ x5 → hT S2 x3 = 21 ∧ vp_in x5 (hN S2 x3) ∧ hT S2 x0 = 10 ∧ wp_X9_inverse M x0 (hI S2 x3 (Int32.toNatClampNeg x5)) S2 (fun r3 S3 => ∃ nn : Nat, wl_X9_common_108 M K nn x0 x3 r3 x5 S3)) ∧ (¬ (0 ≤ x5) → ∃ nn : Nat, wl_X9_common_108 M K nn x0 x3 0 x5 S2))
set_option maxHeartbeats 4000000 in
set_option maxRecDepth 100000 in
theorem b_X9_common_78 {G : CG} {S0 : HS} {X : Fx} {K : Option Nat → HS → Prop} (hc : Cx X RX9 cX9_common 10) (hr : Cc G S0 3 (some (.object "StraightPolys$Poly")) (kR K) X) : ∀ (x0 x3 : Nat) (x5 : Int32) (S : HS), w_X9_common_78 (gC G, gS G) K x0 x3 x5 S → MC G S0 X 10 S 78 [(0, .ref x0), (3, .ref x3), (5, .int x5)] [] := by
  intro x0 x3 x5 S hw
  unfold w_X9_common_78 at hw
  refine m_aload_n hc 0 dX9_common_78 rfl rfl ?_
  obtain ⟨ht, b1, e_b1, hw⟩ := hw
  refine c_getr hc hr ciX9 (Nat.le_of_ble_eq_true rfl) 1 (Nat.le_of_ble_eq_true rfl) rfl dX9_common_79 lf_X9_20 ht e_b1 ?_
  obtain ⟨ht, hw⟩ := hw
  refine c_callVv hc hr ciX6 (Nat.le_of_ble_eq_true rfl) ht mt_X6_clear rfl lm_X9_57 (ok_X6_clear hw) (Nat.le_of_ble_eq_true rfl) dX9_common_82 rfl (rest := []) rfl (Nat.le_of_ble_eq_true rfl) (fun S2 hw => ?_)
  refine m_iload hc 2 dX9_common_85 rfl ?_
  refine m_if_ge hc 94 dX9_common_87 rfl (fun cq => ?_) (fun cq => ?_)
  · have hw := hw.1 cq
    refine m_aload_n hc 0 dX9_common_94 rfl rfl ?_
    refine m_aload_n hc 1 dX9_common_95 rfl rfl ?_
    refine m_iload hc 2 dX9_common_96 rfl ?_
    obtain ⟨ht, hi, hw⟩ := hw
    refine c_iald hc hr ht hi dX9_common_98 ?_
    obtain ⟨ht, hw⟩ := hw
    refine c_callVi hc hr ciX9 (Nat.le_of_ble_eq_true rfl) ht mt_X9_inverse rfl lm_X9_154 (ok_X9_inverse hw) (Nat.le_of_ble_eq_true rfl) dX9_common_99 rfl (rest := []) rfl (Nat.le_of_ble_eq_true rfl) (fun r3 S3 hw => ?_)
    refine m_istore hc [(7, .int r3), (0, .ref x0), (3, .ref x3), (5, .int x5)] dX9_common_102 (Nat.le_of_ble_eq_true rfl) rfl ?_
    refine m_iload hc 3 dX9_common_104 rfl ?_
    refine m_istore hc [(8, .int x5), (7, .int r3), (0, .ref x0), (3, .ref x3), (5, .int x5)] dX9_common_106 (Nat.le_of_ble_eq_true rfl) rfl ?_
    refine m_sub [2, 3, 1, 0] rfl ?_
    obtain ⟨nn, hw⟩ := hw
    exact l_X9_common_108 hc hr nn x0 x3 r3 x5 S3 hw
  · have hw := hw.2 cq
    refine m_iconst hc 0 dX9_common_90 (by decide) ?_
    refine m_goto hc 102 dX9_common_91 rfl ?_
    refine m_istore hc [(7, .int 0), (0, .ref x0), (3, .ref x3), (5, .int x5)] dX9_common_102 (Nat.le_of_ble_eq_true rfl) rfl ?_
    refine m_iload hc 3 dX9_common_104 rfl ?_
    refine m_istore hc [(8, .int x5), (7, .int 0), (0, .ref x0), (3, .ref x3), (5, .int x5)] dX9_common_106 (Nat.le_of_ble_eq_true rfl) rfl ?_
    refine m_sub [2, 3, 1, 0] rfl ?_
    obtain ⟨nn, hw⟩ := hw
    exact l_X9_common_108 hc hr nn x0 x3 0 x5 S2 hw
def wb_X9_common_29 (M : Nat × Nat) (K29 : Nat → Nat → Nat → Int32 → Int32 → Int32 → HS → Prop) (K : Option Nat → HS → Prop) (x0 x3 x4 : Nat) (x5 x6 x7 : Int32) (S : HS) : Prop := (82 < x7 → w_X9_common_78 M K x0 x3 x5 S) ∧ (¬ (82 < x7) → (x6 < 0 → w_X9_common_78 M K x0 x3 x5 S) ∧ (¬ (x6 < 0) → hT S x0 = 10 ∧ wp_X9_takeRemainder M x0 x3 x5 x4 x6 S (fun r1 S1 => K29 x0 x4 x3 x6 r1 (x7 + 1) S1)))
def wl_X9_common_29 (M : Nat × Nat) (K : Option Nat → HS → Prop) : Nat → Nat → Nat → Nat → Int32 → Int32 → Int32 → HS → Prop
  | 0 => fun _ _ _ _ _ _ _ => False
  | nn + 1 => wb_X9_common_29 M (wl_X9_common_29 M K nn) K
set_option maxHeartbeats 4000000 in
set_option maxRecDepth 100000 in
theorem l_X9_common_29 {G : CG} {S0 : HS} {X : Fx} {K : Option Nat → HS → Prop} (hc : Cx X RX9 cX9_common 10) (hr : Cc G S0 3 (some (.object "StraightPolys$Poly")) (kR K) X) : ∀ (nn : Nat) (x0 x3 x4 : Nat) (x5 x6 x7 : Int32) (S : HS), wl_X9_common_29 (gC G, gS G) K nn x0 x3 x4 x5 x6 x7 S → MC G S0 X 10 S 29 [(0, .ref x0), (3, .ref x3), (4, .ref x4), (5, .int x5), (6, .int x6), (7, .int x7)] [] := by
  intro nn
  induction nn with
  | zero => intro x0 x3 x4 x5 x6 x7 S hw; exact False.elim hw
  | succ nn ih =>
    intro x0 x3 x4 x5 x6 x7 S hw
    have hw : wb_X9_common_29 (gC G, gS G) (wl_X9_common_29 (gC G, gS G) K nn) K x0 x3 x4 x5 x6 x7 S := hw
    have h29 := ih
    generalize wl_X9_common_29 (gC G, gS G) K nn = K29 at hw h29
    unfold wb_X9_common_29 at hw
    refine m_iload hc 5 dX9_common_29 rfl ?_
    refine m_bipush hc 82 dX9_common_31 (by decide) ?_
    refine m_icmp_gt hc 78 dX9_common_33 rfl (fun cq => ?_) (fun cq => ?_)
    · have hw := hw.1 cq
      refine m_sub [0, 1, 3] rfl ?_
      exact b_X9_common_78 hc hr x0 x3 x5 S hw
    · have hw := hw.2 cq
      refine m_iload hc 4 dX9_common_36 rfl ?_
      refine m_if_lt hc 78 dX9_common_38 rfl (fun cq => ?_) (fun cq => ?_)
      · have hw := hw.1 cq
        refine m_sub [0, 1, 3] rfl ?_
        exact b_X9_common_78 hc hr x0 x3 x5 S hw
      · have hw := hw.2 cq
        refine m_aload_n hc 0 dX9_common_41 rfl rfl ?_
        refine m_aload_n hc 1 dX9_common_42 rfl rfl ?_
        refine m_iload hc 3 dX9_common_43 rfl ?_
        refine m_aload hc 2 dX9_common_45 rfl ?_
        refine m_iload hc 4 dX9_common_47 rfl ?_
        obtain ⟨ht, hw⟩ := hw
        refine c_callVi hc hr ciX9 (Nat.le_of_ble_eq_true rfl) ht mt_X9_takeRemainder rfl lm_X9_150 (ok_X9_takeRemainder hw) (Nat.le_of_ble_eq_true rfl) dX9_common_49 rfl (rest := []) rfl (Nat.le_of_ble_eq_true rfl) (fun r1 S1 hw => ?_)
        refine m_istore hc [(8, .int r1), (0, .ref x0), (3, .ref x3), (4, .ref x4), (5, .int x5), (6, .int x6), (7, .int x7)] dX9_common_52 (Nat.le_of_ble_eq_true rfl) rfl ?_
        refine m_aload_n hc 2 dX9_common_54 rfl rfl ?_
        refine m_astore hc [(9, .ref x3), (8, .int r1), (0, .ref x0), (3, .ref x3), (4, .ref x4), (5, .int x5), (6, .int x6), (7, .int x7)] dX9_common_55 (Nat.le_of_ble_eq_true rfl) rfl ?_
        refine m_aload hc 4 dX9_common_57 rfl ?_
        refine m_astore_n hc [(3, .ref x4), (9, .ref x3), (8, .int r1), (0, .ref x0), (4, .ref x4), (5, .int x5), (6, .int x6), (7, .int x7)] dX9_common_59 rfl (Nat.le_of_ble_eq_true rfl) rfl ?_
        refine m_aload hc 1 dX9_common_60 rfl ?_
        refine m_astore hc [(4, .ref x3), (3, .ref x4), (9, .ref x3), (8, .int r1), (0, .ref x0), (5, .int x5), (6, .int x6), (7, .int x7)] dX9_common_62 (Nat.le_of_ble_eq_true rfl) rfl ?_
        refine m_iload hc 6 dX9_common_64 rfl ?_
        refine m_istore hc [(5, .int x6), (4, .ref x3), (3, .ref x4), (9, .ref x3), (8, .int r1), (0, .ref x0), (6, .int x6), (7, .int x7)] dX9_common_66 (Nat.le_of_ble_eq_true rfl) rfl ?_
        refine m_iload hc 4 dX9_common_68 rfl ?_
        refine m_istore hc [(6, .int r1), (5, .int x6), (4, .ref x3), (3, .ref x4), (9, .ref x3), (8, .int r1), (0, .ref x0), (7, .int x7)] dX9_common_70 (Nat.le_of_ble_eq_true rfl) rfl ?_
        refine m_iinc hc 7 (x7 + 1) [(7, .int (x7 + 1)), (6, .int r1), (5, .int x6), (4, .ref x3), (3, .ref x4), (9, .ref x3), (8, .int r1), (0, .ref x0)] dX9_common_72 rfl rfl (Nat.le_of_ble_eq_true rfl) rfl ?_
        refine m_goto hc 29 dX9_common_75 rfl ?_
        refine m_sub [7, 4, 3, 2, 1, 0] rfl ?_
        exact h29 x0 x4 x3 x6 r1 (x7 + 1) S1 hw
def wp_X9_common (M : Nat × Nat) (x0 x1 x2 : Nat) (S : HS) (K : Option Nat → HS → Prop) : Prop := hT S x0 = 10 ∧ ∃ b1 : Nat, hP S x0 7 = some b1 ∧ hT S x0 = 10 ∧ ∃ b2 : Nat, hP S x0 8 = some b2 ∧ wp_X9_layOut M x1 b1 S (fun r3 S3 => wp_X9_layOut M x2 b2 S3 (fun r4 S4 => ∃ nn : Nat, wl_X9_common_29 M K nn x0 b1 b2 r3 r4 0 S4))
set_option maxHeartbeats 4000000 in
set_option maxRecDepth 100000 in
theorem ok_X9_common {G : CG} {x0 : Nat} {x1 : Nat} {x2 : Nat} {S : HS} {K : Option Nat → HS → Prop} (hw : wp_X9_common (gC G, gS G) x0 x1 x2 S K) : CC 3 yX9_common cX9_common 10 (some (.object "StraightPolys$Poly")) [.ref x0, .ref x1, .ref x2] G S (kR K) := by
  refine CC.of (by decide +kernel) (Nat.le_of_ble_eq_true rfl) (fun X hc hr hname => ?_)
  show MC G S X 10 S 0 [(0, .ref x0), (1, .ref x1), (2, .ref x2)] []
  unfold wp_X9_common at hw
  refine m_aload_n hc 0 dX9_common_0 rfl rfl ?_
  obtain ⟨ht, b1, e_b1, hw⟩ := hw
  refine c_getr hc hr ciX9 (Nat.le_of_ble_eq_true rfl) 7 (Nat.le_of_ble_eq_true rfl) rfl dX9_common_1 lf_X9_44 ht e_b1 ?_
  refine m_astore_n hc [(3, .ref b1), (0, .ref x0), (1, .ref x1), (2, .ref x2)] dX9_common_4 rfl (Nat.le_of_ble_eq_true rfl) rfl ?_
  refine m_aload_n hc 1 dX9_common_5 rfl rfl ?_
  obtain ⟨ht, b2, e_b2, hw⟩ := hw
  refine c_getr hc hr ciX9 (Nat.le_of_ble_eq_true rfl) 8 (Nat.le_of_ble_eq_true rfl) rfl dX9_common_6 lf_X9_47 ht e_b2 ?_
  refine m_astore hc [(4, .ref b2), (3, .ref b1), (0, .ref x0), (1, .ref x1), (2, .ref x2)] dX9_common_9 (Nat.le_of_ble_eq_true rfl) rfl ?_
  refine m_aload_n hc 3 dX9_common_11 rfl rfl ?_
  refine m_aload_n hc 1 dX9_common_12 rfl rfl ?_
  refine c_callSi hc hr mt_X9_layOut lm_X9_146 (ok_X9_layOut hw) (Nat.le_of_ble_eq_true rfl) dX9_common_13 rfl (rest := []) rfl (Nat.le_of_ble_eq_true rfl) (fun r3 S3 hw => ?_)
  refine m_istore hc [(5, .int r3), (4, .ref b2), (3, .ref b1), (0, .ref x0), (1, .ref x1), (2, .ref x2)] dX9_common_16 (Nat.le_of_ble_eq_true rfl) rfl ?_
  refine m_aload_n hc 5 dX9_common_18 rfl rfl ?_
  refine m_aload hc 1 dX9_common_19 rfl ?_
  refine c_callSi hc hr mt_X9_layOut lm_X9_146 (ok_X9_layOut hw) (Nat.le_of_ble_eq_true rfl) dX9_common_21 rfl (rest := []) rfl (Nat.le_of_ble_eq_true rfl) (fun r4 S4 hw => ?_)
  refine m_istore hc [(6, .int r4), (5, .int r3), (4, .ref b2), (3, .ref b1), (0, .ref x0), (1, .ref x1), (2, .ref x2)] dX9_common_24 (Nat.le_of_ble_eq_true rfl) rfl ?_
  refine m_iconst hc 0 dX9_common_26 (by decide) ?_
  refine m_istore hc [(7, .int 0), (6, .int r4), (5, .int r3), (4, .ref b2), (3, .ref b1), (0, .ref x0), (1, .ref x1), (2, .ref x2)] dX9_common_27 (Nat.le_of_ble_eq_true rfl) rfl ?_
  refine m_sub [5, 4, 3, 2, 1, 0] rfl ?_
  obtain ⟨nn, hw⟩ := hw
  exact l_X9_common_29 hc hr nn x0 b1 b2 r3 r4 0 S4 hw
def wb_X9_fitTo_23 (M : Nat × Nat) (K14 : Nat → Nat → Int32 → HS → Prop) (K23 : Nat → Nat → Int32 → Int32 → Int32 → HS → Prop) (K : Option Nat → HS → Prop) (x0 x1 : Nat) (x2 x3 x4 : Int32) (S : HS) : Prop := hT S x0 = 10 ∧ ((hI S x0 0) ≤ x4 → hT S x0 = 10 ∧ ∃ b1 : Nat, hP S x0 1 = some b1 ∧ wp_X6_key M x2 0 0 S (fun r2 S2 => hT S2 x0 = 10 ∧ hT S2 x0 = 10 ∧ ¬ (hI S2 x0 0) = 0 ∧ (hT S2 x0 = 10 ∧ ¬ (hI S2 x0 0) = 0 ∧ (hT S2 b1 = 7 ∧ wp_X6_push M b1 r2 (iRem ((hI S2 x0 0) - (iRem x3 (hI S2 x0 0))) (hI S2 x0 0)) S2 (fun r3 S3 => K14 x0 x1 (x2 + (-1)) S3))))) ∧ (¬ ((hI S x0 0) ≤ x4) → hT S x1 = 21 ∧ vp_in x4 (hN S x1) ∧ hT S x0 = 10 ∧ hT S x0 = 10 ∧ wp_X9_raised M x4 (((hI S x0 0) - 1) - x2) (hI S x0 0) S (fun r4 S4 => ∀ v5 : Int32, v5 = (x3 + ((hI S x1 (Int32.toNatClampNeg x4)) * r4)) → K23 x0 x1 x2 v5 (x4 + 1) S4))
def wl_X9_fitTo_23 (M : Nat × Nat) (K14 : Nat → Nat → Int32 → HS → Prop) (K : Option Nat → HS → Prop) : Nat → Nat → Nat → Int32 → Int32 → Int32 → HS → Prop
  | 0 => fun _ _ _ _ _ _ => False
  | nn + 1 => wb_X9_fitTo_23 M K14 (wl_X9_fitTo_23 M K14 K nn) K
set_option maxHeartbeats 4000000 in
set_option maxRecDepth 100000 in
theorem l_X9_fitTo_23 {G : CG} {S0 : HS} {X : Fx} {K : Option Nat → HS → Prop} (hc : Cx X RX9 cX9_fitTo 5) (hr : Cc G S0 3 (some (.object "StraightPolys$Poly")) (kR K) X) (K14 : Nat → Nat → Int32 → HS → Prop) (h14 : ∀ (x0 x1 : Nat) (x2 : Int32) (S : HS), K14 x0 x1 x2 S → MC G S0 X 5 S 14 [(0, .ref x0), (1, .ref x1), (2, .int x2)] []) : ∀ (nn : Nat) (x0 x1 : Nat) (x2 x3 x4 : Int32) (S : HS), wl_X9_fitTo_23 (gC G, gS G) K14 K nn x0 x1 x2 x3 x4 S → MC G S0 X 5 S 23 [(0, .ref x0), (1, .ref x1), (2, .int x2), (3, .int x3), (4, .int x4)] [] := by
  intro nn
  induction nn with
  | zero => intro x0 x1 x2 x3 x4 S hw; exact False.elim hw
  | succ nn ih =>
    intro x0 x1 x2 x3 x4 S hw
    have hw : wb_X9_fitTo_23 (gC G, gS G) K14 (wl_X9_fitTo_23 (gC G, gS G) K14 K nn) K x0 x1 x2 x3 x4 S := hw
    have h23 := ih
    generalize wl_X9_fitTo_23 (gC G, gS G) K14 K nn = K23 at hw h23
    unfold wb_X9_fitTo_23 at hw
    refine m_iload hc 4 dX9_fitTo_23 rfl ?_
    refine m_aload_n hc 0 dX9_fitTo_25 rfl rfl ?_
    obtain ⟨ht, hw⟩ := hw
    refine c_geti hc hr ciX9 (Nat.le_of_ble_eq_true rfl) 0 (Nat.le_of_ble_eq_true rfl) rfl dX9_fitTo_26 lf_X9_9 ht ?_
    refine m_icmp_ge hc 63 dX9_fitTo_29 rfl (fun cq => ?_) (fun cq => ?_)
    · have hw := hw.1 cq
      refine m_aload_n hc 0 dX9_fitTo_63 rfl rfl ?_
      obtain ⟨ht, b1, e_b1, hw⟩ := hw
      refine c_getr hc hr ciX9 (Nat.le_of_ble_eq_true rfl) 1 (Nat.le_of_ble_eq_true rfl) rfl dX9_fitTo_64 lf_X9_20 ht e_b1 ?_
      refine m_iload_n hc 2 dX9_fitTo_67 rfl rfl ?_
      refine m_iconst hc 0 dX9_fitTo_68 (by decide) ?_
      refine m_iconst hc 0 dX9_fitTo_69 (by decide) ?_
      refine c_callSi hc hr mt_X6_key lm_X9_157 (ok_X6_key hw) (Nat.le_of_ble_eq_true rfl) dX9_fitTo_70 rfl (rest := [.ref b1]) rfl (Nat.le_of_ble_eq_true rfl) (fun r2 S2 hw => ?_)
      refine m_aload_n hc 0 dX9_fitTo_73 rfl rfl ?_
      obtain ⟨ht, hw⟩ := hw
      refine c_geti hc hr ciX9 (Nat.le_of_ble_eq_true rfl) 0 (Nat.le_of_ble_eq_true rfl) rfl dX9_fitTo_74 lf_X9_9 ht ?_
      refine m_iload_n hc 3 dX9_fitTo_77 rfl rfl ?_
      refine m_aload_n hc 0 dX9_fitTo_78 rfl rfl ?_
      obtain ⟨ht, hw⟩ := hw
      refine c_geti hc hr ciX9 (Nat.le_of_ble_eq_true rfl) 0 (Nat.le_of_ble_eq_true rfl) rfl dX9_fitTo_79 lf_X9_9 ht ?_
      obtain ⟨hq, hw⟩ := hw
      refine m_irem hc dX9_fitTo_82 hq ?_
      refine m_isub hc dX9_fitTo_83 ?_
      refine m_aload_n hc 0 dX9_fitTo_84 rfl rfl ?_
      obtain ⟨ht, hw⟩ := hw
      refine c_geti hc hr ciX9 (Nat.le_of_ble_eq_true rfl) 0 (Nat.le_of_ble_eq_true rfl) rfl dX9_fitTo_85 lf_X9_9 ht ?_
      obtain ⟨hq, hw⟩ := hw
      refine m_irem hc dX9_fitTo_88 hq ?_
      obtain ⟨ht, hw⟩ := hw
      refine c_callVv hc hr ciX6 (Nat.le_of_ble_eq_true rfl) ht mt_X6_push rfl lm_X9_69 (ok_X6_push hw) (Nat.le_of_ble_eq_true rfl) dX9_fitTo_89 rfl (rest := []) rfl (Nat.le_of_ble_eq_true rfl) (fun S3 hw => ?_)
      refine m_iinc hc 2 (x2 + (-1)) [(2, .int (x2 + (-1))), (0, .ref x0), (1, .ref x1), (3, .int x3), (4, .int x4)] dX9_fitTo_92 rfl rfl (Nat.le_of_ble_eq_true rfl) rfl ?_
      refine m_goto hc 14 dX9_fitTo_95 rfl ?_
      refine m_sub [1, 2, 0] rfl ?_
      exact h14 x0 x1 (x2 + (-1)) S3 hw
    · have hw := hw.2 cq
      refine m_iload_n hc 3 dX9_fitTo_32 rfl rfl ?_
      refine m_aload_n hc 1 dX9_fitTo_33 rfl rfl ?_
      refine m_iload hc 4 dX9_fitTo_34 rfl ?_
      obtain ⟨ht, hi, hw⟩ := hw
      refine c_iald hc hr ht hi dX9_fitTo_36 ?_
      refine m_iload hc 4 dX9_fitTo_37 rfl ?_
      refine m_aload_n hc 0 dX9_fitTo_39 rfl rfl ?_
      obtain ⟨ht, hw⟩ := hw
      refine c_geti hc hr ciX9 (Nat.le_of_ble_eq_true rfl) 0 (Nat.le_of_ble_eq_true rfl) rfl dX9_fitTo_40 lf_X9_9 ht ?_
      refine m_iconst hc 1 dX9_fitTo_43 (by decide) ?_
      refine m_isub hc dX9_fitTo_44 ?_
      refine m_iload_n hc 2 dX9_fitTo_45 rfl rfl ?_
      refine m_isub hc dX9_fitTo_46 ?_
      refine m_aload_n hc 0 dX9_fitTo_47 rfl rfl ?_
      obtain ⟨ht, hw⟩ := hw
      refine c_geti hc hr ciX9 (Nat.le_of_ble_eq_true rfl) 0 (Nat.le_of_ble_eq_true rfl) rfl dX9_fitTo_48 lf_X9_9 ht ?_
      refine c_callSi hc hr mt_X9_raised lm_X9_167 (ok_X9_raised hw) (Nat.le_of_ble_eq_true rfl) dX9_fitTo_51 rfl (rest := [.int (hI S x1 (Int32.toNatClampNeg x4)), .int x3]) rfl (Nat.le_of_ble_eq_true rfl) (fun r4 S4 hw => ?_)
      refine m_imul hc dX9_fitTo_54 ?_
      refine m_iadd hc dX9_fitTo_55 ?_
      refine m_topi (fun v5 e_v5 => ?_)
      have hw := hw v5 e_v5
      refine m_istore_n hc [(3, .int v5), (0, .ref x0), (1, .ref x1), (2, .int x2), (4, .int x4)] dX9_fitTo_56 rfl (Nat.le_of_ble_eq_true rfl) rfl ?_
      refine m_iinc hc 4 (x4 + 1) [(4, .int (x4 + 1)), (3, .int v5), (0, .ref x0), (1, .ref x1), (2, .int x2)] dX9_fitTo_57 rfl rfl (Nat.le_of_ble_eq_true rfl) rfl ?_
      refine m_goto hc 23 dX9_fitTo_60 rfl ?_
      refine m_sub [2, 3, 4, 1, 0] rfl ?_
      exact h23 x0 x1 x2 v5 (x4 + 1) S4 hw
def wb_X9_fitTo_14 (M : Nat × Nat) (K14 : Nat → Nat → Int32 → HS → Prop) (K : Option Nat → HS → Prop) (x0 x1 : Nat) (x2 : Int32) (S : HS) : Prop := (x2 ≤ 0 → hT S x0 = 10 ∧ ∃ b1 : Nat, hP S x0 1 = some b1 ∧ hT S x1 = 21 ∧ vp_in 0 (hN S x1) ∧ hT S b1 = 7 ∧ wp_X6_push M b1 0 (hI S x1 (Int32.toNatClampNeg 0)) S (fun r2 S2 => hT S2 x0 = 10 ∧ ∃ b3 : Nat, hP S2 x0 1 = some b3 ∧ hT S2 b3 = 7 ∧ wp_X6_kept M b3 S2 (fun r4 S4 => K r4 S4))) ∧ (¬ (x2 ≤ 0) → ∃ nn : Nat, wl_X9_fitTo_23 M K14 K nn x0 x1 x2 0 0 S)
def wl_X9_fitTo_14 (M : Nat × Nat) (K : Option Nat → HS → Prop) : Nat → Nat → Nat → Int32 → HS → Prop
  | 0 => fun _ _ _ _ => False
  | nn + 1 => wb_X9_fitTo_14 M (wl_X9_fitTo_14 M K nn) K
set_option maxHeartbeats 4000000 in
set_option maxRecDepth 100000 in
theorem l_X9_fitTo_14 {G : CG} {S0 : HS} {X : Fx} {K : Option Nat → HS → Prop} (hc : Cx X RX9 cX9_fitTo 5) (hr : Cc G S0 3 (some (.object "StraightPolys$Poly")) (kR K) X) : ∀ (nn : Nat) (x0 x1 : Nat) (x2 : Int32) (S : HS), wl_X9_fitTo_14 (gC G, gS G) K nn x0 x1 x2 S → MC G S0 X 5 S 14 [(0, .ref x0), (1, .ref x1), (2, .int x2)] [] := by
  intro nn
  induction nn with
  | zero => intro x0 x1 x2 S hw; exact False.elim hw
  | succ nn ih =>
    intro x0 x1 x2 S hw
    have hw : wb_X9_fitTo_14 (gC G, gS G) (wl_X9_fitTo_14 (gC G, gS G) K nn) K x0 x1 x2 S := hw
    have h14 := ih
    generalize wl_X9_fitTo_14 (gC G, gS G) K nn = K14 at hw h14
    unfold wb_X9_fitTo_14 at hw
    refine m_iload_n hc 2 dX9_fitTo_14 rfl rfl ?_
    refine m_if_le hc 98 dX9_fitTo_15 rfl (fun cq => ?_) (fun cq => ?_)
    · have hw := hw.1 cq
      refine m_aload_n hc 0 dX9_fitTo_98 rfl rfl ?_
      obtain ⟨ht, b1, e_b1, hw⟩ := hw
      refine c_getr hc hr ciX9 (Nat.le_of_ble_eq_true rfl) 1 (Nat.le_of_ble_eq_true rfl) rfl dX9_fitTo_99 lf_X9_20 ht e_b1 ?_
      refine m_iconst hc 0 dX9_fitTo_102 (by decide) ?_
      refine m_aload_n hc 1 dX9_fitTo_103 rfl rfl ?_
      refine m_iconst hc 0 dX9_fitTo_104 (by decide) ?_
      obtain ⟨ht, hi, hw⟩ := hw
      refine c_iald hc hr ht hi dX9_fitTo_105 ?_
      obtain ⟨ht, hw⟩ := hw
      refine c_callVv hc hr ciX6 (Nat.le_of_ble_eq_true rfl) ht mt_X6_push rfl lm_X9_69 (ok_X6_push hw) (Nat.le_of_ble_eq_true rfl) dX9_fitTo_106 rfl (rest := []) rfl (Nat.le_of_ble_eq_true rfl) (fun S2 hw => ?_)
      refine m_aload_n hc 0 dX9_fitTo_109 rfl rfl ?_
      obtain ⟨ht, b3, e_b3, hw⟩ := hw
      refine c_getr hc hr ciX9 (Nat.le_of_ble_eq_true rfl) 1 (Nat.le_of_ble_eq_true rfl) rfl dX9_fitTo_110 lf_X9_20 ht e_b3 ?_
      obtain ⟨ht, hw⟩ := hw
      refine c_callVq hc hr ciX6 (Nat.le_of_ble_eq_true rfl) ht mt_X6_kept rfl lm_X9_73 (ok_X6_kept hw) (Nat.le_of_ble_eq_true rfl) dX9_fitTo_113 rfl (rest := []) rfl (Nat.le_of_ble_eq_true rfl) (fun r4 S4 hw => ?_)
      skip
      exact c_aret hc hr (r := r4) dX9_fitTo_116 hw
    · have hw := hw.2 cq
      refine m_iconst hc 0 dX9_fitTo_18 (by decide) ?_
      refine m_istore_n hc [(3, .int 0), (0, .ref x0), (1, .ref x1), (2, .int x2)] dX9_fitTo_19 rfl (Nat.le_of_ble_eq_true rfl) rfl ?_
      refine m_iconst hc 0 dX9_fitTo_20 (by decide) ?_
      refine m_istore hc [(4, .int 0), (3, .int 0), (0, .ref x0), (1, .ref x1), (2, .int x2)] dX9_fitTo_21 (Nat.le_of_ble_eq_true rfl) rfl ?_
      refine m_sub [2, 3, 4, 1, 0] rfl ?_
      obtain ⟨nn, hw⟩ := hw
      exact l_X9_fitTo_23 hc hr K14 h14 nn x0 x1 x2 0 0 S hw
def wp_X9_fitTo (M : Nat × Nat) (x0 x1 : Nat) (S : HS) (K : Option Nat → HS → Prop) : Prop := hT S x0 = 10 ∧ ∃ b1 : Nat, hP S x0 1 = some b1 ∧ hT S b1 = 7 ∧ wp_X6_clear M b1 S (fun r2 S2 => hT S2 x0 = 10 ∧ ∃ nn : Nat, wl_X9_fitTo_14 M K nn x0 x1 ((hI S2 x0 0) - 1) S2)
set_option maxHeartbeats 4000000 in
set_option maxRecDepth 100000 in
theorem ok_X9_fitTo {G : CG} {x0 : Nat} {x1 : Nat} {S : HS} {K : Option Nat → HS → Prop} (hw : wp_X9_fitTo (gC G, gS G) x0 x1 S K) : CC 3 yX9_fitTo cX9_fitTo 5 (some (.object "StraightPolys$Poly")) [.ref x0, .ref x1] G S (kR K) := by
  refine CC.of (by decide +kernel) (Nat.le_of_ble_eq_true rfl) (fun X hc hr hname => ?_)
  show MC G S X 5 S 0 [(0, .ref x0), (1, .ref x1)] []
  unfold wp_X9_fitTo at hw
  refine m_aload_n hc 0 dX9_fitTo_0 rfl rfl ?_
  obtain ⟨ht, b1, e_b1, hw⟩ := hw
  refine c_getr hc hr ciX9 (Nat.le_of_ble_eq_true rfl) 1 (Nat.le_of_ble_eq_true rfl) rfl dX9_fitTo_1 lf_X9_20 ht e_b1 ?_
  obtain ⟨ht, hw⟩ := hw
  refine c_callVv hc hr ciX6 (Nat.le_of_ble_eq_true rfl) ht mt_X6_clear rfl lm_X9_57 (ok_X6_clear hw) (Nat.le_of_ble_eq_true rfl) dX9_fitTo_4 rfl (rest := []) rfl (Nat.le_of_ble_eq_true rfl) (fun S2 hw => ?_)
  refine m_aload_n hc 0 dX9_fitTo_7 rfl rfl ?_
  obtain ⟨ht, hw⟩ := hw
  refine c_geti hc hr ciX9 (Nat.le_of_ble_eq_true rfl) 0 (Nat.le_of_ble_eq_true rfl) rfl dX9_fitTo_8 lf_X9_9 ht ?_
  refine m_iconst hc 1 dX9_fitTo_11 (by decide) ?_
  refine m_isub hc dX9_fitTo_12 ?_
  refine m_istore_n hc [(2, .int ((hI S2 x0 0) - 1)), (0, .ref x0), (1, .ref x1)] dX9_fitTo_13 rfl (Nat.le_of_ble_eq_true rfl) rfl ?_
  refine m_sub [1, 2, 0] rfl ?_
  obtain ⟨nn, hw⟩ := hw
  exact l_X9_fitTo_14 hc hr nn x0 x1 ((hI S2 x0 0) - 1) S2 hw
def wb_X9_findPowers_9 (M : Nat × Nat) (K9 : Nat → Int32 → Int32 → Int32 → HS → Prop) (K : Int32 → HS → Prop) (x0 : Nat) (x1 x2 x3 : Int32) (S : HS) : Prop := (40 < x3 → K 0 S) ∧ (¬ (40 < x3) → hT S x0 = 10 ∧ ∃ b1 : Nat, hP S x0 6 = some b1 ∧ hT S x0 = 10 ∧ ∃ b2 : Nat, hP S x0 6 = some b2 ∧ hT S b2 = 21 ∧ vp_in ((x2 + x3) - 1) (hN S b2) ∧ hT S x0 = 10 ∧ ¬ (hI S x0 0) = 0 ∧ (hT S b1 = 21 ∧ vp_in (x2 + x3) (hN S b1) ∧ K9 x0 x1 x2 (x3 + 1) (sI S b1 (Int32.toNatClampNeg (x2 + x3)) (iRem ((hI S b2 (Int32.toNatClampNeg ((x2 + x3) - 1))) * x1) (hI S x0 0)))))
def wl_X9_findPowers_9 (M : Nat × Nat) (K : Int32 → HS → Prop) : Nat → Nat → Int32 → Int32 → Int32 → HS → Prop
  | 0 => fun _ _ _ _ _ => False
  | nn + 1 => wb_X9_findPowers_9 M (wl_X9_findPowers_9 M K nn) K
set_option maxHeartbeats 4000000 in
set_option maxRecDepth 100000 in
theorem l_X9_findPowers_9 {G : CG} {S0 : HS} {X : Fx} {K : Int32 → HS → Prop} (hc : Cx X RX9 cX9_findPowers 4) (hr : Cc G S0 0 none (kV K) X) : ∀ (nn : Nat) (x0 : Nat) (x1 x2 x3 : Int32) (S : HS), wl_X9_findPowers_9 (gC G, gS G) K nn x0 x1 x2 x3 S → MC G S0 X 4 S 9 [(0, .ref x0), (1, .int x1), (2, .int x2), (3, .int x3)] [] := by
  intro nn
  induction nn with
  | zero => intro x0 x1 x2 x3 S hw; exact False.elim hw
  | succ nn ih =>
    intro x0 x1 x2 x3 S hw
    have hw : wb_X9_findPowers_9 (gC G, gS G) (wl_X9_findPowers_9 (gC G, gS G) K nn) K x0 x1 x2 x3 S := hw
    have h9 := ih
    generalize wl_X9_findPowers_9 (gC G, gS G) K nn = K9 at hw h9
    unfold wb_X9_findPowers_9 at hw
    refine m_iload_n hc 3 dX9_findPowers_9 rfl rfl ?_
    refine m_bipush hc 40 dX9_findPowers_10 (by decide) ?_
    refine m_icmp_gt hc 46 dX9_findPowers_12 rfl (fun cq => ?_) (fun cq => ?_)
    · have hw := hw.1 cq
      exact c_vret hc hr dX9_findPowers_46 hw
    · have hw := hw.2 cq
      refine m_aload_n hc 0 dX9_findPowers_15 rfl rfl ?_
      obtain ⟨ht, b1, e_b1, hw⟩ := hw
      refine c_getr hc hr ciX9 (Nat.le_of_ble_eq_true rfl) 6 (Nat.le_of_ble_eq_true rfl) rfl dX9_findPowers_16 lf_X9_41 ht e_b1 ?_
      refine m_iload_n hc 2 dX9_findPowers_19 rfl rfl ?_
      refine m_iload_n hc 3 dX9_findPowers_20 rfl rfl ?_
      refine m_iadd hc dX9_findPowers_21 ?_
      refine m_aload_n hc 0 dX9_findPowers_22 rfl rfl ?_
      obtain ⟨ht, b2, e_b2, hw⟩ := hw
      refine c_getr hc hr ciX9 (Nat.le_of_ble_eq_true rfl) 6 (Nat.le_of_ble_eq_true rfl) rfl dX9_findPowers_23 lf_X9_41 ht e_b2 ?_
      refine m_iload_n hc 2 dX9_findPowers_26 rfl rfl ?_
      refine m_iload_n hc 3 dX9_findPowers_27 rfl rfl ?_
      refine m_iadd hc dX9_findPowers_28 ?_
      refine m_iconst hc 1 dX9_findPowers_29 (by decide) ?_
      refine m_isub hc dX9_findPowers_30 ?_
      obtain ⟨ht, hi, hw⟩ := hw
      refine c_iald hc hr ht hi dX9_findPowers_31 ?_
      refine m_iload_n hc 1 dX9_findPowers_32 rfl rfl ?_
      refine m_imul hc dX9_findPowers_33 ?_
      refine m_aload_n hc 0 dX9_findPowers_34 rfl rfl ?_
      obtain ⟨ht, hw⟩ := hw
      refine c_geti hc hr ciX9 (Nat.le_of_ble_eq_true rfl) 0 (Nat.le_of_ble_eq_true rfl) rfl dX9_findPowers_35 lf_X9_9 ht ?_
      obtain ⟨hq, hw⟩ := hw
      refine m_irem hc dX9_findPowers_38 hq ?_
      obtain ⟨ht, hi, hw⟩ := hw
      refine c_iast hc hr ht hi dX9_findPowers_39 ?_
      refine m_iinc hc 3 (x3 + 1) [(3, .int (x3 + 1)), (0, .ref x0), (1, .int x1), (2, .int x2)] dX9_findPowers_40 rfl rfl (Nat.le_of_ble_eq_true rfl) rfl ?_
      refine m_goto hc 9 dX9_findPowers_43 rfl ?_
      refine m_sub [1, 2, 3, 0] rfl ?_
      exact h9 x0 x1 x2 (x3 + 1) (sI S b1 (Int32.toNatClampNeg (x2 + x3)) (iRem ((hI S b2 (Int32.toNatClampNeg ((x2 + x3) - 1))) * x1) (hI S x0 0))) hw
def wp_X9_findPowers (M : Nat × Nat) (x0 : Nat) (x1 x2 : Int32) (S : HS) (K : Int32 → HS → Prop) : Prop := hT S x0 = 10 ∧ ∃ b1 : Nat, hP S x0 6 = some b1 ∧ hT S b1 = 21 ∧ vp_in x2 (hN S b1) ∧ ∃ nn : Nat, wl_X9_findPowers_9 M K nn x0 x1 x2 1 (sI S b1 (Int32.toNatClampNeg x2) 1)
set_option maxHeartbeats 4000000 in
set_option maxRecDepth 100000 in
theorem ok_X9_findPowers {G : CG} {x0 : Nat} {x1 : Int32} {x2 : Int32} {S : HS} {K : Int32 → HS → Prop} (hw : wp_X9_findPowers (gC G, gS G) x0 x1 x2 S K) : CC 0 yX9_findPowers cX9_findPowers 4 none [.ref x0, .int x1, .int x2] G S (kV K) := by
  refine CC.of (by decide +kernel) (Nat.le_of_ble_eq_true rfl) (fun X hc hr hname => ?_)
  show MC G S X 4 S 0 [(0, .ref x0), (1, .int x1), (2, .int x2)] []
  unfold wp_X9_findPowers at hw
  refine m_aload_n hc 0 dX9_findPowers_0 rfl rfl ?_
  obtain ⟨ht, b1, e_b1, hw⟩ := hw
  refine c_getr hc hr ciX9 (Nat.le_of_ble_eq_true rfl) 6 (Nat.le_of_ble_eq_true rfl) rfl dX9_findPowers_1 lf_X9_41 ht e_b1 ?_
  refine m_iload_n hc 2 dX9_findPowers_4 rfl rfl ?_
  refine m_iconst hc 1 dX9_findPowers_5 (by decide) ?_
  obtain ⟨ht, hi, hw⟩ := hw
  refine c_iast hc hr ht hi dX9_findPowers_6 ?_
  refine m_iconst hc 1 dX9_findPowers_7 (by decide) ?_
  refine m_istore_n hc [(3, .int 1), (0, .ref x0), (1, .int x1), (2, .int x2)] dX9_findPowers_8 rfl (Nat.le_of_ble_eq_true rfl) rfl ?_
  refine m_sub [1, 2, 3, 0] rfl ?_
  obtain ⟨nn, hw⟩ := hw
  exact l_X9_findPowers_9 hc hr nn x0 x1 x2 1 (sI S b1 (Int32.toNatClampNeg x2) 1) hw
def wb_X9_valueAt_33 (M : Nat × Nat) (K33 : Nat → Nat → Int32 → Int32 → Int32 → HS → Prop) (K : Int32 → HS → Prop) (x0 x1 : Nat) (x5 x6 x7 : Int32) (S : HS) : Prop := hT S x1 = 7 ∧ ((hI S x1 2) ≤ x7 → hT S x0 = 10 ∧ ¬ (hI S x0 0) = 0 ∧ (K (iRem x6 (hI S x0 0)) S)) ∧ (¬ ((hI S x1 2) ≤ x7) → hT S x1 = 7 ∧ ∃ b1 : Nat, hP S x1 0 = some b1 ∧ hT S b1 = 21 ∧ vp_in x7 (hN S b1) ∧ ∀ v2 : Int32, v2 = (hI S b1 (Int32.toNatClampNeg x7)) → hT S x0 = 10 ∧ ∃ b3 : Nat, hP S x0 6 = some b3 ∧ wp_X6_exponent M v2 0 S (fun r4 S4 => hT S4 b3 = 21 ∧ vp_in r4 (hN S4 b3) ∧ ∀ v5 : Int32, v5 = (hI S4 b3 (Int32.toNatClampNeg r4)) → hT S4 x0 = 10 ∧ ∃ b6 : Nat, hP S4 x0 6 = some b6 ∧ wp_X6_exponent M v2 1 S4 (fun r7 S7 => hT S7 b6 = 21 ∧ vp_in (x5 + r7) (hN S7 b6) ∧ ∀ v8 : Int32, v8 = (hI S7 b6 (Int32.toNatClampNeg (x5 + r7))) → hT S7 x0 = 10 ∧ ∃ b9 : Nat, hP S7 x0 6 = some b9 ∧ wp_X6_exponent M v2 2 S7 (fun r10 S10 => hT S10 b9 = 21 ∧ vp_in ((2 * x5) + r10) (hN S10 b9) ∧ ∀ v11 : Int32, v11 = (hI S10 b9 (Int32.toNatClampNeg ((2 * x5) + r10))) → hT S10 x1 = 7 ∧ ∃ b12 : Nat, hP S10 x1 1 = some b12 ∧ hT S10 b12 = 21 ∧ vp_in x7 (hN S10 b12) ∧ ∀ v13 : Int32, v13 = (x6 + ((((hI S10 b12 (Int32.toNatClampNeg x7)) * v5) * v8) * v11)) → K33 x0 x1 x5 v13 (x7 + 1) S10))))
def wl_X9_valueAt_33 (M : Nat × Nat) (K : Int32 → HS → Prop) : Nat → Nat → Nat → Int32 → Int32 → Int32 → HS → Prop
  | 0 => fun _ _ _ _ _ _ => False
  | nn + 1 => wb_X9_valueAt_33 M (wl_X9_valueAt_33 M K nn) K
set_option maxHeartbeats 4000000 in
set_option maxRecDepth 100000 in
theorem l_X9_valueAt_33 {G : CG} {S0 : HS} {X : Fx} {K : Int32 → HS → Prop} (hc : Cx X RX9 cX9_valueAt 12) (hr : Cc G S0 1 (some .int) (kI K) X) : ∀ (nn : Nat) (x0 x1 : Nat) (x5 x6 x7 : Int32) (S : HS), wl_X9_valueAt_33 (gC G, gS G) K nn x0 x1 x5 x6 x7 S → MC G S0 X 12 S 33 [(0, .ref x0), (1, .ref x1), (5, .int x5), (6, .int x6), (7, .int x7)] [] := by
  intro nn
  induction nn with
  | zero => intro x0 x1 x5 x6 x7 S hw; exact False.elim hw
  | succ nn ih =>
    intro x0 x1 x5 x6 x7 S hw
    have hw : wb_X9_valueAt_33 (gC G, gS G) (wl_X9_valueAt_33 (gC G, gS G) K nn) K x0 x1 x5 x6 x7 S := hw
    have h33 := ih
    generalize wl_X9_valueAt_33 (gC G, gS G) K nn = K33 at hw h33
    unfold wb_X9_valueAt_33 at hw
    refine m_iload hc 4 dX9_valueAt_33 rfl ?_
    refine m_aload_n hc 1 dX9_valueAt_35 rfl rfl ?_
    obtain ⟨ht, hw⟩ := hw
    refine c_geti hc hr ciX6 (Nat.le_of_ble_eq_true rfl) 2 (Nat.le_of_ble_eq_true rfl) rfl dX9_valueAt_36 lf_X9_60 ht ?_
    refine m_icmp_ge hc 125 dX9_valueAt_39 rfl (fun cq => ?_) (fun cq => ?_)
    · have hw := hw.1 cq
      refine m_iload hc 3 dX9_valueAt_125 rfl ?_
      refine m_aload_n hc 0 dX9_valueAt_127 rfl rfl ?_
      obtain ⟨ht, hw⟩ := hw
      refine c_geti hc hr ciX9 (Nat.le_of_ble_eq_true rfl) 0 (Nat.le_of_ble_eq_true rfl) rfl dX9_valueAt_128 lf_X9_9 ht ?_
      obtain ⟨hq, hw⟩ := hw
      refine m_irem hc dX9_valueAt_131 hq ?_
      exact c_iret hc hr dX9_valueAt_132 hw
    · have hw := hw.2 cq
      refine m_aload_n hc 1 dX9_valueAt_42 rfl rfl ?_
      obtain ⟨ht, b1, e_b1, hw⟩ := hw
      refine c_getr hc hr ciX6 (Nat.le_of_ble_eq_true rfl) 0 (Nat.le_of_ble_eq_true rfl) rfl dX9_valueAt_43 lf_X9_63 ht e_b1 ?_
      refine m_iload hc 4 dX9_valueAt_46 rfl ?_
      obtain ⟨ht, hi, hw⟩ := hw
      refine c_iald hc hr ht hi dX9_valueAt_48 ?_
      refine m_topi (fun v2 e_v2 => ?_)
      have hw := hw v2 e_v2
      refine m_istore hc [(8, .int v2), (0, .ref x0), (1, .ref x1), (5, .int x5), (6, .int x6), (7, .int x7)] dX9_valueAt_49 (Nat.le_of_ble_eq_true rfl) rfl ?_
      refine m_aload_n hc 1 dX9_valueAt_51 rfl rfl ?_
      obtain ⟨ht, b3, e_b3, hw⟩ := hw
      refine c_getr hc hr ciX9 (Nat.le_of_ble_eq_true rfl) 6 (Nat.le_of_ble_eq_true rfl) rfl dX9_valueAt_52 lf_X9_41 ht e_b3 ?_
      refine m_iload hc 0 dX9_valueAt_55 rfl ?_
      refine m_iconst hc 0 dX9_valueAt_57 (by decide) ?_
      refine c_callSi hc hr mt_X6_exponent lm_X9_111 (ok_X6_exponent hw) (Nat.le_of_ble_eq_true rfl) dX9_valueAt_58 rfl (rest := [.ref b3]) rfl (Nat.le_of_ble_eq_true rfl) (fun r4 S4 hw => ?_)
      obtain ⟨ht, hi, hw⟩ := hw
      refine c_iald hc hr ht hi dX9_valueAt_61 ?_
      refine m_topi (fun v5 e_v5 => ?_)
      have hw := hw v5 e_v5
      refine m_istore hc [(9, .int v5), (8, .int v2), (0, .ref x0), (1, .ref x1), (5, .int x5), (6, .int x6), (7, .int x7)] dX9_valueAt_62 (Nat.le_of_ble_eq_true rfl) rfl ?_
      refine m_aload_n hc 2 dX9_valueAt_64 rfl rfl ?_
      obtain ⟨ht, b6, e_b6, hw⟩ := hw
      refine c_getr hc hr ciX9 (Nat.le_of_ble_eq_true rfl) 6 (Nat.le_of_ble_eq_true rfl) rfl dX9_valueAt_65 lf_X9_41 ht e_b6 ?_
      refine m_iload hc 4 dX9_valueAt_68 rfl ?_
      refine m_iload hc 1 dX9_valueAt_70 rfl ?_
      refine m_iconst hc 1 dX9_valueAt_72 (by decide) ?_
      refine c_callSi hc hr mt_X6_exponent lm_X9_111 (ok_X6_exponent hw) (Nat.le_of_ble_eq_true rfl) dX9_valueAt_73 rfl (rest := [.int x5, .ref b6]) rfl (Nat.le_of_ble_eq_true rfl) (fun r7 S7 hw => ?_)
      refine m_iadd hc dX9_valueAt_76 ?_
      obtain ⟨ht, hi, hw⟩ := hw
      refine c_iald hc hr ht hi dX9_valueAt_77 ?_
      refine m_topi (fun v8 e_v8 => ?_)
      have hw := hw v8 e_v8
      refine m_istore hc [(10, .int v8), (9, .int v5), (8, .int v2), (0, .ref x0), (1, .ref x1), (5, .int x5), (6, .int x6), (7, .int x7)] dX9_valueAt_78 (Nat.le_of_ble_eq_true rfl) rfl ?_
      refine m_aload_n hc 3 dX9_valueAt_80 rfl rfl ?_
      obtain ⟨ht, b9, e_b9, hw⟩ := hw
      refine c_getr hc hr ciX9 (Nat.le_of_ble_eq_true rfl) 6 (Nat.le_of_ble_eq_true rfl) rfl dX9_valueAt_81 lf_X9_41 ht e_b9 ?_
      refine m_iconst hc 2 dX9_valueAt_84 (by decide) ?_
      refine m_iload hc 5 dX9_valueAt_85 rfl ?_
      refine m_imul hc dX9_valueAt_87 ?_
      refine m_iload hc 2 dX9_valueAt_88 rfl ?_
      refine m_iconst hc 2 dX9_valueAt_90 (by decide) ?_
      refine c_callSi hc hr mt_X6_exponent lm_X9_111 (ok_X6_exponent hw) (Nat.le_of_ble_eq_true rfl) dX9_valueAt_91 rfl (rest := [.int (2 * x5), .ref b9]) rfl (Nat.le_of_ble_eq_true rfl) (fun r10 S10 hw => ?_)
      refine m_iadd hc dX9_valueAt_94 ?_
      obtain ⟨ht, hi, hw⟩ := hw
      refine c_iald hc hr ht hi dX9_valueAt_95 ?_
      refine m_topi (fun v11 e_v11 => ?_)
      have hw := hw v11 e_v11
      refine m_istore hc [(11, .int v11), (10, .int v8), (9, .int v5), (8, .int v2), (0, .ref x0), (1, .ref x1), (5, .int x5), (6, .int x6), (7, .int x7)] dX9_valueAt_96 (Nat.le_of_ble_eq_true rfl) rfl ?_
      refine m_iload hc 7 dX9_valueAt_98 rfl ?_
      refine m_aload_n hc 5 dX9_valueAt_100 rfl rfl ?_
      obtain ⟨ht, b12, e_b12, hw⟩ := hw
      refine c_getr hc hr ciX6 (Nat.le_of_ble_eq_true rfl) 1 (Nat.le_of_ble_eq_true rfl) rfl dX9_valueAt_101 lf_X9_66 ht e_b12 ?_
      refine m_iload hc 8 dX9_valueAt_104 rfl ?_
      obtain ⟨ht, hi, hw⟩ := hw
      refine c_iald hc hr ht hi dX9_valueAt_106 ?_
      refine m_iload hc 2 dX9_valueAt_107 rfl ?_
      refine m_imul hc dX9_valueAt_109 ?_
      refine m_iload hc 1 dX9_valueAt_110 rfl ?_
      refine m_imul hc dX9_valueAt_112 ?_
      refine m_iload hc 0 dX9_valueAt_113 rfl ?_
      refine m_imul hc dX9_valueAt_115 ?_
      refine m_iadd hc dX9_valueAt_116 ?_
      refine m_topi (fun v13 e_v13 => ?_)
      have hw := hw v13 e_v13
      refine m_istore hc [(6, .int v13), (11, .int v11), (10, .int v8), (9, .int v5), (8, .int v2), (0, .ref x0), (1, .ref x1), (5, .int x5), (7, .int x7)] dX9_valueAt_117 (Nat.le_of_ble_eq_true rfl) rfl ?_
      refine m_iinc hc 8 (x7 + 1) [(7, .int (x7 + 1)), (6, .int v13), (11, .int v11), (10, .int v8), (9, .int v5), (8, .int v2), (0, .ref x0), (1, .ref x1), (5, .int x5)] dX9_valueAt_119 rfl rfl (Nat.le_of_ble_eq_true rfl) rfl ?_
      refine m_goto hc 33 dX9_valueAt_122 rfl ?_
      refine m_sub [6, 7, 8, 1, 0] rfl ?_
      exact h33 x0 x1 x5 v13 (x7 + 1) S10 hw
def wp_X9_valueAt (M : Nat × Nat) (x0 x1 : Nat) (x2 x3 x4 : Int32) (S : HS) (K : Int32 → HS → Prop) : Prop := hT S x0 = 10 ∧ wp_X9_findPowers M x0 x2 0 S (fun r1 S1 => hT S1 x0 = 10 ∧ wp_X9_findPowers M x0 x3 41 S1 (fun r2 S2 => hT S2 x0 = 10 ∧ wp_X9_findPowers M x0 x4 (2 * 41) S2 (fun r3 S3 => ∃ nn : Nat, wl_X9_valueAt_33 M K nn x0 x1 41 0 0 S3)))
set_option maxHeartbeats 4000000 in
set_option maxRecDepth 100000 in
theorem ok_X9_valueAt {G : CG} {x0 : Nat} {x1 : Nat} {x2 : Int32} {x3 : Int32} {x4 : Int32} {S : HS} {K : Int32 → HS → Prop} (hw : wp_X9_valueAt (gC G, gS G) x0 x1 x2 x3 x4 S K) : CC 1 yX9_valueAt cX9_valueAt 12 (some .int) [.ref x0, .ref x1, .int x2, .int x3, .int x4] G S (kI K) := by
  refine CC.of (by decide +kernel) (Nat.le_of_ble_eq_true rfl) (fun X hc hr hname => ?_)
  show MC G S X 12 S 0 [(0, .ref x0), (1, .ref x1), (2, .int x2), (3, .int x3), (4, .int x4)] []
  unfold wp_X9_valueAt at hw
  refine m_bipush hc 41 dX9_valueAt_0 (by decide) ?_
  refine m_istore hc [(5, .int 41), (0, .ref x0), (1, .ref x1), (2, .int x2), (3, .int x3), (4, .int x4)] dX9_valueAt_2 (Nat.le_of_ble_eq_true rfl) rfl ?_
  refine m_aload_n hc 1 dX9_valueAt_4 rfl rfl ?_
  refine m_iload_n hc 3 dX9_valueAt_5 rfl rfl ?_
  refine m_iconst hc 0 dX9_valueAt_6 (by decide) ?_
  obtain ⟨ht, hw⟩ := hw
  refine c_callVv hc hr ciX9 (Nat.le_of_ble_eq_true rfl) ht mt_X9_findPowers rfl lm_X9_170 (ok_X9_findPowers hw) (Nat.le_of_ble_eq_true rfl) dX9_valueAt_7 rfl (rest := []) rfl (Nat.le_of_ble_eq_true rfl) (fun S1 hw => ?_)
  refine m_aload_n hc 1 dX9_valueAt_10 rfl rfl ?_
  refine m_iload_n hc 4 dX9_valueAt_11 rfl rfl ?_
  refine m_iload hc 0 dX9_valueAt_12 rfl ?_
  obtain ⟨ht, hw⟩ := hw
  refine c_callVv hc hr ciX9 (Nat.le_of_ble_eq_true rfl) ht mt_X9_findPowers rfl lm_X9_170 (ok_X9_findPowers hw) (Nat.le_of_ble_eq_true rfl) dX9_valueAt_14 rfl (rest := []) rfl (Nat.le_of_ble_eq_true rfl) (fun S2 hw => ?_)
  refine m_aload_n hc 1 dX9_valueAt_17 rfl rfl ?_
  refine m_iload hc 5 dX9_valueAt_18 rfl ?_
  refine m_iconst hc 2 dX9_valueAt_20 (by decide) ?_
  refine m_iload hc 0 dX9_valueAt_21 rfl ?_
  refine m_imul hc dX9_valueAt_23 ?_
  obtain ⟨ht, hw⟩ := hw
  refine c_callVv hc hr ciX9 (Nat.le_of_ble_eq_true rfl) ht mt_X9_findPowers rfl lm_X9_170 (ok_X9_findPowers hw) (Nat.le_of_ble_eq_true rfl) dX9_valueAt_24 rfl (rest := []) rfl (Nat.le_of_ble_eq_true rfl) (fun S3 hw => ?_)
  refine m_iconst hc 0 dX9_valueAt_27 (by decide) ?_
  refine m_istore hc [(6, .int 0), (5, .int 41), (0, .ref x0), (1, .ref x1), (2, .int x2), (3, .int x3), (4, .int x4)] dX9_valueAt_28 (Nat.le_of_ble_eq_true rfl) rfl ?_
  refine m_iconst hc 0 dX9_valueAt_30 (by decide) ?_
  refine m_istore hc [(7, .int 0), (6, .int 0), (5, .int 41), (0, .ref x0), (1, .ref x1), (2, .int x2), (3, .int x3), (4, .int x4)] dX9_valueAt_31 (Nat.le_of_ble_eq_true rfl) rfl ?_
  refine m_sub [3, 4, 2, 1, 0] rfl ?_
  obtain ⟨nn, hw⟩ := hw
  exact l_X9_valueAt_33 hc hr nn x0 x1 41 0 0 S3 hw
