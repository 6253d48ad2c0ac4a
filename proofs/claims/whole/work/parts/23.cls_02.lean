def wb_X5_load_147 (M : Nat × Nat) (K147 : Nat → Int32 → HS → Prop) (K : Int32 → HS → Prop) (x0 : Nat) (x4 : Int32) (S : HS) : Prop := hT S x0 = 6 ∧ hT S x0 = 6 ∧ (((hI S x0 2) * (hI S x0 2)) ≤ x4 → K 0 S) ∧ (¬ (((hI S x0 2) * (hI S x0 2)) ≤ x4) → hT S x0 = 6 ∧ hT S x0 = 6 ∧ hT S x0 = 6 ∧ wp_X5_spread M x0 x4 ((hI S x0 2) * (hI S x0 2)) S (fun r1 S1 => K147 x0 (x4 + 1) S1))
def wl_X5_load_147 (M : Nat × Nat) (K : Int32 → HS → Prop) : Nat → Nat → Int32 → HS → Prop
  | 0 => fun _ _ _ => False
  | nn + 1 => wb_X5_load_147 M (wl_X5_load_147 M K nn) K
set_option maxHeartbeats 4000000 in
set_option maxRecDepth 100000 in
theorem l_X5_load_147 {G : CG} {S0 : HS} {X : Fx} {K : Int32 → HS → Prop} (hc : Cx X RX5 cX5_load 5) (hr : Cc G S0 2 none (kV K) X) : ∀ (nn : Nat) (x0 : Nat) (x4 : Int32) (S : HS), wl_X5_load_147 (gC G, gS G) K nn x0 x4 S → MC G S0 X 5 S 147 [(0, .ref x0), (4, .int x4)] [] := by
  intro nn
  induction nn with
  | zero => intro x0 x4 S hw; exact False.elim hw
  | succ nn ih =>
    intro x0 x4 S hw
    have hw : wb_X5_load_147 (gC G, gS G) (wl_X5_load_147 (gC G, gS G) K nn) K x0 x4 S := hw
    have h147 := ih
    generalize wl_X5_load_147 (gC G, gS G) K nn = K147 at hw h147
    unfold wb_X5_load_147 at hw
    refine m_iload hc 1 dX5_load_147 rfl ?_
    refine m_aload_n hc 0 dX5_load_149 rfl rfl ?_
    obtain ⟨ht, hw⟩ := hw
    refine c_geti hc hr ciX5 (Nat.le_of_ble_eq_true rfl) 2 (Nat.le_of_ble_eq_true rfl) rfl dX5_load_150 lf_X5_18 ht ?_
    refine m_aload_n hc 0 dX5_load_153 rfl rfl ?_
    obtain ⟨ht, hw⟩ := hw
    refine c_geti hc hr ciX5 (Nat.le_of_ble_eq_true rfl) 2 (Nat.le_of_ble_eq_true rfl) rfl dX5_load_154 lf_X5_18 ht ?_
    refine m_imul hc dX5_load_157 ?_
    refine m_icmp_ge hc 182 dX5_load_158 rfl (fun cq => ?_) (fun cq => ?_)
    · have hw := hw.1 cq
      exact c_vret hc hr dX5_load_182 hw
    · have hw := hw.2 cq
      refine m_aload_n hc 0 dX5_load_161 rfl rfl ?_
      refine m_iload hc 1 dX5_load_162 rfl ?_
      refine m_aload_n hc 0 dX5_load_164 rfl rfl ?_
      obtain ⟨ht, hw⟩ := hw
      refine c_geti hc hr ciX5 (Nat.le_of_ble_eq_true rfl) 2 (Nat.le_of_ble_eq_true rfl) rfl dX5_load_165 lf_X5_18 ht ?_
      refine m_aload_n hc 0 dX5_load_168 rfl rfl ?_
      obtain ⟨ht, hw⟩ := hw
      refine c_geti hc hr ciX5 (Nat.le_of_ble_eq_true rfl) 2 (Nat.le_of_ble_eq_true rfl) rfl dX5_load_169 lf_X5_18 ht ?_
      refine m_imul hc dX5_load_172 ?_
      obtain ⟨ht, hw⟩ := hw
      refine c_callVv hc hr ciX5 (Nat.le_of_ble_eq_true rfl) ht mt_X5_spread rfl lm_X5_35 (ok_X5_spread hw) (Nat.le_of_ble_eq_true rfl) dX5_load_173 rfl (rest := []) rfl (Nat.le_of_ble_eq_true rfl) (fun S1 hw => ?_)
      refine m_iinc hc 1 (x4 + 1) [(4, .int (x4 + 1)), (0, .ref x0)] dX5_load_176 rfl rfl (Nat.le_of_ble_eq_true rfl) rfl ?_
      refine m_goto hc 147 dX5_load_179 rfl ?_
      refine m_sub [1, 0] rfl ?_
      exact h147 x0 (x4 + 1) S1 hw
def wb_X5_load_91 (M : Nat × Nat) (K91 : Nat → Int32 → HS → Prop) (K : Int32 → HS → Prop) (x0 : Nat) (x4 : Int32) (S : HS) : Prop := hT S x0 = 6 ∧ hT S x0 = 6 ∧ (((hI S x0 2) * (hI S x0 2)) ≤ x4 → ∃ nn : Nat, wl_X5_load_147 M K nn x0 0 S) ∧ (¬ (((hI S x0 2) * (hI S x0 2)) ≤ x4) → hT S x0 = 6 ∧ ¬ (hI S x0 2) = 0 ∧ (hT S x0 = 6 ∧ hT S x0 = 6 ∧ hT S x0 = 6 ∧ ¬ (hI S x0 2) = 0 ∧ (hT S x0 = 6 ∧ hT S x0 = 6 ∧ wp_X5_spread M x0 ((((x4 / (hI S x0 2)) * (hI S x0 2)) * (hI S x0 2)) + (iRem x4 (hI S x0 2))) (hI S x0 2) S (fun r1 S1 => K91 x0 (x4 + 1) S1))))
def wl_X5_load_91 (M : Nat × Nat) (K : Int32 → HS → Prop) : Nat → Nat → Int32 → HS → Prop
  | 0 => fun _ _ _ => False
  | nn + 1 => wb_X5_load_91 M (wl_X5_load_91 M K nn) K
set_option maxHeartbeats 4000000 in
set_option maxRecDepth 100000 in
theorem l_X5_load_91 {G : CG} {S0 : HS} {X : Fx} {K : Int32 → HS → Prop} (hc : Cx X RX5 cX5_load 5) (hr : Cc G S0 2 none (kV K) X) : ∀ (nn : Nat) (x0 : Nat) (x4 : Int32) (S : HS), wl_X5_load_91 (gC G, gS G) K nn x0 x4 S → MC G S0 X 5 S 91 [(0, .ref x0), (4, .int x4)] [] := by
  intro nn
  induction nn with
  | zero => intro x0 x4 S hw; exact False.elim hw
  | succ nn ih =>
    intro x0 x4 S hw
    have hw : wb_X5_load_91 (gC G, gS G) (wl_X5_load_91 (gC G, gS G) K nn) K x0 x4 S := hw
    have h91 := ih
    generalize wl_X5_load_91 (gC G, gS G) K nn = K91 at hw h91
    unfold wb_X5_load_91 at hw
    refine m_iload hc 1 dX5_load_91 rfl ?_
    refine m_aload_n hc 0 dX5_load_93 rfl rfl ?_
    obtain ⟨ht, hw⟩ := hw
    refine c_geti hc hr ciX5 (Nat.le_of_ble_eq_true rfl) 2 (Nat.le_of_ble_eq_true rfl) rfl dX5_load_94 lf_X5_18 ht ?_
    refine m_aload_n hc 0 dX5_load_97 rfl rfl ?_
    obtain ⟨ht, hw⟩ := hw
    refine c_geti hc hr ciX5 (Nat.le_of_ble_eq_true rfl) 2 (Nat.le_of_ble_eq_true rfl) rfl dX5_load_98 lf_X5_18 ht ?_
    refine m_imul hc dX5_load_101 ?_
    refine m_icmp_ge hc 144 dX5_load_102 rfl (fun cq => ?_) (fun cq => ?_)
    · have hw := hw.1 cq
      refine m_iconst hc 0 dX5_load_144 (by decide) ?_
      refine m_istore hc [(4, .int 0), (0, .ref x0)] dX5_load_145 (Nat.le_of_ble_eq_true rfl) rfl ?_
      refine m_sub [1, 0] rfl ?_
      obtain ⟨nn, hw⟩ := hw
      exact l_X5_load_147 hc hr nn x0 0 S hw
    · have hw := hw.2 cq
      refine m_aload_n hc 0 dX5_load_105 rfl rfl ?_
      refine m_iload hc 1 dX5_load_106 rfl ?_
      refine m_aload_n hc 0 dX5_load_108 rfl rfl ?_
      obtain ⟨ht, hw⟩ := hw
      refine c_geti hc hr ciX5 (Nat.le_of_ble_eq_true rfl) 2 (Nat.le_of_ble_eq_true rfl) rfl dX5_load_109 lf_X5_18 ht ?_
      obtain ⟨hq, hw⟩ := hw
      refine m_idiv hc dX5_load_112 hq ?_
      refine m_aload_n hc 0 dX5_load_113 rfl rfl ?_
      obtain ⟨ht, hw⟩ := hw
      refine c_geti hc hr ciX5 (Nat.le_of_ble_eq_true rfl) 2 (Nat.le_of_ble_eq_true rfl) rfl dX5_load_114 lf_X5_18 ht ?_
      refine m_imul hc dX5_load_117 ?_
      refine m_aload_n hc 0 dX5_load_118 rfl rfl ?_
      obtain ⟨ht, hw⟩ := hw
      refine c_geti hc hr ciX5 (Nat.le_of_ble_eq_true rfl) 2 (Nat.le_of_ble_eq_true rfl) rfl dX5_load_119 lf_X5_18 ht ?_
      refine m_imul hc dX5_load_122 ?_
      refine m_iload hc 1 dX5_load_123 rfl ?_
      refine m_aload_n hc 0 dX5_load_125 rfl rfl ?_
      obtain ⟨ht, hw⟩ := hw
      refine c_geti hc hr ciX5 (Nat.le_of_ble_eq_true rfl) 2 (Nat.le_of_ble_eq_true rfl) rfl dX5_load_126 lf_X5_18 ht ?_
      obtain ⟨hq, hw⟩ := hw
      refine m_irem hc dX5_load_129 hq ?_
      refine m_iadd hc dX5_load_130 ?_
      refine m_aload_n hc 0 dX5_load_131 rfl rfl ?_
      obtain ⟨ht, hw⟩ := hw
      refine c_geti hc hr ciX5 (Nat.le_of_ble_eq_true rfl) 2 (Nat.le_of_ble_eq_true rfl) rfl dX5_load_132 lf_X5_18 ht ?_
      obtain ⟨ht, hw⟩ := hw
      refine c_callVv hc hr ciX5 (Nat.le_of_ble_eq_true rfl) ht mt_X5_spread rfl lm_X5_35 (ok_X5_spread hw) (Nat.le_of_ble_eq_true rfl) dX5_load_135 rfl (rest := []) rfl (Nat.le_of_ble_eq_true rfl) (fun S1 hw => ?_)
      refine m_iinc hc 1 (x4 + 1) [(4, .int (x4 + 1)), (0, .ref x0)] dX5_load_138 rfl rfl (Nat.le_of_ble_eq_true rfl) rfl ?_
      refine m_goto hc 91 dX5_load_141 rfl ?_
      refine m_sub [1, 0] rfl ?_
      exact h91 x0 (x4 + 1) S1 hw
def wb_X5_load_56 (M : Nat × Nat) (K56 : Nat → Int32 → HS → Prop) (K : Int32 → HS → Prop) (x0 : Nat) (x4 : Int32) (S : HS) : Prop := hT S x0 = 6 ∧ hT S x0 = 6 ∧ (((hI S x0 2) * (hI S x0 2)) ≤ x4 → ∃ nn : Nat, wl_X5_load_91 M K nn x0 0 S) ∧ (¬ (((hI S x0 2) * (hI S x0 2)) ≤ x4) → hT S x0 = 6 ∧ hT S x0 = 6 ∧ wp_X5_spread M x0 (x4 * (hI S x0 2)) 1 S (fun r1 S1 => K56 x0 (x4 + 1) S1))
def wl_X5_load_56 (M : Nat × Nat) (K : Int32 → HS → Prop) : Nat → Nat → Int32 → HS → Prop
  | 0 => fun _ _ _ => False
  | nn + 1 => wb_X5_load_56 M (wl_X5_load_56 M K nn) K
set_option maxHeartbeats 4000000 in
set_option maxRecDepth 100000 in
theorem l_X5_load_56 {G : CG} {S0 : HS} {X : Fx} {K : Int32 → HS → Prop} (hc : Cx X RX5 cX5_load 5) (hr : Cc G S0 2 none (kV K) X) : ∀ (nn : Nat) (x0 : Nat) (x4 : Int32) (S : HS), wl_X5_load_56 (gC G, gS G) K nn x0 x4 S → MC G S0 X 5 S 56 [(0, .ref x0), (4, .int x4)] [] := by
  intro nn
  induction nn with
  | zero => intro x0 x4 S hw; exact False.elim hw
  | succ nn ih =>
    intro x0 x4 S hw
    have hw : wb_X5_load_56 (gC G, gS G) (wl_X5_load_56 (gC G, gS G) K nn) K x0 x4 S := hw
    have h56 := ih
    generalize wl_X5_load_56 (gC G, gS G) K nn = K56 at hw h56
    unfold wb_X5_load_56 at hw
    refine m_iload hc 1 dX5_load_56 rfl ?_
    refine m_aload_n hc 0 dX5_load_58 rfl rfl ?_
    obtain ⟨ht, hw⟩ := hw
    refine c_geti hc hr ciX5 (Nat.le_of_ble_eq_true rfl) 2 (Nat.le_of_ble_eq_true rfl) rfl dX5_load_59 lf_X5_18 ht ?_
    refine m_aload_n hc 0 dX5_load_62 rfl rfl ?_
    obtain ⟨ht, hw⟩ := hw
    refine c_geti hc hr ciX5 (Nat.le_of_ble_eq_true rfl) 2 (Nat.le_of_ble_eq_true rfl) rfl dX5_load_63 lf_X5_18 ht ?_
    refine m_imul hc dX5_load_66 ?_
    refine m_icmp_ge hc 88 dX5_load_67 rfl (fun cq => ?_) (fun cq => ?_)
    · have hw := hw.1 cq
      refine m_iconst hc 0 dX5_load_88 (by decide) ?_
      refine m_istore hc [(4, .int 0), (0, .ref x0)] dX5_load_89 (Nat.le_of_ble_eq_true rfl) rfl ?_
      refine m_sub [1, 0] rfl ?_
      obtain ⟨nn, hw⟩ := hw
      exact l_X5_load_91 hc hr nn x0 0 S hw
    · have hw := hw.2 cq
      refine m_aload_n hc 0 dX5_load_70 rfl rfl ?_
      refine m_iload hc 1 dX5_load_71 rfl ?_
      refine m_aload_n hc 0 dX5_load_73 rfl rfl ?_
      obtain ⟨ht, hw⟩ := hw
      refine c_geti hc hr ciX5 (Nat.le_of_ble_eq_true rfl) 2 (Nat.le_of_ble_eq_true rfl) rfl dX5_load_74 lf_X5_18 ht ?_
      refine m_imul hc dX5_load_77 ?_
      refine m_iconst hc 1 dX5_load_78 (by decide) ?_
      obtain ⟨ht, hw⟩ := hw
      refine c_callVv hc hr ciX5 (Nat.le_of_ble_eq_true rfl) ht mt_X5_spread rfl lm_X5_35 (ok_X5_spread hw) (Nat.le_of_ble_eq_true rfl) dX5_load_79 rfl (rest := []) rfl (Nat.le_of_ble_eq_true rfl) (fun S1 hw => ?_)
      refine m_iinc hc 1 (x4 + 1) [(4, .int (x4 + 1)), (0, .ref x0)] dX5_load_82 rfl rfl (Nat.le_of_ble_eq_true rfl) rfl ?_
      refine m_goto hc 56 dX5_load_85 rfl ?_
      refine m_sub [1, 0] rfl ?_
      exact h56 x0 (x4 + 1) S1 hw
def wp_X5_load (M : Nat × Nat) (x0 x1 x2 : Nat) (x3 : Int32) (S : HS) (K : Int32 → HS → Prop) : Prop := hT S x0 = 6 ∧ hT (sI S x0 2 x3) x0 = 6 ∧ hT (sI S x0 2 x3) x0 = 6 ∧ hT (sI S x0 2 x3) x0 = 6 ∧ hT (sI S x0 2 x3) x0 = 6 ∧ hT (sI (sI S x0 2 x3) x0 3 (((hI (sI S x0 2 x3) x0 2) * (hI (sI S x0 2 x3) x0 2)) * (hI (sI S x0 2 x3) x0 2))) x0 = 6 ∧ ∃ b1 : Nat, hP (sI (sI S x0 2 x3) x0 3 (((hI (sI S x0 2 x3) x0 2) * (hI (sI S x0 2 x3) x0 2)) * (hI (sI S x0 2 x3) x0 2))) x0 0 = some b1 ∧ hT (sI (sI S x0 2 x3) x0 3 (((hI (sI S x0 2 x3) x0 2) * (hI (sI S x0 2 x3) x0 2)) * (hI (sI S x0 2 x3) x0 2))) x0 = 6 ∧ wp_J7_fill_fda19 M b1 0 (hI (sI (sI S x0 2 x3) x0 3 (((hI (sI S x0 2 x3) x0 2) * (hI (sI S x0 2 x3) x0 2)) * (hI (sI S x0 2 x3) x0 2))) x0 3) 0 (sI (sI S x0 2 x3) x0 3 (((hI (sI S x0 2 x3) x0 2) * (hI (sI S x0 2 x3) x0 2)) * (hI (sI S x0 2 x3) x0 2))) (fun r2 S2 => hT S2 x0 = 6 ∧ wp_X5_addReduced M x0 x1 1 S2 (fun r3 S3 => hT S3 x0 = 6 ∧ hT S3 x0 = 6 ∧ wp_X5_addReduced M x0 x2 ((hI S3 x0 2) - 1) S3 (fun r4 S4 => ∃ nn : Nat, wl_X5_load_56 M K nn x0 0 S4)))
set_option maxHeartbeats 4000000 in
set_option maxRecDepth 100000 in
theorem ok_X5_load {G : CG} {x0 : Nat} {x1 : Nat} {x2 : Nat} {x3 : Int32} {S : HS} {K : Int32 → HS → Prop} (hw : wp_X5_load (gC G, gS G) x0 x1 x2 x3 S K) : CC 2 yX5_load cX5_load 5 none [.ref x0, .ref x1, .ref x2, .int x3] G S (kV K) := by
  refine CC.of (by decide +kernel) (Nat.le_of_ble_eq_true rfl) (fun X hc hr hname => ?_)
  show MC G S X 5 S 0 [(0, .ref x0), (1, .ref x1), (2, .ref x2), (3, .int x3)] []
  unfold wp_X5_load at hw
  refine m_aload_n hc 0 dX5_load_0 rfl rfl ?_
  refine m_iload_n hc 3 dX5_load_1 rfl rfl ?_
  obtain ⟨ht, hw⟩ := hw
  refine c_puti hc hr ciX5 (Nat.le_of_ble_eq_true rfl) 2 (Nat.le_of_ble_eq_true rfl) rfl dX5_load_2 lf_X5_18 ht (Or.inl rfl) ⟨rfl, rfl⟩ ?_
  refine m_aload_n hc 0 dX5_load_5 rfl rfl ?_
  refine m_aload_n hc 0 dX5_load_6 rfl rfl ?_
  obtain ⟨ht, hw⟩ := hw
  refine c_geti hc hr ciX5 (Nat.le_of_ble_eq_true rfl) 2 (Nat.le_of_ble_eq_true rfl) rfl dX5_load_7 lf_X5_18 ht ?_
  refine m_aload_n hc 0 dX5_load_10 rfl rfl ?_
  obtain ⟨ht, hw⟩ := hw
  refine c_geti hc hr ciX5 (Nat.le_of_ble_eq_true rfl) 2 (Nat.le_of_ble_eq_true rfl) rfl dX5_load_11 lf_X5_18 ht ?_
  refine m_imul hc dX5_load_14 ?_
  refine m_aload_n hc 0 dX5_load_15 rfl rfl ?_
  obtain ⟨ht, hw⟩ := hw
  refine c_geti hc hr ciX5 (Nat.le_of_ble_eq_true rfl) 2 (Nat.le_of_ble_eq_true rfl) rfl dX5_load_16 lf_X5_18 ht ?_
  refine m_imul hc dX5_load_19 ?_
  obtain ⟨ht, hw⟩ := hw
  refine c_puti hc hr ciX5 (Nat.le_of_ble_eq_true rfl) 3 (Nat.le_of_ble_eq_true rfl) rfl dX5_load_20 lf_X5_22 ht (Or.inl rfl) ⟨rfl, rfl⟩ ?_
  refine m_aload_n hc 0 dX5_load_23 rfl rfl ?_
  obtain ⟨ht, b1, e_b1, hw⟩ := hw
  refine c_getr hc hr ciX5 (Nat.le_of_ble_eq_true rfl) 0 (Nat.le_of_ble_eq_true rfl) rfl dX5_load_24 lf_X5_9 ht e_b1 ?_
  refine m_iconst hc 0 dX5_load_27 (by decide) ?_
  refine m_aload_n hc 0 dX5_load_28 rfl rfl ?_
  obtain ⟨ht, hw⟩ := hw
  refine c_geti hc hr ciX5 (Nat.le_of_ble_eq_true rfl) 3 (Nat.le_of_ble_eq_true rfl) rfl dX5_load_29 lf_X5_22 ht ?_
  refine m_iconst hc 0 dX5_load_32 (by decide) ?_
  refine c_callSv hc hr mt_J7_fill_fda19 lm_X5_25 (ok_J7_fill_fda19 hw) (Nat.le_of_ble_eq_true rfl) dX5_load_33 rfl (rest := []) rfl (Nat.le_of_ble_eq_true rfl) (fun S2 hw => ?_)
  refine m_aload_n hc 0 dX5_load_36 rfl rfl ?_
  refine m_aload_n hc 1 dX5_load_37 rfl rfl ?_
  refine m_iconst hc 1 dX5_load_38 (by decide) ?_
  obtain ⟨ht, hw⟩ := hw
  refine c_callVv hc hr ciX5 (Nat.le_of_ble_eq_true rfl) ht mt_X5_addReduced rfl lm_X5_31 (ok_X5_addReduced hw) (Nat.le_of_ble_eq_true rfl) dX5_load_39 rfl (rest := []) rfl (Nat.le_of_ble_eq_true rfl) (fun S3 hw => ?_)
  refine m_aload_n hc 0 dX5_load_42 rfl rfl ?_
  refine m_aload_n hc 2 dX5_load_43 rfl rfl ?_
  refine m_aload_n hc 0 dX5_load_44 rfl rfl ?_
  obtain ⟨ht, hw⟩ := hw
  refine c_geti hc hr ciX5 (Nat.le_of_ble_eq_true rfl) 2 (Nat.le_of_ble_eq_true rfl) rfl dX5_load_45 lf_X5_18 ht ?_
  refine m_iconst hc 1 dX5_load_48 (by decide) ?_
  refine m_isub hc dX5_load_49 ?_
  obtain ⟨ht, hw⟩ := hw
  refine c_callVv hc hr ciX5 (Nat.le_of_ble_eq_true rfl) ht mt_X5_addReduced rfl lm_X5_31 (ok_X5_addReduced hw) (Nat.le_of_ble_eq_true rfl) dX5_load_50 rfl (rest := []) rfl (Nat.le_of_ble_eq_true rfl) (fun S4 hw => ?_)
  refine m_iconst hc 0 dX5_load_53 (by decide) ?_
  refine m_istore hc [(4, .int 0), (0, .ref x0), (1, .ref x1), (2, .ref x2), (3, .int x3)] dX5_load_54 (Nat.le_of_ble_eq_true rfl) rfl ?_
  refine m_sub [1, 0] rfl ?_
  obtain ⟨nn, hw⟩ := hw
  exact l_X5_load_56 hc hr nn x0 0 S4 hw
def wb_X2_loadHighest_14 (M : Nat × Nat) (K14 : Nat → Nat → Int32 → Int32 → HS → Prop) (K : Int32 → HS → Prop) (x0 x1 : Nat) (x2 x3 : Int32) (S : HS) : Prop := hT S x1 = 7 ∧ ((hI S x1 2) ≤ x3 → hT S x0 = 3 ∧ ∃ b1 : Nat, hP S x0 5 = some b1 ∧ hT S x0 = 3 ∧ ∃ b2 : Nat, hP S x0 3 = some b2 ∧ hT S x0 = 3 ∧ ∃ b3 : Nat, hP S x0 2 = some b3 ∧ hT S x0 = 3 ∧ hT S b1 = 6 ∧ wp_X5_load M b1 b2 b3 (hI S x0 12) S (fun r4 S4 => K 0 S4)) ∧ (¬ ((hI S x1 2) ≤ x3) → hT S x1 = 7 ∧ ∃ b5 : Nat, hP S x1 0 = some b5 ∧ hT S b5 = 21 ∧ vp_in x3 (hN S b5) ∧ wp_X6_degreeOf M (hI S b5 (Int32.toNatClampNeg x3)) S (fun r6 S6 => (¬ r6 = x2 → K14 x0 x1 x2 (x3 + 1) S6) ∧ (r6 = x2 → hT S6 x0 = 3 ∧ ∃ b7 : Nat, hP S6 x0 3 = some b7 ∧ hT S6 x1 = 7 ∧ ∃ b8 : Nat, hP S6 x1 0 = some b8 ∧ hT S6 b8 = 21 ∧ vp_in x3 (hN S6 b8) ∧ hT S6 x1 = 7 ∧ ∃ b9 : Nat, hP S6 x1 1 = some b9 ∧ hT S6 b9 = 21 ∧ vp_in x3 (hN S6 b9) ∧ hT S6 b7 = 7 ∧ wp_X6_push M b7 (hI S6 b8 (Int32.toNatClampNeg x3)) (hI S6 b9 (Int32.toNatClampNeg x3)) S6 (fun r10 S10 => K14 x0 x1 x2 (x3 + 1) S10))))
def wl_X2_loadHighest_14 (M : Nat × Nat) (K : Int32 → HS → Prop) : Nat → Nat → Nat → Int32 → Int32 → HS → Prop
  | 0 => fun _ _ _ _ _ => False
  | nn + 1 => wb_X2_loadHighest_14 M (wl_X2_loadHighest_14 M K nn) K
set_option maxHeartbeats 4000000 in
set_option maxRecDepth 100000 in
theorem l_X2_loadHighest_14 {G : CG} {S0 : HS} {X : Fx} {K : Int32 → HS → Prop} (hc : Cx X RX2 cX2_loadHighest 4) (hr : Cc G S0 3 none (kV K) X) : ∀ (nn : Nat) (x0 x1 : Nat) (x2 x3 : Int32) (S : HS), wl_X2_loadHighest_14 (gC G, gS G) K nn x0 x1 x2 x3 S → MC G S0 X 4 S 14 [(0, .ref x0), (1, .ref x1), (2, .int x2), (3, .int x3)] [] := by
  intro nn
  induction nn with
  | zero => intro x0 x1 x2 x3 S hw; exact False.elim hw
  | succ nn ih =>
    intro x0 x1 x2 x3 S hw
    have hw : wb_X2_loadHighest_14 (gC G, gS G) (wl_X2_loadHighest_14 (gC G, gS G) K nn) K x0 x1 x2 x3 S := hw
    have h14 := ih
    generalize wl_X2_loadHighest_14 (gC G, gS G) K nn = K14 at hw h14
    unfold wb_X2_loadHighest_14 at hw
    refine m_iload_n hc 3 dX2_loadHighest_14 rfl rfl ?_
    refine m_aload_n hc 1 dX2_loadHighest_15 rfl rfl ?_
    obtain ⟨ht, hw⟩ := hw
    refine c_geti hc hr ciX6 (Nat.le_of_ble_eq_true rfl) 2 (Nat.le_of_ble_eq_true rfl) rfl dX2_loadHighest_16 lf_X2_121 ht ?_
    refine m_icmp_ge hc 60 dX2_loadHighest_19 rfl (fun cq => ?_) (fun cq => ?_)
    · have hw := hw.1 cq
      refine m_aload_n hc 0 dX2_loadHighest_60 rfl rfl ?_
      obtain ⟨ht, b1, e_b1, hw⟩ := hw
      refine c_getr hc hr ciX2 (Nat.le_of_ble_eq_true rfl) 5 (Nat.le_of_ble_eq_true rfl) rfl dX2_loadHighest_61 lf_X2_38 ht e_b1 ?_
      refine m_aload_n hc 0 dX2_loadHighest_64 rfl rfl ?_
      obtain ⟨ht, b2, e_b2, hw⟩ := hw
      refine c_getr hc hr ciX2 (Nat.le_of_ble_eq_true rfl) 3 (Nat.le_of_ble_eq_true rfl) rfl dX2_loadHighest_65 lf_X2_28 ht e_b2 ?_
      refine m_aload_n hc 0 dX2_loadHighest_68 rfl rfl ?_
      obtain ⟨ht, b3, e_b3, hw⟩ := hw
      refine c_getr hc hr ciX2 (Nat.le_of_ble_eq_true rfl) 2 (Nat.le_of_ble_eq_true rfl) rfl dX2_loadHighest_69 lf_X2_24 ht e_b3 ?_
      refine m_aload_n hc 0 dX2_loadHighest_72 rfl rfl ?_
      obtain ⟨ht, hw⟩ := hw
      refine c_geti hc hr ciX2 (Nat.le_of_ble_eq_true rfl) 12 (Nat.le_of_ble_eq_true rfl) rfl dX2_loadHighest_73 lf_X2_69 ht ?_
      obtain ⟨ht, hw⟩ := hw
      refine c_callVv hc hr ciX5 (Nat.le_of_ble_eq_true rfl) ht mt_X5_load rfl lm_X2_82 (ok_X5_load hw) (Nat.le_of_ble_eq_true rfl) dX2_loadHighest_76 rfl (rest := []) rfl (Nat.le_of_ble_eq_true rfl) (fun S4 hw => ?_)
      exact c_vret hc hr dX2_loadHighest_79 hw
    · have hw := hw.2 cq
      refine m_aload_n hc 1 dX2_loadHighest_22 rfl rfl ?_
      obtain ⟨ht, b5, e_b5, hw⟩ := hw
      refine c_getr hc hr ciX6 (Nat.le_of_ble_eq_true rfl) 0 (Nat.le_of_ble_eq_true rfl) rfl dX2_loadHighest_23 lf_X2_125 ht e_b5 ?_
      refine m_iload_n hc 3 dX2_loadHighest_26 rfl rfl ?_
      obtain ⟨ht, hi, hw⟩ := hw
      refine c_iald hc hr ht hi dX2_loadHighest_27 ?_
      refine c_callSi hc hr mt_X6_degreeOf lm_X2_115 (ok_X6_degreeOf hw) (Nat.le_of_ble_eq_true rfl) dX2_loadHighest_28 rfl (rest := []) rfl (Nat.le_of_ble_eq_true rfl) (fun r6 S6 hw => ?_)
      refine m_iload_n hc 2 dX2_loadHighest_31 rfl rfl ?_
      refine m_icmp_ne hc 54 dX2_loadHighest_32 rfl (fun cq => ?_) (fun cq => ?_)
      · have hw := hw.1 cq
        refine m_iinc hc 3 (x3 + 1) [(3, .int (x3 + 1)), (0, .ref x0), (1, .ref x1), (2, .int x2)] dX2_loadHighest_54 rfl rfl (Nat.le_of_ble_eq_true rfl) rfl ?_
        refine m_goto hc 14 dX2_loadHighest_57 rfl ?_
        refine m_sub [1, 2, 3, 0] rfl ?_
        exact h14 x0 x1 x2 (x3 + 1) S6 hw
      · have hw := hw.2 cq
        refine m_aload_n hc 0 dX2_loadHighest_35 rfl rfl ?_
        obtain ⟨ht, b7, e_b7, hw⟩ := hw
        refine c_getr hc hr ciX2 (Nat.le_of_ble_eq_true rfl) 3 (Nat.le_of_ble_eq_true rfl) rfl dX2_loadHighest_36 lf_X2_28 ht e_b7 ?_
        refine m_aload_n hc 1 dX2_loadHighest_39 rfl rfl ?_
        obtain ⟨ht, b8, e_b8, hw⟩ := hw
        refine c_getr hc hr ciX6 (Nat.le_of_ble_eq_true rfl) 0 (Nat.le_of_ble_eq_true rfl) rfl dX2_loadHighest_40 lf_X2_125 ht e_b8 ?_
        refine m_iload_n hc 3 dX2_loadHighest_43 rfl rfl ?_
        obtain ⟨ht, hi, hw⟩ := hw
        refine c_iald hc hr ht hi dX2_loadHighest_44 ?_
        refine m_aload_n hc 1 dX2_loadHighest_45 rfl rfl ?_
        obtain ⟨ht, b9, e_b9, hw⟩ := hw
        refine c_getr hc hr ciX6 (Nat.le_of_ble_eq_true rfl) 1 (Nat.le_of_ble_eq_true rfl) rfl dX2_loadHighest_46 lf_X2_131 ht e_b9 ?_
        refine m_iload_n hc 3 dX2_loadHighest_49 rfl rfl ?_
        obtain ⟨ht, hi, hw⟩ := hw
        refine c_iald hc hr ht hi dX2_loadHighest_50 ?_
        obtain ⟨ht, hw⟩ := hw
        refine c_callVv hc hr ciX6 (Nat.le_of_ble_eq_true rfl) ht mt_X6_push rfl lm_X2_137 (ok_X6_push hw) (Nat.le_of_ble_eq_true rfl) dX2_loadHighest_51 rfl (rest := []) rfl (Nat.le_of_ble_eq_true rfl) (fun S10 hw => ?_)
        refine m_iinc hc 3 (x3 + 1) [(3, .int (x3 + 1)), (0, .ref x0), (1, .ref x1), (2, .int x2)] dX2_loadHighest_54 rfl rfl (Nat.le_of_ble_eq_true rfl) rfl ?_
        refine m_goto hc 14 dX2_loadHighest_57 rfl ?_
        refine m_sub [1, 2, 3, 0] rfl ?_
        exact h14 x0 x1 x2 (x3 + 1) S10 hw
def wp_X2_loadHighest (M : Nat × Nat) (x0 x1 : Nat) (S : HS) (K : Int32 → HS → Prop) : Prop := hT S x1 = 7 ∧ wp_X6_degree M x1 S (fun r1 S1 => hT S1 x0 = 3 ∧ ∃ b2 : Nat, hP S1 x0 3 = some b2 ∧ hT S1 b2 = 7 ∧ wp_X6_clear M b2 S1 (fun r3 S3 => ∃ nn : Nat, wl_X2_loadHighest_14 M K nn x0 x1 r1 0 S3))
set_option maxHeartbeats 4000000 in
set_option maxRecDepth 100000 in
theorem ok_X2_loadHighest {G : CG} {x0 : Nat} {x1 : Nat} {S : HS} {K : Int32 → HS → Prop} (hw : wp_X2_loadHighest (gC G, gS G) x0 x1 S K) : CC 3 yX2_loadHighest cX2_loadHighest 4 none [.ref x0, .ref x1] G S (kV K) := by
  refine CC.of (by decide +kernel) (Nat.le_of_ble_eq_true rfl) (fun X hc hr hname => ?_)
  show MC G S X 4 S 0 [(0, .ref x0), (1, .ref x1)] []
  unfold wp_X2_loadHighest at hw
  refine m_aload_n hc 1 dX2_loadHighest_0 rfl rfl ?_
  obtain ⟨ht, hw⟩ := hw
  refine c_callVi hc hr ciX6 (Nat.le_of_ble_eq_true rfl) ht mt_X6_degree rfl lm_X2_79 (ok_X6_degree hw) (Nat.le_of_ble_eq_true rfl) dX2_loadHighest_1 rfl (rest := []) rfl (Nat.le_of_ble_eq_true rfl) (fun r1 S1 hw => ?_)
  refine m_istore_n hc [(2, .int r1), (0, .ref x0), (1, .ref x1)] dX2_loadHighest_4 rfl (Nat.le_of_ble_eq_true rfl) rfl ?_
  refine m_aload_n hc 1 dX2_loadHighest_5 rfl rfl ?_
  obtain ⟨ht, b2, e_b2, hw⟩ := hw
  refine c_getr hc hr ciX2 (Nat.le_of_ble_eq_true rfl) 3 (Nat.le_of_ble_eq_true rfl) rfl dX2_loadHighest_6 lf_X2_28 ht e_b2 ?_
  obtain ⟨ht, hw⟩ := hw
  refine c_callVv hc hr ciX6 (Nat.le_of_ble_eq_true rfl) ht mt_X6_clear rfl lm_X2_134 (ok_X6_clear hw) (Nat.le_of_ble_eq_true rfl) dX2_loadHighest_9 rfl (rest := []) rfl (Nat.le_of_ble_eq_true rfl) (fun S3 hw => ?_)
  refine m_iconst hc 0 dX2_loadHighest_12 (by decide) ?_
  refine m_istore_n hc [(3, .int 0), (2, .int r1), (0, .ref x0), (1, .ref x1)] dX2_loadHighest_13 rfl (Nat.le_of_ble_eq_true rfl) rfl ?_
  refine m_sub [2, 3, 1, 0] rfl ?_
  obtain ⟨nn, hw⟩ := hw
  exact l_X2_loadHighest_14 hc hr nn x0 x1 r1 0 S3 hw
def wp_X2_note (M : Nat × Nat) (x0 : Nat) (x1 x2 x3 x4 x5 : Int32) (S : HS) (K : Int32 → HS → Prop) : Prop := hT S x0 = 3 ∧ hT S x0 = 3 ∧ ∃ b1 : Nat, hP S x0 0 = some b1 ∧ hT S b1 = 21 ∧ vp_in ((hI S x0 1) * 5) (hN S b1) ∧ hT (sI S b1 (Int32.toNatClampNeg ((hI S x0 1) * 5)) x1) x0 = 3 ∧ ∃ b2 : Nat, hP (sI S b1 (Int32.toNatClampNeg ((hI S x0 1) * 5)) x1) x0 0 = some b2 ∧ hT (sI S b1 (Int32.toNatClampNeg ((hI S x0 1) * 5)) x1) b2 = 21 ∧ vp_in (((hI S x0 1) * 5) + 1) (hN (sI S b1 (Int32.toNatClampNeg ((hI S x0 1) * 5)) x1) b2) ∧ hT (sI (sI S b1 (Int32.toNatClampNeg ((hI S x0 1) * 5)) x1) b2 (Int32.toNatClampNeg (((hI S x0 1) * 5) + 1)) x2) x0 = 3 ∧ ∃ b3 : Nat, hP (sI (sI S b1 (Int32.toNatClampNeg ((hI S x0 1) * 5)) x1) b2 (Int32.toNatClampNeg (((hI S x0 1) * 5) + 1)) x2) x0 0 = some b3 ∧ hT (sI (sI S b1 (Int32.toNatClampNeg ((hI S x0 1) * 5)) x1) b2 (Int32.toNatClampNeg (((hI S x0 1) * 5) + 1)) x2) b3 = 21 ∧ vp_in (((hI S x0 1) * 5) + 2) (hN (sI (sI S b1 (Int32.toNatClampNeg ((hI S x0 1) * 5)) x1) b2 (Int32.toNatClampNeg (((hI S x0 1) * 5) + 1)) x2) b3) ∧ hT (sI (sI (sI S b1 (Int32.toNatClampNeg ((hI S x0 1) * 5)) x1) b2 (Int32.toNatClampNeg (((hI S x0 1) * 5) + 1)) x2) b3 (Int32.toNatClampNeg (((hI S x0 1) * 5) + 2)) x3) x0 = 3 ∧ ∃ b4 : Nat, hP (sI (sI (sI S b1 (Int32.toNatClampNeg ((hI S x0 1) * 5)) x1) b2 (Int32.toNatClampNeg (((hI S x0 1) * 5) + 1)) x2) b3 (Int32.toNatClampNeg (((hI S x0 1) * 5) + 2)) x3) x0 0 = some b4 ∧ hT (sI (sI (sI S b1 (Int32.toNatClampNeg ((hI S x0 1) * 5)) x1) b2 (Int32.toNatClampNeg (((hI S x0 1) * 5) + 1)) x2) b3 (Int32.toNatClampNeg (((hI S x0 1) * 5) + 2)) x3) b4 = 21 ∧ vp_in (((hI S x0 1) * 5) + 3) (hN (sI (sI (sI S b1 (Int32.toNatClampNeg ((hI S x0 1) * 5)) x1) b2 (Int32.toNatClampNeg (((hI S x0 1) * 5) + 1)) x2) b3 (Int32.toNatClampNeg (((hI S x0 1) * 5) + 2)) x3) b4) ∧ hT (sI (sI (sI (sI S b1 (Int32.toNatClampNeg ((hI S x0 1) * 5)) x1) b2 (Int32.toNatClampNeg (((hI S x0 1) * 5) + 1)) x2) b3 (Int32.toNatClampNeg (((hI S x0 1) * 5) + 2)) x3) b4 (Int32.toNatClampNeg (((hI S x0 1) * 5) + 3)) x4) x0 = 3 ∧ ∃ b5 : Nat, hP (sI (sI (sI (sI S b1 (Int32.toNatClampNeg ((hI S x0 1) * 5)) x1) b2 (Int32.toNatClampNeg (((hI S x0 1) * 5) + 1)) x2) b3 (Int32.toNatClampNeg (((hI S x0 1) * 5) + 2)) x3) b4 (Int32.toNatClampNeg (((hI S x0 1) * 5) + 3)) x4) x0 0 = some b5 ∧ hT (sI (sI (sI (sI S b1 (Int32.toNatClampNeg ((hI S x0 1) * 5)) x1) b2 (Int32.toNatClampNeg (((hI S x0 1) * 5) + 1)) x2) b3 (Int32.toNatClampNeg (((hI S x0 1) * 5) + 2)) x3) b4 (Int32.toNatClampNeg (((hI S x0 1) * 5) + 3)) x4) b5 = 21 ∧ vp_in (((hI S x0 1) * 5) + 4) (hN (sI (sI (sI (sI S b1 (Int32.toNatClampNeg ((hI S x0 1) * 5)) x1) b2 (Int32.toNatClampNeg (((hI S x0 1) * 5) + 1)) x2) b3 (Int32.toNatClampNeg (((hI S x0 1) * 5) + 2)) x3) b4 (Int32.toNatClampNeg (((hI S x0 1) * 5) + 3)) x4) b5) ∧ hT (sI (sI (sI (sI (sI S b1 (Int32.toNatClampNeg ((hI S x0 1) * 5)) x1) b2 (Int32.toNatClampNeg (((hI S x0 1) * 5) + 1)) x2) b3 (Int32.toNatClampNeg (((hI S x0 1) * 5) + 2)) x3) b4 (Int32.toNatClampNeg (((hI S x0 1) * 5) + 3)) x4) b5 (Int32.toNatClampNeg (((hI S x0 1) * 5) + 4)) x5) x0 = 3 ∧ hT (sI (sI (sI (sI (sI S b1 (Int32.toNatClampNeg ((hI S x0 1) * 5)) x1) b2 (Int32.toNatClampNeg (((hI S x0 1) * 5) + 1)) x2) b3 (Int32.toNatClampNeg (((hI S x0 1) * 5) + 2)) x3) b4 (Int32.toNatClampNeg (((hI S x0 1) * 5) + 3)) x4) b5 (Int32.toNatClampNeg (((hI S x0 1) * 5) + 4)) x5) x0 = 3 ∧ K 0 (sI (sI (sI (sI (sI (sI S b1 (Int32.toNatClampNeg ((hI S x0 1) * 5)) x1) b2 (Int32.toNatClampNeg (((hI S x0 1) * 5) + 1)) x2) b3 (Int32.toNatClampNeg (((hI S x0 1) * 5) + 2)) x3) b4 (Int32.toNatClampNeg (((hI S x0 1) * 5) + 3)) x4) b5 (Int32.toNatClampNeg (((hI S x0 1) * 5) + 4)) x5) x0 1 ((hI (sI (sI (sI (sI (sI S b1 (Int32.toNatClampNeg ((hI S x0 1) * 5)) x1) b2 (Int32.toNatClampNeg (((hI S x0 1) * 5) + 1)) x2) b3 (Int32.toNatClampNeg (((hI S x0 1) * 5) + 2)) x3) b4 (Int32.toNatClampNeg (((hI S x0 1) * 5) + 3)) x4) b5 (Int32.toNatClampNeg (((hI S x0 1) * 5) + 4)) x5) x0 1) + 1))
set_option maxHeartbeats 4000000 in
set_option maxRecDepth 100000 in
theorem ok_X2_note {G : CG} {x0 : Nat} {x1 : Int32} {x2 : Int32} {x3 : Int32} {x4 : Int32} {x5 : Int32} {S : HS} {K : Int32 → HS → Prop} (hw : wp_X2_note (gC G, gS G) x0 x1 x2 x3 x4 x5 S K) : CC 0 yX2_note cX2_note 7 none [.ref x0, .int x1, .int x2, .int x3, .int x4, .int x5] G S (kV K) := by
  refine CC.of (by decide +kernel) (Nat.le_of_ble_eq_true rfl) (fun X hc hr hname => ?_)
  show MC G S X 7 S 0 [(0, .ref x0), (1, .int x1), (2, .int x2), (3, .int x3), (4, .int x4), (5, .int x5)] []
  unfold wp_X2_note at hw
  refine m_aload_n hc 0 dX2_note_0 rfl rfl ?_
  obtain ⟨ht, hw⟩ := hw
  refine c_geti hc hr ciX2 (Nat.le_of_ble_eq_true rfl) 1 (Nat.le_of_ble_eq_true rfl) rfl dX2_note_1 lf_X2_15 ht ?_
  refine m_iconst hc 5 dX2_note_4 (by decide) ?_
  refine m_imul hc dX2_note_5 ?_
  refine m_istore hc [(6, .int ((hI S x0 1) * 5)), (0, .ref x0), (1, .int x1), (2, .int x2), (3, .int x3), (4, .int x4), (5, .int x5)] dX2_note_6 (Nat.le_of_ble_eq_true rfl) rfl ?_
  refine m_aload_n hc 1 dX2_note_8 rfl rfl ?_
  obtain ⟨ht, b1, e_b1, hw⟩ := hw
  refine c_getr hc hr ciX2 (Nat.le_of_ble_eq_true rfl) 0 (Nat.le_of_ble_eq_true rfl) rfl dX2_note_9 lf_X2_11 ht e_b1 ?_
  refine m_iload hc 0 dX2_note_12 rfl ?_
  refine m_iload_n hc 2 dX2_note_14 rfl rfl ?_
  obtain ⟨ht, hi, hw⟩ := hw
  refine c_iast hc hr ht hi dX2_note_15 ?_
  refine m_aload_n hc 1 dX2_note_16 rfl rfl ?_
  obtain ⟨ht, b2, e_b2, hw⟩ := hw
  refine c_getr hc hr ciX2 (Nat.le_of_ble_eq_true rfl) 0 (Nat.le_of_ble_eq_true rfl) rfl dX2_note_17 lf_X2_11 ht e_b2 ?_
  refine m_iload hc 0 dX2_note_20 rfl ?_
  refine m_iconst hc 1 dX2_note_22 (by decide) ?_
  refine m_iadd hc dX2_note_23 ?_
  refine m_iload_n hc 3 dX2_note_24 rfl rfl ?_
  obtain ⟨ht, hi, hw⟩ := hw
  refine c_iast hc hr ht hi dX2_note_25 ?_
  refine m_aload_n hc 1 dX2_note_26 rfl rfl ?_
  obtain ⟨ht, b3, e_b3, hw⟩ := hw
  refine c_getr hc hr ciX2 (Nat.le_of_ble_eq_true rfl) 0 (Nat.le_of_ble_eq_true rfl) rfl dX2_note_27 lf_X2_11 ht e_b3 ?_
  refine m_iload hc 0 dX2_note_30 rfl ?_
  refine m_iconst hc 2 dX2_note_32 (by decide) ?_
  refine m_iadd hc dX2_note_33 ?_
  refine m_iload_n hc 4 dX2_note_34 rfl rfl ?_
  obtain ⟨ht, hi, hw⟩ := hw
  refine c_iast hc hr ht hi dX2_note_35 ?_
  refine m_aload_n hc 1 dX2_note_36 rfl rfl ?_
  obtain ⟨ht, b4, e_b4, hw⟩ := hw
  refine c_getr hc hr ciX2 (Nat.le_of_ble_eq_true rfl) 0 (Nat.le_of_ble_eq_true rfl) rfl dX2_note_37 lf_X2_11 ht e_b4 ?_
  refine m_iload hc 0 dX2_note_40 rfl ?_
  refine m_iconst hc 3 dX2_note_42 (by decide) ?_
  refine m_iadd hc dX2_note_43 ?_
  refine m_iload hc 5 dX2_note_44 rfl ?_
  obtain ⟨ht, hi, hw⟩ := hw
  refine c_iast hc hr ht hi dX2_note_46 ?_
  refine m_aload_n hc 1 dX2_note_47 rfl rfl ?_
  obtain ⟨ht, b5, e_b5, hw⟩ := hw
  refine c_getr hc hr ciX2 (Nat.le_of_ble_eq_true rfl) 0 (Nat.le_of_ble_eq_true rfl) rfl dX2_note_48 lf_X2_11 ht e_b5 ?_
  refine m_iload hc 0 dX2_note_51 rfl ?_
  refine m_iconst hc 4 dX2_note_53 (by decide) ?_
  refine m_iadd hc dX2_note_54 ?_
  refine m_iload hc 6 dX2_note_55 rfl ?_
  obtain ⟨ht, hi, hw⟩ := hw
  refine c_iast hc hr ht hi dX2_note_57 ?_
  refine m_aload_n hc 1 dX2_note_58 rfl rfl ?_
  refine m_dup hc dX2_note_59 rfl ?_
  obtain ⟨ht, hw⟩ := hw
  refine c_geti hc hr ciX2 (Nat.le_of_ble_eq_true rfl) 1 (Nat.le_of_ble_eq_true rfl) rfl dX2_note_60 lf_X2_15 ht ?_
  refine m_iconst hc 1 dX2_note_63 (by decide) ?_
  refine m_iadd hc dX2_note_64 ?_
  obtain ⟨ht, hw⟩ := hw
  refine c_puti hc hr ciX2 (Nat.le_of_ble_eq_true rfl) 1 (Nat.le_of_ble_eq_true rfl) rfl dX2_note_65 lf_X2_15 ht (Or.inl rfl) ⟨rfl, rfl⟩ ?_
  exact c_vret hc hr dX2_note_68 hw
def w_X2_canGoIn_31 (M : Nat × Nat) (K : Int32 → HS → Prop) (x0 x1 : Nat) (S : HS) : Prop := hT S x1 = 4 ∧ ((hI S x1 4) = 0 → K 1 S) ∧ (¬ ((hI S x1 4) = 0) → hT S x0 = 3 ∧ ∃ b1 : Nat, hP S x0 8 = some b1 ∧ hT S x1 = 4 ∧ hT S b1 = 21 ∧ vp_in (hI S x1 2) (hN S b1) ∧ ((hI S b1 (Int32.toNatClampNeg (hI S x1 2))) ≤ 0 → K 0 S) ∧ (¬ ((hI S b1 (Int32.toNatClampNeg (hI S x1 2))) ≤ 0) → K 1 S))
set_option maxHeartbeats 4000000 in
set_option maxRecDepth 100000 in
theorem b_X2_canGoIn_31 {G : CG} {S0 : HS} {X : Fx} {K : Int32 → HS → Prop} (hc : Cx X RX2 cX2_canGoIn 2) (hr : Cc G S0 0 (some .boolean) (kI K) X) : ∀ (x0 x1 : Nat) (S : HS), w_X2_canGoIn_31 (gC G, gS G) K x0 x1 S → MC G S0 X 2 S 31 [(0, .ref x0), (1, .ref x1)] [] := by
  intro x0 x1 S hw
  unfold w_X2_canGoIn_31 at hw
  refine m_aload_n hc 1 dX2_canGoIn_31 rfl rfl ?_
  obtain ⟨ht, hw⟩ := hw
  refine c_geti hc hr ciX3 (Nat.le_of_ble_eq_true rfl) 4 (Nat.le_of_ble_eq_true rfl) rfl dX2_canGoIn_32 lf_X2_168 ht ?_
  refine m_if_eq hc 50 dX2_canGoIn_35 rfl (fun cq => ?_) (fun cq => ?_)
  · have hw := hw.1 cq
    refine m_iconst hc 1 dX2_canGoIn_50 (by decide) ?_
    refine m_goto hc 55 dX2_canGoIn_51 rfl ?_
    exact c_zret hc hr dX2_canGoIn_55 (by decide) hw
  · have hw := hw.2 cq
    refine m_aload_n hc 0 dX2_canGoIn_38 rfl rfl ?_
    obtain ⟨ht, b1, e_b1, hw⟩ := hw
    refine c_getr hc hr ciX2 (Nat.le_of_ble_eq_true rfl) 8 (Nat.le_of_ble_eq_true rfl) rfl dX2_canGoIn_39 lf_X2_51 ht e_b1 ?_
    refine m_aload_n hc 1 dX2_canGoIn_42 rfl rfl ?_
    obtain ⟨ht, hw⟩ := hw
    refine c_geti hc hr ciX3 (Nat.le_of_ble_eq_true rfl) 2 (Nat.le_of_ble_eq_true rfl) rfl dX2_canGoIn_43 lf_X2_171 ht ?_
    obtain ⟨ht, hi, hw⟩ := hw
    refine c_iald hc hr ht hi dX2_canGoIn_46 ?_
    refine m_if_le hc 54 dX2_canGoIn_47 rfl (fun cq => ?_) (fun cq => ?_)
    · have hw := hw.1 cq
      refine m_iconst hc 0 dX2_canGoIn_54 (by decide) ?_
      exact c_zret hc hr dX2_canGoIn_55 (by decide) hw
    · have hw := hw.2 cq
      refine m_iconst hc 1 dX2_canGoIn_50 (by decide) ?_
      refine m_goto hc 55 dX2_canGoIn_51 rfl ?_
      exact c_zret hc hr dX2_canGoIn_55 (by decide) hw
def wp_X2_canGoIn (M : Nat × Nat) (x0 x1 : Nat) (S : HS) (K : Int32 → HS → Prop) : Prop := hT S x0 = 3 ∧ ∃ b1 : Nat, hP S x0 8 = some b1 ∧ hT S x1 = 4 ∧ hT S b1 = 21 ∧ vp_in (hI S x1 0) (hN S b1) ∧ ((hI S b1 (Int32.toNatClampNeg (hI S x1 0))) ≤ 0 → K 0 S) ∧ (¬ ((hI S b1 (Int32.toNatClampNeg (hI S x1 0))) ≤ 0) → hT S x1 = 4 ∧ ((hI S x1 3) = 0 → w_X2_canGoIn_31 M K x0 x1 S) ∧ (¬ ((hI S x1 3) = 0) → hT S x0 = 3 ∧ ∃ b2 : Nat, hP S x0 8 = some b2 ∧ hT S x1 = 4 ∧ hT S b2 = 21 ∧ vp_in (hI S x1 1) (hN S b2) ∧ ((hI S b2 (Int32.toNatClampNeg (hI S x1 1))) ≤ 0 → K 0 S) ∧ (¬ ((hI S b2 (Int32.toNatClampNeg (hI S x1 1))) ≤ 0) → w_X2_canGoIn_31 M K x0 x1 S)))
set_option maxHeartbeats 4000000 in
set_option maxRecDepth 100000 in
theorem ok_X2_canGoIn {G : CG} {x0 : Nat} {x1 : Nat} {S : HS} {K : Int32 → HS → Prop} (hw : wp_X2_canGoIn (gC G, gS G) x0 x1 S K) : CC 0 yX2_canGoIn cX2_canGoIn 2 (some .boolean) [.ref x0, .ref x1] G S (kI K) := by
  refine CC.of (by decide +kernel) (Nat.le_of_ble_eq_true rfl) (fun X hc hr hname => ?_)
  show MC G S X 2 S 0 [(0, .ref x0), (1, .ref x1)] []
  unfold wp_X2_canGoIn at hw
  refine m_aload_n hc 0 dX2_canGoIn_0 rfl rfl ?_
  obtain ⟨ht, b1, e_b1, hw⟩ := hw
  refine c_getr hc hr ciX2 (Nat.le_of_ble_eq_true rfl) 8 (Nat.le_of_ble_eq_true rfl) rfl dX2_canGoIn_1 lf_X2_51 ht e_b1 ?_
  refine m_aload_n hc 1 dX2_canGoIn_4 rfl rfl ?_
  obtain ⟨ht, hw⟩ := hw
  refine c_geti hc hr ciX3 (Nat.le_of_ble_eq_true rfl) 0 (Nat.le_of_ble_eq_true rfl) rfl dX2_canGoIn_5 lf_X2_156 ht ?_
  obtain ⟨ht, hi, hw⟩ := hw
  refine c_iald hc hr ht hi dX2_canGoIn_8 ?_
  refine m_if_le hc 54 dX2_canGoIn_9 rfl (fun cq => ?_) (fun cq => ?_)
  · have hw := hw.1 cq
    refine m_iconst hc 0 dX2_canGoIn_54 (by decide) ?_
    exact c_zret hc hr dX2_canGoIn_55 (by decide) hw
  · have hw := hw.2 cq
    refine m_aload_n hc 1 dX2_canGoIn_12 rfl rfl ?_
    obtain ⟨ht, hw⟩ := hw
    refine c_geti hc hr ciX3 (Nat.le_of_ble_eq_true rfl) 3 (Nat.le_of_ble_eq_true rfl) rfl dX2_canGoIn_13 lf_X2_162 ht ?_
    refine m_if_eq hc 31 dX2_canGoIn_16 rfl (fun cq => ?_) (fun cq => ?_)
    · have hw := hw.1 cq
      exact b_X2_canGoIn_31 hc hr x0 x1 S hw
    · have hw := hw.2 cq
      refine m_aload_n hc 0 dX2_canGoIn_19 rfl rfl ?_
      obtain ⟨ht, b2, e_b2, hw⟩ := hw
      refine c_getr hc hr ciX2 (Nat.le_of_ble_eq_true rfl) 8 (Nat.le_of_ble_eq_true rfl) rfl dX2_canGoIn_20 lf_X2_51 ht e_b2 ?_
      refine m_aload_n hc 1 dX2_canGoIn_23 rfl rfl ?_
      obtain ⟨ht, hw⟩ := hw
      refine c_geti hc hr ciX3 (Nat.le_of_ble_eq_true rfl) 1 (Nat.le_of_ble_eq_true rfl) rfl dX2_canGoIn_24 lf_X2_165 ht ?_
      obtain ⟨ht, hi, hw⟩ := hw
      refine c_iald hc hr ht hi dX2_canGoIn_27 ?_
      refine m_if_le hc 54 dX2_canGoIn_28 rfl (fun cq => ?_) (fun cq => ?_)
      · have hw := hw.1 cq
        refine m_iconst hc 0 dX2_canGoIn_54 (by decide) ?_
        exact c_zret hc hr dX2_canGoIn_55 (by decide) hw
      · have hw := hw.2 cq
        exact b_X2_canGoIn_31 hc hr x0 x1 S hw
def w_X2_divideSlice_291 (M : Nat × Nat) (K141 : Nat → Int32 → Nat → Int32 → Int32 → Int32 → Int32 → Int32 → Int32 → Int32 → Int32 → Int32 → HS → Prop) (K176 : Nat → Int32 → Nat → Int32 → Int32 → Int32 → Int32 → Int32 → Int32 → Int32 → Int32 → Int32 → Int32 → Int32 → HS → Prop) (K : Int32 → HS → Prop) (x0 : Nat) (x2 : Int32) (x3 : Nat) (x4 x5 x6 x7 x8 x9 x10 x11 x12 x13 x14 x16 x17 : Int32) (S : HS) : Prop := (x8 = 0 → K176 x0 x2 x3 x4 x5 x6 x7 x8 x9 x10 x11 x12 x13 (x14 + 1) S) ∧ (¬ (x8 = 0) → hT S x3 = 21 ∧ vp_in (x17 + x6) (hN S x3) ∧ hT S x3 = 21 ∧ vp_in (x17 + x6) (hN S x3) ∧ K176 x0 x2 x3 x4 x5 x6 x7 x8 x9 x10 x11 x12 x13 (x14 + 1) (sI S x3 (Int32.toNatClampNeg (x17 + x6)) ((hI S x3 (Int32.toNatClampNeg (x17 + x6))) + (x8 * x16))))
set_option maxHeartbeats 4000000 in
set_option maxRecDepth 100000 in
theorem b_X2_divideSlice_291 {G : CG} {S0 : HS} {X : Fx} {K : Int32 → HS → Prop} (hc : Cx X RX2 cX2_divideSlice 18) (hr : Cc G S0 1 (some .boolean) (kI K) X) (K141 : Nat → Int32 → Nat → Int32 → Int32 → Int32 → Int32 → Int32 → Int32 → Int32 → Int32 → Int32 → HS → Prop) (K176 : Nat → Int32 → Nat → Int32 → Int32 → Int32 → Int32 → Int32 → Int32 → Int32 → Int32 → Int32 → Int32 → Int32 → HS → Prop) (h141 : ∀ (x0 : Nat) (x2 : Int32) (x3 : Nat) (x4 x5 x6 x7 x8 x9 x10 x11 x12 : Int32) (S : HS), K141 x0 x2 x3 x4 x5 x6 x7 x8 x9 x10 x11 x12 S → MC G S0 X 18 S 141 [(0, .ref x0), (2, .int x2), (3, .ref x3), (4, .int x4), (5, .int x5), (6, .int x6), (7, .int x7), (8, .int x8), (9, .int x9), (10, .int x10), (11, .int x11), (12, .int x12)] []) (h176 : ∀ (x0 : Nat) (x2 : Int32) (x3 : Nat) (x4 x5 x6 x7 x8 x9 x10 x11 x12 x13 x14 : Int32) (S : HS), K176 x0 x2 x3 x4 x5 x6 x7 x8 x9 x10 x11 x12 x13 x14 S → MC G S0 X 18 S 176 [(0, .ref x0), (2, .int x2), (3, .ref x3), (4, .int x4), (5, .int x5), (6, .int x6), (7, .int x7), (8, .int x8), (9, .int x9), (10, .int x10), (11, .int x11), (12, .int x12), (13, .int x13), (14, .int x14)] []) : ∀ (x0 : Nat) (x2 : Int32) (x3 : Nat) (x4 x5 x6 x7 x8 x9 x10 x11 x12 x13 x14 x16 x17 : Int32) (S : HS), w_X2_divideSlice_291 (gC G, gS G) K141 K176 K x0 x2 x3 x4 x5 x6 x7 x8 x9 x10 x11 x12 x13 x14 x16 x17 S → MC G S0 X 18 S 291 [(0, .ref x0), (2, .int x2), (3, .ref x3), (4, .int x4), (5, .int x5), (6, .int x6), (7, .int x7), (8, .int x8), (9, .int x9), (10, .int x10), (11, .int x11), (12, .int x12), (13, .int x13), (14, .int x14), (16, .int x16), (17, .int x17)] [] := by
  intro x0 x2 x3 x4 x5 x6 x7 x8 x9 x10 x11 x12 x13 x14 x16 x17 S hw
  unfold w_X2_divideSlice_291 at hw
  refine m_iload hc 7 dX2_divideSlice_291 rfl ?_
  refine m_if_eq hc 311 dX2_divideSlice_293 rfl (fun cq => ?_) (fun cq => ?_)
  · have hw := hw.1 cq
    refine m_iinc hc 13 (x14 + 1) [(14, .int (x14 + 1)), (0, .ref x0), (2, .int x2), (3, .ref x3), (4, .int x4), (5, .int x5), (6, .int x6), (7, .int x7), (8, .int x8), (9, .int x9), (10, .int x10), (11, .int x11), (12, .int x12), (13, .int x13), (16, .int x16), (17, .int x17)] dX2_divideSlice_311 rfl rfl (Nat.le_of_ble_eq_true rfl) rfl ?_
    refine m_goto hc 176 dX2_divideSlice_314 rfl ?_
    refine m_sub [1, 2, 3, 4, 5, 6, 7, 8, 9, 10, 11, 12, 13, 0] rfl ?_
    exact h176 x0 x2 x3 x4 x5 x6 x7 x8 x9 x10 x11 x12 x13 (x14 + 1) S hw
  · have hw := hw.2 cq
    refine m_aload_n hc 2 dX2_divideSlice_296 rfl rfl ?_
    refine m_iload hc 15 dX2_divideSlice_297 rfl ?_
    refine m_iload hc 5 dX2_divideSlice_299 rfl ?_
    refine m_iadd hc dX2_divideSlice_301 ?_
    refine m_dup2 hc dX2_divideSlice_302 rfl rfl ?_
    obtain ⟨ht, hi, hw⟩ := hw
    refine c_iald hc hr ht hi dX2_divideSlice_303 ?_
    refine m_iload hc 7 dX2_divideSlice_304 rfl ?_
    refine m_iload hc 14 dX2_divideSlice_306 rfl ?_
    refine m_imul hc dX2_divideSlice_308 ?_
    refine m_iadd hc dX2_divideSlice_309 ?_
    obtain ⟨ht, hi, hw⟩ := hw
    refine c_iast hc hr ht hi dX2_divideSlice_310 ?_
    refine m_iinc hc 13 (x14 + 1) [(14, .int (x14 + 1)), (0, .ref x0), (2, .int x2), (3, .ref x3), (4, .int x4), (5, .int x5), (6, .int x6), (7, .int x7), (8, .int x8), (9, .int x9), (10, .int x10), (11, .int x11), (12, .int x12), (13, .int x13), (16, .int x16), (17, .int x17)] dX2_divideSlice_311 rfl rfl (Nat.le_of_ble_eq_true rfl) rfl ?_
    refine m_goto hc 176 dX2_divideSlice_314 rfl ?_
    refine m_sub [1, 2, 3, 4, 5, 6, 7, 8, 9, 10, 11, 12, 13, 0] rfl ?_
    exact h176 x0 x2 x3 x4 x5 x6 x7 x8 x9 x10 x11 x12 x13 (x14 + 1) (sI S x3 (Int32.toNatClampNeg (x17 + x6)) ((hI S x3 (Int32.toNatClampNeg (x17 + x6))) + (x8 * x16))) hw
def w_X2_divideSlice_252 (M : Nat × Nat) (K141 : Nat → Int32 → Nat → Int32 → Int32 → Int32 → Int32 → Int32 → Int32 → Int32 → Int32 → Int32 → HS → Prop) (K176 : Nat → Int32 → Nat → Int32 → Int32 → Int32 → Int32 → Int32 → Int32 → Int32 → Int32 → Int32 → Int32 → Int32 → HS → Prop) (K : Int32 → HS → Prop) (x0 : Nat) (x2 : Int32) (x3 : Nat) (x4 x5 x6 x7 x8 x9 x10 x11 x12 x13 x14 x15 x16 : Int32) (S : HS) : Prop := hT S x3 = 21 ∧ vp_in (x15 - x4) (hN S x3) ∧ hT S x3 = 21 ∧ vp_in (x15 - x4) (hN S x3) ∧ (x7 = 0 → w_X2_divideSlice_291 M K141 K176 K x0 x2 x3 x4 x5 x6 x7 x8 x9 x10 x11 x12 x13 x14 x16 (x15 - x4) (sI S x3 (Int32.toNatClampNeg (x15 - x4)) ((hI S x3 (Int32.toNatClampNeg (x15 - x4))) + (x9 * x16)))) ∧ (¬ (x7 = 0) → hT (sI S x3 (Int32.toNatClampNeg (x15 - x4)) ((hI S x3 (Int32.toNatClampNeg (x15 - x4))) + (x9 * x16))) x3 = 21 ∧ vp_in ((x15 - x4) + x5) (hN (sI S x3 (Int32.toNatClampNeg (x15 - x4)) ((hI S x3 (Int32.toNatClampNeg (x15 - x4))) + (x9 * x16))) x3) ∧ hT (sI S x3 (Int32.toNatClampNeg (x15 - x4)) ((hI S x3 (Int32.toNatClampNeg (x15 - x4))) + (x9 * x16))) x3 = 21 ∧ vp_in ((x15 - x4) + x5) (hN (sI S x3 (Int32.toNatClampNeg (x15 - x4)) ((hI S x3 (Int32.toNatClampNeg (x15 - x4))) + (x9 * x16))) x3) ∧ w_X2_divideSlice_291 M K141 K176 K x0 x2 x3 x4 x5 x6 x7 x8 x9 x10 x11 x12 x13 x14 x16 (x15 - x4) (sI (sI S x3 (Int32.toNatClampNeg (x15 - x4)) ((hI S x3 (Int32.toNatClampNeg (x15 - x4))) + (x9 * x16))) x3 (Int32.toNatClampNeg ((x15 - x4) + x5)) ((hI (sI S x3 (Int32.toNatClampNeg (x15 - x4)) ((hI S x3 (Int32.toNatClampNeg (x15 - x4))) + (x9 * x16))) x3 (Int32.toNatClampNeg ((x15 - x4) + x5))) + (x7 * x16))))
set_option maxHeartbeats 4000000 in
set_option maxRecDepth 100000 in
theorem b_X2_divideSlice_252 {G : CG} {S0 : HS} {X : Fx} {K : Int32 → HS → Prop} (hc : Cx X RX2 cX2_divideSlice 18) (hr : Cc G S0 1 (some .boolean) (kI K) X) (K141 : Nat → Int32 → Nat → Int32 → Int32 → Int32 → Int32 → Int32 → Int32 → Int32 → Int32 → Int32 → HS → Prop) (K176 : Nat → Int32 → Nat → Int32 → Int32 → Int32 → Int32 → Int32 → Int32 → Int32 → Int32 → Int32 → Int32 → Int32 → HS → Prop) (h141 : ∀ (x0 : Nat) (x2 : Int32) (x3 : Nat) (x4 x5 x6 x7 x8 x9 x10 x11 x12 : Int32) (S : HS), K141 x0 x2 x3 x4 x5 x6 x7 x8 x9 x10 x11 x12 S → MC G S0 X 18 S 141 [(0, .ref x0), (2, .int x2), (3, .ref x3), (4, .int x4), (5, .int x5), (6, .int x6), (7, .int x7), (8, .int x8), (9, .int x9), (10, .int x10), (11, .int x11), (12, .int x12)] []) (h176 : ∀ (x0 : Nat) (x2 : Int32) (x3 : Nat) (x4 x5 x6 x7 x8 x9 x10 x11 x12 x13 x14 : Int32) (S : HS), K176 x0 x2 x3 x4 x5 x6 x7 x8 x9 x10 x11 x12 x13 x14 S → MC G S0 X 18 S 176 [(0, .ref x0), (2, .int x2), (3, .ref x3), (4, .int x4), (5, .int x5), (6, .int x6), (7, .int x7), (8, .int x8), (9, .int x9), (10, .int x10), (11, .int x11), (12, .int x12), (13, .int x13), (14, .int x14)] []) : ∀ (x0 : Nat) (x2 : Int32) (x3 : Nat) (x4 x5 x6 x7 x8 x9 x10 x11 x12 x13 x14 x15 x16 : Int32) (S : HS), w_X2_divideSlice_252 (gC G, gS G) K141 K176 K x0 x2 x3 x4 x5 x6 x7 x8 x9 x10 x11 x12 x13 x14 x15 x16 S → MC G S0 X 18 S 252 [(0, .ref x0), (2, .int x2), (3, .ref x3), (4, .int x4), (5, .int x5), (6, .int x6), (7, .int x7), (8, .int x8), (9, .int x9), (10, .int x10), (11, .int x11), (12, .int x12), (13, .int x13), (14, .int x14), (15, .int x15), (16, .int x16)] [] := by
  intro x0 x2 x3 x4 x5 x6 x7 x8 x9 x10 x11 x12 x13 x14 x15 x16 S hw
  unfold w_X2_divideSlice_252 at hw
  refine m_iload hc 14 dX2_divideSlice_252 rfl ?_
  refine m_iload hc 3 dX2_divideSlice_254 rfl ?_
  refine m_isub hc dX2_divideSlice_256 ?_
  refine m_istore hc [(17, .int (x15 - x4)), (0, .ref x0), (2, .int x2), (3, .ref x3), (4, .int x4), (5, .int x5), (6, .int x6), (7, .int x7), (8, .int x8), (9, .int x9), (10, .int x10), (11, .int x11), (12, .int x12), (13, .int x13), (14, .int x14), (15, .int x15), (16, .int x16)] dX2_divideSlice_257 (Nat.le_of_ble_eq_true rfl) rfl ?_
  refine m_aload_n hc 3 dX2_divideSlice_259 rfl rfl ?_
  refine m_iload hc 0 dX2_divideSlice_260 rfl ?_
  refine m_dup2 hc dX2_divideSlice_262 rfl rfl ?_
  obtain ⟨ht, hi, hw⟩ := hw
  refine c_iald hc hr ht hi dX2_divideSlice_263 ?_
  refine m_iload hc 9 dX2_divideSlice_264 rfl ?_
  refine m_iload hc 16 dX2_divideSlice_266 rfl ?_
  refine m_imul hc dX2_divideSlice_268 ?_
  refine m_iadd hc dX2_divideSlice_269 ?_
  obtain ⟨ht, hi, hw⟩ := hw
  refine c_iast hc hr ht hi dX2_divideSlice_270 ?_
  refine m_iload hc 7 dX2_divideSlice_271 rfl ?_
  refine m_if_eq hc 291 dX2_divideSlice_273 rfl (fun cq => ?_) (fun cq => ?_)
  · have hw := hw.1 cq
    refine m_sub [1, 2, 3, 4, 5, 6, 7, 8, 9, 10, 11, 12, 13, 14, 16, 0] rfl ?_
    exact b_X2_divideSlice_291 hc hr K141 K176 h141 h176 x0 x2 x3 x4 x5 x6 x7 x8 x9 x10 x11 x12 x13 x14 x16 (x15 - x4) (sI S x3 (Int32.toNatClampNeg (x15 - x4)) ((hI S x3 (Int32.toNatClampNeg (x15 - x4))) + (x9 * x16))) hw
  · have hw := hw.2 cq
    refine m_aload_n hc 3 dX2_divideSlice_276 rfl rfl ?_
    refine m_iload hc 0 dX2_divideSlice_277 rfl ?_
    refine m_iload hc 5 dX2_divideSlice_279 rfl ?_
    refine m_iadd hc dX2_divideSlice_281 ?_
    refine m_dup2 hc dX2_divideSlice_282 rfl rfl ?_
    obtain ⟨ht, hi, hw⟩ := hw
    refine c_iald hc hr ht hi dX2_divideSlice_283 ?_
    refine m_iload hc 7 dX2_divideSlice_284 rfl ?_
    refine m_iload hc 16 dX2_divideSlice_286 rfl ?_
    refine m_imul hc dX2_divideSlice_288 ?_
    refine m_iadd hc dX2_divideSlice_289 ?_
    obtain ⟨ht, hi, hw⟩ := hw
    refine c_iast hc hr ht hi dX2_divideSlice_290 ?_
    refine m_sub [1, 2, 3, 4, 5, 6, 7, 8, 9, 10, 11, 12, 13, 14, 16, 0] rfl ?_
    exact b_X2_divideSlice_291 hc hr K141 K176 h141 h176 x0 x2 x3 x4 x5 x6 x7 x8 x9 x10 x11 x12 x13 x14 x16 (x15 - x4) (sI (sI S x3 (Int32.toNatClampNeg (x15 - x4)) ((hI S x3 (Int32.toNatClampNeg (x15 - x4))) + (x9 * x16))) x3 (Int32.toNatClampNeg ((x15 - x4) + x5)) ((hI (sI S x3 (Int32.toNatClampNeg (x15 - x4)) ((hI S x3 (Int32.toNatClampNeg (x15 - x4))) + (x9 * x16))) x3 (Int32.toNatClampNeg ((x15 - x4) + x5))) + (x7 * x16))) hw
def w_X2_divideSlice_238 (M : Nat × Nat) (K141 : Nat → Int32 → Nat → Int32 → Int32 → Int32 → Int32 → Int32 → Int32 → Int32 → Int32 → Int32 → HS → Prop) (K176 : Nat → Int32 → Nat → Int32 → Int32 → Int32 → Int32 → Int32 → Int32 → Int32 → Int32 → Int32 → Int32 → Int32 → HS → Prop) (K : Int32 → HS → Prop) (x0 : Nat) (x2 : Int32) (x3 : Nat) (x4 x5 x6 x7 x8 x9 x10 x11 x12 x13 x14 x15 x16 : Int32) (S : HS) : Prop := (x8 = 0 → w_X2_divideSlice_252 M K141 K176 K x0 x2 x3 x4 x5 x6 x7 x8 x9 x10 x11 x12 x13 x14 x15 x16 S) ∧ (¬ (x8 = 0) → (¬ x14 = x11 → w_X2_divideSlice_252 M K141 K176 K x0 x2 x3 x4 x5 x6 x7 x8 x9 x10 x11 x12 x13 x14 x15 x16 S) ∧ (x14 = x11 → K 0 S))
set_option maxHeartbeats 4000000 in
set_option maxRecDepth 100000 in
theorem b_X2_divideSlice_238 {G : CG} {S0 : HS} {X : Fx} {K : Int32 → HS → Prop} (hc : Cx X RX2 cX2_divideSlice 18) (hr : Cc G S0 1 (some .boolean) (kI K) X) (K141 : Nat → Int32 → Nat → Int32 → Int32 → Int32 → Int32 → Int32 → Int32 → Int32 → Int32 → Int32 → HS → Prop) (K176 : Nat → Int32 → Nat → Int32 → Int32 → Int32 → Int32 → Int32 → Int32 → Int32 → Int32 → Int32 → Int32 → Int32 → HS → Prop) (h141 : ∀ (x0 : Nat) (x2 : Int32) (x3 : Nat) (x4 x5 x6 x7 x8 x9 x10 x11 x12 : Int32) (S : HS), K141 x0 x2 x3 x4 x5 x6 x7 x8 x9 x10 x11 x12 S → MC G S0 X 18 S 141 [(0, .ref x0), (2, .int x2), (3, .ref x3), (4, .int x4), (5, .int x5), (6, .int x6), (7, .int x7), (8, .int x8), (9, .int x9), (10, .int x10), (11, .int x11), (12, .int x12)] []) (h176 : ∀ (x0 : Nat) (x2 : Int32) (x3 : Nat) (x4 x5 x6 x7 x8 x9 x10 x11 x12 x13 x14 : Int32) (S : HS), K176 x0 x2 x3 x4 x5 x6 x7 x8 x9 x10 x11 x12 x13 x14 S → MC G S0 X 18 S 176 [(0, .ref x0), (2, .int x2), (3, .ref x3), (4, .int x4), (5, .int x5), (6, .int x6), (7, .int x7), (8, .int x8), (9, .int x9), (10, .int x10), (11, .int x11), (12, .int x12), (13, .int x13), (14, .int x14)] []) : ∀ (x0 : Nat) (x2 : Int32) (x3 : Nat) (x4 x5 x6 x7 x8 x9 x10 x11 x12 x13 x14 x15 x16 : Int32) (S : HS), w_X2_divideSlice_238 (gC G, gS G) K141 K176 K x0 x2 x3 x4 x5 x6 x7 x8 x9 x10 x11 x12 x13 x14 x15 x16 S → MC G S0 X 18 S 238 [(0, .ref x0), (2, .int x2), (3, .ref x3), (4, .int x4), (5, .int x5), (6, .int x6), (7, .int x7), (8, .int x8), (9, .int x9), (10, .int x10), (11, .int x11), (12, .int x12), (13, .int x13), (14, .int x14), (15, .int x15), (16, .int x16)] [] := by
  intro x0 x2 x3 x4 x5 x6 x7 x8 x9 x10 x11 x12 x13 x14 x15 x16 S hw
  unfold w_X2_divideSlice_238 at hw
  refine m_iload hc 7 dX2_divideSlice_238 rfl ?_
  refine m_if_eq hc 252 dX2_divideSlice_240 rfl (fun cq => ?_) (fun cq => ?_)
  · have hw := hw.1 cq
    exact b_X2_divideSlice_252 hc hr K141 K176 h141 h176 x0 x2 x3 x4 x5 x6 x7 x8 x9 x10 x11 x12 x13 x14 x15 x16 S hw
  · have hw := hw.2 cq
    refine m_iload hc 13 dX2_divideSlice_243 rfl ?_
    refine m_iload hc 10 dX2_divideSlice_245 rfl ?_
    refine m_icmp_ne hc 252 dX2_divideSlice_247 rfl (fun cq => ?_) (fun cq => ?_)
    · have hw := hw.1 cq
      exact b_X2_divideSlice_252 hc hr K141 K176 h141 h176 x0 x2 x3 x4 x5 x6 x7 x8 x9 x10 x11 x12 x13 x14 x15 x16 S hw
    · have hw := hw.2 cq
      refine m_iconst hc 0 dX2_divideSlice_250 (by decide) ?_
      exact c_zret hc hr dX2_divideSlice_251 (by decide) hw
def wb_X2_divideSlice_176 (M : Nat × Nat) (K141 : Nat → Int32 → Nat → Int32 → Int32 → Int32 → Int32 → Int32 → Int32 → Int32 → Int32 → Int32 → HS → Prop) (K176 : Nat → Int32 → Nat → Int32 → Int32 → Int32 → Int32 → Int32 → Int32 → Int32 → Int32 → Int32 → Int32 → Int32 → HS → Prop) (K : Int32 → HS → Prop) (x0 : Nat) (x2 : Int32) (x3 : Nat) (x4 x5 x6 x7 x8 x9 x10 x11 x12 x13 x14 : Int32) (S : HS) : Prop := (x13 < x14 → K141 x0 x2 x3 x4 x5 x6 x7 x8 x9 x10 x11 (x12 + 1) S) ∧ (¬ (x13 < x14) → ∀ v1 : Int32, v1 = (((x2 * x4) + (x12 * x5)) + (x14 * x6)) → hT S x3 = 21 ∧ vp_in v1 (hN S x3) ∧ hT S x0 = 3 ∧ ¬ (hI S x0 12) = 0 ∧ (∀ v2 : Int32, v2 = (iRem (hI S x3 (Int32.toNatClampNeg v1)) (hI S x0 12)) → hT S x3 = 21 ∧ vp_in v1 (hN S x3) ∧ (¬ v2 = 0 → (x7 = 0 → w_X2_divideSlice_238 M K141 K176 K x0 x2 x3 x4 x5 x6 x7 x8 x9 x10 x11 x12 x13 x14 v1 v2 (sI S x3 (Int32.toNatClampNeg v1) v2)) ∧ (¬ (x7 = 0) → (x12 = x10 → K 0 (sI S x3 (Int32.toNatClampNeg v1) v2)) ∧ (¬ (x12 = x10) → w_X2_divideSlice_238 M K141 K176 K x0 x2 x3 x4 x5 x6 x7 x8 x9 x10 x11 x12 x13 x14 v1 v2 (sI S x3 (Int32.toNatClampNeg v1) v2)))) ∧ (v2 = 0 → K176 x0 x2 x3 x4 x5 x6 x7 x8 x9 x10 x11 x12 x13 (x14 + 1) (sI S x3 (Int32.toNatClampNeg v1) v2))))
def wl_X2_divideSlice_176 (M : Nat × Nat) (K141 : Nat → Int32 → Nat → Int32 → Int32 → Int32 → Int32 → Int32 → Int32 → Int32 → Int32 → Int32 → HS → Prop) (K : Int32 → HS → Prop) : Nat → Nat → Int32 → Nat → Int32 → Int32 → Int32 → Int32 → Int32 → Int32 → Int32 → Int32 → Int32 → Int32 → Int32 → HS → Prop
  | 0 => fun _ _ _ _ _ _ _ _ _ _ _ _ _ _ _ => False
  | nn + 1 => wb_X2_divideSlice_176 M K141 (wl_X2_divideSlice_176 M K141 K nn) K
set_option maxHeartbeats 4000000 in
set_option maxRecDepth 100000 in
theorem l_X2_divideSlice_176 {G : CG} {S0 : HS} {X : Fx} {K : Int32 → HS → Prop} (hc : Cx X RX2 cX2_divideSlice 18) (hr : Cc G S0 1 (some .boolean) (kI K) X) (K141 : Nat → Int32 → Nat → Int32 → Int32 → Int32 → Int32 → Int32 → Int32 → Int32 → Int32 → Int32 → HS → Prop) (h141 : ∀ (x0 : Nat) (x2 : Int32) (x3 : Nat) (x4 x5 x6 x7 x8 x9 x10 x11 x12 : Int32) (S : HS), K141 x0 x2 x3 x4 x5 x6 x7 x8 x9 x10 x11 x12 S → MC G S0 X 18 S 141 [(0, .ref x0), (2, .int x2), (3, .ref x3), (4, .int x4), (5, .int x5), (6, .int x6), (7, .int x7), (8, .int x8), (9, .int x9), (10, .int x10), (11, .int x11), (12, .int x12)] []) : ∀ (nn : Nat) (x0 : Nat) (x2 : Int32) (x3 : Nat) (x4 x5 x6 x7 x8 x9 x10 x11 x12 x13 x14 : Int32) (S : HS), wl_X2_divideSlice_176 (gC G, gS G) K141 K nn x0 x2 x3 x4 x5 x6 x7 x8 x9 x10 x11 x12 x13 x14 S → MC G S0 X 18 S 176 [(0, .ref x0), (2, .int x2), (3, .ref x3), (4, .int x4), (5, .int x5), (6, .int x6), (7, .int x7), (8, .int x8), (9, .int x9), (10, .int x10), (11, .int x11), (12, .int x12), (13, .int x13), (14, .int x14)] [] := by
  intro nn
  induction nn with
  | zero => intro x0 x2 x3 x4 x5 x6 x7 x8 x9 x10 x11 x12 x13 x14 S hw; exact False.elim hw
  | succ nn ih =>
    intro x0 x2 x3 x4 x5 x6 x7 x8 x9 x10 x11 x12 x13 x14 S hw
    have hw : wb_X2_divideSlice_176 (gC G, gS G) K141 (wl_X2_divideSlice_176 (gC G, gS G) K141 K nn) K x0 x2 x3 x4 x5 x6 x7 x8 x9 x10 x11 x12 x13 x14 S := hw
    have h176 := ih
    generalize wl_X2_divideSlice_176 (gC G, gS G) K141 K nn = K176 at hw h176
    unfold wb_X2_divideSlice_176 at hw
    refine m_iload hc 13 dX2_divideSlice_176 rfl ?_
    refine m_iload hc 12 dX2_divideSlice_178 rfl ?_
    refine m_icmp_gt hc 317 dX2_divideSlice_180 rfl (fun cq => ?_) (fun cq => ?_)
    · have hw := hw.1 cq
      refine m_iinc hc 11 (x12 + 1) [(12, .int (x12 + 1)), (0, .ref x0), (2, .int x2), (3, .ref x3), (4, .int x4), (5, .int x5), (6, .int x6), (7, .int x7), (8, .int x8), (9, .int x9), (10, .int x10), (11, .int x11), (13, .int x13), (14, .int x14)] dX2_divideSlice_317 rfl rfl (Nat.le_of_ble_eq_true rfl) rfl ?_
      refine m_goto hc 141 dX2_divideSlice_320 rfl ?_
      refine m_sub [1, 2, 3, 4, 5, 6, 7, 8, 9, 10, 11, 0] rfl ?_
      exact h141 x0 x2 x3 x4 x5 x6 x7 x8 x9 x10 x11 (x12 + 1) S hw
    · have hw := hw.2 cq
      refine m_iload_n hc 1 dX2_divideSlice_183 rfl rfl ?_
      refine m_iload hc 3 dX2_divideSlice_184 rfl ?_
      refine m_imul hc dX2_divideSlice_186 ?_
      refine m_iload hc 11 dX2_divideSlice_187 rfl ?_
      refine m_iload hc 4 dX2_divideSlice_189 rfl ?_
      refine m_imul hc dX2_divideSlice_191 ?_
      refine m_iadd hc dX2_divideSlice_192 ?_
      refine m_iload hc 13 dX2_divideSlice_193 rfl ?_
      refine m_iload hc 5 dX2_divideSlice_195 rfl ?_
      refine m_imul hc dX2_divideSlice_197 ?_
      refine m_iadd hc dX2_divideSlice_198 ?_
      refine m_topi (fun v1 e_v1 => ?_)
      have hw := hw v1 e_v1
      refine m_istore hc [(15, .int v1), (0, .ref x0), (2, .int x2), (3, .ref x3), (4, .int x4), (5, .int x5), (6, .int x6), (7, .int x7), (8, .int x8), (9, .int x9), (10, .int x10), (11, .int x11), (12, .int x12), (13, .int x13), (14, .int x14)] dX2_divideSlice_199 (Nat.le_of_ble_eq_true rfl) rfl ?_
      refine m_aload_n hc 3 dX2_divideSlice_201 rfl rfl ?_
      refine m_iload hc 0 dX2_divideSlice_202 rfl ?_
      obtain ⟨ht, hi, hw⟩ := hw
      refine c_iald hc hr ht hi dX2_divideSlice_204 ?_
      refine m_aload_n hc 1 dX2_divideSlice_205 rfl rfl ?_
      obtain ⟨ht, hw⟩ := hw
      refine c_geti hc hr ciX2 (Nat.le_of_ble_eq_true rfl) 12 (Nat.le_of_ble_eq_true rfl) rfl dX2_divideSlice_206 lf_X2_69 ht ?_
      obtain ⟨hq, hw⟩ := hw
      refine m_irem hc dX2_divideSlice_209 hq ?_
      refine m_topi (fun v2 e_v2 => ?_)
      have hw := hw v2 e_v2
      refine m_istore hc [(16, .int v2), (15, .int v1), (0, .ref x0), (2, .int x2), (3, .ref x3), (4, .int x4), (5, .int x5), (6, .int x6), (7, .int x7), (8, .int x8), (9, .int x9), (10, .int x10), (11, .int x11), (12, .int x12), (13, .int x13), (14, .int x14)] dX2_divideSlice_210 (Nat.le_of_ble_eq_true rfl) rfl ?_
      refine m_aload_n hc 4 dX2_divideSlice_212 rfl rfl ?_
      refine m_iload hc 1 dX2_divideSlice_213 rfl ?_
      refine m_iload hc 0 dX2_divideSlice_215 rfl ?_
      obtain ⟨ht, hi, hw⟩ := hw
      refine c_iast hc hr ht hi dX2_divideSlice_217 ?_
      refine m_iload hc 0 dX2_divideSlice_218 rfl ?_
      refine m_if_ne hc 226 dX2_divideSlice_220 rfl (fun cq => ?_) (fun cq => ?_)
      · have hw := hw.1 cq
        refine m_iload hc 8 dX2_divideSlice_226 rfl ?_
        refine m_if_eq hc 238 dX2_divideSlice_228 rfl (fun cq => ?_) (fun cq => ?_)
        · have hw := hw.1 cq
          refine m_sub [2, 3, 4, 5, 6, 7, 8, 9, 10, 11, 12, 13, 14, 15, 1, 0] rfl ?_
          exact b_X2_divideSlice_238 hc hr K141 K176 h141 h176 x0 x2 x3 x4 x5 x6 x7 x8 x9 x10 x11 x12 x13 x14 v1 v2 (sI S x3 (Int32.toNatClampNeg v1) v2) hw
        · have hw := hw.2 cq
          refine m_iload hc 13 dX2_divideSlice_231 rfl ?_
          refine m_iload hc 11 dX2_divideSlice_233 rfl ?_
          refine m_icmp_eq hc 250 dX2_divideSlice_235 rfl (fun cq => ?_) (fun cq => ?_)
          · have hw := hw.1 cq
            refine m_iconst hc 0 dX2_divideSlice_250 (by decide) ?_
            exact c_zret hc hr dX2_divideSlice_251 (by decide) hw
          · have hw := hw.2 cq
            refine m_sub [2, 3, 4, 5, 6, 7, 8, 9, 10, 11, 12, 13, 14, 15, 1, 0] rfl ?_
            exact b_X2_divideSlice_238 hc hr K141 K176 h141 h176 x0 x2 x3 x4 x5 x6 x7 x8 x9 x10 x11 x12 x13 x14 v1 v2 (sI S x3 (Int32.toNatClampNeg v1) v2) hw
      · have hw := hw.2 cq
        refine m_goto hc 311 dX2_divideSlice_223 rfl ?_
        refine m_iinc hc 15 (x14 + 1) [(14, .int (x14 + 1)), (16, .int v2), (15, .int v1), (0, .ref x0), (2, .int x2), (3, .ref x3), (4, .int x4), (5, .int x5), (6, .int x6), (7, .int x7), (8, .int x8), (9, .int x9), (10, .int x10), (11, .int x11), (12, .int x12), (13, .int x13)] dX2_divideSlice_311 rfl rfl (Nat.le_of_ble_eq_true rfl) rfl ?_
        refine m_goto hc 176 dX2_divideSlice_314 rfl ?_
        refine m_sub [3, 4, 5, 6, 7, 8, 9, 10, 11, 12, 13, 14, 15, 0] rfl ?_
        exact h176 x0 x2 x3 x4 x5 x6 x7 x8 x9 x10 x11 x12 x13 (x14 + 1) (sI S x3 (Int32.toNatClampNeg v1) v2) hw
def wb_X2_divideSlice_141 (M : Nat × Nat) (K141 : Nat → Int32 → Nat → Int32 → Int32 → Int32 → Int32 → Int32 → Int32 → Int32 → Int32 → Int32 → HS → Prop) (K : Int32 → HS → Prop) (x0 : Nat) (x2 : Int32) (x3 : Nat) (x4 x5 x6 x7 x8 x9 x10 x11 x12 : Int32) (S : HS) : Prop := hT S x0 = 3 ∧ ((if (hI S x0 9) - x2 < x10 then (hI S x0 9) - x2 else x10) < x12 → K 1 S) ∧ (¬ ((if (hI S x0 9) - x2 < x10 then (hI S x0 9) - x2 else x10) < x12) → hT S x0 = 3 ∧ ∀ v1 : Int32, v1 = (if ((hI S x0 9) - x2) - x12 < x11 then ((hI S x0 9) - x2) - x12 else x11) → ∃ nn : Nat, wl_X2_divideSlice_176 M K141 K nn x0 x2 x3 x4 x5 x6 x7 x8 x9 x10 x11 x12 v1 0 S)
def wl_X2_divideSlice_141 (M : Nat × Nat) (K : Int32 → HS → Prop) : Nat → Nat → Int32 → Nat → Int32 → Int32 → Int32 → Int32 → Int32 → Int32 → Int32 → Int32 → Int32 → HS → Prop
  | 0 => fun _ _ _ _ _ _ _ _ _ _ _ _ _ => False
  | nn + 1 => wb_X2_divideSlice_141 M (wl_X2_divideSlice_141 M K nn) K
set_option maxHeartbeats 4000000 in
set_option maxRecDepth 100000 in
theorem l_X2_divideSlice_141 {G : CG} {S0 : HS} {X : Fx} {K : Int32 → HS → Prop} (hc : Cx X RX2 cX2_divideSlice 18) (hr : Cc G S0 1 (some .boolean) (kI K) X) : ∀ (nn : Nat) (x0 : Nat) (x2 : Int32) (x3 : Nat) (x4 x5 x6 x7 x8 x9 x10 x11 x12 : Int32) (S : HS), wl_X2_divideSlice_141 (gC G, gS G) K nn x0 x2 x3 x4 x5 x6 x7 x8 x9 x10 x11 x12 S → MC G S0 X 18 S 141 [(0, .ref x0), (2, .int x2), (3, .ref x3), (4, .int x4), (5, .int x5), (6, .int x6), (7, .int x7), (8, .int x8), (9, .int x9), (10, .int x10), (11, .int x11), (12, .int x12)] [] := by
  intro nn
  induction nn with
  | zero => intro x0 x2 x3 x4 x5 x6 x7 x8 x9 x10 x11 x12 S hw; exact False.elim hw
  | succ nn ih =>
    intro x0 x2 x3 x4 x5 x6 x7 x8 x9 x10 x11 x12 S hw
    have hw : wb_X2_divideSlice_141 (gC G, gS G) (wl_X2_divideSlice_141 (gC G, gS G) K nn) K x0 x2 x3 x4 x5 x6 x7 x8 x9 x10 x11 x12 S := hw
    have h141 := ih
    generalize wl_X2_divideSlice_141 (gC G, gS G) K nn = K141 at hw h141
    unfold wb_X2_divideSlice_141 at hw
    refine m_iload hc 11 dX2_divideSlice_141 rfl ?_
    refine m_iload hc 9 dX2_divideSlice_143 rfl ?_
    refine m_aload_n hc 0 dX2_divideSlice_145 rfl rfl ?_
    obtain ⟨ht, hw⟩ := hw
    refine c_geti hc hr ciX2 (Nat.le_of_ble_eq_true rfl) 9 (Nat.le_of_ble_eq_true rfl) rfl dX2_divideSlice_146 lf_X2_54 ht ?_
    refine m_iload_n hc 1 dX2_divideSlice_149 rfl rfl ?_
    refine m_isub hc dX2_divideSlice_150 ?_
    refine c_bnd (fun g1 g2 => ?_)
    refine m_mmin hc dX2_divideSlice_151 lm_X2_201 lM_min (c_room hr g1 g2) (Nat.le_of_ble_eq_true rfl) ?_
    refine m_icmp_gt hc 323 dX2_divideSlice_154 rfl (fun cq => ?_) (fun cq => ?_)
    · have hw := hw.1 cq
      refine m_iconst hc 1 dX2_divideSlice_323 (by decide) ?_
      exact c_zret hc hr dX2_divideSlice_324 (by decide) hw
    · have hw := hw.2 cq
      refine m_iload hc 10 dX2_divideSlice_157 rfl ?_
      refine m_aload_n hc 0 dX2_divideSlice_159 rfl rfl ?_
      obtain ⟨ht, hw⟩ := hw
      refine c_geti hc hr ciX2 (Nat.le_of_ble_eq_true rfl) 9 (Nat.le_of_ble_eq_true rfl) rfl dX2_divideSlice_160 lf_X2_54 ht ?_
      refine m_iload_n hc 1 dX2_divideSlice_163 rfl rfl ?_
      refine m_isub hc dX2_divideSlice_164 ?_
      refine m_iload hc 11 dX2_divideSlice_165 rfl ?_
      refine m_isub hc dX2_divideSlice_167 ?_
      refine c_bnd (fun g1 g2 => ?_)
      refine m_mmin hc dX2_divideSlice_168 lm_X2_201 lM_min (c_room hr g1 g2) (Nat.le_of_ble_eq_true rfl) ?_
      refine m_topi (fun v1 e_v1 => ?_)
      have hw := hw v1 e_v1
      refine m_istore hc [(13, .int v1), (0, .ref x0), (2, .int x2), (3, .ref x3), (4, .int x4), (5, .int x5), (6, .int x6), (7, .int x7), (8, .int x8), (9, .int x9), (10, .int x10), (11, .int x11), (12, .int x12)] dX2_divideSlice_171 (Nat.le_of_ble_eq_true rfl) rfl ?_
      refine m_iconst hc 0 dX2_divideSlice_173 (by decide) ?_
      refine m_istore hc [(14, .int 0), (13, .int v1), (0, .ref x0), (2, .int x2), (3, .ref x3), (4, .int x4), (5, .int x5), (6, .int x6), (7, .int x7), (8, .int x8), (9, .int x9), (10, .int x10), (11, .int x11), (12, .int x12)] dX2_divideSlice_174 (Nat.le_of_ble_eq_true rfl) rfl ?_
      refine m_sub [2, 3, 4, 5, 6, 7, 8, 9, 10, 11, 12, 13, 1, 0] rfl ?_
      obtain ⟨nn, hw⟩ := hw
      exact l_X2_divideSlice_176 hc hr K141 h141 nn x0 x2 x3 x4 x5 x6 x7 x8 x9 x10 x11 x12 v1 0 S hw
def w_X2_divideSlice_114 (M : Nat × Nat) (K : Int32 → HS → Prop) (x0 x1 : Nat) (x2 : Int32) (x3 : Nat) (x4 x5 x6 x7 x8 s0 : Int32) (S : HS) : Prop := hT S x0 = 3 ∧ ∃ b1 : Nat, hP S x0 8 = some b1 ∧ hT S x1 = 4 ∧ hT S b1 = 21 ∧ vp_in (hI S x1 1) (hN S b1) ∧ ∀ v2 : Int32, v2 = (hI S b1 (Int32.toNatClampNeg (hI S x1 1))) → hT S x0 = 3 ∧ ∃ b3 : Nat, hP S x0 8 = some b3 ∧ hT S x1 = 4 ∧ hT S b3 = 21 ∧ vp_in (hI S x1 2) (hN S b3) ∧ ∀ v4 : Int32, v4 = (hI S b3 (Int32.toNatClampNeg (hI S x1 2))) → ∃ nn : Nat, wl_X2_divideSlice_141 M K nn x0 x2 x3 x4 x5 x6 x7 x8 s0 v2 v4 0 S
set_option maxHeartbeats 4000000 in
set_option maxRecDepth 100000 in
theorem b_X2_divideSlice_114 {G : CG} {S0 : HS} {X : Fx} {K : Int32 → HS → Prop} (hc : Cx X RX2 cX2_divideSlice 18) (hr : Cc G S0 1 (some .boolean) (kI K) X) : ∀ (x0 x1 : Nat) (x2 : Int32) (x3 : Nat) (x4 x5 x6 x7 x8 s0 : Int32) (S : HS), w_X2_divideSlice_114 (gC G, gS G) K x0 x1 x2 x3 x4 x5 x6 x7 x8 s0 S → MC G S0 X 18 S 114 [(0, .ref x0), (1, .ref x1), (2, .int x2), (3, .ref x3), (4, .int x4), (5, .int x5), (6, .int x6), (7, .int x7), (8, .int x8)] [.int s0] := by
  intro x0 x1 x2 x3 x4 x5 x6 x7 x8 s0 S hw
  unfold w_X2_divideSlice_114 at hw
  refine m_istore hc [(9, .int s0), (0, .ref x0), (1, .ref x1), (2, .int x2), (3, .ref x3), (4, .int x4), (5, .int x5), (6, .int x6), (7, .int x7), (8, .int x8)] dX2_divideSlice_114 (Nat.le_of_ble_eq_true rfl) rfl ?_
  refine m_aload_n hc 1 dX2_divideSlice_116 rfl rfl ?_
  obtain ⟨ht, b1, e_b1, hw⟩ := hw
  refine c_getr hc hr ciX2 (Nat.le_of_ble_eq_true rfl) 8 (Nat.le_of_ble_eq_true rfl) rfl dX2_divideSlice_117 lf_X2_51 ht e_b1 ?_
  refine m_aload_n hc 2 dX2_divideSlice_120 rfl rfl ?_
  obtain ⟨ht, hw⟩ := hw
  refine c_geti hc hr ciX3 (Nat.le_of_ble_eq_true rfl) 1 (Nat.le_of_ble_eq_true rfl) rfl dX2_divideSlice_121 lf_X2_165 ht ?_
  obtain ⟨ht, hi, hw⟩ := hw
  refine c_iald hc hr ht hi dX2_divideSlice_124 ?_
  refine m_topi (fun v2 e_v2 => ?_)
  have hw := hw v2 e_v2
  refine m_istore hc [(10, .int v2), (9, .int s0), (0, .ref x0), (1, .ref x1), (2, .int x2), (3, .ref x3), (4, .int x4), (5, .int x5), (6, .int x6), (7, .int x7), (8, .int x8)] dX2_divideSlice_125 (Nat.le_of_ble_eq_true rfl) rfl ?_
  refine m_aload_n hc 2 dX2_divideSlice_127 rfl rfl ?_
  obtain ⟨ht, b3, e_b3, hw⟩ := hw
  refine c_getr hc hr ciX2 (Nat.le_of_ble_eq_true rfl) 8 (Nat.le_of_ble_eq_true rfl) rfl dX2_divideSlice_128 lf_X2_51 ht e_b3 ?_
  refine m_aload_n hc 3 dX2_divideSlice_131 rfl rfl ?_
  obtain ⟨ht, hw⟩ := hw
  refine c_geti hc hr ciX3 (Nat.le_of_ble_eq_true rfl) 2 (Nat.le_of_ble_eq_true rfl) rfl dX2_divideSlice_132 lf_X2_171 ht ?_
  obtain ⟨ht, hi, hw⟩ := hw
  refine c_iald hc hr ht hi dX2_divideSlice_135 ?_
  refine m_topi (fun v4 e_v4 => ?_)
  have hw := hw v4 e_v4
  refine m_istore hc [(11, .int v4), (10, .int v2), (9, .int s0), (0, .ref x0), (1, .ref x1), (2, .int x2), (3, .ref x3), (4, .int x4), (5, .int x5), (6, .int x6), (7, .int x7), (8, .int x8)] dX2_divideSlice_136 (Nat.le_of_ble_eq_true rfl) rfl ?_
  refine m_iconst hc 0 dX2_divideSlice_138 (by decide) ?_
  refine m_istore hc [(12, .int 0), (11, .int v4), (10, .int v2), (9, .int s0), (0, .ref x0), (1, .ref x1), (2, .int x2), (3, .ref x3), (4, .int x4), (5, .int x5), (6, .int x6), (7, .int x7), (8, .int x8)] dX2_divideSlice_139 (Nat.le_of_ble_eq_true rfl) rfl ?_
  refine m_sub [4, 6, 7, 8, 9, 10, 11, 12, 3, 2, 1, 0] rfl ?_
  obtain ⟨nn, hw⟩ := hw
  exact l_X2_divideSlice_141 hc hr nn x0 x2 x3 x4 x5 x6 x7 x8 s0 v2 v4 0 S hw
def w_X2_divideSlice_92 (M : Nat × Nat) (K : Int32 → HS → Prop) (x0 x1 : Nat) (x2 : Int32) (x3 : Nat) (x4 x5 x6 x7 s0 : Int32) (S : HS) : Prop := hT S x1 = 4 ∧ (¬ (hI S x1 5) = 0 → hT S x0 = 3 ∧ hT S x1 = 4 ∧ w_X2_divideSlice_114 M K x0 x1 x2 x3 x4 x5 x6 x7 s0 ((hI S x0 12) - (hI S x1 5)) S) ∧ ((hI S x1 5) = 0 → w_X2_divideSlice_114 M K x0 x1 x2 x3 x4 x5 x6 x7 s0 0 S)
set_option maxHeartbeats 4000000 in
set_option maxRecDepth 100000 in
theorem b_X2_divideSlice_92 {G : CG} {S0 : HS} {X : Fx} {K : Int32 → HS → Prop} (hc : Cx X RX2 cX2_divideSlice 18) (hr : Cc G S0 1 (some .boolean) (kI K) X) : ∀ (x0 x1 : Nat) (x2 : Int32) (x3 : Nat) (x4 x5 x6 x7 s0 : Int32) (S : HS), w_X2_divideSlice_92 (gC G, gS G) K x0 x1 x2 x3 x4 x5 x6 x7 s0 S → MC G S0 X 18 S 92 [(0, .ref x0), (1, .ref x1), (2, .int x2), (3, .ref x3), (4, .int x4), (5, .int x5), (6, .int x6), (7, .int x7)] [.int s0] := by
  intro x0 x1 x2 x3 x4 x5 x6 x7 s0 S hw
  unfold w_X2_divideSlice_92 at hw
  refine m_istore hc [(8, .int s0), (0, .ref x0), (1, .ref x1), (2, .int x2), (3, .ref x3), (4, .int x4), (5, .int x5), (6, .int x6), (7, .int x7)] dX2_divideSlice_92 (Nat.le_of_ble_eq_true rfl) rfl ?_
  refine m_aload_n hc 2 dX2_divideSlice_94 rfl rfl ?_
  obtain ⟨ht, hw⟩ := hw
  refine c_geti hc hr ciX3 (Nat.le_of_ble_eq_true rfl) 5 (Nat.le_of_ble_eq_true rfl) rfl dX2_divideSlice_95 lf_X2_198 ht ?_
  refine m_if_ne hc 105 dX2_divideSlice_98 rfl (fun cq => ?_) (fun cq => ?_)
  · have hw := hw.1 cq
    refine m_aload_n hc 1 dX2_divideSlice_105 rfl rfl ?_
    obtain ⟨ht, hw⟩ := hw
    refine c_geti hc hr ciX2 (Nat.le_of_ble_eq_true rfl) 12 (Nat.le_of_ble_eq_true rfl) rfl dX2_divideSlice_106 lf_X2_69 ht ?_
    refine m_aload_n hc 2 dX2_divideSlice_109 rfl rfl ?_
    obtain ⟨ht, hw⟩ := hw
    refine c_geti hc hr ciX3 (Nat.le_of_ble_eq_true rfl) 5 (Nat.le_of_ble_eq_true rfl) rfl dX2_divideSlice_110 lf_X2_198 ht ?_
    refine m_isub hc dX2_divideSlice_113 ?_
    refine m_sub [1, 2, 3, 4, 5, 6, 7, 8, 0] rfl ?_
    exact b_X2_divideSlice_114 hc hr x0 x1 x2 x3 x4 x5 x6 x7 s0 ((hI S x0 12) - (hI S x1 5)) S hw
  · have hw := hw.2 cq
    refine m_iconst hc 0 dX2_divideSlice_101 (by decide) ?_
    refine m_goto hc 114 dX2_divideSlice_102 rfl ?_
    refine m_sub [1, 2, 3, 4, 5, 6, 7, 8, 0] rfl ?_
    exact b_X2_divideSlice_114 hc hr x0 x1 x2 x3 x4 x5 x6 x7 s0 0 S hw
def w_X2_divideSlice_70 (M : Nat × Nat) (K : Int32 → HS → Prop) (x0 x1 : Nat) (x2 : Int32) (x3 : Nat) (x4 x5 x6 s0 : Int32) (S : HS) : Prop := hT S x1 = 4 ∧ (¬ (hI S x1 4) = 0 → hT S x0 = 3 ∧ hT S x1 = 4 ∧ w_X2_divideSlice_92 M K x0 x1 x2 x3 x4 x5 x6 s0 ((hI S x0 12) - (hI S x1 4)) S) ∧ ((hI S x1 4) = 0 → w_X2_divideSlice_92 M K x0 x1 x2 x3 x4 x5 x6 s0 0 S)
set_option maxHeartbeats 4000000 in
set_option maxRecDepth 100000 in
theorem b_X2_divideSlice_70 {G : CG} {S0 : HS} {X : Fx} {K : Int32 → HS → Prop} (hc : Cx X RX2 cX2_divideSlice 18) (hr : Cc G S0 1 (some .boolean) (kI K) X) : ∀ (x0 x1 : Nat) (x2 : Int32) (x3 : Nat) (x4 x5 x6 s0 : Int32) (S : HS), w_X2_divideSlice_70 (gC G, gS G) K x0 x1 x2 x3 x4 x5 x6 s0 S → MC G S0 X 18 S 70 [(0, .ref x0), (1, .ref x1), (2, .int x2), (3, .ref x3), (4, .int x4), (5, .int x5), (6, .int x6)] [.int s0] := by
  intro x0 x1 x2 x3 x4 x5 x6 s0 S hw
  unfold w_X2_divideSlice_70 at hw
  refine m_istore hc [(7, .int s0), (0, .ref x0), (1, .ref x1), (2, .int x2), (3, .ref x3), (4, .int x4), (5, .int x5), (6, .int x6)] dX2_divideSlice_70 (Nat.le_of_ble_eq_true rfl) rfl ?_
  refine m_aload_n hc 2 dX2_divideSlice_72 rfl rfl ?_
  obtain ⟨ht, hw⟩ := hw
  refine c_geti hc hr ciX3 (Nat.le_of_ble_eq_true rfl) 4 (Nat.le_of_ble_eq_true rfl) rfl dX2_divideSlice_73 lf_X2_168 ht ?_
  refine m_if_ne hc 83 dX2_divideSlice_76 rfl (fun cq => ?_) (fun cq => ?_)
  · have hw := hw.1 cq
    refine m_aload_n hc 1 dX2_divideSlice_83 rfl rfl ?_
    obtain ⟨ht, hw⟩ := hw
    refine c_geti hc hr ciX2 (Nat.le_of_ble_eq_true rfl) 12 (Nat.le_of_ble_eq_true rfl) rfl dX2_divideSlice_84 lf_X2_69 ht ?_
    refine m_aload_n hc 2 dX2_divideSlice_87 rfl rfl ?_
    obtain ⟨ht, hw⟩ := hw
    refine c_geti hc hr ciX3 (Nat.le_of_ble_eq_true rfl) 4 (Nat.le_of_ble_eq_true rfl) rfl dX2_divideSlice_88 lf_X2_168 ht ?_
    refine m_isub hc dX2_divideSlice_91 ?_
    refine m_sub [1, 2, 3, 4, 5, 6, 7, 0] rfl ?_
    exact b_X2_divideSlice_92 hc hr x0 x1 x2 x3 x4 x5 x6 s0 ((hI S x0 12) - (hI S x1 4)) S hw
  · have hw := hw.2 cq
    refine m_iconst hc 0 dX2_divideSlice_79 (by decide) ?_
    refine m_goto hc 92 dX2_divideSlice_80 rfl ?_
    refine m_sub [1, 2, 3, 4, 5, 6, 7, 0] rfl ?_
    exact b_X2_divideSlice_92 hc hr x0 x1 x2 x3 x4 x5 x6 s0 0 S hw
def wp_X2_divideSlice (M : Nat × Nat) (x0 x1 : Nat) (x2 : Int32) (S : HS) (K : Int32 → HS → Prop) : Prop := hT S x0 = 3 ∧ ∃ b1 : Nat, hP S x0 7 = some b1 ∧ hT S b1 = 2 ∧ ∃ b2 : Nat, hP S b1 0 = some b2 ∧ hT S x0 = 3 ∧ ∃ b3 : Nat, hP S x0 7 = some b3 ∧ hT S b3 = 2 ∧ ∃ b4 : Nat, hP S b3 2 = some b4 ∧ hT S x1 = 4 ∧ hT S b4 = 21 ∧ vp_in (hI S x1 0) (hN S b4) ∧ ∀ v5 : Int32, v5 = (hI S b4 (Int32.toNatClampNeg (hI S x1 0))) → hT S x0 = 3 ∧ ∃ b6 : Nat, hP S x0 7 = some b6 ∧ hT S b6 = 2 ∧ ∃ b7 : Nat, hP S b6 2 = some b7 ∧ hT S x1 = 4 ∧ hT S b7 = 21 ∧ vp_in (hI S x1 1) (hN S b7) ∧ ∀ v8 : Int32, v8 = (hI S b7 (Int32.toNatClampNeg (hI S x1 1))) → hT S x0 = 3 ∧ ∃ b9 : Nat, hP S x0 7 = some b9 ∧ hT S b9 = 2 ∧ ∃ b10 : Nat, hP S b9 2 = some b10 ∧ hT S x1 = 4 ∧ hT S b10 = 21 ∧ vp_in (hI S x1 2) (hN S b10) ∧ ∀ v11 : Int32, v11 = (hI S b10 (Int32.toNatClampNeg (hI S x1 2))) → hT S x1 = 4 ∧ (¬ (hI S x1 3) = 0 → hT S x0 = 3 ∧ hT S x1 = 4 ∧ w_X2_divideSlice_70 M K x0 x1 x2 b2 v5 v8 v11 ((hI S x0 12) - (hI S x1 3)) S) ∧ ((hI S x1 3) = 0 → w_X2_divideSlice_70 M K x0 x1 x2 b2 v5 v8 v11 0 S)
set_option maxHeartbeats 4000000 in
set_option maxRecDepth 100000 in
theorem ok_X2_divideSlice {G : CG} {x0 : Nat} {x1 : Nat} {x2 : Int32} {S : HS} {K : Int32 → HS → Prop} (hw : wp_X2_divideSlice (gC G, gS G) x0 x1 x2 S K) : CC 1 yX2_divideSlice cX2_divideSlice 18 (some .boolean) [.ref x0, .ref x1, .int x2] G S (kI K) := by
  refine CC.of (by decide +kernel) (Nat.le_of_ble_eq_true rfl) (fun X hc hr hname => ?_)
  show MC G S X 18 S 0 [(0, .ref x0), (1, .ref x1), (2, .int x2)] []
  unfold wp_X2_divideSlice at hw
  refine m_aload_n hc 0 dX2_divideSlice_0 rfl rfl ?_
  obtain ⟨ht, b1, e_b1, hw⟩ := hw
  refine c_getr hc hr ciX2 (Nat.le_of_ble_eq_true rfl) 7 (Nat.le_of_ble_eq_true rfl) rfl dX2_divideSlice_1 lf_X2_48 ht e_b1 ?_
  obtain ⟨ht, b2, e_b2, hw⟩ := hw
  refine c_getr hc hr ciX1 (Nat.le_of_ble_eq_true rfl) 0 (Nat.le_of_ble_eq_true rfl) rfl dX2_divideSlice_4 lf_X2_122 ht e_b2 ?_
  refine m_astore_n hc [(3, .ref b2), (0, .ref x0), (1, .ref x1), (2, .int x2)] dX2_divideSlice_7 rfl (Nat.le_of_ble_eq_true rfl) rfl ?_
  refine m_aload_n hc 1 dX2_divideSlice_8 rfl rfl ?_
  obtain ⟨ht, b3, e_b3, hw⟩ := hw
  refine c_getr hc hr ciX2 (Nat.le_of_ble_eq_true rfl) 7 (Nat.le_of_ble_eq_true rfl) rfl dX2_divideSlice_9 lf_X2_48 ht e_b3 ?_
  obtain ⟨ht, b4, e_b4, hw⟩ := hw
  refine c_getr hc hr ciX1 (Nat.le_of_ble_eq_true rfl) 2 (Nat.le_of_ble_eq_true rfl) rfl dX2_divideSlice_12 lf_X2_195 ht e_b4 ?_
  refine m_aload_n hc 2 dX2_divideSlice_15 rfl rfl ?_
  obtain ⟨ht, hw⟩ := hw
  refine c_geti hc hr ciX3 (Nat.le_of_ble_eq_true rfl) 0 (Nat.le_of_ble_eq_true rfl) rfl dX2_divideSlice_16 lf_X2_156 ht ?_
  obtain ⟨ht, hi, hw⟩ := hw
  refine c_iald hc hr ht hi dX2_divideSlice_19 ?_
  refine m_topi (fun v5 e_v5 => ?_)
  have hw := hw v5 e_v5
  refine m_istore hc [(4, .int v5), (3, .ref b2), (0, .ref x0), (1, .ref x1), (2, .int x2)] dX2_divideSlice_20 (Nat.le_of_ble_eq_true rfl) rfl ?_
  refine m_aload_n hc 2 dX2_divideSlice_22 rfl rfl ?_
  obtain ⟨ht, b6, e_b6, hw⟩ := hw
  refine c_getr hc hr ciX2 (Nat.le_of_ble_eq_true rfl) 7 (Nat.le_of_ble_eq_true rfl) rfl dX2_divideSlice_23 lf_X2_48 ht e_b6 ?_
  obtain ⟨ht, b7, e_b7, hw⟩ := hw
  refine c_getr hc hr ciX1 (Nat.le_of_ble_eq_true rfl) 2 (Nat.le_of_ble_eq_true rfl) rfl dX2_divideSlice_26 lf_X2_195 ht e_b7 ?_
  refine m_aload_n hc 3 dX2_divideSlice_29 rfl rfl ?_
  obtain ⟨ht, hw⟩ := hw
  refine c_geti hc hr ciX3 (Nat.le_of_ble_eq_true rfl) 1 (Nat.le_of_ble_eq_true rfl) rfl dX2_divideSlice_30 lf_X2_165 ht ?_
  obtain ⟨ht, hi, hw⟩ := hw
  refine c_iald hc hr ht hi dX2_divideSlice_33 ?_
  refine m_topi (fun v8 e_v8 => ?_)
  have hw := hw v8 e_v8
  refine m_istore hc [(5, .int v8), (4, .int v5), (3, .ref b2), (0, .ref x0), (1, .ref x1), (2, .int x2)] dX2_divideSlice_34 (Nat.le_of_ble_eq_true rfl) rfl ?_
  refine m_aload_n hc 3 dX2_divideSlice_36 rfl rfl ?_
  obtain ⟨ht, b9, e_b9, hw⟩ := hw
  refine c_getr hc hr ciX2 (Nat.le_of_ble_eq_true rfl) 7 (Nat.le_of_ble_eq_true rfl) rfl dX2_divideSlice_37 lf_X2_48 ht e_b9 ?_
  obtain ⟨ht, b10, e_b10, hw⟩ := hw
  refine c_getr hc hr ciX1 (Nat.le_of_ble_eq_true rfl) 2 (Nat.le_of_ble_eq_true rfl) rfl dX2_divideSlice_40 lf_X2_195 ht e_b10 ?_
  refine m_aload_n hc 4 dX2_divideSlice_43 rfl rfl ?_
  obtain ⟨ht, hw⟩ := hw
  refine c_geti hc hr ciX3 (Nat.le_of_ble_eq_true rfl) 2 (Nat.le_of_ble_eq_true rfl) rfl dX2_divideSlice_44 lf_X2_171 ht ?_
  obtain ⟨ht, hi, hw⟩ := hw
  refine c_iald hc hr ht hi dX2_divideSlice_47 ?_
  refine m_topi (fun v11 e_v11 => ?_)
  have hw := hw v11 e_v11
  refine m_istore hc [(6, .int v11), (5, .int v8), (4, .int v5), (3, .ref b2), (0, .ref x0), (1, .ref x1), (2, .int x2)] dX2_divideSlice_48 (Nat.le_of_ble_eq_true rfl) rfl ?_
  refine m_aload_n hc 5 dX2_divideSlice_50 rfl rfl ?_
  obtain ⟨ht, hw⟩ := hw
  refine c_geti hc hr ciX3 (Nat.le_of_ble_eq_true rfl) 3 (Nat.le_of_ble_eq_true rfl) rfl dX2_divideSlice_51 lf_X2_162 ht ?_
  refine m_if_ne hc 61 dX2_divideSlice_54 rfl (fun cq => ?_) (fun cq => ?_)
  · have hw := hw.1 cq
    refine m_aload_n hc 4 dX2_divideSlice_61 rfl rfl ?_
    obtain ⟨ht, hw⟩ := hw
    refine c_geti hc hr ciX2 (Nat.le_of_ble_eq_true rfl) 12 (Nat.le_of_ble_eq_true rfl) rfl dX2_divideSlice_62 lf_X2_69 ht ?_
    refine m_aload_n hc 5 dX2_divideSlice_65 rfl rfl ?_
    obtain ⟨ht, hw⟩ := hw
    refine c_geti hc hr ciX3 (Nat.le_of_ble_eq_true rfl) 3 (Nat.le_of_ble_eq_true rfl) rfl dX2_divideSlice_66 lf_X2_162 ht ?_
    refine m_isub hc dX2_divideSlice_69 ?_
    refine m_sub [4, 5, 6, 3, 2, 1, 0] rfl ?_
    exact b_X2_divideSlice_70 hc hr x0 x1 x2 b2 v5 v8 v11 ((hI S x0 12) - (hI S x1 3)) S hw
  · have hw := hw.2 cq
    refine m_iconst hc 0 dX2_divideSlice_57 (by decide) ?_
    refine m_goto hc 70 dX2_divideSlice_58 rfl ?_
    refine m_sub [4, 5, 6, 3, 2, 1, 0] rfl ?_
    exact b_X2_divideSlice_70 hc hr x0 x1 x2 b2 v5 v8 v11 0 S hw
def wb_X2_isSliceZero_67 (M : Nat × Nat) (K29 : Nat → Nat → Int32 → Int32 → Int32 → HS → Prop) (K67 : Nat → Nat → Int32 → Int32 → Int32 → Int32 → Int32 → HS → Prop) (K : Int32 → HS → Prop) (x0 x1 : Nat) (x2 x3 x4 x5 x6 : Int32) (S : HS) : Prop := (x5 < x6 → K29 x0 x1 x2 x3 (x4 + 1) S) ∧ (¬ (x5 < x6) → hT S x0 = 3 ∧ ∃ b1 : Nat, hP S x0 7 = some b1 ∧ hT S b1 = 2 ∧ ∃ b2 : Nat, hP S b1 0 = some b2 ∧ hT S b2 = 21 ∧ vp_in ((x4 * x2) + (x6 * x3)) (hN S b2) ∧ hT S x0 = 3 ∧ ¬ (hI S x0 12) = 0 ∧ (((iRem (hI S b2 (Int32.toNatClampNeg ((x4 * x2) + (x6 * x3)))) (hI S x0 12)) = 0 → K67 x0 x1 x2 x3 x4 x5 (x6 + 1) S) ∧ (¬ ((iRem (hI S b2 (Int32.toNatClampNeg ((x4 * x2) + (x6 * x3)))) (hI S x0 12)) = 0) → K 0 S)))
def wl_X2_isSliceZero_67 (M : Nat × Nat) (K29 : Nat → Nat → Int32 → Int32 → Int32 → HS → Prop) (K : Int32 → HS → Prop) : Nat → Nat → Nat → Int32 → Int32 → Int32 → Int32 → Int32 → HS → Prop
  | 0 => fun _ _ _ _ _ _ _ _ => False
  | nn + 1 => wb_X2_isSliceZero_67 M K29 (wl_X2_isSliceZero_67 M K29 K nn) K
set_option maxHeartbeats 4000000 in
set_option maxRecDepth 100000 in
theorem l_X2_isSliceZero_67 {G : CG} {S0 : HS} {X : Fx} {K : Int32 → HS → Prop} (hc : Cx X RX2 cX2_isSliceZero 7) (hr : Cc G S0 1 (some .boolean) (kI K) X) (K29 : Nat → Nat → Int32 → Int32 → Int32 → HS → Prop) (h29 : ∀ (x0 x1 : Nat) (x2 x3 x4 : Int32) (S : HS), K29 x0 x1 x2 x3 x4 S → MC G S0 X 7 S 29 [(0, .ref x0), (1, .ref x1), (2, .int x2), (3, .int x3), (4, .int x4)] []) : ∀ (nn : Nat) (x0 x1 : Nat) (x2 x3 x4 x5 x6 : Int32) (S : HS), wl_X2_isSliceZero_67 (gC G, gS G) K29 K nn x0 x1 x2 x3 x4 x5 x6 S → MC G S0 X 7 S 67 [(0, .ref x0), (1, .ref x1), (2, .int x2), (3, .int x3), (4, .int x4), (5, .int x5), (6, .int x6)] [] := by
  intro nn
  induction nn with
  | zero => intro x0 x1 x2 x3 x4 x5 x6 S hw; exact False.elim hw
  | succ nn ih =>
    intro x0 x1 x2 x3 x4 x5 x6 S hw
    have hw : wb_X2_isSliceZero_67 (gC G, gS G) K29 (wl_X2_isSliceZero_67 (gC G, gS G) K29 K nn) K x0 x1 x2 x3 x4 x5 x6 S := hw
    have h67 := ih
    generalize wl_X2_isSliceZero_67 (gC G, gS G) K29 K nn = K67 at hw h67
    unfold wb_X2_isSliceZero_67 at hw
    refine m_iload hc 6 dX2_isSliceZero_67 rfl ?_
    refine m_iload hc 5 dX2_isSliceZero_69 rfl ?_
    refine m_icmp_gt hc 107 dX2_isSliceZero_71 rfl (fun cq => ?_) (fun cq => ?_)
    · have hw := hw.1 cq
      refine m_iinc hc 4 (x4 + 1) [(4, .int (x4 + 1)), (0, .ref x0), (1, .ref x1), (2, .int x2), (3, .int x3), (5, .int x5), (6, .int x6)] dX2_isSliceZero_107 rfl rfl (Nat.le_of_ble_eq_true rfl) rfl ?_
      refine m_goto hc 29 dX2_isSliceZero_110 rfl ?_
      refine m_sub [1, 2, 3, 4, 0] rfl ?_
      exact h29 x0 x1 x2 x3 (x4 + 1) S hw
    · have hw := hw.2 cq
      refine m_aload_n hc 0 dX2_isSliceZero_74 rfl rfl ?_
      obtain ⟨ht, b1, e_b1, hw⟩ := hw
      refine c_getr hc hr ciX2 (Nat.le_of_ble_eq_true rfl) 7 (Nat.le_of_ble_eq_true rfl) rfl dX2_isSliceZero_75 lf_X2_48 ht e_b1 ?_
      obtain ⟨ht, b2, e_b2, hw⟩ := hw
      refine c_getr hc hr ciX1 (Nat.le_of_ble_eq_true rfl) 0 (Nat.le_of_ble_eq_true rfl) rfl dX2_isSliceZero_78 lf_X2_122 ht e_b2 ?_
      refine m_iload hc 4 dX2_isSliceZero_81 rfl ?_
      refine m_iload_n hc 2 dX2_isSliceZero_83 rfl rfl ?_
      refine m_imul hc dX2_isSliceZero_84 ?_
      refine m_iload hc 6 dX2_isSliceZero_85 rfl ?_
      refine m_iload_n hc 3 dX2_isSliceZero_87 rfl rfl ?_
      refine m_imul hc dX2_isSliceZero_88 ?_
      refine m_iadd hc dX2_isSliceZero_89 ?_
      obtain ⟨ht, hi, hw⟩ := hw
      refine c_iald hc hr ht hi dX2_isSliceZero_90 ?_
      refine m_aload_n hc 0 dX2_isSliceZero_91 rfl rfl ?_
      obtain ⟨ht, hw⟩ := hw
      refine c_geti hc hr ciX2 (Nat.le_of_ble_eq_true rfl) 12 (Nat.le_of_ble_eq_true rfl) rfl dX2_isSliceZero_92 lf_X2_69 ht ?_
      obtain ⟨hq, hw⟩ := hw
      refine m_irem hc dX2_isSliceZero_95 hq ?_
      refine m_if_eq hc 101 dX2_isSliceZero_96 rfl (fun cq => ?_) (fun cq => ?_)
      · have hw := hw.1 cq
        refine m_iinc hc 6 (x6 + 1) [(6, .int (x6 + 1)), (0, .ref x0), (1, .ref x1), (2, .int x2), (3, .int x3), (4, .int x4), (5, .int x5)] dX2_isSliceZero_101 rfl rfl (Nat.le_of_ble_eq_true rfl) rfl ?_
        refine m_goto hc 67 dX2_isSliceZero_104 rfl ?_
        refine m_sub [1, 2, 3, 4, 5, 6, 0] rfl ?_
        exact h67 x0 x1 x2 x3 x4 x5 (x6 + 1) S hw
      · have hw := hw.2 cq
        refine m_iconst hc 0 dX2_isSliceZero_99 (by decide) ?_
        exact c_zret hc hr dX2_isSliceZero_100 (by decide) hw
def wb_X2_isSliceZero_29 (M : Nat × Nat) (K29 : Nat → Nat → Int32 → Int32 → Int32 → HS → Prop) (K : Int32 → HS → Prop) (x0 x1 : Nat) (x2 x3 x4 : Int32) (S : HS) : Prop := hT S x0 = 3 ∧ ∃ b1 : Nat, hP S x0 8 = some b1 ∧ hT S x1 = 4 ∧ hT S b1 = 21 ∧ vp_in (hI S x1 1) (hN S b1) ∧ ((hI S b1 (Int32.toNatClampNeg (hI S x1 1))) < x4 → K 1 S) ∧ (¬ ((hI S b1 (Int32.toNatClampNeg (hI S x1 1))) < x4) → hT S x0 = 3 ∧ ∃ b2 : Nat, hP S x0 8 = some b2 ∧ hT S x1 = 4 ∧ hT S b2 = 21 ∧ vp_in (hI S x1 2) (hN S b2) ∧ hT S x0 = 3 ∧ ∀ v3 : Int32, v3 = (if (hI S x0 9) - x4 < hI S b2 (Int32.toNatClampNeg (hI S x1 2)) then (hI S x0 9) - x4 else hI S b2 (Int32.toNatClampNeg (hI S x1 2))) → ∃ nn : Nat, wl_X2_isSliceZero_67 M K29 K nn x0 x1 x2 x3 x4 v3 0 S)
def wl_X2_isSliceZero_29 (M : Nat × Nat) (K : Int32 → HS → Prop) : Nat → Nat → Nat → Int32 → Int32 → Int32 → HS → Prop
  | 0 => fun _ _ _ _ _ _ => False
  | nn + 1 => wb_X2_isSliceZero_29 M (wl_X2_isSliceZero_29 M K nn) K
set_option maxHeartbeats 4000000 in
set_option maxRecDepth 100000 in
theorem l_X2_isSliceZero_29 {G : CG} {S0 : HS} {X : Fx} {K : Int32 → HS → Prop} (hc : Cx X RX2 cX2_isSliceZero 7) (hr : Cc G S0 1 (some .boolean) (kI K) X) : ∀ (nn : Nat) (x0 x1 : Nat) (x2 x3 x4 : Int32) (S : HS), wl_X2_isSliceZero_29 (gC G, gS G) K nn x0 x1 x2 x3 x4 S → MC G S0 X 7 S 29 [(0, .ref x0), (1, .ref x1), (2, .int x2), (3, .int x3), (4, .int x4)] [] := by
  intro nn
  induction nn with
  | zero => intro x0 x1 x2 x3 x4 S hw; exact False.elim hw
  | succ nn ih =>
    intro x0 x1 x2 x3 x4 S hw
    have hw : wb_X2_isSliceZero_29 (gC G, gS G) (wl_X2_isSliceZero_29 (gC G, gS G) K nn) K x0 x1 x2 x3 x4 S := hw
    have h29 := ih
    generalize wl_X2_isSliceZero_29 (gC G, gS G) K nn = K29 at hw h29
    unfold wb_X2_isSliceZero_29 at hw
    refine m_iload hc 4 dX2_isSliceZero_29 rfl ?_
    refine m_aload_n hc 0 dX2_isSliceZero_31 rfl rfl ?_
    obtain ⟨ht, b1, e_b1, hw⟩ := hw
    refine c_getr hc hr ciX2 (Nat.le_of_ble_eq_true rfl) 8 (Nat.le_of_ble_eq_true rfl) rfl dX2_isSliceZero_32 lf_X2_51 ht e_b1 ?_
    refine m_aload_n hc 1 dX2_isSliceZero_35 rfl rfl ?_
    obtain ⟨ht, hw⟩ := hw
    refine c_geti hc hr ciX3 (Nat.le_of_ble_eq_true rfl) 1 (Nat.le_of_ble_eq_true rfl) rfl dX2_isSliceZero_36 lf_X2_165 ht ?_
    obtain ⟨ht, hi, hw⟩ := hw
    refine c_iald hc hr ht hi dX2_isSliceZero_39 ?_
    refine m_icmp_gt hc 113 dX2_isSliceZero_40 rfl (fun cq => ?_) (fun cq => ?_)
    · have hw := hw.1 cq
      refine m_iconst hc 1 dX2_isSliceZero_113 (by decide) ?_
      exact c_zret hc hr dX2_isSliceZero_114 (by decide) hw
    · have hw := hw.2 cq
      refine m_aload_n hc 0 dX2_isSliceZero_43 rfl rfl ?_
      obtain ⟨ht, b2, e_b2, hw⟩ := hw
      refine c_getr hc hr ciX2 (Nat.le_of_ble_eq_true rfl) 8 (Nat.le_of_ble_eq_true rfl) rfl dX2_isSliceZero_44 lf_X2_51 ht e_b2 ?_
      refine m_aload_n hc 1 dX2_isSliceZero_47 rfl rfl ?_
      obtain ⟨ht, hw⟩ := hw
      refine c_geti hc hr ciX3 (Nat.le_of_ble_eq_true rfl) 2 (Nat.le_of_ble_eq_true rfl) rfl dX2_isSliceZero_48 lf_X2_171 ht ?_
      obtain ⟨ht, hi, hw⟩ := hw
      refine c_iald hc hr ht hi dX2_isSliceZero_51 ?_
      refine m_aload_n hc 0 dX2_isSliceZero_52 rfl rfl ?_
      obtain ⟨ht, hw⟩ := hw
      refine c_geti hc hr ciX2 (Nat.le_of_ble_eq_true rfl) 9 (Nat.le_of_ble_eq_true rfl) rfl dX2_isSliceZero_53 lf_X2_54 ht ?_
      refine m_iload hc 4 dX2_isSliceZero_56 rfl ?_
      refine m_isub hc dX2_isSliceZero_58 ?_
      refine c_bnd (fun g1 g2 => ?_)
      refine m_mmin hc dX2_isSliceZero_59 lm_X2_201 lM_min (c_room hr g1 g2) (Nat.le_of_ble_eq_true rfl) ?_
      refine m_topi (fun v3 e_v3 => ?_)
      have hw := hw v3 e_v3
      refine m_istore hc [(5, .int v3), (0, .ref x0), (1, .ref x1), (2, .int x2), (3, .int x3), (4, .int x4)] dX2_isSliceZero_62 (Nat.le_of_ble_eq_true rfl) rfl ?_
      refine m_iconst hc 0 dX2_isSliceZero_64 (by decide) ?_
      refine m_istore hc [(6, .int 0), (5, .int v3), (0, .ref x0), (1, .ref x1), (2, .int x2), (3, .int x3), (4, .int x4)] dX2_isSliceZero_65 (Nat.le_of_ble_eq_true rfl) rfl ?_
      refine m_sub [2, 3, 4, 5, 6, 1, 0] rfl ?_
      obtain ⟨nn, hw⟩ := hw
      exact l_X2_isSliceZero_67 hc hr K29 h29 nn x0 x1 x2 x3 x4 v3 0 S hw
def wp_X2_isSliceZero (M : Nat × Nat) (x0 x1 : Nat) (S : HS) (K : Int32 → HS → Prop) : Prop := hT S x0 = 3 ∧ ∃ b1 : Nat, hP S x0 7 = some b1 ∧ hT S b1 = 2 ∧ ∃ b2 : Nat, hP S b1 2 = some b2 ∧ hT S x1 = 4 ∧ hT S b2 = 21 ∧ vp_in (hI S x1 1) (hN S b2) ∧ ∀ v3 : Int32, v3 = (hI S b2 (Int32.toNatClampNeg (hI S x1 1))) → hT S x0 = 3 ∧ ∃ b4 : Nat, hP S x0 7 = some b4 ∧ hT S b4 = 2 ∧ ∃ b5 : Nat, hP S b4 2 = some b5 ∧ hT S x1 = 4 ∧ hT S b5 = 21 ∧ vp_in (hI S x1 2) (hN S b5) ∧ ∀ v6 : Int32, v6 = (hI S b5 (Int32.toNatClampNeg (hI S x1 2))) → ∃ nn : Nat, wl_X2_isSliceZero_29 M K nn x0 x1 v3 v6 0 S
set_option maxHeartbeats 4000000 in
set_option maxRecDepth 100000 in
theorem ok_X2_isSliceZero {G : CG} {x0 : Nat} {x1 : Nat} {S : HS} {K : Int32 → HS → Prop} (hw : wp_X2_isSliceZero (gC G, gS G) x0 x1 S K) : CC 1 yX2_isSliceZero cX2_isSliceZero 7 (some .boolean) [.ref x0, .ref x1] G S (kI K) := by
  refine CC.of (by decide +kernel) (Nat.le_of_ble_eq_true rfl) (fun X hc hr hname => ?_)
  show MC G S X 7 S 0 [(0, .ref x0), (1, .ref x1)] []
  unfold wp_X2_isSliceZero at hw
  refine m_aload_n hc 0 dX2_isSliceZero_0 rfl rfl ?_
  obtain ⟨ht, b1, e_b1, hw⟩ := hw
  refine c_getr hc hr ciX2 (Nat.le_of_ble_eq_true rfl) 7 (Nat.le_of_ble_eq_true rfl) rfl dX2_isSliceZero_1 lf_X2_48 ht e_b1 ?_
  obtain ⟨ht, b2, e_b2, hw⟩ := hw
  refine c_getr hc hr ciX1 (Nat.le_of_ble_eq_true rfl) 2 (Nat.le_of_ble_eq_true rfl) rfl dX2_isSliceZero_4 lf_X2_195 ht e_b2 ?_
  refine m_aload_n hc 1 dX2_isSliceZero_7 rfl rfl ?_
  obtain ⟨ht, hw⟩ := hw
  refine c_geti hc hr ciX3 (Nat.le_of_ble_eq_true rfl) 1 (Nat.le_of_ble_eq_true rfl) rfl dX2_isSliceZero_8 lf_X2_165 ht ?_
  obtain ⟨ht, hi, hw⟩ := hw
  refine c_iald hc hr ht hi dX2_isSliceZero_11 ?_
  refine m_topi (fun v3 e_v3 => ?_)
  have hw := hw v3 e_v3
  refine m_istore_n hc [(2, .int v3), (0, .ref x0), (1, .ref x1)] dX2_isSliceZero_12 rfl (Nat.le_of_ble_eq_true rfl) rfl ?_
  refine m_aload_n hc 1 dX2_isSliceZero_13 rfl rfl ?_
  obtain ⟨ht, b4, e_b4, hw⟩ := hw
  refine c_getr hc hr ciX2 (Nat.le_of_ble_eq_true rfl) 7 (Nat.le_of_ble_eq_true rfl) rfl dX2_isSliceZero_14 lf_X2_48 ht e_b4 ?_
  obtain ⟨ht, b5, e_b5, hw⟩ := hw
  refine c_getr hc hr ciX1 (Nat.le_of_ble_eq_true rfl) 2 (Nat.le_of_ble_eq_true rfl) rfl dX2_isSliceZero_17 lf_X2_195 ht e_b5 ?_
  refine m_aload_n hc 2 dX2_isSliceZero_20 rfl rfl ?_
  obtain ⟨ht, hw⟩ := hw
  refine c_geti hc hr ciX3 (Nat.le_of_ble_eq_true rfl) 2 (Nat.le_of_ble_eq_true rfl) rfl dX2_isSliceZero_21 lf_X2_171 ht ?_
  obtain ⟨ht, hi, hw⟩ := hw
  refine c_iald hc hr ht hi dX2_isSliceZero_24 ?_
  refine m_topi (fun v6 e_v6 => ?_)
  have hw := hw v6 e_v6
  refine m_istore_n hc [(3, .int v6), (2, .int v3), (0, .ref x0), (1, .ref x1)] dX2_isSliceZero_25 rfl (Nat.le_of_ble_eq_true rfl) rfl ?_
  refine m_iconst hc 0 dX2_isSliceZero_26 (by decide) ?_
  refine m_istore hc [(4, .int 0), (3, .int v6), (2, .int v3), (0, .ref x0), (1, .ref x1)] dX2_isSliceZero_27 (Nat.le_of_ble_eq_true rfl) rfl ?_
  refine m_sub [3, 4, 2, 1, 0] rfl ?_
  obtain ⟨nn, hw⟩ := hw
  exact l_X2_isSliceZero_29 hc hr nn x0 x1 v3 v6 0 S hw
