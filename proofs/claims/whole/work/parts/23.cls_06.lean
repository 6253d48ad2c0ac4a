def wb_J7_fill_53178_5 (M : Nat × Nat) (K5 : Nat → Int32 → Int32 → Int32 → HS → Prop) (K : Int32 → HS → Prop) (x0 : Nat) (x1 x2 x3 : Int32) (S : HS) : Prop := (x3 ≤ x2 → K 0 S) ∧ (¬ (x3 ≤ x2) → hT S x0 = 21 ∧ vp_in x2 (hN S x0) ∧ K5 x0 x1 (x2 + 1) x3 (sI S x0 (Int32.toNatClampNeg x2) x1))
def wl_J7_fill_53178_5 (M : Nat × Nat) (K : Int32 → HS → Prop) : Nat → Nat → Int32 → Int32 → Int32 → HS → Prop
  | 0 => fun _ _ _ _ _ => False
  | nn + 1 => wb_J7_fill_53178_5 M (wl_J7_fill_53178_5 M K nn) K
set_option maxHeartbeats 4000000 in
set_option maxRecDepth 100000 in
theorem l_J7_fill_53178_5 {G : CG} {S0 : HS} {X : Fx} {K : Int32 → HS → Prop} (hc : Cx X RJ7 cJ7_fill_53178 4) (hr : Cc G S0 0 none (kV K) X) : ∀ (nn : Nat) (x0 : Nat) (x1 x2 x3 : Int32) (S : HS), wl_J7_fill_53178_5 (gC G, gS G) K nn x0 x1 x2 x3 S → MC G S0 X 4 S 5 [(0, .ref x0), (1, .int x1), (2, .int x2), (3, .int x3)] [] := by
  intro nn
  induction nn with
  | zero => intro x0 x1 x2 x3 S hw; exact False.elim hw
  | succ nn ih =>
    intro x0 x1 x2 x3 S hw
    have hw : wb_J7_fill_53178_5 (gC G, gS G) (wl_J7_fill_53178_5 (gC G, gS G) K nn) K x0 x1 x2 x3 S := hw
    have h5 := ih
    generalize wl_J7_fill_53178_5 (gC G, gS G) K nn = K5 at hw h5
    unfold wb_J7_fill_53178_5 at hw
    refine m_iload_n hc 2 dJ7_fill_53178_5 rfl rfl ?_
    refine m_iload_n hc 3 dJ7_fill_53178_6 rfl rfl ?_
    refine m_icmp_ge hc 20 dJ7_fill_53178_7 rfl (fun cq => ?_) (fun cq => ?_)
    · have hw := hw.1 cq
      exact c_vret hc hr dJ7_fill_53178_20 hw
    · have hw := hw.2 cq
      refine m_aload_n hc 0 dJ7_fill_53178_10 rfl rfl ?_
      refine m_iload_n hc 2 dJ7_fill_53178_11 rfl rfl ?_
      refine m_iload_n hc 1 dJ7_fill_53178_12 rfl rfl ?_
      obtain ⟨ht, hi, hw⟩ := hw
      refine c_iast hc hr ht hi dJ7_fill_53178_13 ?_
      refine m_iinc hc 2 (x2 + 1) [(2, .int (x2 + 1)), (0, .ref x0), (1, .int x1), (3, .int x3)] dJ7_fill_53178_14 rfl rfl (Nat.le_of_ble_eq_true rfl) rfl ?_
      refine m_goto hc 5 dJ7_fill_53178_17 rfl ?_
      refine m_sub [1, 2, 0, 3] rfl ?_
      exact h5 x0 x1 (x2 + 1) x3 (sI S x0 (Int32.toNatClampNeg x2) x1) hw
def wp_J7_fill_53178 (M : Nat × Nat) (x0 : Nat) (x1 : Int32) (S : HS) (K : Int32 → HS → Prop) : Prop := (hT S x0 = 21 ∨ hT S x0 = 22 ∨ hT S x0 = 23) ∧ ∃ nn : Nat, wl_J7_fill_53178_5 M K nn x0 x1 0 (Int32.ofNat (hN S x0)) S
set_option maxHeartbeats 4000000 in
set_option maxRecDepth 100000 in
theorem ok_J7_fill_53178 {G : CG} {x0 : Nat} {x1 : Int32} {S : HS} {K : Int32 → HS → Prop} (hw : wp_J7_fill_53178 (gC G, gS G) x0 x1 S K) : CC 0 yJ7_fill_53178 cJ7_fill_53178 4 none [.ref x0, .int x1] G S (kV K) := by
  refine CC.of (by decide +kernel) (Nat.le_of_ble_eq_true rfl) (fun X hc hr hname => ?_)
  show MC G S X 4 S 0 [(0, .ref x0), (1, .int x1)] []
  unfold wp_J7_fill_53178 at hw
  refine m_iconst hc 0 dJ7_fill_53178_0 (by decide) ?_
  refine m_istore_n hc [(2, .int 0), (0, .ref x0), (1, .int x1)] dJ7_fill_53178_1 rfl (Nat.le_of_ble_eq_true rfl) rfl ?_
  refine m_aload_n hc 1 dJ7_fill_53178_2 rfl rfl ?_
  obtain ⟨ht, hw⟩ := hw
  refine c_alen hc hr ht dJ7_fill_53178_3 ?_
  refine m_istore_n hc [(3, .int (Int32.ofNat (hN S x0))), (2, .int 0), (0, .ref x0), (1, .int x1)] dJ7_fill_53178_4 rfl (Nat.le_of_ble_eq_true rfl) rfl ?_
  refine m_sub [2, 3, 1, 0] rfl ?_
  obtain ⟨nn, hw⟩ := hw
  exact l_J7_fill_53178_5 hc hr nn x0 x1 0 (Int32.ofNat (hN S x0)) S hw
def wp_X7_mark (M : Nat × Nat) (x0 : Nat) (x1 : Int32) (S : HS) (K : Int32 → HS → Prop) : Prop := (x1 < 103 → K 0 S) ∧ (¬ (x1 < 103) → hT S x0 = 8 ∧ ∃ b1 : Nat, hP S x0 8 = some b1 ∧ hT S b1 = 21 ∧ vp_in (x1 - 103) (hN S b1) ∧ K 0 (sI S b1 (Int32.toNatClampNeg (x1 - 103)) 1))
set_option maxHeartbeats 4000000 in
set_option maxRecDepth 100000 in
theorem ok_X7_mark {G : CG} {x0 : Nat} {x1 : Int32} {S : HS} {K : Int32 → HS → Prop} (hw : wp_X7_mark (gC G, gS G) x0 x1 S K) : CC 0 yX7_mark cX7_mark 2 none [.ref x0, .int x1] G S (kV K) := by
  refine CC.of (by decide +kernel) (Nat.le_of_ble_eq_true rfl) (fun X hc hr hname => ?_)
  show MC G S X 2 S 0 [(0, .ref x0), (1, .int x1)] []
  unfold wp_X7_mark at hw
  refine m_iload_n hc 1 dX7_mark_0 rfl rfl ?_
  refine m_bipush hc 103 dX7_mark_1 (by decide) ?_
  refine m_icmp_lt hc 16 dX7_mark_3 rfl (fun cq => ?_) (fun cq => ?_)
  · have hw := hw.1 cq
    exact c_vret hc hr dX7_mark_16 hw
  · have hw := hw.2 cq
    refine m_aload_n hc 0 dX7_mark_6 rfl rfl ?_
    obtain ⟨ht, b1, e_b1, hw⟩ := hw
    refine c_getr hc hr ciX7 (Nat.le_of_ble_eq_true rfl) 8 (Nat.le_of_ble_eq_true rfl) rfl dX7_mark_7 lf_X7_40 ht e_b1 ?_
    refine m_iload_n hc 1 dX7_mark_10 rfl rfl ?_
    refine m_bipush hc 103 dX7_mark_11 (by decide) ?_
    refine m_isub hc dX7_mark_13 ?_
    refine m_iconst hc 1 dX7_mark_14 (by decide) ?_
    obtain ⟨ht, hi, hw⟩ := hw
    refine c_iast hc hr ht hi dX7_mark_15 ?_
    exact c_vret hc hr dX7_mark_16 hw
def wb_X7_lastStandsOn_27 (M : Nat × Nat) (K27 : Nat → Int32 → Int32 → HS → Prop) (K : Int32 → HS → Prop) (x0 : Nat) (x1 x2 : Int32) (S : HS) : Prop := (x2 ≤ x1 → hT S x0 = 8 ∧ ∃ b1 : Nat, hP S x0 8 = some b1 ∧ hT S b1 = 21 ∧ vp_in x1 (hN S b1) ∧ ((hI S b1 (Int32.toNatClampNeg x1)) = 0 → K 0 S) ∧ (¬ ((hI S b1 (Int32.toNatClampNeg x1)) = 0) → K 1 S)) ∧ (¬ (x2 ≤ x1) → hT S x0 = 8 ∧ ∃ b2 : Nat, hP S x0 8 = some b2 ∧ hT S b2 = 21 ∧ vp_in x2 (hN S b2) ∧ ((hI S b2 (Int32.toNatClampNeg x2)) = 0 → K27 x0 x1 (x2 + (-1)) S) ∧ (¬ ((hI S b2 (Int32.toNatClampNeg x2)) = 0) → hT S x0 = 8 ∧ ∃ b3 : Nat, hP S x0 3 = some b3 ∧ hT S b3 = 21 ∧ vp_in x2 (hN S b3) ∧ hT S x0 = 8 ∧ wp_X7_mark M x0 (hI S b3 (Int32.toNatClampNeg x2)) S (fun r4 S4 => hT S4 x0 = 8 ∧ ∃ b5 : Nat, hP S4 x0 4 = some b5 ∧ hT S4 b5 = 21 ∧ vp_in x2 (hN S4 b5) ∧ hT S4 x0 = 8 ∧ wp_X7_mark M x0 (hI S4 b5 (Int32.toNatClampNeg x2)) S4 (fun r6 S6 => K27 x0 x1 (x2 + (-1)) S6))))
def wl_X7_lastStandsOn_27 (M : Nat × Nat) (K : Int32 → HS → Prop) : Nat → Nat → Int32 → Int32 → HS → Prop
  | 0 => fun _ _ _ _ => False
  | nn + 1 => wb_X7_lastStandsOn_27 M (wl_X7_lastStandsOn_27 M K nn) K
set_option maxHeartbeats 4000000 in
set_option maxRecDepth 100000 in
theorem l_X7_lastStandsOn_27 {G : CG} {S0 : HS} {X : Fx} {K : Int32 → HS → Prop} (hc : Cx X RX7 cX7_lastStandsOn 3) (hr : Cc G S0 1 (some .boolean) (kI K) X) : ∀ (nn : Nat) (x0 : Nat) (x1 x2 : Int32) (S : HS), wl_X7_lastStandsOn_27 (gC G, gS G) K nn x0 x1 x2 S → MC G S0 X 3 S 27 [(0, .ref x0), (1, .int x1), (2, .int x2)] [] := by
  intro nn
  induction nn with
  | zero => intro x0 x1 x2 S hw; exact False.elim hw
  | succ nn ih =>
    intro x0 x1 x2 S hw
    have hw : wb_X7_lastStandsOn_27 (gC G, gS G) (wl_X7_lastStandsOn_27 (gC G, gS G) K nn) K x0 x1 x2 S := hw
    have h27 := ih
    generalize wl_X7_lastStandsOn_27 (gC G, gS G) K nn = K27 at hw h27
    unfold wb_X7_lastStandsOn_27 at hw
    refine m_iload_n hc 2 dX7_lastStandsOn_27 rfl rfl ?_
    refine m_iload_n hc 1 dX7_lastStandsOn_28 rfl rfl ?_
    refine m_icmp_le hc 67 dX7_lastStandsOn_29 rfl (fun cq => ?_) (fun cq => ?_)
    · have hw := hw.1 cq
      refine m_aload_n hc 0 dX7_lastStandsOn_67 rfl rfl ?_
      obtain ⟨ht, b1, e_b1, hw⟩ := hw
      refine c_getr hc hr ciX7 (Nat.le_of_ble_eq_true rfl) 8 (Nat.le_of_ble_eq_true rfl) rfl dX7_lastStandsOn_68 lf_X7_40 ht e_b1 ?_
      refine m_iload_n hc 1 dX7_lastStandsOn_71 rfl rfl ?_
      obtain ⟨ht, hi, hw⟩ := hw
      refine c_iald hc hr ht hi dX7_lastStandsOn_72 ?_
      refine m_if_eq hc 80 dX7_lastStandsOn_73 rfl (fun cq => ?_) (fun cq => ?_)
      · have hw := hw.1 cq
        refine m_iconst hc 0 dX7_lastStandsOn_80 (by decide) ?_
        exact c_zret hc hr dX7_lastStandsOn_81 (by decide) hw
      · have hw := hw.2 cq
        refine m_iconst hc 1 dX7_lastStandsOn_76 (by decide) ?_
        refine m_goto hc 81 dX7_lastStandsOn_77 rfl ?_
        exact c_zret hc hr dX7_lastStandsOn_81 (by decide) hw
    · have hw := hw.2 cq
      refine m_aload_n hc 0 dX7_lastStandsOn_32 rfl rfl ?_
      obtain ⟨ht, b2, e_b2, hw⟩ := hw
      refine c_getr hc hr ciX7 (Nat.le_of_ble_eq_true rfl) 8 (Nat.le_of_ble_eq_true rfl) rfl dX7_lastStandsOn_33 lf_X7_40 ht e_b2 ?_
      refine m_iload_n hc 2 dX7_lastStandsOn_36 rfl rfl ?_
      obtain ⟨ht, hi, hw⟩ := hw
      refine c_iald hc hr ht hi dX7_lastStandsOn_37 ?_
      refine m_if_eq hc 61 dX7_lastStandsOn_38 rfl (fun cq => ?_) (fun cq => ?_)
      · have hw := hw.1 cq
        refine m_iinc hc 2 (x2 + (-1)) [(2, .int (x2 + (-1))), (0, .ref x0), (1, .int x1)] dX7_lastStandsOn_61 rfl rfl (Nat.le_of_ble_eq_true rfl) rfl ?_
        refine m_goto hc 27 dX7_lastStandsOn_64 rfl ?_
        refine m_sub [1, 2, 0] rfl ?_
        exact h27 x0 x1 (x2 + (-1)) S hw
      · have hw := hw.2 cq
        refine m_aload_n hc 0 dX7_lastStandsOn_41 rfl rfl ?_
        refine m_aload_n hc 0 dX7_lastStandsOn_42 rfl rfl ?_
        obtain ⟨ht, b3, e_b3, hw⟩ := hw
        refine c_getr hc hr ciX7 (Nat.le_of_ble_eq_true rfl) 3 (Nat.le_of_ble_eq_true rfl) rfl dX7_lastStandsOn_43 lf_X7_22 ht e_b3 ?_
        refine m_iload_n hc 2 dX7_lastStandsOn_46 rfl rfl ?_
        obtain ⟨ht, hi, hw⟩ := hw
        refine c_iald hc hr ht hi dX7_lastStandsOn_47 ?_
        obtain ⟨ht, hw⟩ := hw
        refine c_callVv hc hr ciX7 (Nat.le_of_ble_eq_true rfl) ht mt_X7_mark rfl lm_X7_96 (ok_X7_mark hw) (Nat.le_of_ble_eq_true rfl) dX7_lastStandsOn_48 rfl (rest := []) rfl (Nat.le_of_ble_eq_true rfl) (fun S4 hw => ?_)
        refine m_aload_n hc 0 dX7_lastStandsOn_51 rfl rfl ?_
        refine m_aload_n hc 0 dX7_lastStandsOn_52 rfl rfl ?_
        obtain ⟨ht, b5, e_b5, hw⟩ := hw
        refine c_getr hc hr ciX7 (Nat.le_of_ble_eq_true rfl) 4 (Nat.le_of_ble_eq_true rfl) rfl dX7_lastStandsOn_53 lf_X7_25 ht e_b5 ?_
        refine m_iload_n hc 2 dX7_lastStandsOn_56 rfl rfl ?_
        obtain ⟨ht, hi, hw⟩ := hw
        refine c_iald hc hr ht hi dX7_lastStandsOn_57 ?_
        obtain ⟨ht, hw⟩ := hw
        refine c_callVv hc hr ciX7 (Nat.le_of_ble_eq_true rfl) ht mt_X7_mark rfl lm_X7_96 (ok_X7_mark hw) (Nat.le_of_ble_eq_true rfl) dX7_lastStandsOn_58 rfl (rest := []) rfl (Nat.le_of_ble_eq_true rfl) (fun S6 hw => ?_)
        refine m_iinc hc 2 (x2 + (-1)) [(2, .int (x2 + (-1))), (0, .ref x0), (1, .int x1)] dX7_lastStandsOn_61 rfl rfl (Nat.le_of_ble_eq_true rfl) rfl ?_
        refine m_goto hc 27 dX7_lastStandsOn_64 rfl ?_
        refine m_sub [1, 2, 0] rfl ?_
        exact h27 x0 x1 (x2 + (-1)) S6 hw
def wp_X7_lastStandsOn (M : Nat × Nat) (x0 : Nat) (x1 : Int32) (S : HS) (K : Int32 → HS → Prop) : Prop := hT S x0 = 8 ∧ ∃ b1 : Nat, hP S x0 8 = some b1 ∧ wp_J7_fill_53178 M b1 0 S (fun r2 S2 => hT S2 x0 = 8 ∧ ∃ b3 : Nat, hP S2 x0 8 = some b3 ∧ hT S2 x0 = 8 ∧ hT S2 b3 = 21 ∧ vp_in ((hI S2 x0 0) - 1) (hN S2 b3) ∧ hT (sI S2 b3 (Int32.toNatClampNeg ((hI S2 x0 0) - 1)) 1) x0 = 8 ∧ ∀ v4 : Int32, v4 = ((hI (sI S2 b3 (Int32.toNatClampNeg ((hI S2 x0 0) - 1)) 1) x0 0) - 1) → ∃ nn : Nat, wl_X7_lastStandsOn_27 M K nn x0 x1 v4 (sI S2 b3 (Int32.toNatClampNeg ((hI S2 x0 0) - 1)) 1))
set_option maxHeartbeats 4000000 in
set_option maxRecDepth 100000 in
theorem ok_X7_lastStandsOn {G : CG} {x0 : Nat} {x1 : Int32} {S : HS} {K : Int32 → HS → Prop} (hw : wp_X7_lastStandsOn (gC G, gS G) x0 x1 S K) : CC 1 yX7_lastStandsOn cX7_lastStandsOn 3 (some .boolean) [.ref x0, .int x1] G S (kI K) := by
  refine CC.of (by decide +kernel) (Nat.le_of_ble_eq_true rfl) (fun X hc hr hname => ?_)
  show MC G S X 3 S 0 [(0, .ref x0), (1, .int x1)] []
  unfold wp_X7_lastStandsOn at hw
  refine m_aload_n hc 0 dX7_lastStandsOn_0 rfl rfl ?_
  obtain ⟨ht, b1, e_b1, hw⟩ := hw
  refine c_getr hc hr ciX7 (Nat.le_of_ble_eq_true rfl) 8 (Nat.le_of_ble_eq_true rfl) rfl dX7_lastStandsOn_1 lf_X7_40 ht e_b1 ?_
  refine m_iconst hc 0 dX7_lastStandsOn_4 (by decide) ?_
  refine c_callSv hc hr mt_J7_fill_53178 lm_X7_90 (ok_J7_fill_53178 hw) (Nat.le_of_ble_eq_true rfl) dX7_lastStandsOn_5 rfl (rest := []) rfl (Nat.le_of_ble_eq_true rfl) (fun S2 hw => ?_)
  refine m_aload_n hc 0 dX7_lastStandsOn_8 rfl rfl ?_
  obtain ⟨ht, b3, e_b3, hw⟩ := hw
  refine c_getr hc hr ciX7 (Nat.le_of_ble_eq_true rfl) 8 (Nat.le_of_ble_eq_true rfl) rfl dX7_lastStandsOn_9 lf_X7_40 ht e_b3 ?_
  refine m_aload_n hc 0 dX7_lastStandsOn_12 rfl rfl ?_
  obtain ⟨ht, hw⟩ := hw
  refine c_geti hc hr ciX7 (Nat.le_of_ble_eq_true rfl) 0 (Nat.le_of_ble_eq_true rfl) rfl dX7_lastStandsOn_13 lf_X7_11 ht ?_
  refine m_iconst hc 1 dX7_lastStandsOn_16 (by decide) ?_
  refine m_isub hc dX7_lastStandsOn_17 ?_
  refine m_iconst hc 1 dX7_lastStandsOn_18 (by decide) ?_
  obtain ⟨ht, hi, hw⟩ := hw
  refine c_iast hc hr ht hi dX7_lastStandsOn_19 ?_
  refine m_aload_n hc 0 dX7_lastStandsOn_20 rfl rfl ?_
  obtain ⟨ht, hw⟩ := hw
  refine c_geti hc hr ciX7 (Nat.le_of_ble_eq_true rfl) 0 (Nat.le_of_ble_eq_true rfl) rfl dX7_lastStandsOn_21 lf_X7_11 ht ?_
  refine m_iconst hc 1 dX7_lastStandsOn_24 (by decide) ?_
  refine m_isub hc dX7_lastStandsOn_25 ?_
  refine m_topi (fun v4 e_v4 => ?_)
  have hw := hw v4 e_v4
  refine m_istore_n hc [(2, .int v4), (0, .ref x0), (1, .int x1)] dX7_lastStandsOn_26 rfl (Nat.le_of_ble_eq_true rfl) rfl ?_
  refine m_sub [1, 2, 0] rfl ?_
  obtain ⟨nn, hw⟩ := hw
  exact l_X7_lastStandsOn_27 hc hr nn x0 x1 v4 (sI S2 b3 (Int32.toNatClampNeg ((hI S2 x0 0) - 1)) 1) hw
def wb_X7_firstLike_2 (M : Nat × Nat) (K2 : Nat → Int32 → Int32 → HS → Prop) (K : Int32 → HS → Prop) (x0 : Nat) (x1 x2 : Int32) (S : HS) : Prop := (x1 ≤ x2 → K x1 S) ∧ (¬ (x1 ≤ x2) → hT S x0 = 8 ∧ ∃ b1 : Nat, hP S x0 6 = some b1 ∧ hT S b1 = 23 ∧ vp_in x2 (hN S b1) ∧ ∃ b2 : Nat, hP S b1 (Int32.toNatClampNeg x2) = some b2 ∧ hT S x0 = 8 ∧ ∃ b3 : Nat, hP S x0 6 = some b3 ∧ hT S b3 = 23 ∧ vp_in x1 (hN S b3) ∧ ∃ b4 : Nat, hP S b3 (Int32.toNatClampNeg x1) = some b4 ∧ hT S b2 = 7 ∧ wp_X6_isLike M b2 b4 S (fun r5 S5 => (r5 = 0 → K2 x0 x1 (x2 + 1) S5) ∧ (¬ (r5 = 0) → K x2 S5)))
def wl_X7_firstLike_2 (M : Nat × Nat) (K : Int32 → HS → Prop) : Nat → Nat → Int32 → Int32 → HS → Prop
  | 0 => fun _ _ _ _ => False
  | nn + 1 => wb_X7_firstLike_2 M (wl_X7_firstLike_2 M K nn) K
set_option maxHeartbeats 4000000 in
set_option maxRecDepth 100000 in
theorem l_X7_firstLike_2 {G : CG} {S0 : HS} {X : Fx} {K : Int32 → HS → Prop} (hc : Cx X RX7 cX7_firstLike 3) (hr : Cc G S0 1 (some .int) (kI K) X) : ∀ (nn : Nat) (x0 : Nat) (x1 x2 : Int32) (S : HS), wl_X7_firstLike_2 (gC G, gS G) K nn x0 x1 x2 S → MC G S0 X 3 S 2 [(0, .ref x0), (1, .int x1), (2, .int x2)] [] := by
  intro nn
  induction nn with
  | zero => intro x0 x1 x2 S hw; exact False.elim hw
  | succ nn ih =>
    intro x0 x1 x2 S hw
    have hw : wb_X7_firstLike_2 (gC G, gS G) (wl_X7_firstLike_2 (gC G, gS G) K nn) K x0 x1 x2 S := hw
    have h2 := ih
    generalize wl_X7_firstLike_2 (gC G, gS G) K nn = K2 at hw h2
    unfold wb_X7_firstLike_2 at hw
    refine m_iload_n hc 2 dX7_firstLike_2 rfl rfl ?_
    refine m_iload_n hc 1 dX7_firstLike_3 rfl rfl ?_
    refine m_icmp_ge hc 33 dX7_firstLike_4 rfl (fun cq => ?_) (fun cq => ?_)
    · have hw := hw.1 cq
      refine m_iload_n hc 1 dX7_firstLike_33 rfl rfl ?_
      exact c_iret hc hr dX7_firstLike_34 hw
    · have hw := hw.2 cq
      refine m_aload_n hc 0 dX7_firstLike_7 rfl rfl ?_
      obtain ⟨ht, b1, e_b1, hw⟩ := hw
      refine c_getr hc hr ciX7 (Nat.le_of_ble_eq_true rfl) 6 (Nat.le_of_ble_eq_true rfl) rfl dX7_firstLike_8 lf_X7_33 ht e_b1 ?_
      refine m_iload_n hc 2 dX7_firstLike_11 rfl rfl ?_
      obtain ⟨ht, hi, b2, e_b2, hw⟩ := hw
      refine c_aald hc hr ht hi e_b2 dX7_firstLike_12 ?_
      refine m_aload_n hc 0 dX7_firstLike_13 rfl rfl ?_
      obtain ⟨ht, b3, e_b3, hw⟩ := hw
      refine c_getr hc hr ciX7 (Nat.le_of_ble_eq_true rfl) 6 (Nat.le_of_ble_eq_true rfl) rfl dX7_firstLike_14 lf_X7_33 ht e_b3 ?_
      refine m_iload_n hc 1 dX7_firstLike_17 rfl rfl ?_
      obtain ⟨ht, hi, b4, e_b4, hw⟩ := hw
      refine c_aald hc hr ht hi e_b4 dX7_firstLike_18 ?_
      obtain ⟨ht, hw⟩ := hw
      refine c_callVi hc hr ciX6 (Nat.le_of_ble_eq_true rfl) ht mt_X6_isLike rfl lm_X7_100 (ok_X6_isLike hw) (Nat.le_of_ble_eq_true rfl) dX7_firstLike_19 rfl (rest := []) rfl (Nat.le_of_ble_eq_true rfl) (fun r5 S5 hw => ?_)
      refine m_if_eq hc 27 dX7_firstLike_22 rfl (fun cq => ?_) (fun cq => ?_)
      · have hw := hw.1 cq
        refine m_iinc hc 2 (x2 + 1) [(2, .int (x2 + 1)), (0, .ref x0), (1, .int x1)] dX7_firstLike_27 rfl rfl (Nat.le_of_ble_eq_true rfl) rfl ?_
        refine m_goto hc 2 dX7_firstLike_30 rfl ?_
        refine m_sub [1, 2, 0] rfl ?_
        exact h2 x0 x1 (x2 + 1) S5 hw
      · have hw := hw.2 cq
        refine m_iload_n hc 2 dX7_firstLike_25 rfl rfl ?_
        exact c_iret hc hr dX7_firstLike_26 hw
def wp_X7_firstLike (M : Nat × Nat) (x0 : Nat) (x1 : Int32) (S : HS) (K : Int32 → HS → Prop) : Prop := ∃ nn : Nat, wl_X7_firstLike_2 M K nn x0 x1 0 S
set_option maxHeartbeats 4000000 in
set_option maxRecDepth 100000 in
theorem ok_X7_firstLike {G : CG} {x0 : Nat} {x1 : Int32} {S : HS} {K : Int32 → HS → Prop} (hw : wp_X7_firstLike (gC G, gS G) x0 x1 S K) : CC 1 yX7_firstLike cX7_firstLike 3 (some .int) [.ref x0, .int x1] G S (kI K) := by
  refine CC.of (by decide +kernel) (Nat.le_of_ble_eq_true rfl) (fun X hc hr hname => ?_)
  show MC G S X 3 S 0 [(0, .ref x0), (1, .int x1)] []
  unfold wp_X7_firstLike at hw
  refine m_iconst hc 0 dX7_firstLike_0 (by decide) ?_
  refine m_istore_n hc [(2, .int 0), (0, .ref x0), (1, .int x1)] dX7_firstLike_1 rfl (Nat.le_of_ble_eq_true rfl) rfl ?_
  refine m_sub [1, 2, 0] rfl ?_
  obtain ⟨nn, hw⟩ := hw
  exact l_X7_firstLike_2 hc hr nn x0 x1 0 S hw
def wb_X7_usersOf_6 (M : Nat × Nat) (K6 : Nat → Int32 → Int32 → Int32 → HS → Prop) (K : Int32 → HS → Prop) (x0 : Nat) (x1 x2 x3 : Int32) (S : HS) : Prop := hT S x0 = 8 ∧ ((hI S x0 0) ≤ x3 → K x2 S) ∧ (¬ ((hI S x0 0) ≤ x3) → hT S x0 = 8 ∧ ∃ b1 : Nat, hP S x0 3 = some b1 ∧ hT S b1 = 21 ∧ vp_in x3 (hN S b1) ∧ ((hI S b1 (Int32.toNatClampNeg x3)) = (103 + x1) → K6 x0 x1 (x2 + 1) (x3 + 1) S) ∧ (¬ ((hI S b1 (Int32.toNatClampNeg x3)) = (103 + x1)) → hT S x0 = 8 ∧ ∃ b2 : Nat, hP S x0 4 = some b2 ∧ hT S b2 = 21 ∧ vp_in x3 (hN S b2) ∧ (¬ (hI S b2 (Int32.toNatClampNeg x3)) = (103 + x1) → K6 x0 x1 x2 (x3 + 1) S) ∧ ((hI S b2 (Int32.toNatClampNeg x3)) = (103 + x1) → K6 x0 x1 (x2 + 1) (x3 + 1) S)))
def wl_X7_usersOf_6 (M : Nat × Nat) (K : Int32 → HS → Prop) : Nat → Nat → Int32 → Int32 → Int32 → HS → Prop
  | 0 => fun _ _ _ _ _ => False
  | nn + 1 => wb_X7_usersOf_6 M (wl_X7_usersOf_6 M K nn) K
set_option maxHeartbeats 4000000 in
set_option maxRecDepth 100000 in
theorem l_X7_usersOf_6 {G : CG} {S0 : HS} {X : Fx} {K : Int32 → HS → Prop} (hc : Cx X RX7 cX7_usersOf 4) (hr : Cc G S0 0 (some .int) (kI K) X) : ∀ (nn : Nat) (x0 : Nat) (x1 x2 x3 : Int32) (S : HS), wl_X7_usersOf_6 (gC G, gS G) K nn x0 x1 x2 x3 S → MC G S0 X 4 S 6 [(0, .ref x0), (1, .int x1), (2, .int x2), (3, .int x3)] [] := by
  intro nn
  induction nn with
  | zero => intro x0 x1 x2 x3 S hw; exact False.elim hw
  | succ nn ih =>
    intro x0 x1 x2 x3 S hw
    have hw : wb_X7_usersOf_6 (gC G, gS G) (wl_X7_usersOf_6 (gC G, gS G) K nn) K x0 x1 x2 x3 S := hw
    have h6 := ih
    generalize wl_X7_usersOf_6 (gC G, gS G) K nn = K6 at hw h6
    unfold wb_X7_usersOf_6 at hw
    refine m_iload_n hc 3 dX7_usersOf_6 rfl rfl ?_
    refine m_aload_n hc 0 dX7_usersOf_7 rfl rfl ?_
    obtain ⟨ht, hw⟩ := hw
    refine c_geti hc hr ciX7 (Nat.le_of_ble_eq_true rfl) 0 (Nat.le_of_ble_eq_true rfl) rfl dX7_usersOf_8 lf_X7_11 ht ?_
    refine m_icmp_ge hc 49 dX7_usersOf_11 rfl (fun cq => ?_) (fun cq => ?_)
    · have hw := hw.1 cq
      refine m_iload_n hc 2 dX7_usersOf_49 rfl rfl ?_
      exact c_iret hc hr dX7_usersOf_50 hw
    · have hw := hw.2 cq
      refine m_aload_n hc 0 dX7_usersOf_14 rfl rfl ?_
      obtain ⟨ht, b1, e_b1, hw⟩ := hw
      refine c_getr hc hr ciX7 (Nat.le_of_ble_eq_true rfl) 3 (Nat.le_of_ble_eq_true rfl) rfl dX7_usersOf_15 lf_X7_22 ht e_b1 ?_
      refine m_iload_n hc 3 dX7_usersOf_18 rfl rfl ?_
      obtain ⟨ht, hi, hw⟩ := hw
      refine c_iald hc hr ht hi dX7_usersOf_19 ?_
      refine m_bipush hc 103 dX7_usersOf_20 (by decide) ?_
      refine m_iload_n hc 1 dX7_usersOf_22 rfl rfl ?_
      refine m_iadd hc dX7_usersOf_23 ?_
      refine m_icmp_eq hc 40 dX7_usersOf_24 rfl (fun cq => ?_) (fun cq => ?_)
      · have hw := hw.1 cq
        refine m_iinc hc 2 (x2 + 1) [(2, .int (x2 + 1)), (0, .ref x0), (1, .int x1), (3, .int x3)] dX7_usersOf_40 rfl rfl (Nat.le_of_ble_eq_true rfl) rfl ?_
        refine m_iinc hc 3 (x3 + 1) [(3, .int (x3 + 1)), (2, .int (x2 + 1)), (0, .ref x0), (1, .int x1)] dX7_usersOf_43 rfl rfl (Nat.le_of_ble_eq_true rfl) rfl ?_
        refine m_goto hc 6 dX7_usersOf_46 rfl ?_
        refine m_sub [2, 3, 1, 0] rfl ?_
        exact h6 x0 x1 (x2 + 1) (x3 + 1) S hw
      · have hw := hw.2 cq
        refine m_aload_n hc 0 dX7_usersOf_27 rfl rfl ?_
        obtain ⟨ht, b2, e_b2, hw⟩ := hw
        refine c_getr hc hr ciX7 (Nat.le_of_ble_eq_true rfl) 4 (Nat.le_of_ble_eq_true rfl) rfl dX7_usersOf_28 lf_X7_25 ht e_b2 ?_
        refine m_iload_n hc 3 dX7_usersOf_31 rfl rfl ?_
        obtain ⟨ht, hi, hw⟩ := hw
        refine c_iald hc hr ht hi dX7_usersOf_32 ?_
        refine m_bipush hc 103 dX7_usersOf_33 (by decide) ?_
        refine m_iload_n hc 1 dX7_usersOf_35 rfl rfl ?_
        refine m_iadd hc dX7_usersOf_36 ?_
        refine m_icmp_ne hc 43 dX7_usersOf_37 rfl (fun cq => ?_) (fun cq => ?_)
        · have hw := hw.1 cq
          refine m_iinc hc 3 (x3 + 1) [(3, .int (x3 + 1)), (0, .ref x0), (1, .int x1), (2, .int x2)] dX7_usersOf_43 rfl rfl (Nat.le_of_ble_eq_true rfl) rfl ?_
          refine m_goto hc 6 dX7_usersOf_46 rfl ?_
          refine m_sub [1, 2, 3, 0] rfl ?_
          exact h6 x0 x1 x2 (x3 + 1) S hw
        · have hw := hw.2 cq
          refine m_iinc hc 2 (x2 + 1) [(2, .int (x2 + 1)), (0, .ref x0), (1, .int x1), (3, .int x3)] dX7_usersOf_40 rfl rfl (Nat.le_of_ble_eq_true rfl) rfl ?_
          refine m_iinc hc 3 (x3 + 1) [(3, .int (x3 + 1)), (2, .int (x2 + 1)), (0, .ref x0), (1, .int x1)] dX7_usersOf_43 rfl rfl (Nat.le_of_ble_eq_true rfl) rfl ?_
          refine m_goto hc 6 dX7_usersOf_46 rfl ?_
          refine m_sub [2, 3, 1, 0] rfl ?_
          exact h6 x0 x1 (x2 + 1) (x3 + 1) S hw
def wp_X7_usersOf (M : Nat × Nat) (x0 : Nat) (x1 : Int32) (S : HS) (K : Int32 → HS → Prop) : Prop := ∃ nn : Nat, wl_X7_usersOf_6 M K nn x0 x1 0 (x1 + 1) S
set_option maxHeartbeats 4000000 in
set_option maxRecDepth 100000 in
theorem ok_X7_usersOf {G : CG} {x0 : Nat} {x1 : Int32} {S : HS} {K : Int32 → HS → Prop} (hw : wp_X7_usersOf (gC G, gS G) x0 x1 S K) : CC 0 yX7_usersOf cX7_usersOf 4 (some .int) [.ref x0, .int x1] G S (kI K) := by
  refine CC.of (by decide +kernel) (Nat.le_of_ble_eq_true rfl) (fun X hc hr hname => ?_)
  show MC G S X 4 S 0 [(0, .ref x0), (1, .int x1)] []
  unfold wp_X7_usersOf at hw
  refine m_iconst hc 0 dX7_usersOf_0 (by decide) ?_
  refine m_istore_n hc [(2, .int 0), (0, .ref x0), (1, .int x1)] dX7_usersOf_1 rfl (Nat.le_of_ble_eq_true rfl) rfl ?_
  refine m_iload_n hc 2 dX7_usersOf_2 rfl rfl ?_
  refine m_iconst hc 1 dX7_usersOf_3 (by decide) ?_
  refine m_iadd hc dX7_usersOf_4 ?_
  refine m_istore_n hc [(3, .int (x1 + 1)), (2, .int 0), (0, .ref x0), (1, .int x1)] dX7_usersOf_5 rfl (Nat.le_of_ble_eq_true rfl) rfl ?_
  refine m_sub [2, 3, 1, 0] rfl ?_
  obtain ⟨nn, hw⟩ := hw
  exact l_X7_usersOf_6 hc hr nn x0 x1 0 (x1 + 1) S hw
def wp_X7_atomValue (M : Nat × Nat) (x0 : Nat) (x1 x2 : Int32) (S : HS) (K : Int32 → HS → Prop) : Prop := (100 ≤ x1 → (103 ≤ x1 → hT S x0 = 8 ∧ ∃ b1 : Nat, hP S x0 7 = some b1 ∧ hT S b1 = 21 ∧ vp_in (x1 - 103) (hN S b1) ∧ K (hI S b1 (Int32.toNatClampNeg (x1 - 103))) S) ∧ (¬ (103 ≤ x1) → hT S x0 = 8 ∧ ∃ b2 : Nat, hP S x0 9 = some b2 ∧ hT S b2 = 21 ∧ vp_in (x1 - 100) (hN S b2) ∧ K (hI S b2 (Int32.toNatClampNeg (x1 - 100))) S)) ∧ (¬ (100 ≤ x1) → ¬ x2 = 0 ∧ (K (iRem x1 x2) S))
set_option maxHeartbeats 4000000 in
set_option maxRecDepth 100000 in
theorem ok_X7_atomValue {G : CG} {x0 : Nat} {x1 : Int32} {x2 : Int32} {S : HS} {K : Int32 → HS → Prop} (hw : wp_X7_atomValue (gC G, gS G) x0 x1 x2 S K) : CC 0 yX7_atomValue cX7_atomValue 3 (some .int) [.ref x0, .int x1, .int x2] G S (kI K) := by
  refine CC.of (by decide +kernel) (Nat.le_of_ble_eq_true rfl) (fun X hc hr hname => ?_)
  show MC G S X 3 S 0 [(0, .ref x0), (1, .int x1), (2, .int x2)] []
  unfold wp_X7_atomValue at hw
  refine m_iload_n hc 1 dX7_atomValue_0 rfl rfl ?_
  refine m_bipush hc 100 dX7_atomValue_1 (by decide) ?_
  refine m_icmp_ge hc 10 dX7_atomValue_3 rfl (fun cq => ?_) (fun cq => ?_)
  · have hw := hw.1 cq
    refine m_iload_n hc 1 dX7_atomValue_10 rfl rfl ?_
    refine m_bipush hc 103 dX7_atomValue_11 (by decide) ?_
    refine m_icmp_ge hc 28 dX7_atomValue_13 rfl (fun cq => ?_) (fun cq => ?_)
    · have hw := hw.1 cq
      refine m_aload_n hc 0 dX7_atomValue_28 rfl rfl ?_
      obtain ⟨ht, b1, e_b1, hw⟩ := hw
      refine c_getr hc hr ciX7 (Nat.le_of_ble_eq_true rfl) 7 (Nat.le_of_ble_eq_true rfl) rfl dX7_atomValue_29 lf_X7_37 ht e_b1 ?_
      refine m_iload_n hc 1 dX7_atomValue_32 rfl rfl ?_
      refine m_bipush hc 103 dX7_atomValue_33 (by decide) ?_
      refine m_isub hc dX7_atomValue_35 ?_
      obtain ⟨ht, hi, hw⟩ := hw
      refine c_iald hc hr ht hi dX7_atomValue_36 ?_
      exact c_iret hc hr dX7_atomValue_37 hw
    · have hw := hw.2 cq
      refine m_aload_n hc 0 dX7_atomValue_16 rfl rfl ?_
      obtain ⟨ht, b2, e_b2, hw⟩ := hw
      refine c_getr hc hr ciX7 (Nat.le_of_ble_eq_true rfl) 9 (Nat.le_of_ble_eq_true rfl) rfl dX7_atomValue_17 lf_X7_43 ht e_b2 ?_
      refine m_iload_n hc 1 dX7_atomValue_20 rfl rfl ?_
      refine m_bipush hc 100 dX7_atomValue_21 (by decide) ?_
      refine m_isub hc dX7_atomValue_23 ?_
      obtain ⟨ht, hi, hw⟩ := hw
      refine c_iald hc hr ht hi dX7_atomValue_24 ?_
      refine m_goto hc 37 dX7_atomValue_25 rfl ?_
      exact c_iret hc hr dX7_atomValue_37 hw
  · have hw := hw.2 cq
    refine m_iload_n hc 1 dX7_atomValue_6 rfl rfl ?_
    refine m_iload_n hc 2 dX7_atomValue_7 rfl rfl ?_
    obtain ⟨hq, hw⟩ := hw
    refine m_irem hc dX7_atomValue_8 hq ?_
    exact c_iret hc hr dX7_atomValue_9 hw
def wb_X9_raised_5 (M : Nat × Nat) (K5 : Int32 → Int32 → Int32 → Int32 → Int32 → HS → Prop) (K : Int32 → HS → Prop) (x0 x1 x2 x3 x4 : Int32) (S : HS) : Prop := (x1 ≤ x4 → K x3 S) ∧ (¬ (x1 ≤ x4) → ¬ x2 = 0 ∧ (K5 x0 x1 x2 (iRem (x3 * x0) x2) (x4 + 1) S))
def wl_X9_raised_5 (M : Nat × Nat) (K : Int32 → HS → Prop) : Nat → Int32 → Int32 → Int32 → Int32 → Int32 → HS → Prop
  | 0 => fun _ _ _ _ _ _ => False
  | nn + 1 => wb_X9_raised_5 M (wl_X9_raised_5 M K nn) K
set_option maxHeartbeats 4000000 in
set_option maxRecDepth 100000 in
theorem l_X9_raised_5 {G : CG} {S0 : HS} {X : Fx} {K : Int32 → HS → Prop} (hc : Cx X RX9 cX9_raised 5) (hr : Cc G S0 0 (some .int) (kI K) X) : ∀ (nn : Nat) (x0 x1 x2 x3 x4 : Int32) (S : HS), wl_X9_raised_5 (gC G, gS G) K nn x0 x1 x2 x3 x4 S → MC G S0 X 5 S 5 [(0, .int x0), (1, .int x1), (2, .int x2), (3, .int x3), (4, .int x4)] [] := by
  intro nn
  induction nn with
  | zero => intro x0 x1 x2 x3 x4 S hw; exact False.elim hw
  | succ nn ih =>
    intro x0 x1 x2 x3 x4 S hw
    have hw : wb_X9_raised_5 (gC G, gS G) (wl_X9_raised_5 (gC G, gS G) K nn) K x0 x1 x2 x3 x4 S := hw
    have h5 := ih
    generalize wl_X9_raised_5 (gC G, gS G) K nn = K5 at hw h5
    unfold wb_X9_raised_5 at hw
    refine m_iload hc 4 dX9_raised_5 rfl ?_
    refine m_iload_n hc 1 dX9_raised_7 rfl rfl ?_
    refine m_icmp_ge hc 23 dX9_raised_8 rfl (fun cq => ?_) (fun cq => ?_)
    · have hw := hw.1 cq
      refine m_iload_n hc 3 dX9_raised_23 rfl rfl ?_
      exact c_iret hc hr dX9_raised_24 hw
    · have hw := hw.2 cq
      refine m_iload_n hc 3 dX9_raised_11 rfl rfl ?_
      refine m_iload_n hc 0 dX9_raised_12 rfl rfl ?_
      refine m_imul hc dX9_raised_13 ?_
      refine m_iload_n hc 2 dX9_raised_14 rfl rfl ?_
      obtain ⟨hq, hw⟩ := hw
      refine m_irem hc dX9_raised_15 hq ?_
      refine m_istore_n hc [(3, .int (iRem (x3 * x0) x2)), (0, .int x0), (1, .int x1), (2, .int x2), (4, .int x4)] dX9_raised_16 rfl (Nat.le_of_ble_eq_true rfl) rfl ?_
      refine m_iinc hc 4 (x4 + 1) [(4, .int (x4 + 1)), (3, .int (iRem (x3 * x0) x2)), (0, .int x0), (1, .int x1), (2, .int x2)] dX9_raised_17 rfl rfl (Nat.le_of_ble_eq_true rfl) rfl ?_
      refine m_goto hc 5 dX9_raised_20 rfl ?_
      refine m_sub [2, 3, 4, 1, 0] rfl ?_
      exact h5 x0 x1 x2 (iRem (x3 * x0) x2) (x4 + 1) S hw
def wp_X9_raised (M : Nat × Nat) (x0 x1 x2 : Int32) (S : HS) (K : Int32 → HS → Prop) : Prop := ∃ nn : Nat, wl_X9_raised_5 M K nn x0 x1 x2 1 0 S
set_option maxHeartbeats 4000000 in
set_option maxRecDepth 100000 in
theorem ok_X9_raised {G : CG} {x0 : Int32} {x1 : Int32} {x2 : Int32} {S : HS} {K : Int32 → HS → Prop} (hw : wp_X9_raised (gC G, gS G) x0 x1 x2 S K) : CC 0 yX9_raised cX9_raised 5 (some .int) [.int x0, .int x1, .int x2] G S (kI K) := by
  refine CC.of (by decide +kernel) (Nat.le_of_ble_eq_true rfl) (fun X hc hr hname => ?_)
  show MC G S X 5 S 0 [(0, .int x0), (1, .int x1), (2, .int x2)] []
  unfold wp_X9_raised at hw
  refine m_iconst hc 1 dX9_raised_0 (by decide) ?_
  refine m_istore_n hc [(3, .int 1), (0, .int x0), (1, .int x1), (2, .int x2)] dX9_raised_1 rfl (Nat.le_of_ble_eq_true rfl) rfl ?_
  refine m_iconst hc 0 dX9_raised_2 (by decide) ?_
  refine m_istore hc [(4, .int 0), (3, .int 1), (0, .int x0), (1, .int x1), (2, .int x2)] dX9_raised_3 (Nat.le_of_ble_eq_true rfl) rfl ?_
  refine m_sub [2, 3, 4, 1, 0] rfl ?_
  obtain ⟨nn, hw⟩ := hw
  exact l_X9_raised_5 hc hr nn x0 x1 x2 1 0 S hw
def wp_X7_stepValue (M : Nat × Nat) (x0 : Nat) (x1 x2 : Int32) (S : HS) (K : Int32 → HS → Prop) : Prop := hT S x0 = 8 ∧ ∃ b1 : Nat, hP S x0 3 = some b1 ∧ hT S b1 = 21 ∧ vp_in x1 (hN S b1) ∧ hT S x0 = 8 ∧ wp_X7_atomValue M x0 (hI S b1 (Int32.toNatClampNeg x1)) x2 S (fun r2 S2 => hT S2 x0 = 8 ∧ ∃ b3 : Nat, hP S2 x0 4 = some b3 ∧ hT S2 b3 = 21 ∧ vp_in x1 (hN S2 b3) ∧ hT S2 x0 = 8 ∧ wp_X7_atomValue M x0 (hI S2 b3 (Int32.toNatClampNeg x1)) x2 S2 (fun r4 S4 => hT S4 x0 = 8 ∧ ∃ b5 : Nat, hP S4 x0 2 = some b5 ∧ hT S4 b5 = 21 ∧ vp_in x1 (hN S4 b5) ∧ ((hI S4 b5 (Int32.toNatClampNeg x1)) = 42 → ¬ x2 = 0 ∧ (K (iRem (r2 * r4) x2) S4)) ∧ ((hI S4 b5 (Int32.toNatClampNeg x1)) = 43 → ¬ x2 = 0 ∧ (K (iRem (r2 + r4) x2) S4)) ∧ ((hI S4 b5 (Int32.toNatClampNeg x1)) = 45 → ¬ x2 = 0 ∧ (K (iRem ((r2 + x2) - r4) x2) S4)) ∧ ((hI S4 b5 (Int32.toNatClampNeg x1)) = 94 → hT S4 x0 = 8 ∧ ∃ b6 : Nat, hP S4 x0 4 = some b6 ∧ hT S4 b6 = 21 ∧ vp_in x1 (hN S4 b6) ∧ wp_X9_raised M r2 (hI S4 b6 (Int32.toNatClampNeg x1)) x2 S4 (fun r7 S7 => K r7 S7)) ∧ (¬ (hI S4 b5 (Int32.toNatClampNeg x1)) = 42 ∧ ¬ (hI S4 b5 (Int32.toNatClampNeg x1)) = 43 ∧ ¬ (hI S4 b5 (Int32.toNatClampNeg x1)) = 45 ∧ ¬ (hI S4 b5 (Int32.toNatClampNeg x1)) = 94 → K r2 S4)))
set_option maxHeartbeats 4000000 in
set_option maxRecDepth 100000 in
theorem ok_X7_stepValue {G : CG} {x0 : Nat} {x1 : Int32} {x2 : Int32} {S : HS} {K : Int32 → HS → Prop} (hw : wp_X7_stepValue (gC G, gS G) x0 x1 x2 S K) : CC 1 yX7_stepValue cX7_stepValue 5 (some .int) [.ref x0, .int x1, .int x2] G S (kI K) := by
  refine CC.of (by decide +kernel) (Nat.le_of_ble_eq_true rfl) (fun X hc hr hname => ?_)
  show MC G S X 5 S 0 [(0, .ref x0), (1, .int x1), (2, .int x2)] []
  unfold wp_X7_stepValue at hw
  refine m_aload_n hc 0 dX7_stepValue_0 rfl rfl ?_
  refine m_aload_n hc 0 dX7_stepValue_1 rfl rfl ?_
  obtain ⟨ht, b1, e_b1, hw⟩ := hw
  refine c_getr hc hr ciX7 (Nat.le_of_ble_eq_true rfl) 3 (Nat.le_of_ble_eq_true rfl) rfl dX7_stepValue_2 lf_X7_22 ht e_b1 ?_
  refine m_iload_n hc 1 dX7_stepValue_5 rfl rfl ?_
  obtain ⟨ht, hi, hw⟩ := hw
  refine c_iald hc hr ht hi dX7_stepValue_6 ?_
  refine m_iload_n hc 2 dX7_stepValue_7 rfl rfl ?_
  obtain ⟨ht, hw⟩ := hw
  refine c_callVi hc hr ciX7 (Nat.le_of_ble_eq_true rfl) ht mt_X7_atomValue rfl lm_X7_107 (ok_X7_atomValue hw) (Nat.le_of_ble_eq_true rfl) dX7_stepValue_8 rfl (rest := []) rfl (Nat.le_of_ble_eq_true rfl) (fun r2 S2 hw => ?_)
  refine m_istore_n hc [(3, .int r2), (0, .ref x0), (1, .int x1), (2, .int x2)] dX7_stepValue_11 rfl (Nat.le_of_ble_eq_true rfl) rfl ?_
  refine m_aload_n hc 1 dX7_stepValue_12 rfl rfl ?_
  refine m_aload_n hc 1 dX7_stepValue_13 rfl rfl ?_
  obtain ⟨ht, b3, e_b3, hw⟩ := hw
  refine c_getr hc hr ciX7 (Nat.le_of_ble_eq_true rfl) 4 (Nat.le_of_ble_eq_true rfl) rfl dX7_stepValue_14 lf_X7_25 ht e_b3 ?_
  refine m_iload_n hc 2 dX7_stepValue_17 rfl rfl ?_
  obtain ⟨ht, hi, hw⟩ := hw
  refine c_iald hc hr ht hi dX7_stepValue_18 ?_
  refine m_iload_n hc 3 dX7_stepValue_19 rfl rfl ?_
  obtain ⟨ht, hw⟩ := hw
  refine c_callVi hc hr ciX7 (Nat.le_of_ble_eq_true rfl) ht mt_X7_atomValue rfl lm_X7_107 (ok_X7_atomValue hw) (Nat.le_of_ble_eq_true rfl) dX7_stepValue_20 rfl (rest := []) rfl (Nat.le_of_ble_eq_true rfl) (fun r4 S4 hw => ?_)
  refine m_istore hc [(4, .int r4), (3, .int r2), (0, .ref x0), (1, .int x1), (2, .int x2)] dX7_stepValue_23 (Nat.le_of_ble_eq_true rfl) rfl ?_
  refine m_aload_n hc 2 dX7_stepValue_25 rfl rfl ?_
  obtain ⟨ht, b5, e_b5, hw⟩ := hw
  refine c_getr hc hr ciX7 (Nat.le_of_ble_eq_true rfl) 2 (Nat.le_of_ble_eq_true rfl) rfl dX7_stepValue_26 lf_X7_19 ht e_b5 ?_
  refine m_iload_n hc 3 dX7_stepValue_29 rfl rfl ?_
  obtain ⟨ht, hi, hw⟩ := hw
  refine c_iald hc hr ht hi dX7_stepValue_30 ?_
  by_cases q0 : (hI S4 b5 (Int32.toNatClampNeg x1)) = 42
  · have hw := hw.1 q0
    refine m_look hc (off := 57) 88 dX7_stepValue_31 (by decide +kernel) (by rw [q0]; rfl) rfl ?_
    refine m_iload_n hc 1 dX7_stepValue_88 rfl rfl ?_
    refine m_iload hc 0 dX7_stepValue_89 rfl ?_
    refine m_imul hc dX7_stepValue_91 ?_
    refine m_iload_n hc 4 dX7_stepValue_92 rfl rfl ?_
    obtain ⟨hq, hw⟩ := hw
    refine m_irem hc dX7_stepValue_93 hq ?_
    exact c_iret hc hr dX7_stepValue_94 hw
  · skip
    by_cases q1 : (hI S4 b5 (Int32.toNatClampNeg x1)) = 43
    · have hw := hw.2.1 q1
      refine m_look hc (off := 41) 72 dX7_stepValue_31 (by decide +kernel) (by rw [q1]; rfl) rfl ?_
      refine m_iload_n hc 1 dX7_stepValue_72 rfl rfl ?_
      refine m_iload hc 0 dX7_stepValue_73 rfl ?_
      refine m_iadd hc dX7_stepValue_75 ?_
      refine m_iload_n hc 4 dX7_stepValue_76 rfl rfl ?_
      obtain ⟨hq, hw⟩ := hw
      refine m_irem hc dX7_stepValue_77 hq ?_
      exact c_iret hc hr dX7_stepValue_78 hw
    · skip
      by_cases q2 : (hI S4 b5 (Int32.toNatClampNeg x1)) = 45
      · have hw := hw.2.2.1 q2
        refine m_look hc (off := 48) 79 dX7_stepValue_31 (by decide +kernel) (by rw [q2]; rfl) rfl ?_
        refine m_iload_n hc 1 dX7_stepValue_79 rfl rfl ?_
        refine m_iload_n hc 4 dX7_stepValue_80 rfl rfl ?_
        refine m_iadd hc dX7_stepValue_81 ?_
        refine m_iload hc 0 dX7_stepValue_82 rfl ?_
        refine m_isub hc dX7_stepValue_84 ?_
        refine m_iload_n hc 4 dX7_stepValue_85 rfl rfl ?_
        obtain ⟨hq, hw⟩ := hw
        refine m_irem hc dX7_stepValue_86 hq ?_
        exact c_iret hc hr dX7_stepValue_87 hw
      · skip
        by_cases q3 : (hI S4 b5 (Int32.toNatClampNeg x1)) = 94
        · have hw := hw.2.2.2.1 q3
          refine m_look hc (off := 64) 95 dX7_stepValue_31 (by decide +kernel) (by rw [q3]; rfl) rfl ?_
          refine m_iload_n hc 1 dX7_stepValue_95 rfl rfl ?_
          refine m_aload_n hc 2 dX7_stepValue_96 rfl rfl ?_
          obtain ⟨ht, b6, e_b6, hw⟩ := hw
          refine c_getr hc hr ciX7 (Nat.le_of_ble_eq_true rfl) 4 (Nat.le_of_ble_eq_true rfl) rfl dX7_stepValue_97 lf_X7_25 ht e_b6 ?_
          refine m_iload_n hc 3 dX7_stepValue_100 rfl rfl ?_
          obtain ⟨ht, hi, hw⟩ := hw
          refine c_iald hc hr ht hi dX7_stepValue_101 ?_
          refine m_iload_n hc 4 dX7_stepValue_102 rfl rfl ?_
          refine c_callSi hc hr mt_X9_raised lm_X7_110 (ok_X9_raised hw) (Nat.le_of_ble_eq_true rfl) dX7_stepValue_103 rfl (rest := []) rfl (Nat.le_of_ble_eq_true rfl) (fun r7 S7 hw => ?_)
          exact c_iret hc hr dX7_stepValue_106 hw
        · skip
          have hw := hw.2.2.2.2 ⟨q0, q1, q2, q3⟩
          refine m_look hc (off := 76) 107 dX7_stepValue_31 (by decide +kernel) (lk_no 42 q0 rfl (lk_no 43 q1 rfl (lk_no 45 q2 rfl (lk_no 94 q3 rfl (rfl))))) rfl ?_
          refine m_iload_n hc 1 dX7_stepValue_107 rfl rfl ?_
          exact c_iret hc hr dX7_stepValue_108 hw
def wb_X7_findValues_24 (M : Nat × Nat) (K24 : Nat → Int32 → Int32 → HS → Prop) (K : Int32 → HS → Prop) (x0 : Nat) (x4 x5 : Int32) (S : HS) : Prop := hT S x0 = 8 ∧ ((hI S x0 0) ≤ x5 → K 0 S) ∧ (¬ ((hI S x0 0) ≤ x5) → hT S x0 = 8 ∧ ∃ b1 : Nat, hP S x0 7 = some b1 ∧ hT S x0 = 8 ∧ wp_X7_stepValue M x0 x5 x4 S (fun r2 S2 => hT S2 b1 = 21 ∧ vp_in x5 (hN S2 b1) ∧ K24 x0 x4 (x5 + 1) (sI S2 b1 (Int32.toNatClampNeg x5) r2)))
def wl_X7_findValues_24 (M : Nat × Nat) (K : Int32 → HS → Prop) : Nat → Nat → Int32 → Int32 → HS → Prop
  | 0 => fun _ _ _ _ => False
  | nn + 1 => wb_X7_findValues_24 M (wl_X7_findValues_24 M K nn) K
set_option maxHeartbeats 4000000 in
set_option maxRecDepth 100000 in
theorem l_X7_findValues_24 {G : CG} {S0 : HS} {X : Fx} {K : Int32 → HS → Prop} (hc : Cx X RX7 cX7_findValues 6) (hr : Cc G S0 2 none (kV K) X) : ∀ (nn : Nat) (x0 : Nat) (x4 x5 : Int32) (S : HS), wl_X7_findValues_24 (gC G, gS G) K nn x0 x4 x5 S → MC G S0 X 6 S 24 [(0, .ref x0), (4, .int x4), (5, .int x5)] [] := by
  intro nn
  induction nn with
  | zero => intro x0 x4 x5 S hw; exact False.elim hw
  | succ nn ih =>
    intro x0 x4 x5 S hw
    have hw : wb_X7_findValues_24 (gC G, gS G) (wl_X7_findValues_24 (gC G, gS G) K nn) K x0 x4 x5 S := hw
    have h24 := ih
    generalize wl_X7_findValues_24 (gC G, gS G) K nn = K24 at hw h24
    unfold wb_X7_findValues_24 at hw
    refine m_iload hc 2 dX7_findValues_24 rfl ?_
    refine m_aload_n hc 0 dX7_findValues_26 rfl rfl ?_
    obtain ⟨ht, hw⟩ := hw
    refine c_geti hc hr ciX7 (Nat.le_of_ble_eq_true rfl) 0 (Nat.le_of_ble_eq_true rfl) rfl dX7_findValues_27 lf_X7_11 ht ?_
    refine m_icmp_ge hc 54 dX7_findValues_30 rfl (fun cq => ?_) (fun cq => ?_)
    · have hw := hw.1 cq
      exact c_vret hc hr dX7_findValues_54 hw
    · have hw := hw.2 cq
      refine m_aload_n hc 0 dX7_findValues_33 rfl rfl ?_
      obtain ⟨ht, b1, e_b1, hw⟩ := hw
      refine c_getr hc hr ciX7 (Nat.le_of_ble_eq_true rfl) 7 (Nat.le_of_ble_eq_true rfl) rfl dX7_findValues_34 lf_X7_37 ht e_b1 ?_
      refine m_iload hc 2 dX7_findValues_37 rfl ?_
      refine m_aload_n hc 0 dX7_findValues_39 rfl rfl ?_
      refine m_iload hc 2 dX7_findValues_40 rfl ?_
      refine m_iload hc 1 dX7_findValues_42 rfl ?_
      obtain ⟨ht, hw⟩ := hw
      refine c_callVi hc hr ciX7 (Nat.le_of_ble_eq_true rfl) ht mt_X7_stepValue rfl lm_X7_104 (ok_X7_stepValue hw) (Nat.le_of_ble_eq_true rfl) dX7_findValues_44 rfl (rest := [.int x5, .ref b1]) rfl (Nat.le_of_ble_eq_true rfl) (fun r2 S2 hw => ?_)
      obtain ⟨ht, hi, hw⟩ := hw
      refine c_iast hc hr ht hi dX7_findValues_47 ?_
      refine m_iinc hc 2 (x5 + 1) [(5, .int (x5 + 1)), (0, .ref x0), (4, .int x4)] dX7_findValues_48 rfl rfl (Nat.le_of_ble_eq_true rfl) rfl ?_
      refine m_goto hc 24 dX7_findValues_51 rfl ?_
      refine m_sub [1, 2, 0] rfl ?_
      exact h24 x0 x4 (x5 + 1) (sI S2 b1 (Int32.toNatClampNeg x5) r2) hw
def wp_X7_findValues (M : Nat × Nat) (x0 : Nat) (x1 x2 x3 x4 : Int32) (S : HS) (K : Int32 → HS → Prop) : Prop := hT S x0 = 8 ∧ ∃ b1 : Nat, hP S x0 9 = some b1 ∧ hT S b1 = 21 ∧ vp_in 0 (hN S b1) ∧ hT (sI S b1 (Int32.toNatClampNeg 0) x1) x0 = 8 ∧ ∃ b2 : Nat, hP (sI S b1 (Int32.toNatClampNeg 0) x1) x0 9 = some b2 ∧ hT (sI S b1 (Int32.toNatClampNeg 0) x1) b2 = 21 ∧ vp_in 1 (hN (sI S b1 (Int32.toNatClampNeg 0) x1) b2) ∧ hT (sI (sI S b1 (Int32.toNatClampNeg 0) x1) b2 (Int32.toNatClampNeg 1) x2) x0 = 8 ∧ ∃ b3 : Nat, hP (sI (sI S b1 (Int32.toNatClampNeg 0) x1) b2 (Int32.toNatClampNeg 1) x2) x0 9 = some b3 ∧ hT (sI (sI S b1 (Int32.toNatClampNeg 0) x1) b2 (Int32.toNatClampNeg 1) x2) b3 = 21 ∧ vp_in 2 (hN (sI (sI S b1 (Int32.toNatClampNeg 0) x1) b2 (Int32.toNatClampNeg 1) x2) b3) ∧ ∃ nn : Nat, wl_X7_findValues_24 M K nn x0 x4 0 (sI (sI (sI S b1 (Int32.toNatClampNeg 0) x1) b2 (Int32.toNatClampNeg 1) x2) b3 (Int32.toNatClampNeg 2) x3)
set_option maxHeartbeats 4000000 in
set_option maxRecDepth 100000 in
theorem ok_X7_findValues {G : CG} {x0 : Nat} {x1 : Int32} {x2 : Int32} {x3 : Int32} {x4 : Int32} {S : HS} {K : Int32 → HS → Prop} (hw : wp_X7_findValues (gC G, gS G) x0 x1 x2 x3 x4 S K) : CC 2 yX7_findValues cX7_findValues 6 none [.ref x0, .int x1, .int x2, .int x3, .int x4] G S (kV K) := by
  refine CC.of (by decide +kernel) (Nat.le_of_ble_eq_true rfl) (fun X hc hr hname => ?_)
  show MC G S X 6 S 0 [(0, .ref x0), (1, .int x1), (2, .int x2), (3, .int x3), (4, .int x4)] []
  unfold wp_X7_findValues at hw
  refine m_aload_n hc 0 dX7_findValues_0 rfl rfl ?_
  obtain ⟨ht, b1, e_b1, hw⟩ := hw
  refine c_getr hc hr ciX7 (Nat.le_of_ble_eq_true rfl) 9 (Nat.le_of_ble_eq_true rfl) rfl dX7_findValues_1 lf_X7_43 ht e_b1 ?_
  refine m_iconst hc 0 dX7_findValues_4 (by decide) ?_
  refine m_iload_n hc 1 dX7_findValues_5 rfl rfl ?_
  obtain ⟨ht, hi, hw⟩ := hw
  refine c_iast hc hr ht hi dX7_findValues_6 ?_
  refine m_aload_n hc 0 dX7_findValues_7 rfl rfl ?_
  obtain ⟨ht, b2, e_b2, hw⟩ := hw
  refine c_getr hc hr ciX7 (Nat.le_of_ble_eq_true rfl) 9 (Nat.le_of_ble_eq_true rfl) rfl dX7_findValues_8 lf_X7_43 ht e_b2 ?_
  refine m_iconst hc 1 dX7_findValues_11 (by decide) ?_
  refine m_iload_n hc 2 dX7_findValues_12 rfl rfl ?_
  obtain ⟨ht, hi, hw⟩ := hw
  refine c_iast hc hr ht hi dX7_findValues_13 ?_
  refine m_aload_n hc 0 dX7_findValues_14 rfl rfl ?_
  obtain ⟨ht, b3, e_b3, hw⟩ := hw
  refine c_getr hc hr ciX7 (Nat.le_of_ble_eq_true rfl) 9 (Nat.le_of_ble_eq_true rfl) rfl dX7_findValues_15 lf_X7_43 ht e_b3 ?_
  refine m_iconst hc 2 dX7_findValues_18 (by decide) ?_
  refine m_iload_n hc 3 dX7_findValues_19 rfl rfl ?_
  obtain ⟨ht, hi, hw⟩ := hw
  refine c_iast hc hr ht hi dX7_findValues_20 ?_
  refine m_iconst hc 0 dX7_findValues_21 (by decide) ?_
  refine m_istore hc [(5, .int 0), (0, .ref x0), (1, .int x1), (2, .int x2), (3, .int x3), (4, .int x4)] dX7_findValues_22 (Nat.le_of_ble_eq_true rfl) rfl ?_
  refine m_sub [1, 5, 0] rfl ?_
  obtain ⟨nn, hw⟩ := hw
  exact l_X7_findValues_24 hc hr nn x0 x4 0 (sI (sI (sI S b1 (Int32.toNatClampNeg 0) x1) b2 (Int32.toNatClampNeg 1) x2) b3 (Int32.toNatClampNeg 2) x3) hw
def wp_X7_hand (M : Nat × Nat) (x0 : Nat) (x1 x2 x3 : Int32) (S : HS) (K : Int32 → HS → Prop) : Prop := (x1 < 103 → K 0 S) ∧ (¬ (x1 < 103) → hT S x0 = 8 ∧ ∃ b1 : Nat, hP S x0 8 = some b1 ∧ hT S x0 = 8 ∧ ∃ b2 : Nat, hP S x0 8 = some b2 ∧ hT S b2 = 21 ∧ vp_in (x1 - 103) (hN S b2) ∧ ¬ x3 = 0 ∧ (hT S b1 = 21 ∧ vp_in (x1 - 103) (hN S b1) ∧ K 0 (sI S b1 (Int32.toNatClampNeg (x1 - 103)) (iRem ((hI S b2 (Int32.toNatClampNeg (x1 - 103))) + x2) x3))))
set_option maxHeartbeats 4000000 in
set_option maxRecDepth 100000 in
theorem ok_X7_hand {G : CG} {x0 : Nat} {x1 : Int32} {x2 : Int32} {x3 : Int32} {S : HS} {K : Int32 → HS → Prop} (hw : wp_X7_hand (gC G, gS G) x0 x1 x2 x3 S K) : CC 0 yX7_hand cX7_hand 4 none [.ref x0, .int x1, .int x2, .int x3] G S (kV K) := by
  refine CC.of (by decide +kernel) (Nat.le_of_ble_eq_true rfl) (fun X hc hr hname => ?_)
  show MC G S X 4 S 0 [(0, .ref x0), (1, .int x1), (2, .int x2), (3, .int x3)] []
  unfold wp_X7_hand at hw
  refine m_iload_n hc 1 dX7_hand_0 rfl rfl ?_
  refine m_bipush hc 103 dX7_hand_1 (by decide) ?_
  refine m_icmp_lt hc 28 dX7_hand_3 rfl (fun cq => ?_) (fun cq => ?_)
  · have hw := hw.1 cq
    exact c_vret hc hr dX7_hand_28 hw
  · have hw := hw.2 cq
    refine m_aload_n hc 0 dX7_hand_6 rfl rfl ?_
    obtain ⟨ht, b1, e_b1, hw⟩ := hw
    refine c_getr hc hr ciX7 (Nat.le_of_ble_eq_true rfl) 8 (Nat.le_of_ble_eq_true rfl) rfl dX7_hand_7 lf_X7_40 ht e_b1 ?_
    refine m_iload_n hc 1 dX7_hand_10 rfl rfl ?_
    refine m_bipush hc 103 dX7_hand_11 (by decide) ?_
    refine m_isub hc dX7_hand_13 ?_
    refine m_aload_n hc 0 dX7_hand_14 rfl rfl ?_
    obtain ⟨ht, b2, e_b2, hw⟩ := hw
    refine c_getr hc hr ciX7 (Nat.le_of_ble_eq_true rfl) 8 (Nat.le_of_ble_eq_true rfl) rfl dX7_hand_15 lf_X7_40 ht e_b2 ?_
    refine m_iload_n hc 1 dX7_hand_18 rfl rfl ?_
    refine m_bipush hc 103 dX7_hand_19 (by decide) ?_
    refine m_isub hc dX7_hand_21 ?_
    obtain ⟨ht, hi, hw⟩ := hw
    refine c_iald hc hr ht hi dX7_hand_22 ?_
    refine m_iload_n hc 2 dX7_hand_23 rfl rfl ?_
    refine m_iadd hc dX7_hand_24 ?_
    refine m_iload_n hc 3 dX7_hand_25 rfl rfl ?_
    obtain ⟨hq, hw⟩ := hw
    refine m_irem hc dX7_hand_26 hq ?_
    obtain ⟨ht, hi, hw⟩ := hw
    refine c_iast hc hr ht hi dX7_hand_27 ?_
    exact c_vret hc hr dX7_hand_28 hw
def wp_X7_handBack (M : Nat × Nat) (x0 : Nat) (x1 x2 : Int32) (S : HS) (K : Int32 → HS → Prop) : Prop := hT S x0 = 8 ∧ ∃ b1 : Nat, hP S x0 8 = some b1 ∧ hT S b1 = 21 ∧ vp_in x1 (hN S b1) ∧ ∀ v2 : Int32, v2 = (hI S b1 (Int32.toNatClampNeg x1)) → hT S x0 = 8 ∧ ∃ b3 : Nat, hP S x0 3 = some b3 ∧ hT S b3 = 21 ∧ vp_in x1 (hN S b3) ∧ hT S x0 = 8 ∧ wp_X7_atomValue M x0 (hI S b3 (Int32.toNatClampNeg x1)) x2 S (fun r4 S4 => hT S4 x0 = 8 ∧ ∃ b5 : Nat, hP S4 x0 4 = some b5 ∧ hT S4 b5 = 21 ∧ vp_in x1 (hN S4 b5) ∧ hT S4 x0 = 8 ∧ wp_X7_atomValue M x0 (hI S4 b5 (Int32.toNatClampNeg x1)) x2 S4 (fun r6 S6 => hT S6 x0 = 8 ∧ ∃ b7 : Nat, hP S6 x0 2 = some b7 ∧ hT S6 b7 = 21 ∧ vp_in x1 (hN S6 b7) ∧ ((hI S6 b7 (Int32.toNatClampNeg x1)) = 42 → hT S6 x0 = 8 ∧ ∃ b8 : Nat, hP S6 x0 3 = some b8 ∧ hT S6 b8 = 21 ∧ vp_in x1 (hN S6 b8) ∧ hT S6 x0 = 8 ∧ wp_X7_hand M x0 (hI S6 b8 (Int32.toNatClampNeg x1)) (v2 * r6) x2 S6 (fun r9 S9 => hT S9 x0 = 8 ∧ ∃ b10 : Nat, hP S9 x0 4 = some b10 ∧ hT S9 b10 = 21 ∧ vp_in x1 (hN S9 b10) ∧ hT S9 x0 = 8 ∧ wp_X7_hand M x0 (hI S9 b10 (Int32.toNatClampNeg x1)) (v2 * r4) x2 S9 (fun r11 S11 => K 0 S11))) ∧ ((hI S6 b7 (Int32.toNatClampNeg x1)) = 43 → hT S6 x0 = 8 ∧ ∃ b12 : Nat, hP S6 x0 3 = some b12 ∧ hT S6 b12 = 21 ∧ vp_in x1 (hN S6 b12) ∧ hT S6 x0 = 8 ∧ wp_X7_hand M x0 (hI S6 b12 (Int32.toNatClampNeg x1)) v2 x2 S6 (fun r13 S13 => hT S13 x0 = 8 ∧ ∃ b14 : Nat, hP S13 x0 4 = some b14 ∧ hT S13 b14 = 21 ∧ vp_in x1 (hN S13 b14) ∧ hT S13 x0 = 8 ∧ wp_X7_hand M x0 (hI S13 b14 (Int32.toNatClampNeg x1)) v2 x2 S13 (fun r15 S15 => K 0 S15))) ∧ ((hI S6 b7 (Int32.toNatClampNeg x1)) = 45 → hT S6 x0 = 8 ∧ ∃ b16 : Nat, hP S6 x0 3 = some b16 ∧ hT S6 b16 = 21 ∧ vp_in x1 (hN S6 b16) ∧ hT S6 x0 = 8 ∧ wp_X7_hand M x0 (hI S6 b16 (Int32.toNatClampNeg x1)) v2 x2 S6 (fun r17 S17 => hT S17 x0 = 8 ∧ ∃ b18 : Nat, hP S17 x0 4 = some b18 ∧ hT S17 b18 = 21 ∧ vp_in x1 (hN S17 b18) ∧ hT S17 x0 = 8 ∧ wp_X7_hand M x0 (hI S17 b18 (Int32.toNatClampNeg x1)) (v2 * (x2 - 1)) x2 S17 (fun r19 S19 => K 0 S19))) ∧ ((hI S6 b7 (Int32.toNatClampNeg x1)) = 94 → hT S6 x0 = 8 ∧ ∃ b20 : Nat, hP S6 x0 3 = some b20 ∧ hT S6 b20 = 21 ∧ vp_in x1 (hN S6 b20) ∧ hT S6 x0 = 8 ∧ ∃ b21 : Nat, hP S6 x0 4 = some b21 ∧ hT S6 b21 = 21 ∧ vp_in x1 (hN S6 b21) ∧ hT S6 x0 = 8 ∧ ∃ b22 : Nat, hP S6 x0 4 = some b22 ∧ hT S6 b22 = 21 ∧ vp_in x1 (hN S6 b22) ∧ wp_X9_raised M r4 ((hI S6 b22 (Int32.toNatClampNeg x1)) - 1) x2 S6 (fun r23 S23 => hT S23 x0 = 8 ∧ wp_X7_hand M x0 (hI S6 b20 (Int32.toNatClampNeg x1)) ((v2 * (hI S6 b21 (Int32.toNatClampNeg x1))) * r23) x2 S23 (fun r24 S24 => K 0 S24))) ∧ (¬ (hI S6 b7 (Int32.toNatClampNeg x1)) = 42 ∧ ¬ (hI S6 b7 (Int32.toNatClampNeg x1)) = 43 ∧ ¬ (hI S6 b7 (Int32.toNatClampNeg x1)) = 45 ∧ ¬ (hI S6 b7 (Int32.toNatClampNeg x1)) = 94 → hT S6 x0 = 8 ∧ ∃ b25 : Nat, hP S6 x0 3 = some b25 ∧ hT S6 b25 = 21 ∧ vp_in x1 (hN S6 b25) ∧ hT S6 x0 = 8 ∧ wp_X7_hand M x0 (hI S6 b25 (Int32.toNatClampNeg x1)) v2 x2 S6 (fun r26 S26 => K 0 S26))))
set_option maxHeartbeats 4000000 in
set_option maxRecDepth 100000 in
theorem ok_X7_handBack {G : CG} {x0 : Nat} {x1 : Int32} {x2 : Int32} {S : HS} {K : Int32 → HS → Prop} (hw : wp_X7_handBack (gC G, gS G) x0 x1 x2 S K) : CC 1 yX7_handBack cX7_handBack 6 none [.ref x0, .int x1, .int x2] G S (kV K) := by
  refine CC.of (by decide +kernel) (Nat.le_of_ble_eq_true rfl) (fun X hc hr hname => ?_)
  show MC G S X 6 S 0 [(0, .ref x0), (1, .int x1), (2, .int x2)] []
  unfold wp_X7_handBack at hw
  refine m_aload_n hc 0 dX7_handBack_0 rfl rfl ?_
  obtain ⟨ht, b1, e_b1, hw⟩ := hw
  refine c_getr hc hr ciX7 (Nat.le_of_ble_eq_true rfl) 8 (Nat.le_of_ble_eq_true rfl) rfl dX7_handBack_1 lf_X7_40 ht e_b1 ?_
  refine m_iload_n hc 1 dX7_handBack_4 rfl rfl ?_
  obtain ⟨ht, hi, hw⟩ := hw
  refine c_iald hc hr ht hi dX7_handBack_5 ?_
  refine m_topi (fun v2 e_v2 => ?_)
  have hw := hw v2 e_v2
  refine m_istore_n hc [(3, .int v2), (0, .ref x0), (1, .int x1), (2, .int x2)] dX7_handBack_6 rfl (Nat.le_of_ble_eq_true rfl) rfl ?_
  refine m_aload_n hc 1 dX7_handBack_7 rfl rfl ?_
  refine m_aload_n hc 1 dX7_handBack_8 rfl rfl ?_
  obtain ⟨ht, b3, e_b3, hw⟩ := hw
  refine c_getr hc hr ciX7 (Nat.le_of_ble_eq_true rfl) 3 (Nat.le_of_ble_eq_true rfl) rfl dX7_handBack_9 lf_X7_22 ht e_b3 ?_
  refine m_iload_n hc 2 dX7_handBack_12 rfl rfl ?_
  obtain ⟨ht, hi, hw⟩ := hw
  refine c_iald hc hr ht hi dX7_handBack_13 ?_
  refine m_iload_n hc 3 dX7_handBack_14 rfl rfl ?_
  obtain ⟨ht, hw⟩ := hw
  refine c_callVi hc hr ciX7 (Nat.le_of_ble_eq_true rfl) ht mt_X7_atomValue rfl lm_X7_107 (ok_X7_atomValue hw) (Nat.le_of_ble_eq_true rfl) dX7_handBack_15 rfl (rest := []) rfl (Nat.le_of_ble_eq_true rfl) (fun r4 S4 hw => ?_)
  refine m_istore hc [(4, .int r4), (3, .int v2), (0, .ref x0), (1, .int x1), (2, .int x2)] dX7_handBack_18 (Nat.le_of_ble_eq_true rfl) rfl ?_
  refine m_aload_n hc 2 dX7_handBack_20 rfl rfl ?_
  refine m_aload_n hc 2 dX7_handBack_21 rfl rfl ?_
  obtain ⟨ht, b5, e_b5, hw⟩ := hw
  refine c_getr hc hr ciX7 (Nat.le_of_ble_eq_true rfl) 4 (Nat.le_of_ble_eq_true rfl) rfl dX7_handBack_22 lf_X7_25 ht e_b5 ?_
  refine m_iload_n hc 3 dX7_handBack_25 rfl rfl ?_
  obtain ⟨ht, hi, hw⟩ := hw
  refine c_iald hc hr ht hi dX7_handBack_26 ?_
  refine m_iload_n hc 4 dX7_handBack_27 rfl rfl ?_
  obtain ⟨ht, hw⟩ := hw
  refine c_callVi hc hr ciX7 (Nat.le_of_ble_eq_true rfl) ht mt_X7_atomValue rfl lm_X7_107 (ok_X7_atomValue hw) (Nat.le_of_ble_eq_true rfl) dX7_handBack_28 rfl (rest := []) rfl (Nat.le_of_ble_eq_true rfl) (fun r6 S6 hw => ?_)
  refine m_istore hc [(5, .int r6), (4, .int r4), (3, .int v2), (0, .ref x0), (1, .int x1), (2, .int x2)] dX7_handBack_31 (Nat.le_of_ble_eq_true rfl) rfl ?_
  refine m_aload_n hc 3 dX7_handBack_33 rfl rfl ?_
  obtain ⟨ht, b7, e_b7, hw⟩ := hw
  refine c_getr hc hr ciX7 (Nat.le_of_ble_eq_true rfl) 2 (Nat.le_of_ble_eq_true rfl) rfl dX7_handBack_34 lf_X7_19 ht e_b7 ?_
  refine m_iload_n hc 4 dX7_handBack_37 rfl rfl ?_
  obtain ⟨ht, hi, hw⟩ := hw
  refine c_iald hc hr ht hi dX7_handBack_38 ?_
  by_cases q0 : (hI S6 b7 (Int32.toNatClampNeg x1)) = 42
  · have hw := hw.1 q0
    refine m_look hc (off := 99) 138 dX7_handBack_39 (by decide +kernel) (by rw [q0]; rfl) rfl ?_
    refine m_aload_n hc 3 dX7_handBack_138 rfl rfl ?_
    refine m_aload_n hc 3 dX7_handBack_139 rfl rfl ?_
    obtain ⟨ht, b8, e_b8, hw⟩ := hw
    refine c_getr hc hr ciX7 (Nat.le_of_ble_eq_true rfl) 3 (Nat.le_of_ble_eq_true rfl) rfl dX7_handBack_140 lf_X7_22 ht e_b8 ?_
    refine m_iload_n hc 4 dX7_handBack_143 rfl rfl ?_
    obtain ⟨ht, hi, hw⟩ := hw
    refine c_iald hc hr ht hi dX7_handBack_144 ?_
    refine m_iload_n hc 2 dX7_handBack_145 rfl rfl ?_
    refine m_iload hc 0 dX7_handBack_146 rfl ?_
    refine m_imul hc dX7_handBack_148 ?_
    refine m_iload_n hc 5 dX7_handBack_149 rfl rfl ?_
    obtain ⟨ht, hw⟩ := hw
    refine c_callVv hc hr ciX7 (Nat.le_of_ble_eq_true rfl) ht mt_X7_hand rfl lm_X7_118 (ok_X7_hand hw) (Nat.le_of_ble_eq_true rfl) dX7_handBack_150 rfl (rest := []) rfl (Nat.le_of_ble_eq_true rfl) (fun S9 hw => ?_)
    refine m_aload_n hc 3 dX7_handBack_153 rfl rfl ?_
    refine m_aload_n hc 3 dX7_handBack_154 rfl rfl ?_
    obtain ⟨ht, b10, e_b10, hw⟩ := hw
    refine c_getr hc hr ciX7 (Nat.le_of_ble_eq_true rfl) 4 (Nat.le_of_ble_eq_true rfl) rfl dX7_handBack_155 lf_X7_25 ht e_b10 ?_
    refine m_iload_n hc 4 dX7_handBack_158 rfl rfl ?_
    obtain ⟨ht, hi, hw⟩ := hw
    refine c_iald hc hr ht hi dX7_handBack_159 ?_
    refine m_iload_n hc 2 dX7_handBack_160 rfl rfl ?_
    refine m_iload hc 1 dX7_handBack_161 rfl ?_
    refine m_imul hc dX7_handBack_163 ?_
    refine m_iload_n hc 5 dX7_handBack_164 rfl rfl ?_
    obtain ⟨ht, hw⟩ := hw
    refine c_callVv hc hr ciX7 (Nat.le_of_ble_eq_true rfl) ht mt_X7_hand rfl lm_X7_118 (ok_X7_hand hw) (Nat.le_of_ble_eq_true rfl) dX7_handBack_165 rfl (rest := []) rfl (Nat.le_of_ble_eq_true rfl) (fun S11 hw => ?_)
    refine m_goto hc 220 dX7_handBack_168 rfl ?_
    exact c_vret hc hr dX7_handBack_220 hw
  · skip
    by_cases q1 : (hI S6 b7 (Int32.toNatClampNeg x1)) = 43
    · have hw := hw.2.1 q1
      refine m_look hc (off := 41) 80 dX7_handBack_39 (by decide +kernel) (by rw [q1]; rfl) rfl ?_
      refine m_aload_n hc 3 dX7_handBack_80 rfl rfl ?_
      refine m_aload_n hc 3 dX7_handBack_81 rfl rfl ?_
      obtain ⟨ht, b12, e_b12, hw⟩ := hw
      refine c_getr hc hr ciX7 (Nat.le_of_ble_eq_true rfl) 3 (Nat.le_of_ble_eq_true rfl) rfl dX7_handBack_82 lf_X7_22 ht e_b12 ?_
      refine m_iload_n hc 4 dX7_handBack_85 rfl rfl ?_
      obtain ⟨ht, hi, hw⟩ := hw
      refine c_iald hc hr ht hi dX7_handBack_86 ?_
      refine m_iload_n hc 2 dX7_handBack_87 rfl rfl ?_
      refine m_iload_n hc 5 dX7_handBack_88 rfl rfl ?_
      obtain ⟨ht, hw⟩ := hw
      refine c_callVv hc hr ciX7 (Nat.le_of_ble_eq_true rfl) ht mt_X7_hand rfl lm_X7_118 (ok_X7_hand hw) (Nat.le_of_ble_eq_true rfl) dX7_handBack_89 rfl (rest := []) rfl (Nat.le_of_ble_eq_true rfl) (fun S13 hw => ?_)
      refine m_aload_n hc 3 dX7_handBack_92 rfl rfl ?_
      refine m_aload_n hc 3 dX7_handBack_93 rfl rfl ?_
      obtain ⟨ht, b14, e_b14, hw⟩ := hw
      refine c_getr hc hr ciX7 (Nat.le_of_ble_eq_true rfl) 4 (Nat.le_of_ble_eq_true rfl) rfl dX7_handBack_94 lf_X7_25 ht e_b14 ?_
      refine m_iload_n hc 4 dX7_handBack_97 rfl rfl ?_
      obtain ⟨ht, hi, hw⟩ := hw
      refine c_iald hc hr ht hi dX7_handBack_98 ?_
      refine m_iload_n hc 2 dX7_handBack_99 rfl rfl ?_
      refine m_iload_n hc 5 dX7_handBack_100 rfl rfl ?_
      obtain ⟨ht, hw⟩ := hw
      refine c_callVv hc hr ciX7 (Nat.le_of_ble_eq_true rfl) ht mt_X7_hand rfl lm_X7_118 (ok_X7_hand hw) (Nat.le_of_ble_eq_true rfl) dX7_handBack_101 rfl (rest := []) rfl (Nat.le_of_ble_eq_true rfl) (fun S15 hw => ?_)
      refine m_goto hc 220 dX7_handBack_104 rfl ?_
      exact c_vret hc hr dX7_handBack_220 hw
    · skip
      by_cases q2 : (hI S6 b7 (Int32.toNatClampNeg x1)) = 45
      · have hw := hw.2.2.1 q2
        refine m_look hc (off := 68) 107 dX7_handBack_39 (by decide +kernel) (by rw [q2]; rfl) rfl ?_
        refine m_aload_n hc 3 dX7_handBack_107 rfl rfl ?_
        refine m_aload_n hc 3 dX7_handBack_108 rfl rfl ?_
        obtain ⟨ht, b16, e_b16, hw⟩ := hw
        refine c_getr hc hr ciX7 (Nat.le_of_ble_eq_true rfl) 3 (Nat.le_of_ble_eq_true rfl) rfl dX7_handBack_109 lf_X7_22 ht e_b16 ?_
        refine m_iload_n hc 4 dX7_handBack_112 rfl rfl ?_
        obtain ⟨ht, hi, hw⟩ := hw
        refine c_iald hc hr ht hi dX7_handBack_113 ?_
        refine m_iload_n hc 2 dX7_handBack_114 rfl rfl ?_
        refine m_iload_n hc 5 dX7_handBack_115 rfl rfl ?_
        obtain ⟨ht, hw⟩ := hw
        refine c_callVv hc hr ciX7 (Nat.le_of_ble_eq_true rfl) ht mt_X7_hand rfl lm_X7_118 (ok_X7_hand hw) (Nat.le_of_ble_eq_true rfl) dX7_handBack_116 rfl (rest := []) rfl (Nat.le_of_ble_eq_true rfl) (fun S17 hw => ?_)
        refine m_aload_n hc 3 dX7_handBack_119 rfl rfl ?_
        refine m_aload_n hc 3 dX7_handBack_120 rfl rfl ?_
        obtain ⟨ht, b18, e_b18, hw⟩ := hw
        refine c_getr hc hr ciX7 (Nat.le_of_ble_eq_true rfl) 4 (Nat.le_of_ble_eq_true rfl) rfl dX7_handBack_121 lf_X7_25 ht e_b18 ?_
        refine m_iload_n hc 4 dX7_handBack_124 rfl rfl ?_
        obtain ⟨ht, hi, hw⟩ := hw
        refine c_iald hc hr ht hi dX7_handBack_125 ?_
        refine m_iload_n hc 2 dX7_handBack_126 rfl rfl ?_
        refine m_iload_n hc 5 dX7_handBack_127 rfl rfl ?_
        refine m_iconst hc 1 dX7_handBack_128 (by decide) ?_
        refine m_isub hc dX7_handBack_129 ?_
        refine m_imul hc dX7_handBack_130 ?_
        refine m_iload_n hc 5 dX7_handBack_131 rfl rfl ?_
        obtain ⟨ht, hw⟩ := hw
        refine c_callVv hc hr ciX7 (Nat.le_of_ble_eq_true rfl) ht mt_X7_hand rfl lm_X7_118 (ok_X7_hand hw) (Nat.le_of_ble_eq_true rfl) dX7_handBack_132 rfl (rest := []) rfl (Nat.le_of_ble_eq_true rfl) (fun S19 hw => ?_)
        refine m_goto hc 220 dX7_handBack_135 rfl ?_
        exact c_vret hc hr dX7_handBack_220 hw
      · skip
        by_cases q3 : (hI S6 b7 (Int32.toNatClampNeg x1)) = 94
        · have hw := hw.2.2.2.1 q3
          refine m_look hc (off := 132) 171 dX7_handBack_39 (by decide +kernel) (by rw [q3]; rfl) rfl ?_
          refine m_aload_n hc 3 dX7_handBack_171 rfl rfl ?_
          refine m_aload_n hc 3 dX7_handBack_172 rfl rfl ?_
          obtain ⟨ht, b20, e_b20, hw⟩ := hw
          refine c_getr hc hr ciX7 (Nat.le_of_ble_eq_true rfl) 3 (Nat.le_of_ble_eq_true rfl) rfl dX7_handBack_173 lf_X7_22 ht e_b20 ?_
          refine m_iload_n hc 4 dX7_handBack_176 rfl rfl ?_
          obtain ⟨ht, hi, hw⟩ := hw
          refine c_iald hc hr ht hi dX7_handBack_177 ?_
          refine m_iload_n hc 2 dX7_handBack_178 rfl rfl ?_
          refine m_aload_n hc 3 dX7_handBack_179 rfl rfl ?_
          obtain ⟨ht, b21, e_b21, hw⟩ := hw
          refine c_getr hc hr ciX7 (Nat.le_of_ble_eq_true rfl) 4 (Nat.le_of_ble_eq_true rfl) rfl dX7_handBack_180 lf_X7_25 ht e_b21 ?_
          refine m_iload_n hc 4 dX7_handBack_183 rfl rfl ?_
          obtain ⟨ht, hi, hw⟩ := hw
          refine c_iald hc hr ht hi dX7_handBack_184 ?_
          refine m_imul hc dX7_handBack_185 ?_
          refine m_iload hc 1 dX7_handBack_186 rfl ?_
          refine m_aload_n hc 3 dX7_handBack_188 rfl rfl ?_
          obtain ⟨ht, b22, e_b22, hw⟩ := hw
          refine c_getr hc hr ciX7 (Nat.le_of_ble_eq_true rfl) 4 (Nat.le_of_ble_eq_true rfl) rfl dX7_handBack_189 lf_X7_25 ht e_b22 ?_
          refine m_iload_n hc 4 dX7_handBack_192 rfl rfl ?_
          obtain ⟨ht, hi, hw⟩ := hw
          refine c_iald hc hr ht hi dX7_handBack_193 ?_
          refine m_iconst hc 1 dX7_handBack_194 (by decide) ?_
          refine m_isub hc dX7_handBack_195 ?_
          refine m_iload_n hc 5 dX7_handBack_196 rfl rfl ?_
          refine c_callSi hc hr mt_X9_raised lm_X7_110 (ok_X9_raised hw) (Nat.le_of_ble_eq_true rfl) dX7_handBack_197 rfl (rest := [.int (v2 * (hI S6 b21 (Int32.toNatClampNeg x1))), .int (hI S6 b20 (Int32.toNatClampNeg x1)), .ref x0]) rfl (Nat.le_of_ble_eq_true rfl) (fun r23 S23 hw => ?_)
          refine m_imul hc dX7_handBack_200 ?_
          refine m_iload_n hc 5 dX7_handBack_201 rfl rfl ?_
          obtain ⟨ht, hw⟩ := hw
          refine c_callVv hc hr ciX7 (Nat.le_of_ble_eq_true rfl) ht mt_X7_hand rfl lm_X7_118 (ok_X7_hand hw) (Nat.le_of_ble_eq_true rfl) dX7_handBack_202 rfl (rest := []) rfl (Nat.le_of_ble_eq_true rfl) (fun S24 hw => ?_)
          refine m_goto hc 220 dX7_handBack_205 rfl ?_
          exact c_vret hc hr dX7_handBack_220 hw
        · skip
          have hw := hw.2.2.2.2 ⟨q0, q1, q2, q3⟩
          refine m_look hc (off := 169) 208 dX7_handBack_39 (by decide +kernel) (lk_no 42 q0 rfl (lk_no 43 q1 rfl (lk_no 45 q2 rfl (lk_no 94 q3 rfl (rfl))))) rfl ?_
          refine m_aload_n hc 3 dX7_handBack_208 rfl rfl ?_
          refine m_aload_n hc 3 dX7_handBack_209 rfl rfl ?_
          obtain ⟨ht, b25, e_b25, hw⟩ := hw
          refine c_getr hc hr ciX7 (Nat.le_of_ble_eq_true rfl) 3 (Nat.le_of_ble_eq_true rfl) rfl dX7_handBack_210 lf_X7_22 ht e_b25 ?_
          refine m_iload_n hc 4 dX7_handBack_213 rfl rfl ?_
          obtain ⟨ht, hi, hw⟩ := hw
          refine c_iald hc hr ht hi dX7_handBack_214 ?_
          refine m_iload_n hc 2 dX7_handBack_215 rfl rfl ?_
          refine m_iload_n hc 5 dX7_handBack_216 rfl rfl ?_
          obtain ⟨ht, hw⟩ := hw
          refine c_callVv hc hr ciX7 (Nat.le_of_ble_eq_true rfl) ht mt_X7_hand rfl lm_X7_118 (ok_X7_hand hw) (Nat.le_of_ble_eq_true rfl) dX7_handBack_217 rfl (rest := []) rfl (Nat.le_of_ble_eq_true rfl) (fun S26 hw => ?_)
          exact c_vret hc hr dX7_handBack_220 hw
def wb_X7_turnOf_27 (M : Nat × Nat) (K27 : Nat → Int32 → Int32 → Int32 → HS → Prop) (K : Int32 → HS → Prop) (x0 : Nat) (x1 x2 x3 : Int32) (S : HS) : Prop := (x3 ≤ x1 → hT S x0 = 8 ∧ ∃ b1 : Nat, hP S x0 8 = some b1 ∧ hT S b1 = 21 ∧ vp_in x1 (hN S b1) ∧ K (hI S b1 (Int32.toNatClampNeg x1)) S) ∧ (¬ (x3 ≤ x1) → hT S x0 = 8 ∧ wp_X7_handBack M x0 x3 x2 S (fun r2 S2 => K27 x0 x1 x2 (x3 + (-1)) S2))
def wl_X7_turnOf_27 (M : Nat × Nat) (K : Int32 → HS → Prop) : Nat → Nat → Int32 → Int32 → Int32 → HS → Prop
  | 0 => fun _ _ _ _ _ => False
  | nn + 1 => wb_X7_turnOf_27 M (wl_X7_turnOf_27 M K nn) K
set_option maxHeartbeats 4000000 in
set_option maxRecDepth 100000 in
theorem l_X7_turnOf_27 {G : CG} {S0 : HS} {X : Fx} {K : Int32 → HS → Prop} (hc : Cx X RX7 cX7_turnOf 4) (hr : Cc G S0 2 (some .int) (kI K) X) : ∀ (nn : Nat) (x0 : Nat) (x1 x2 x3 : Int32) (S : HS), wl_X7_turnOf_27 (gC G, gS G) K nn x0 x1 x2 x3 S → MC G S0 X 4 S 27 [(0, .ref x0), (1, .int x1), (2, .int x2), (3, .int x3)] [] := by
  intro nn
  induction nn with
  | zero => intro x0 x1 x2 x3 S hw; exact False.elim hw
  | succ nn ih =>
    intro x0 x1 x2 x3 S hw
    have hw : wb_X7_turnOf_27 (gC G, gS G) (wl_X7_turnOf_27 (gC G, gS G) K nn) K x0 x1 x2 x3 S := hw
    have h27 := ih
    generalize wl_X7_turnOf_27 (gC G, gS G) K nn = K27 at hw h27
    unfold wb_X7_turnOf_27 at hw
    refine m_iload_n hc 3 dX7_turnOf_27 rfl rfl ?_
    refine m_iload_n hc 1 dX7_turnOf_28 rfl rfl ?_
    refine m_icmp_le hc 44 dX7_turnOf_29 rfl (fun cq => ?_) (fun cq => ?_)
    · have hw := hw.1 cq
      refine m_aload_n hc 0 dX7_turnOf_44 rfl rfl ?_
      obtain ⟨ht, b1, e_b1, hw⟩ := hw
      refine c_getr hc hr ciX7 (Nat.le_of_ble_eq_true rfl) 8 (Nat.le_of_ble_eq_true rfl) rfl dX7_turnOf_45 lf_X7_40 ht e_b1 ?_
      refine m_iload_n hc 1 dX7_turnOf_48 rfl rfl ?_
      obtain ⟨ht, hi, hw⟩ := hw
      refine c_iald hc hr ht hi dX7_turnOf_49 ?_
      exact c_iret hc hr dX7_turnOf_50 hw
    · have hw := hw.2 cq
      refine m_aload_n hc 0 dX7_turnOf_32 rfl rfl ?_
      refine m_iload_n hc 3 dX7_turnOf_33 rfl rfl ?_
      refine m_iload_n hc 2 dX7_turnOf_34 rfl rfl ?_
      obtain ⟨ht, hw⟩ := hw
      refine c_callVv hc hr ciX7 (Nat.le_of_ble_eq_true rfl) ht mt_X7_handBack rfl lm_X7_114 (ok_X7_handBack hw) (Nat.le_of_ble_eq_true rfl) dX7_turnOf_35 rfl (rest := []) rfl (Nat.le_of_ble_eq_true rfl) (fun S2 hw => ?_)
      refine m_iinc hc 3 (x3 + (-1)) [(3, .int (x3 + (-1))), (0, .ref x0), (1, .int x1), (2, .int x2)] dX7_turnOf_38 rfl rfl (Nat.le_of_ble_eq_true rfl) rfl ?_
      refine m_goto hc 27 dX7_turnOf_41 rfl ?_
      refine m_sub [1, 2, 3, 0] rfl ?_
      exact h27 x0 x1 x2 (x3 + (-1)) S2 hw
def wp_X7_turnOf (M : Nat × Nat) (x0 : Nat) (x1 x2 : Int32) (S : HS) (K : Int32 → HS → Prop) : Prop := hT S x0 = 8 ∧ ∃ b1 : Nat, hP S x0 8 = some b1 ∧ wp_J7_fill_53178 M b1 0 S (fun r2 S2 => hT S2 x0 = 8 ∧ ∃ b3 : Nat, hP S2 x0 8 = some b3 ∧ hT S2 x0 = 8 ∧ hT S2 b3 = 21 ∧ vp_in ((hI S2 x0 0) - 1) (hN S2 b3) ∧ hT (sI S2 b3 (Int32.toNatClampNeg ((hI S2 x0 0) - 1)) 1) x0 = 8 ∧ ∀ v4 : Int32, v4 = ((hI (sI S2 b3 (Int32.toNatClampNeg ((hI S2 x0 0) - 1)) 1) x0 0) - 1) → ∃ nn : Nat, wl_X7_turnOf_27 M K nn x0 x1 x2 v4 (sI S2 b3 (Int32.toNatClampNeg ((hI S2 x0 0) - 1)) 1))
set_option maxHeartbeats 4000000 in
set_option maxRecDepth 100000 in
theorem ok_X7_turnOf {G : CG} {x0 : Nat} {x1 : Int32} {x2 : Int32} {S : HS} {K : Int32 → HS → Prop} (hw : wp_X7_turnOf (gC G, gS G) x0 x1 x2 S K) : CC 2 yX7_turnOf cX7_turnOf 4 (some .int) [.ref x0, .int x1, .int x2] G S (kI K) := by
  refine CC.of (by decide +kernel) (Nat.le_of_ble_eq_true rfl) (fun X hc hr hname => ?_)
  show MC G S X 4 S 0 [(0, .ref x0), (1, .int x1), (2, .int x2)] []
  unfold wp_X7_turnOf at hw
  refine m_aload_n hc 0 dX7_turnOf_0 rfl rfl ?_
  obtain ⟨ht, b1, e_b1, hw⟩ := hw
  refine c_getr hc hr ciX7 (Nat.le_of_ble_eq_true rfl) 8 (Nat.le_of_ble_eq_true rfl) rfl dX7_turnOf_1 lf_X7_40 ht e_b1 ?_
  refine m_iconst hc 0 dX7_turnOf_4 (by decide) ?_
  refine c_callSv hc hr mt_J7_fill_53178 lm_X7_90 (ok_J7_fill_53178 hw) (Nat.le_of_ble_eq_true rfl) dX7_turnOf_5 rfl (rest := []) rfl (Nat.le_of_ble_eq_true rfl) (fun S2 hw => ?_)
  refine m_aload_n hc 0 dX7_turnOf_8 rfl rfl ?_
  obtain ⟨ht, b3, e_b3, hw⟩ := hw
  refine c_getr hc hr ciX7 (Nat.le_of_ble_eq_true rfl) 8 (Nat.le_of_ble_eq_true rfl) rfl dX7_turnOf_9 lf_X7_40 ht e_b3 ?_
  refine m_aload_n hc 0 dX7_turnOf_12 rfl rfl ?_
  obtain ⟨ht, hw⟩ := hw
  refine c_geti hc hr ciX7 (Nat.le_of_ble_eq_true rfl) 0 (Nat.le_of_ble_eq_true rfl) rfl dX7_turnOf_13 lf_X7_11 ht ?_
  refine m_iconst hc 1 dX7_turnOf_16 (by decide) ?_
  refine m_isub hc dX7_turnOf_17 ?_
  refine m_iconst hc 1 dX7_turnOf_18 (by decide) ?_
  obtain ⟨ht, hi, hw⟩ := hw
  refine c_iast hc hr ht hi dX7_turnOf_19 ?_
  refine m_aload_n hc 0 dX7_turnOf_20 rfl rfl ?_
  obtain ⟨ht, hw⟩ := hw
  refine c_geti hc hr ciX7 (Nat.le_of_ble_eq_true rfl) 0 (Nat.le_of_ble_eq_true rfl) rfl dX7_turnOf_21 lf_X7_11 ht ?_
  refine m_iconst hc 1 dX7_turnOf_24 (by decide) ?_
  refine m_isub hc dX7_turnOf_25 ?_
  refine m_topi (fun v4 e_v4 => ?_)
  have hw := hw v4 e_v4
  refine m_istore_n hc [(3, .int v4), (0, .ref x0), (1, .int x1), (2, .int x2)] dX7_turnOf_26 rfl (Nat.le_of_ble_eq_true rfl) rfl ?_
  refine m_sub [1, 2, 3, 0] rfl ?_
  obtain ⟨nn, hw⟩ := hw
  exact l_X7_turnOf_27 hc hr nn x0 x1 x2 v4 (sI S2 b3 (Int32.toNatClampNeg ((hI S2 x0 0) - 1)) 1) hw
def wp_X8_init (M : Nat × Nat) (x0 x1 : Nat) (x2 : Int32) (x3 : Nat) (S : HS) (K : Int32 → HS → Prop) : Prop := hT S x0 = 9 ∧ ¬ (23 : Int32) < 0 ∧ (Int32.toNatClampNeg 23) ≤ 100000000 ∧ hX (sI S x0 0 0) + 1 ≤ M.1 ∧ hS (sI S x0 0 0) + (Int32.toNatClampNeg 23) ≤ M.2 ∧ ∀ (b1 : Nat) (S1 : HS), b1 = hX (sI S x0 0 0) → S1 = nO (sI S x0 0 0) 21 (Int32.toNatClampNeg 23) → hT S1 x0 = 9 ∧ hT (sP S1 x0 4 (some b1)) x0 = 9 ∧ hT (sI (sP S1 x0 4 (some b1)) x0 5 0) x0 = 9 ∧ hT (sI (sI (sP S1 x0 4 (some b1)) x0 5 0) x0 6 257) x0 = 9 ∧ hT (sI (sI (sI (sP S1 x0 4 (some b1)) x0 5 0) x0 6 257) x0 7 0) x0 = 9 ∧ hT (sI (sI (sI (sI (sP S1 x0 4 (some b1)) x0 5 0) x0 6 257) x0 7 0) x0 8 0) x0 = 9 ∧ hT (sP (sI (sI (sI (sI (sP S1 x0 4 (some b1)) x0 5 0) x0 6 257) x0 7 0) x0 8 0) x0 1 (some x1)) x0 = 9 ∧ hT (sI (sP (sI (sI (sI (sI (sP S1 x0 4 (some b1)) x0 5 0) x0 6 257) x0 7 0) x0 8 0) x0 1 (some x1)) x0 2 x2) x0 = 9 ∧ hT (sP (sI (sP (sI (sI (sI (sI (sP S1 x0 4 (some b1)) x0 5 0) x0 6 257) x0 7 0) x0 8 0) x0 1 (some x1)) x0 2 x2) x0 3 (some x3)) x0 = 9 ∧ ∃ b2 : Nat, hP (sP (sI (sP (sI (sI (sI (sI (sP S1 x0 4 (some b1)) x0 5 0) x0 6 257) x0 7 0) x0 8 0) x0 1 (some x1)) x0 2 x2) x0 3 (some x3)) x0 4 = some b2 ∧ wp_J7_fill_53178 M b2 (-1) (sP (sI (sP (sI (sI (sI (sI (sP S1 x0 4 (some b1)) x0 5 0) x0 6 257) x0 7 0) x0 8 0) x0 1 (some x1)) x0 2 x2) x0 3 (some x3)) (fun r3 S3 => K 0 S3)
set_option maxHeartbeats 4000000 in
set_option maxRecDepth 100000 in
theorem ok_X8_init {G : CG} {x0 : Nat} {x1 : Nat} {x2 : Int32} {x3 : Nat} {S : HS} {K : Int32 → HS → Prop} (hw : wp_X8_init (gC G, gS G) x0 x1 x2 x3 S K) : CC 1 yX8_init cX8_init 4 none [.ref x0, .ref x1, .int x2, .ref x3] G S (kV K) := by
  refine CC.of (by decide +kernel) (Nat.le_of_ble_eq_true rfl) (fun X hc hr hname => ?_)
  have hnm : Ci X := hname
  show MC G S X 4 S 0 [(0, .ref x0), (1, .ref x1), (2, .int x2), (3, .ref x3)] []
  unfold wp_X8_init at hw
  refine m_aload_n hc 0 dX8_init_0 rfl rfl ?_
  refine c_bnd (fun g1 g2 => ?_)
  refine q_objinit hc dX8_init_1 lm_X8_3 lObj (c_room hr g1 g2) (Nat.le_of_ble_eq_true rfl) ?_
  refine m_aload_n hc 0 dX8_init_4 rfl rfl ?_
  refine m_iconst hc 0 dX8_init_5 (by decide) ?_
  obtain ⟨ht, hw⟩ := hw
  refine c_puti hc hr ciX8 (Nat.le_of_ble_eq_true rfl) 0 (Nat.le_of_ble_eq_true rfl) rfl dX8_init_6 lf_X8_9 ht (Or.inl rfl) ⟨rfl, rfl⟩ ?_
  refine m_aload_n hc 0 dX8_init_9 rfl rfl ?_
  refine m_bipush hc 23 dX8_init_10 (by decide) ?_
  obtain ⟨hn0, hn1, hm, hm2, hw⟩ := hw
  refine n_newi hc hr dX8_init_12 laI hn0 hn1 hm hm2 (fun b1 S1 e_b1 e_S1 => ?_)
  have hw := hw b1 S1 e_b1 e_S1
  obtain ⟨ht, hw⟩ := hw
  refine c_putr hc hr ciX8 (Nat.le_of_ble_eq_true rfl) 4 (Nat.le_of_ble_eq_true rfl) rfl dX8_init_14 lf_X8_15 ht (Or.inr ⟨rfl, hnm, rfl⟩) (Or.inr ⟨_, rfl⟩) ?_
  refine m_aload_n hc 0 dX8_init_17 rfl rfl ?_
  refine m_iconst hc 0 dX8_init_18 (by decide) ?_
  obtain ⟨ht, hw⟩ := hw
  refine c_puti hc hr ciX8 (Nat.le_of_ble_eq_true rfl) 5 (Nat.le_of_ble_eq_true rfl) rfl dX8_init_19 lf_X8_19 ht (Or.inl rfl) ⟨rfl, rfl⟩ ?_
  refine m_aload_n hc 0 dX8_init_22 rfl rfl ?_
  refine m_sipush hc 257 dX8_init_23 (by decide) ?_
  obtain ⟨ht, hw⟩ := hw
  refine c_puti hc hr ciX8 (Nat.le_of_ble_eq_true rfl) 6 (Nat.le_of_ble_eq_true rfl) rfl dX8_init_26 lf_X8_22 ht (Or.inl rfl) ⟨rfl, rfl⟩ ?_
  refine m_aload_n hc 0 dX8_init_29 rfl rfl ?_
  refine m_iconst hc 0 dX8_init_30 (by decide) ?_
  obtain ⟨ht, hw⟩ := hw
  refine c_puti hc hr ciX8 (Nat.le_of_ble_eq_true rfl) 7 (Nat.le_of_ble_eq_true rfl) rfl dX8_init_31 lf_X8_25 ht (Or.inl rfl) ⟨rfl, rfl⟩ ?_
  refine m_aload_n hc 0 dX8_init_34 rfl rfl ?_
  refine m_iconst hc 0 dX8_init_35 (by decide) ?_
  obtain ⟨ht, hw⟩ := hw
  refine c_puti hc hr ciX8 (Nat.le_of_ble_eq_true rfl) 8 (Nat.le_of_ble_eq_true rfl) rfl dX8_init_36 lf_X8_28 ht (Or.inl rfl) ⟨rfl, rfl⟩ ?_
  refine m_aload_n hc 0 dX8_init_39 rfl rfl ?_
  refine m_aload_n hc 1 dX8_init_40 rfl rfl ?_
  obtain ⟨ht, hw⟩ := hw
  refine c_putr hc hr ciX8 (Nat.le_of_ble_eq_true rfl) 1 (Nat.le_of_ble_eq_true rfl) rfl dX8_init_41 lf_X8_31 ht (Or.inr ⟨rfl, hnm, rfl⟩) (Or.inr ⟨_, rfl⟩) ?_
  refine m_aload_n hc 0 dX8_init_44 rfl rfl ?_
  refine m_iload_n hc 2 dX8_init_45 rfl rfl ?_
  obtain ⟨ht, hw⟩ := hw
  refine c_puti hc hr ciX8 (Nat.le_of_ble_eq_true rfl) 2 (Nat.le_of_ble_eq_true rfl) rfl dX8_init_46 lf_X8_34 ht (Or.inr ⟨rfl, hnm, rfl⟩) ⟨rfl, rfl⟩ ?_
  refine m_aload_n hc 0 dX8_init_49 rfl rfl ?_
  refine m_aload_n hc 3 dX8_init_50 rfl rfl ?_
  obtain ⟨ht, hw⟩ := hw
  refine c_putr hc hr ciX8 (Nat.le_of_ble_eq_true rfl) 3 (Nat.le_of_ble_eq_true rfl) rfl dX8_init_51 lf_X8_37 ht (Or.inr ⟨rfl, hnm, rfl⟩) (Or.inl ⟨_, rfl⟩) ?_
  refine m_aload_n hc 0 dX8_init_54 rfl rfl ?_
  obtain ⟨ht, b2, e_b2, hw⟩ := hw
  refine c_getr hc hr ciX8 (Nat.le_of_ble_eq_true rfl) 4 (Nat.le_of_ble_eq_true rfl) rfl dX8_init_55 lf_X8_15 ht e_b2 ?_
  refine m_iconst hc (-1) dX8_init_58 (by decide) ?_
  refine c_callSv hc hr mt_J7_fill_53178 lm_X8_41 (ok_J7_fill_53178 hw) (Nat.le_of_ble_eq_true rfl) dX8_init_59 rfl (rest := []) rfl (Nat.le_of_ble_eq_true rfl) (fun S3 hw => ?_)
  exact c_vret hc hr dX8_init_62 hw
def wp_X8_isFigure (M : Nat × Nat) (x0 : Int32) (S : HS) (K : Int32 → HS → Prop) : Prop := (x0 < 48 → K 0 S) ∧ (¬ (x0 < 48) → (57 < x0 → K 0 S) ∧ (¬ (57 < x0) → K 1 S))
set_option maxHeartbeats 4000000 in
set_option maxRecDepth 100000 in
theorem ok_X8_isFigure {G : CG} {x0 : Int32} {S : HS} {K : Int32 → HS → Prop} (hw : wp_X8_isFigure (gC G, gS G) x0 S K) : CC 0 yX8_isFigure cX8_isFigure 1 (some .boolean) [.int x0] G S (kI K) := by
  refine CC.of (by decide +kernel) (Nat.le_of_ble_eq_true rfl) (fun X hc hr hname => ?_)
  show MC G S X 1 S 0 [(0, .int x0)] []
  unfold wp_X8_isFigure at hw
  refine m_iload_n hc 0 dX8_isFigure_0 rfl rfl ?_
  refine m_bipush hc 48 dX8_isFigure_1 (by decide) ?_
  refine m_icmp_lt hc 16 dX8_isFigure_3 rfl (fun cq => ?_) (fun cq => ?_)
  · have hw := hw.1 cq
    refine m_iconst hc 0 dX8_isFigure_16 (by decide) ?_
    exact c_zret hc hr dX8_isFigure_17 (by decide) hw
  · have hw := hw.2 cq
    refine m_iload_n hc 0 dX8_isFigure_6 rfl rfl ?_
    refine m_bipush hc 57 dX8_isFigure_7 (by decide) ?_
    refine m_icmp_gt hc 16 dX8_isFigure_9 rfl (fun cq => ?_) (fun cq => ?_)
    · have hw := hw.1 cq
      refine m_iconst hc 0 dX8_isFigure_16 (by decide) ?_
      exact c_zret hc hr dX8_isFigure_17 (by decide) hw
    · have hw := hw.2 cq
      refine m_iconst hc 1 dX8_isFigure_12 (by decide) ?_
      refine m_goto hc 17 dX8_isFigure_13 rfl ?_
      exact c_zret hc hr dX8_isFigure_17 (by decide) hw
