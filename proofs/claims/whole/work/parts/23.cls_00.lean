def wp_X0_init (M : Nat × Nat) (x0 : Nat) (S : HS) (K : Int32 → HS → Prop) : Prop := hT S x0 = 1 ∧ hT (sI S x0 0 0) x0 = 1 ∧ ¬ (20 : Int32) < 0 ∧ (Int32.toNatClampNeg 20) ≤ 100000000 ∧ hX (sI (sI S x0 0 0) x0 1 0) + 1 ≤ M.1 ∧ hS (sI (sI S x0 0 0) x0 1 0) + (Int32.toNatClampNeg 20) ≤ M.2 ∧ ∀ (b1 : Nat) (S1 : HS), b1 = hX (sI (sI S x0 0 0) x0 1 0) → S1 = nO (sI (sI S x0 0 0) x0 1 0) 21 (Int32.toNatClampNeg 20) → hT S1 x0 = 1 ∧ ¬ (20 : Int32) < 0 ∧ (Int32.toNatClampNeg 20) ≤ 100000000 ∧ hX (sP S1 x0 2 (some b1)) + 1 ≤ M.1 ∧ hS (sP S1 x0 2 (some b1)) + (Int32.toNatClampNeg 20) ≤ M.2 ∧ ∀ (b2 : Nat) (S2 : HS), b2 = hX (sP S1 x0 2 (some b1)) → S2 = nO (sP S1 x0 2 (some b1)) 23 (Int32.toNatClampNeg 20) → hT S2 x0 = 1 ∧ K 0 (sP S2 x0 3 (some b2))
set_option maxHeartbeats 4000000 in
set_option maxRecDepth 100000 in
theorem ok_X0_init {G : CG} {x0 : Nat} {S : HS} {K : Int32 → HS → Prop} (hw : wp_X0_init (gC G, gS G) x0 S K) : CC 1 yX0_init cX0_init 1 none [.ref x0] G S (kV K) := by
  refine CC.of (by decide +kernel) (Nat.le_of_ble_eq_true rfl) (fun X hc hr hname => ?_)
  have hnm : Ci X := hname
  show MC G S X 1 S 0 [(0, .ref x0)] []
  unfold wp_X0_init at hw
  refine m_aload_n hc 0 dX0_init_0 rfl rfl ?_
  refine c_bnd (fun g1 g2 => ?_)
  refine q_objinit hc dX0_init_1 lm_X0_1 lObj (c_room hr g1 g2) (Nat.le_of_ble_eq_true rfl) ?_
  refine m_aload_n hc 0 dX0_init_4 rfl rfl ?_
  refine m_iconst hc 0 dX0_init_5 (by decide) ?_
  obtain ⟨ht, hw⟩ := hw
  refine c_puti hc hr ciX0 (Nat.le_of_ble_eq_true rfl) 0 (Nat.le_of_ble_eq_true rfl) rfl dX0_init_6 lf_X0_7 ht (Or.inl rfl) ⟨rfl, rfl⟩ ?_
  refine m_aload_n hc 0 dX0_init_9 rfl rfl ?_
  refine m_iconst hc 0 dX0_init_10 (by decide) ?_
  obtain ⟨ht, hw⟩ := hw
  refine c_puti hc hr ciX0 (Nat.le_of_ble_eq_true rfl) 1 (Nat.le_of_ble_eq_true rfl) rfl dX0_init_11 lf_X0_13 ht (Or.inl rfl) ⟨rfl, rfl⟩ ?_
  refine m_aload_n hc 0 dX0_init_14 rfl rfl ?_
  refine m_bipush hc 20 dX0_init_15 (by decide) ?_
  obtain ⟨hn0, hn1, hm, hm2, hw⟩ := hw
  refine n_newi hc hr dX0_init_17 laI hn0 hn1 hm hm2 (fun b1 S1 e_b1 e_S1 => ?_)
  have hw := hw b1 S1 e_b1 e_S1
  obtain ⟨ht, hw⟩ := hw
  refine c_putr hc hr ciX0 (Nat.le_of_ble_eq_true rfl) 2 (Nat.le_of_ble_eq_true rfl) rfl dX0_init_19 lf_X0_16 ht (Or.inr ⟨rfl, hnm, rfl⟩) (Or.inr ⟨_, rfl⟩) ?_
  refine m_aload_n hc 0 dX0_init_22 rfl rfl ?_
  refine m_bipush hc 20 dX0_init_23 (by decide) ?_
  obtain ⟨hn0, hn1, hm, hm2, hw⟩ := hw
  refine n_newp hc hr dX0_init_25 lcl_X0_20 hn0 hn1 hm hm2 (fun b2 S2 e_b2 e_S2 => ?_)
  have hw := hw b2 S2 e_b2 e_S2
  obtain ⟨ht, hw⟩ := hw
  refine c_putr hc hr ciX0 (Nat.le_of_ble_eq_true rfl) 3 (Nat.le_of_ble_eq_true rfl) rfl dX0_init_28 lf_X0_22 ht (Or.inr ⟨rfl, hnm, rfl⟩) (Or.inr ⟨_, rfl⟩) ?_
  exact c_vret hc hr dX0_init_31 hw
def wp_X0_forget (M : Nat × Nat) (x0 : Nat) (S : HS) (K : Int32 → HS → Prop) : Prop := hT S x0 = 1 ∧ K 0 (sI S x0 0 0)
set_option maxHeartbeats 4000000 in
set_option maxRecDepth 100000 in
theorem ok_X0_forget {G : CG} {x0 : Nat} {S : HS} {K : Int32 → HS → Prop} (hw : wp_X0_forget (gC G, gS G) x0 S K) : CC 0 yX0_forget cX0_forget 1 none [.ref x0] G S (kV K) := by
  refine CC.of (by decide +kernel) (Nat.le_of_ble_eq_true rfl) (fun X hc hr hname => ?_)
  show MC G S X 1 S 0 [(0, .ref x0)] []
  unfold wp_X0_forget at hw
  refine m_aload_n hc 0 dX0_forget_0 rfl rfl ?_
  refine m_iconst hc 0 dX0_forget_1 (by decide) ?_
  obtain ⟨ht, hw⟩ := hw
  refine c_puti hc hr ciX0 (Nat.le_of_ble_eq_true rfl) 0 (Nat.le_of_ble_eq_true rfl) rfl dX0_forget_2 lf_X0_7 ht (Or.inl rfl) ⟨rfl, rfl⟩ ?_
  exact c_vret hc hr dX0_forget_5 hw
def w_X0_note_40 (M : Nat × Nat) (K : Int32 → HS → Prop) (x0 : Nat) (s0 : Int32) (s1 : Nat) (S : HS) : Prop := hT S s1 = 1 ∧ hT (sI S s1 1 s0) x0 = 1 ∧ hT (sI S s1 1 s0) x0 = 1 ∧ K 0 (sI (sI S s1 1 s0) x0 0 (if 20 < (hI (sI S s1 1 s0) x0 0) + 1 then 20 else (hI (sI S s1 1 s0) x0 0) + 1))
set_option maxHeartbeats 4000000 in
set_option maxRecDepth 100000 in
theorem b_X0_note_40 {G : CG} {S0 : HS} {X : Fx} {K : Int32 → HS → Prop} (hc : Cx X RX0 cX0_note 3) (hr : Cc G S0 1 none (kV K) X) : ∀ (x0 : Nat) (s0 : Int32) (s1 : Nat) (S : HS), w_X0_note_40 (gC G, gS G) K x0 s0 s1 S → MC G S0 X 3 S 40 [(0, .ref x0)] [.int s0, .ref s1] := by
  intro x0 s0 s1 S hw
  unfold w_X0_note_40 at hw
  obtain ⟨ht, hw⟩ := hw
  refine c_puti hc hr ciX0 (Nat.le_of_ble_eq_true rfl) 1 (Nat.le_of_ble_eq_true rfl) rfl dX0_note_40 lf_X0_13 ht (Or.inl rfl) ⟨rfl, rfl⟩ ?_
  refine m_aload_n hc 0 dX0_note_43 rfl rfl ?_
  refine m_aload_n hc 0 dX0_note_44 rfl rfl ?_
  obtain ⟨ht, hw⟩ := hw
  refine c_geti hc hr ciX0 (Nat.le_of_ble_eq_true rfl) 0 (Nat.le_of_ble_eq_true rfl) rfl dX0_note_45 lf_X0_7 ht ?_
  refine m_iconst hc 1 dX0_note_48 (by decide) ?_
  refine m_iadd hc dX0_note_49 ?_
  refine m_bipush hc 20 dX0_note_50 (by decide) ?_
  refine c_bnd (fun g1 g2 => ?_)
  refine m_mmin hc dX0_note_52 lm_X0_26 lM_min (c_room hr g1 g2) (Nat.le_of_ble_eq_true rfl) ?_
  obtain ⟨ht, hw⟩ := hw
  refine c_puti hc hr ciX0 (Nat.le_of_ble_eq_true rfl) 0 (Nat.le_of_ble_eq_true rfl) rfl dX0_note_55 lf_X0_7 ht (Or.inl rfl) ⟨rfl, rfl⟩ ?_
  exact c_vret hc hr dX0_note_58 hw
def wp_X0_note (M : Nat × Nat) (x0 : Nat) (x1 : Int32) (x2 : Nat) (S : HS) (K : Int32 → HS → Prop) : Prop := hT S x0 = 1 ∧ ∃ b1 : Nat, hP S x0 2 = some b1 ∧ hT S x0 = 1 ∧ hT S b1 = 21 ∧ vp_in (hI S x0 1) (hN S b1) ∧ hT (sI S b1 (Int32.toNatClampNeg (hI S x0 1)) x1) x0 = 1 ∧ ∃ b2 : Nat, hP (sI S b1 (Int32.toNatClampNeg (hI S x0 1)) x1) x0 3 = some b2 ∧ hT (sI S b1 (Int32.toNatClampNeg (hI S x0 1)) x1) x0 = 1 ∧ hT (sI S b1 (Int32.toNatClampNeg (hI S x0 1)) x1) b2 = 23 ∧ vp_in (hI (sI S b1 (Int32.toNatClampNeg (hI S x0 1)) x1) x0 1) (hN (sI S b1 (Int32.toNatClampNeg (hI S x0 1)) x1) b2) ∧ hT (sI S b1 (Int32.toNatClampNeg (hI S x0 1)) x1) x2 = 7 ∧ hT (sP (sI S b1 (Int32.toNatClampNeg (hI S x0 1)) x1) b2 (Int32.toNatClampNeg (hI (sI S b1 (Int32.toNatClampNeg (hI S x0 1)) x1) x0 1)) (some x2)) x0 = 1 ∧ (¬ (hI (sP (sI S b1 (Int32.toNatClampNeg (hI S x0 1)) x1) b2 (Int32.toNatClampNeg (hI (sI S b1 (Int32.toNatClampNeg (hI S x0 1)) x1) x0 1)) (some x2)) x0 1) = 19 → hT (sP (sI S b1 (Int32.toNatClampNeg (hI S x0 1)) x1) b2 (Int32.toNatClampNeg (hI (sI S b1 (Int32.toNatClampNeg (hI S x0 1)) x1) x0 1)) (some x2)) x0 = 1 ∧ w_X0_note_40 M K x0 ((hI (sP (sI S b1 (Int32.toNatClampNeg (hI S x0 1)) x1) b2 (Int32.toNatClampNeg (hI (sI S b1 (Int32.toNatClampNeg (hI S x0 1)) x1) x0 1)) (some x2)) x0 1) + 1) x0 (sP (sI S b1 (Int32.toNatClampNeg (hI S x0 1)) x1) b2 (Int32.toNatClampNeg (hI (sI S b1 (Int32.toNatClampNeg (hI S x0 1)) x1) x0 1)) (some x2))) ∧ ((hI (sP (sI S b1 (Int32.toNatClampNeg (hI S x0 1)) x1) b2 (Int32.toNatClampNeg (hI (sI S b1 (Int32.toNatClampNeg (hI S x0 1)) x1) x0 1)) (some x2)) x0 1) = 19 → w_X0_note_40 M K x0 0 x0 (sP (sI S b1 (Int32.toNatClampNeg (hI S x0 1)) x1) b2 (Int32.toNatClampNeg (hI (sI S b1 (Int32.toNatClampNeg (hI S x0 1)) x1) x0 1)) (some x2)))
set_option maxHeartbeats 4000000 in
set_option maxRecDepth 100000 in
theorem ok_X0_note {G : CG} {x0 : Nat} {x1 : Int32} {x2 : Nat} {S : HS} {K : Int32 → HS → Prop} (hw : wp_X0_note (gC G, gS G) x0 x1 x2 S K) : CC 1 yX0_note cX0_note 3 none [.ref x0, .int x1, .ref x2] G S (kV K) := by
  refine CC.of (by decide +kernel) (Nat.le_of_ble_eq_true rfl) (fun X hc hr hname => ?_)
  show MC G S X 3 S 0 [(0, .ref x0), (1, .int x1), (2, .ref x2)] []
  unfold wp_X0_note at hw
  refine m_aload_n hc 0 dX0_note_0 rfl rfl ?_
  obtain ⟨ht, b1, e_b1, hw⟩ := hw
  refine c_getr hc hr ciX0 (Nat.le_of_ble_eq_true rfl) 2 (Nat.le_of_ble_eq_true rfl) rfl dX0_note_1 lf_X0_16 ht e_b1 ?_
  refine m_aload_n hc 0 dX0_note_4 rfl rfl ?_
  obtain ⟨ht, hw⟩ := hw
  refine c_geti hc hr ciX0 (Nat.le_of_ble_eq_true rfl) 1 (Nat.le_of_ble_eq_true rfl) rfl dX0_note_5 lf_X0_13 ht ?_
  refine m_iload_n hc 1 dX0_note_8 rfl rfl ?_
  obtain ⟨ht, hi, hw⟩ := hw
  refine c_iast hc hr ht hi dX0_note_9 ?_
  refine m_aload_n hc 0 dX0_note_10 rfl rfl ?_
  obtain ⟨ht, b2, e_b2, hw⟩ := hw
  refine c_getr hc hr ciX0 (Nat.le_of_ble_eq_true rfl) 3 (Nat.le_of_ble_eq_true rfl) rfl dX0_note_11 lf_X0_22 ht e_b2 ?_
  refine m_aload_n hc 0 dX0_note_14 rfl rfl ?_
  obtain ⟨ht, hw⟩ := hw
  refine c_geti hc hr ciX0 (Nat.le_of_ble_eq_true rfl) 1 (Nat.le_of_ble_eq_true rfl) rfl dX0_note_15 lf_X0_13 ht ?_
  refine m_aload_n hc 2 dX0_note_18 rfl rfl ?_
  obtain ⟨ht, hi, hv, hw⟩ := hw
  refine c_aast hc hr ht hi hv dX0_note_19 ?_
  refine m_aload_n hc 0 dX0_note_20 rfl rfl ?_
  refine m_aload_n hc 0 dX0_note_21 rfl rfl ?_
  obtain ⟨ht, hw⟩ := hw
  refine c_geti hc hr ciX0 (Nat.le_of_ble_eq_true rfl) 1 (Nat.le_of_ble_eq_true rfl) rfl dX0_note_22 lf_X0_13 ht ?_
  refine m_bipush hc 19 dX0_note_25 (by decide) ?_
  refine m_icmp_ne hc 34 dX0_note_27 rfl (fun cq => ?_) (fun cq => ?_)
  · have hw := hw.1 cq
    refine m_aload_n hc 0 dX0_note_34 rfl rfl ?_
    obtain ⟨ht, hw⟩ := hw
    refine c_geti hc hr ciX0 (Nat.le_of_ble_eq_true rfl) 1 (Nat.le_of_ble_eq_true rfl) rfl dX0_note_35 lf_X0_13 ht ?_
    refine m_iconst hc 1 dX0_note_38 (by decide) ?_
    refine m_iadd hc dX0_note_39 ?_
    refine m_sub [0] rfl ?_
    exact b_X0_note_40 hc hr x0 ((hI (sP (sI S b1 (Int32.toNatClampNeg (hI S x0 1)) x1) b2 (Int32.toNatClampNeg (hI (sI S b1 (Int32.toNatClampNeg (hI S x0 1)) x1) x0 1)) (some x2)) x0 1) + 1) x0 (sP (sI S b1 (Int32.toNatClampNeg (hI S x0 1)) x1) b2 (Int32.toNatClampNeg (hI (sI S b1 (Int32.toNatClampNeg (hI S x0 1)) x1) x0 1)) (some x2)) hw
  · have hw := hw.2 cq
    refine m_iconst hc 0 dX0_note_30 (by decide) ?_
    refine m_goto hc 40 dX0_note_31 rfl ?_
    refine m_sub [0] rfl ?_
    exact b_X0_note_40 hc hr x0 0 x0 (sP (sI S b1 (Int32.toNatClampNeg (hI S x0 1)) x1) b2 (Int32.toNatClampNeg (hI (sI S b1 (Int32.toNatClampNeg (hI S x0 1)) x1) x0 1)) (some x2)) hw
def w_X0_takeBack_19 (M : Nat × Nat) (K : Int32 → HS → Prop) (x0 x1 : Nat) (s0 : Int32) (s1 : Nat) (S : HS) : Prop := hT S s1 = 1 ∧ hT (sI S s1 1 s0) x0 = 1 ∧ hT (sI S s1 1 s0) x0 = 1 ∧ hT (sI (sI S s1 1 s0) x0 0 ((hI (sI S s1 1 s0) x0 0) - 1)) x0 = 1 ∧ ∃ b1 : Nat, hP (sI (sI S s1 1 s0) x0 0 ((hI (sI S s1 1 s0) x0 0) - 1)) x0 2 = some b1 ∧ hT (sI (sI S s1 1 s0) x0 0 ((hI (sI S s1 1 s0) x0 0) - 1)) x0 = 1 ∧ hT (sI (sI S s1 1 s0) x0 0 ((hI (sI S s1 1 s0) x0 0) - 1)) b1 = 21 ∧ vp_in (hI (sI (sI S s1 1 s0) x0 0 ((hI (sI S s1 1 s0) x0 0) - 1)) x0 1) (hN (sI (sI S s1 1 s0) x0 0 ((hI (sI S s1 1 s0) x0 0) - 1)) b1) ∧ hT (sI (sI S s1 1 s0) x0 0 ((hI (sI S s1 1 s0) x0 0) - 1)) x0 = 1 ∧ ∃ b2 : Nat, hP (sI (sI S s1 1 s0) x0 0 ((hI (sI S s1 1 s0) x0 0) - 1)) x0 3 = some b2 ∧ hT (sI (sI S s1 1 s0) x0 0 ((hI (sI S s1 1 s0) x0 0) - 1)) x0 = 1 ∧ hT (sI (sI S s1 1 s0) x0 0 ((hI (sI S s1 1 s0) x0 0) - 1)) b2 = 23 ∧ vp_in (hI (sI (sI S s1 1 s0) x0 0 ((hI (sI S s1 1 s0) x0 0) - 1)) x0 1) (hN (sI (sI S s1 1 s0) x0 0 ((hI (sI S s1 1 s0) x0 0) - 1)) b2) ∧ ∃ b3 : Nat, hP (sI (sI S s1 1 s0) x0 0 ((hI (sI S s1 1 s0) x0 0) - 1)) b2 (Int32.toNatClampNeg (hI (sI (sI S s1 1 s0) x0 0 ((hI (sI S s1 1 s0) x0 0) - 1)) x0 1)) = some b3 ∧ hT (sI (sI S s1 1 s0) x0 0 ((hI (sI S s1 1 s0) x0 0) - 1)) x1 = 23 ∧ vp_in (hI (sI (sI S s1 1 s0) x0 0 ((hI (sI S s1 1 s0) x0 0) - 1)) b1 (Int32.toNatClampNeg (hI (sI (sI S s1 1 s0) x0 0 ((hI (sI S s1 1 s0) x0 0) - 1)) x0 1))) (hN (sI (sI S s1 1 s0) x0 0 ((hI (sI S s1 1 s0) x0 0) - 1)) x1) ∧ hT (sI (sI S s1 1 s0) x0 0 ((hI (sI S s1 1 s0) x0 0) - 1)) b3 = 7 ∧ K 0 (sP (sI (sI S s1 1 s0) x0 0 ((hI (sI S s1 1 s0) x0 0) - 1)) x1 (Int32.toNatClampNeg (hI (sI (sI S s1 1 s0) x0 0 ((hI (sI S s1 1 s0) x0 0) - 1)) b1 (Int32.toNatClampNeg (hI (sI (sI S s1 1 s0) x0 0 ((hI (sI S s1 1 s0) x0 0) - 1)) x0 1)))) (some b3))
set_option maxHeartbeats 4000000 in
set_option maxRecDepth 100000 in
theorem b_X0_takeBack_19 {G : CG} {S0 : HS} {X : Fx} {K : Int32 → HS → Prop} (hc : Cx X RX0 cX0_takeBack 2) (hr : Cc G S0 0 none (kV K) X) : ∀ (x0 x1 : Nat) (s0 : Int32) (s1 : Nat) (S : HS), w_X0_takeBack_19 (gC G, gS G) K x0 x1 s0 s1 S → MC G S0 X 2 S 19 [(0, .ref x0), (1, .ref x1)] [.int s0, .ref s1] := by
  intro x0 x1 s0 s1 S hw
  unfold w_X0_takeBack_19 at hw
  obtain ⟨ht, hw⟩ := hw
  refine c_puti hc hr ciX0 (Nat.le_of_ble_eq_true rfl) 1 (Nat.le_of_ble_eq_true rfl) rfl dX0_takeBack_19 lf_X0_13 ht (Or.inl rfl) ⟨rfl, rfl⟩ ?_
  refine m_aload_n hc 0 dX0_takeBack_22 rfl rfl ?_
  refine m_dup hc dX0_takeBack_23 rfl ?_
  obtain ⟨ht, hw⟩ := hw
  refine c_geti hc hr ciX0 (Nat.le_of_ble_eq_true rfl) 0 (Nat.le_of_ble_eq_true rfl) rfl dX0_takeBack_24 lf_X0_7 ht ?_
  refine m_iconst hc 1 dX0_takeBack_27 (by decide) ?_
  refine m_isub hc dX0_takeBack_28 ?_
  obtain ⟨ht, hw⟩ := hw
  refine c_puti hc hr ciX0 (Nat.le_of_ble_eq_true rfl) 0 (Nat.le_of_ble_eq_true rfl) rfl dX0_takeBack_29 lf_X0_7 ht (Or.inl rfl) ⟨rfl, rfl⟩ ?_
  refine m_aload_n hc 1 dX0_takeBack_32 rfl rfl ?_
  refine m_aload_n hc 0 dX0_takeBack_33 rfl rfl ?_
  obtain ⟨ht, b1, e_b1, hw⟩ := hw
  refine c_getr hc hr ciX0 (Nat.le_of_ble_eq_true rfl) 2 (Nat.le_of_ble_eq_true rfl) rfl dX0_takeBack_34 lf_X0_16 ht e_b1 ?_
  refine m_aload_n hc 0 dX0_takeBack_37 rfl rfl ?_
  obtain ⟨ht, hw⟩ := hw
  refine c_geti hc hr ciX0 (Nat.le_of_ble_eq_true rfl) 1 (Nat.le_of_ble_eq_true rfl) rfl dX0_takeBack_38 lf_X0_13 ht ?_
  obtain ⟨ht, hi, hw⟩ := hw
  refine c_iald hc hr ht hi dX0_takeBack_41 ?_
  refine m_aload_n hc 0 dX0_takeBack_42 rfl rfl ?_
  obtain ⟨ht, b2, e_b2, hw⟩ := hw
  refine c_getr hc hr ciX0 (Nat.le_of_ble_eq_true rfl) 3 (Nat.le_of_ble_eq_true rfl) rfl dX0_takeBack_43 lf_X0_22 ht e_b2 ?_
  refine m_aload_n hc 0 dX0_takeBack_46 rfl rfl ?_
  obtain ⟨ht, hw⟩ := hw
  refine c_geti hc hr ciX0 (Nat.le_of_ble_eq_true rfl) 1 (Nat.le_of_ble_eq_true rfl) rfl dX0_takeBack_47 lf_X0_13 ht ?_
  obtain ⟨ht, hi, b3, e_b3, hw⟩ := hw
  refine c_aald hc hr ht hi e_b3 dX0_takeBack_50 ?_
  obtain ⟨ht, hi, hv, hw⟩ := hw
  refine c_aast hc hr ht hi hv dX0_takeBack_51 ?_
  exact c_vret hc hr dX0_takeBack_52 hw
def wp_X0_takeBack (M : Nat × Nat) (x0 x1 : Nat) (S : HS) (K : Int32 → HS → Prop) : Prop := hT S x0 = 1 ∧ (¬ (hI S x0 1) = 0 → hT S x0 = 1 ∧ w_X0_takeBack_19 M K x0 x1 ((hI S x0 1) - 1) x0 S) ∧ ((hI S x0 1) = 0 → w_X0_takeBack_19 M K x0 x1 19 x0 S)
set_option maxHeartbeats 4000000 in
set_option maxRecDepth 100000 in
theorem ok_X0_takeBack {G : CG} {x0 : Nat} {x1 : Nat} {S : HS} {K : Int32 → HS → Prop} (hw : wp_X0_takeBack (gC G, gS G) x0 x1 S K) : CC 0 yX0_takeBack cX0_takeBack 2 none [.ref x0, .ref x1] G S (kV K) := by
  refine CC.of (by decide +kernel) (Nat.le_of_ble_eq_true rfl) (fun X hc hr hname => ?_)
  show MC G S X 2 S 0 [(0, .ref x0), (1, .ref x1)] []
  unfold wp_X0_takeBack at hw
  refine m_aload_n hc 0 dX0_takeBack_0 rfl rfl ?_
  refine m_aload_n hc 0 dX0_takeBack_1 rfl rfl ?_
  obtain ⟨ht, hw⟩ := hw
  refine c_geti hc hr ciX0 (Nat.le_of_ble_eq_true rfl) 1 (Nat.le_of_ble_eq_true rfl) rfl dX0_takeBack_2 lf_X0_13 ht ?_
  refine m_if_ne hc 13 dX0_takeBack_5 rfl (fun cq => ?_) (fun cq => ?_)
  · have hw := hw.1 cq
    refine m_aload_n hc 0 dX0_takeBack_13 rfl rfl ?_
    obtain ⟨ht, hw⟩ := hw
    refine c_geti hc hr ciX0 (Nat.le_of_ble_eq_true rfl) 1 (Nat.le_of_ble_eq_true rfl) rfl dX0_takeBack_14 lf_X0_13 ht ?_
    refine m_iconst hc 1 dX0_takeBack_17 (by decide) ?_
    refine m_isub hc dX0_takeBack_18 ?_
    exact b_X0_takeBack_19 hc hr x0 x1 ((hI S x0 1) - 1) x0 S hw
  · have hw := hw.2 cq
    refine m_bipush hc 19 dX0_takeBack_8 (by decide) ?_
    refine m_goto hc 19 dX0_takeBack_10 rfl ?_
    exact b_X0_takeBack_19 hc hr x0 x1 19 x0 S hw
def wp_X1_init (M : Nat × Nat) (x0 : Nat) (S : HS) (K : Int32 → HS → Prop) : Prop := ¬ (0 : Int32) < 0 ∧ (Int32.toNatClampNeg 0) ≤ 100000000 ∧ hX S + 1 ≤ M.1 ∧ hS S + (Int32.toNatClampNeg 0) ≤ M.2 ∧ ∀ (b1 : Nat) (S1 : HS), b1 = hX S → S1 = nO S 21 (Int32.toNatClampNeg 0) → hT S1 x0 = 2 ∧ hT (sP S1 x0 0 (some b1)) x0 = 2 ∧ ¬ (3 : Int32) < 0 ∧ (Int32.toNatClampNeg 3) ≤ 100000000 ∧ hX (sI (sP S1 x0 0 (some b1)) x0 1 0) + 1 ≤ M.1 ∧ hS (sI (sP S1 x0 0 (some b1)) x0 1 0) + (Int32.toNatClampNeg 3) ≤ M.2 ∧ ∀ (b2 : Nat) (S2 : HS), b2 = hX (sI (sP S1 x0 0 (some b1)) x0 1 0) → S2 = nO (sI (sP S1 x0 0 (some b1)) x0 1 0) 21 (Int32.toNatClampNeg 3) → hT S2 b2 = 21 ∧ vp_in 0 (hN S2 b2) ∧ hT (sI S2 b2 (Int32.toNatClampNeg 0) 1) b2 = 21 ∧ vp_in 1 (hN (sI S2 b2 (Int32.toNatClampNeg 0) 1) b2) ∧ hT (sI (sI S2 b2 (Int32.toNatClampNeg 0) 1) b2 (Int32.toNatClampNeg 1) 1) b2 = 21 ∧ vp_in 2 (hN (sI (sI S2 b2 (Int32.toNatClampNeg 0) 1) b2 (Int32.toNatClampNeg 1) 1) b2) ∧ hT (sI (sI (sI S2 b2 (Int32.toNatClampNeg 0) 1) b2 (Int32.toNatClampNeg 1) 1) b2 (Int32.toNatClampNeg 2) 1) x0 = 2 ∧ K 0 (sP (sI (sI (sI S2 b2 (Int32.toNatClampNeg 0) 1) b2 (Int32.toNatClampNeg 1) 1) b2 (Int32.toNatClampNeg 2) 1) x0 2 (some b2))
set_option maxHeartbeats 4000000 in
set_option maxRecDepth 100000 in
theorem ok_X1_init {G : CG} {x0 : Nat} {S : HS} {K : Int32 → HS → Prop} (hw : wp_X1_init (gC G, gS G) x0 S K) : CC 1 yX1_init cX1_init 1 none [.ref x0] G S (kV K) := by
  refine CC.of (by decide +kernel) (Nat.le_of_ble_eq_true rfl) (fun X hc hr hname => ?_)
  have hnm : Ci X := hname
  show MC G S X 1 S 0 [(0, .ref x0)] []
  unfold wp_X1_init at hw
  refine m_aload_n hc 0 dX1_init_0 rfl rfl ?_
  refine c_bnd (fun g1 g2 => ?_)
  refine q_objinit hc dX1_init_1 lm_X1_3 lObj (c_room hr g1 g2) (Nat.le_of_ble_eq_true rfl) ?_
  refine m_aload_n hc 0 dX1_init_4 rfl rfl ?_
  refine m_iconst hc 0 dX1_init_5 (by decide) ?_
  obtain ⟨hn0, hn1, hm, hm2, hw⟩ := hw
  refine n_newi hc hr dX1_init_6 laI hn0 hn1 hm hm2 (fun b1 S1 e_b1 e_S1 => ?_)
  have hw := hw b1 S1 e_b1 e_S1
  obtain ⟨ht, hw⟩ := hw
  refine c_putr hc hr ciX1 (Nat.le_of_ble_eq_true rfl) 0 (Nat.le_of_ble_eq_true rfl) rfl dX1_init_8 lf_X1_9 ht (Or.inl rfl) (Or.inr ⟨_, rfl⟩) ?_
  refine m_aload_n hc 0 dX1_init_11 rfl rfl ?_
  refine m_iconst hc 0 dX1_init_12 (by decide) ?_
  obtain ⟨ht, hw⟩ := hw
  refine c_puti hc hr ciX1 (Nat.le_of_ble_eq_true rfl) 1 (Nat.le_of_ble_eq_true rfl) rfl dX1_init_13 lf_X1_15 ht (Or.inl rfl) ⟨rfl, rfl⟩ ?_
  refine m_aload_n hc 0 dX1_init_16 rfl rfl ?_
  refine m_iconst hc 3 dX1_init_17 (by decide) ?_
  obtain ⟨hn0, hn1, hm, hm2, hw⟩ := hw
  refine n_newi hc hr dX1_init_18 laI hn0 hn1 hm hm2 (fun b2 S2 e_b2 e_S2 => ?_)
  have hw := hw b2 S2 e_b2 e_S2
  refine m_dup hc dX1_init_20 rfl ?_
  refine m_iconst hc 0 dX1_init_21 (by decide) ?_
  refine m_iconst hc 1 dX1_init_22 (by decide) ?_
  obtain ⟨ht, hi, hw⟩ := hw
  refine c_iast hc hr ht hi dX1_init_23 ?_
  refine m_dup hc dX1_init_24 rfl ?_
  refine m_iconst hc 1 dX1_init_25 (by decide) ?_
  refine m_iconst hc 1 dX1_init_26 (by decide) ?_
  obtain ⟨ht, hi, hw⟩ := hw
  refine c_iast hc hr ht hi dX1_init_27 ?_
  refine m_dup hc dX1_init_28 rfl ?_
  refine m_iconst hc 2 dX1_init_29 (by decide) ?_
  refine m_iconst hc 1 dX1_init_30 (by decide) ?_
  obtain ⟨ht, hi, hw⟩ := hw
  refine c_iast hc hr ht hi dX1_init_31 ?_
  obtain ⟨ht, hw⟩ := hw
  refine c_putr hc hr ciX1 (Nat.le_of_ble_eq_true rfl) 2 (Nat.le_of_ble_eq_true rfl) rfl dX1_init_32 lf_X1_19 ht (Or.inr ⟨rfl, hnm, rfl⟩) (Or.inr ⟨_, rfl⟩) ?_
  exact c_vret hc hr dX1_init_35 hw
def wp_J7_rangeCheck_23922 (M : Nat × Nat) (x0 x1 x2 : Int32) (S : HS) (K : Int32 → HS → Prop) : Prop := (x1 ≤ x2 → (0 ≤ x1 → (x2 ≤ x0 → K 0 S) ∧ (¬ (x2 ≤ x0) → False)) ∧ (¬ (0 ≤ x1) → False)) ∧ (¬ (x1 ≤ x2) → False)
set_option maxHeartbeats 4000000 in
set_option maxRecDepth 100000 in
theorem ok_J7_rangeCheck_23922 {G : CG} {x0 : Int32} {x1 : Int32} {x2 : Int32} {S : HS} {K : Int32 → HS → Prop} (hw : wp_J7_rangeCheck_23922 (gC G, gS G) x0 x1 x2 S K) : CC 0 yJ7_rangeCheck_23922 cJ7_rangeCheck_23922 3 none [.int x0, .int x1, .int x2] G S (kV K) := by
  refine CC.of (by decide +kernel) (Nat.le_of_ble_eq_true rfl) (fun X hc hr hname => ?_)
  show MC G S X 3 S 0 [(0, .int x0), (1, .int x1), (2, .int x2)] []
  unfold wp_J7_rangeCheck_23922 at hw
  refine m_iload_n hc 1 dJ7_rangeCheck_23922_0 rfl rfl ?_
  refine m_iload_n hc 2 dJ7_rangeCheck_23922_1 rfl rfl ?_
  refine m_icmp_le hc 46 dJ7_rangeCheck_23922_2 rfl (fun cq => ?_) (fun cq => ?_)
  · have hw := hw.1 cq
    refine m_iload_n hc 1 dJ7_rangeCheck_23922_46 rfl rfl ?_
    refine m_if_ge hc 59 dJ7_rangeCheck_23922_47 rfl (fun cq => ?_) (fun cq => ?_)
    · have hw := hw.1 cq
      refine m_iload_n hc 2 dJ7_rangeCheck_23922_59 rfl rfl ?_
      refine m_iload_n hc 0 dJ7_rangeCheck_23922_60 rfl rfl ?_
      refine m_icmp_le hc 73 dJ7_rangeCheck_23922_61 rfl (fun cq => ?_) (fun cq => ?_)
      · have hw := hw.1 cq
        exact c_vret hc hr dJ7_rangeCheck_23922_73 hw
      · have hw := hw.2 cq
        exact False.elim hw
    · have hw := hw.2 cq
      exact False.elim hw
  · have hw := hw.2 cq
    exact False.elim hw
def wb_J7_fill_fda19_10 (M : Nat × Nat) (K10 : Nat → Int32 → Int32 → Int32 → HS → Prop) (K : Int32 → HS → Prop) (x0 : Nat) (x2 x3 x4 : Int32) (S : HS) : Prop := (x2 ≤ x4 → K 0 S) ∧ (¬ (x2 ≤ x4) → hT S x0 = 21 ∧ vp_in x4 (hN S x0) ∧ K10 x0 x2 x3 (x4 + 1) (sI S x0 (Int32.toNatClampNeg x4) x3))
def wl_J7_fill_fda19_10 (M : Nat × Nat) (K : Int32 → HS → Prop) : Nat → Nat → Int32 → Int32 → Int32 → HS → Prop
  | 0 => fun _ _ _ _ _ => False
  | nn + 1 => wb_J7_fill_fda19_10 M (wl_J7_fill_fda19_10 M K nn) K
set_option maxHeartbeats 4000000 in
set_option maxRecDepth 100000 in
theorem l_J7_fill_fda19_10 {G : CG} {S0 : HS} {X : Fx} {K : Int32 → HS → Prop} (hc : Cx X RJ7 cJ7_fill_fda19 5) (hr : Cc G S0 1 none (kV K) X) : ∀ (nn : Nat) (x0 : Nat) (x2 x3 x4 : Int32) (S : HS), wl_J7_fill_fda19_10 (gC G, gS G) K nn x0 x2 x3 x4 S → MC G S0 X 5 S 10 [(0, .ref x0), (2, .int x2), (3, .int x3), (4, .int x4)] [] := by
  intro nn
  induction nn with
  | zero => intro x0 x2 x3 x4 S hw; exact False.elim hw
  | succ nn ih =>
    intro x0 x2 x3 x4 S hw
    have hw : wb_J7_fill_fda19_10 (gC G, gS G) (wl_J7_fill_fda19_10 (gC G, gS G) K nn) K x0 x2 x3 x4 S := hw
    have h10 := ih
    generalize wl_J7_fill_fda19_10 (gC G, gS G) K nn = K10 at hw h10
    unfold wb_J7_fill_fda19_10 at hw
    refine m_iload hc 3 dJ7_fill_fda19_10 rfl ?_
    refine m_iload_n hc 1 dJ7_fill_fda19_12 rfl rfl ?_
    refine m_icmp_ge hc 27 dJ7_fill_fda19_13 rfl (fun cq => ?_) (fun cq => ?_)
    · have hw := hw.1 cq
      exact c_vret hc hr dJ7_fill_fda19_27 hw
    · have hw := hw.2 cq
      refine m_aload_n hc 0 dJ7_fill_fda19_16 rfl rfl ?_
      refine m_iload hc 3 dJ7_fill_fda19_17 rfl ?_
      refine m_iload_n hc 2 dJ7_fill_fda19_19 rfl rfl ?_
      obtain ⟨ht, hi, hw⟩ := hw
      refine c_iast hc hr ht hi dJ7_fill_fda19_20 ?_
      refine m_iinc hc 3 (x4 + 1) [(4, .int (x4 + 1)), (0, .ref x0), (2, .int x2), (3, .int x3)] dJ7_fill_fda19_21 rfl rfl (Nat.le_of_ble_eq_true rfl) rfl ?_
      refine m_goto hc 10 dJ7_fill_fda19_24 rfl ?_
      refine m_sub [1, 2, 3, 0] rfl ?_
      exact h10 x0 x2 x3 (x4 + 1) (sI S x0 (Int32.toNatClampNeg x4) x3) hw
def wp_J7_fill_fda19 (M : Nat × Nat) (x0 : Nat) (x1 x2 x3 : Int32) (S : HS) (K : Int32 → HS → Prop) : Prop := (hT S x0 = 21 ∨ hT S x0 = 22 ∨ hT S x0 = 23) ∧ wp_J7_rangeCheck_23922 M (Int32.ofNat (hN S x0)) x1 x2 S (fun r1 S1 => ∃ nn : Nat, wl_J7_fill_fda19_10 M K nn x0 x2 x3 x1 S1)
set_option maxHeartbeats 4000000 in
set_option maxRecDepth 100000 in
theorem ok_J7_fill_fda19 {G : CG} {x0 : Nat} {x1 : Int32} {x2 : Int32} {x3 : Int32} {S : HS} {K : Int32 → HS → Prop} (hw : wp_J7_fill_fda19 (gC G, gS G) x0 x1 x2 x3 S K) : CC 1 yJ7_fill_fda19 cJ7_fill_fda19 5 none [.ref x0, .int x1, .int x2, .int x3] G S (kV K) := by
  refine CC.of (by decide +kernel) (Nat.le_of_ble_eq_true rfl) (fun X hc hr hname => ?_)
  show MC G S X 5 S 0 [(0, .ref x0), (1, .int x1), (2, .int x2), (3, .int x3)] []
  unfold wp_J7_fill_fda19 at hw
  refine m_aload_n hc 0 dJ7_fill_fda19_0 rfl rfl ?_
  obtain ⟨ht, hw⟩ := hw
  refine c_alen hc hr ht dJ7_fill_fda19_1 ?_
  refine m_iload_n hc 1 dJ7_fill_fda19_2 rfl rfl ?_
  refine m_iload_n hc 2 dJ7_fill_fda19_3 rfl rfl ?_
  refine c_callSv hc hr mt_J7_rangeCheck_23922 lm_J7_13 (ok_J7_rangeCheck_23922 hw) (Nat.le_of_ble_eq_true rfl) dJ7_fill_fda19_4 rfl (rest := []) rfl (Nat.le_of_ble_eq_true rfl) (fun S1 hw => ?_)
  refine m_iload_n hc 1 dJ7_fill_fda19_7 rfl rfl ?_
  refine m_istore hc [(4, .int x1), (0, .ref x0), (1, .int x1), (2, .int x2), (3, .int x3)] dJ7_fill_fda19_8 (Nat.le_of_ble_eq_true rfl) rfl ?_
  refine m_sub [1, 3, 4, 0] rfl ?_
  obtain ⟨nn, hw⟩ := hw
  exact l_J7_fill_fda19_10 hc hr nn x0 x2 x3 x1 S1 hw
def wp_X1_open (M : Nat × Nat) (x0 : Nat) (x1 x2 x3 : Int32) (S : HS) (K : Int32 → HS → Prop) : Prop := hT S x0 = 2 ∧ ∃ b1 : Nat, hP S x0 2 = some b1 ∧ hT S b1 = 21 ∧ vp_in 1 (hN S b1) ∧ hT (sI S b1 (Int32.toNatClampNeg 1) (x3 + 1)) x0 = 2 ∧ ∃ b2 : Nat, hP (sI S b1 (Int32.toNatClampNeg 1) (x3 + 1)) x0 2 = some b2 ∧ hT (sI S b1 (Int32.toNatClampNeg 1) (x3 + 1)) x0 = 2 ∧ ∃ b3 : Nat, hP (sI S b1 (Int32.toNatClampNeg 1) (x3 + 1)) x0 2 = some b3 ∧ hT (sI S b1 (Int32.toNatClampNeg 1) (x3 + 1)) b3 = 21 ∧ vp_in 1 (hN (sI S b1 (Int32.toNatClampNeg 1) (x3 + 1)) b3) ∧ hT (sI S b1 (Int32.toNatClampNeg 1) (x3 + 1)) b2 = 21 ∧ vp_in 0 (hN (sI S b1 (Int32.toNatClampNeg 1) (x3 + 1)) b2) ∧ hT (sI (sI S b1 (Int32.toNatClampNeg 1) (x3 + 1)) b2 (Int32.toNatClampNeg 0) ((x2 + 1) * (hI (sI S b1 (Int32.toNatClampNeg 1) (x3 + 1)) b3 (Int32.toNatClampNeg 1)))) x0 = 2 ∧ ∃ b4 : Nat, hP (sI (sI S b1 (Int32.toNatClampNeg 1) (x3 + 1)) b2 (Int32.toNatClampNeg 0) ((x2 + 1) * (hI (sI S b1 (Int32.toNatClampNeg 1) (x3 + 1)) b3 (Int32.toNatClampNeg 1)))) x0 2 = some b4 ∧ hT (sI (sI S b1 (Int32.toNatClampNeg 1) (x3 + 1)) b2 (Int32.toNatClampNeg 0) ((x2 + 1) * (hI (sI S b1 (Int32.toNatClampNeg 1) (x3 + 1)) b3 (Int32.toNatClampNeg 1)))) b4 = 21 ∧ vp_in 0 (hN (sI (sI S b1 (Int32.toNatClampNeg 1) (x3 + 1)) b2 (Int32.toNatClampNeg 0) ((x2 + 1) * (hI (sI S b1 (Int32.toNatClampNeg 1) (x3 + 1)) b3 (Int32.toNatClampNeg 1)))) b4) ∧ hT (sI (sI S b1 (Int32.toNatClampNeg 1) (x3 + 1)) b2 (Int32.toNatClampNeg 0) ((x2 + 1) * (hI (sI S b1 (Int32.toNatClampNeg 1) (x3 + 1)) b3 (Int32.toNatClampNeg 1)))) x0 = 2 ∧ hT (sI (sI (sI S b1 (Int32.toNatClampNeg 1) (x3 + 1)) b2 (Int32.toNatClampNeg 0) ((x2 + 1) * (hI (sI S b1 (Int32.toNatClampNeg 1) (x3 + 1)) b3 (Int32.toNatClampNeg 1)))) x0 1 ((x1 + 1) * (hI (sI (sI S b1 (Int32.toNatClampNeg 1) (x3 + 1)) b2 (Int32.toNatClampNeg 0) ((x2 + 1) * (hI (sI S b1 (Int32.toNatClampNeg 1) (x3 + 1)) b3 (Int32.toNatClampNeg 1)))) b4 (Int32.toNatClampNeg 0)))) x0 = 2 ∧ hT (sI (sI (sI S b1 (Int32.toNatClampNeg 1) (x3 + 1)) b2 (Int32.toNatClampNeg 0) ((x2 + 1) * (hI (sI S b1 (Int32.toNatClampNeg 1) (x3 + 1)) b3 (Int32.toNatClampNeg 1)))) x0 1 ((x1 + 1) * (hI (sI (sI S b1 (Int32.toNatClampNeg 1) (x3 + 1)) b2 (Int32.toNatClampNeg 0) ((x2 + 1) * (hI (sI S b1 (Int32.toNatClampNeg 1) (x3 + 1)) b3 (Int32.toNatClampNeg 1)))) b4 (Int32.toNatClampNeg 0)))) x0 = 2 ∧ ∃ b5 : Nat, hP (sI (sI (sI S b1 (Int32.toNatClampNeg 1) (x3 + 1)) b2 (Int32.toNatClampNeg 0) ((x2 + 1) * (hI (sI S b1 (Int32.toNatClampNeg 1) (x3 + 1)) b3 (Int32.toNatClampNeg 1)))) x0 1 ((x1 + 1) * (hI (sI (sI S b1 (Int32.toNatClampNeg 1) (x3 + 1)) b2 (Int32.toNatClampNeg 0) ((x2 + 1) * (hI (sI S b1 (Int32.toNatClampNeg 1) (x3 + 1)) b3 (Int32.toNatClampNeg 1)))) b4 (Int32.toNatClampNeg 0)))) x0 0 = some b5 ∧ (hT (sI (sI (sI S b1 (Int32.toNatClampNeg 1) (x3 + 1)) b2 (Int32.toNatClampNeg 0) ((x2 + 1) * (hI (sI S b1 (Int32.toNatClampNeg 1) (x3 + 1)) b3 (Int32.toNatClampNeg 1)))) x0 1 ((x1 + 1) * (hI (sI (sI S b1 (Int32.toNatClampNeg 1) (x3 + 1)) b2 (Int32.toNatClampNeg 0) ((x2 + 1) * (hI (sI S b1 (Int32.toNatClampNeg 1) (x3 + 1)) b3 (Int32.toNatClampNeg 1)))) b4 (Int32.toNatClampNeg 0)))) b5 = 21 ∨ hT (sI (sI (sI S b1 (Int32.toNatClampNeg 1) (x3 + 1)) b2 (Int32.toNatClampNeg 0) ((x2 + 1) * (hI (sI S b1 (Int32.toNatClampNeg 1) (x3 + 1)) b3 (Int32.toNatClampNeg 1)))) x0 1 ((x1 + 1) * (hI (sI (sI S b1 (Int32.toNatClampNeg 1) (x3 + 1)) b2 (Int32.toNatClampNeg 0) ((x2 + 1) * (hI (sI S b1 (Int32.toNatClampNeg 1) (x3 + 1)) b3 (Int32.toNatClampNeg 1)))) b4 (Int32.toNatClampNeg 0)))) b5 = 22 ∨ hT (sI (sI (sI S b1 (Int32.toNatClampNeg 1) (x3 + 1)) b2 (Int32.toNatClampNeg 0) ((x2 + 1) * (hI (sI S b1 (Int32.toNatClampNeg 1) (x3 + 1)) b3 (Int32.toNatClampNeg 1)))) x0 1 ((x1 + 1) * (hI (sI (sI S b1 (Int32.toNatClampNeg 1) (x3 + 1)) b2 (Int32.toNatClampNeg 0) ((x2 + 1) * (hI (sI S b1 (Int32.toNatClampNeg 1) (x3 + 1)) b3 (Int32.toNatClampNeg 1)))) b4 (Int32.toNatClampNeg 0)))) b5 = 23) ∧ ((hI (sI (sI (sI S b1 (Int32.toNatClampNeg 1) (x3 + 1)) b2 (Int32.toNatClampNeg 0) ((x2 + 1) * (hI (sI S b1 (Int32.toNatClampNeg 1) (x3 + 1)) b3 (Int32.toNatClampNeg 1)))) x0 1 ((x1 + 1) * (hI (sI (sI S b1 (Int32.toNatClampNeg 1) (x3 + 1)) b2 (Int32.toNatClampNeg 0) ((x2 + 1) * (hI (sI S b1 (Int32.toNatClampNeg 1) (x3 + 1)) b3 (Int32.toNatClampNeg 1)))) b4 (Int32.toNatClampNeg 0)))) x0 1) ≤ (Int32.ofNat (hN (sI (sI (sI S b1 (Int32.toNatClampNeg 1) (x3 + 1)) b2 (Int32.toNatClampNeg 0) ((x2 + 1) * (hI (sI S b1 (Int32.toNatClampNeg 1) (x3 + 1)) b3 (Int32.toNatClampNeg 1)))) x0 1 ((x1 + 1) * (hI (sI (sI S b1 (Int32.toNatClampNeg 1) (x3 + 1)) b2 (Int32.toNatClampNeg 0) ((x2 + 1) * (hI (sI S b1 (Int32.toNatClampNeg 1) (x3 + 1)) b3 (Int32.toNatClampNeg 1)))) b4 (Int32.toNatClampNeg 0)))) b5)) → hT (sI (sI (sI S b1 (Int32.toNatClampNeg 1) (x3 + 1)) b2 (Int32.toNatClampNeg 0) ((x2 + 1) * (hI (sI S b1 (Int32.toNatClampNeg 1) (x3 + 1)) b3 (Int32.toNatClampNeg 1)))) x0 1 ((x1 + 1) * (hI (sI (sI S b1 (Int32.toNatClampNeg 1) (x3 + 1)) b2 (Int32.toNatClampNeg 0) ((x2 + 1) * (hI (sI S b1 (Int32.toNatClampNeg 1) (x3 + 1)) b3 (Int32.toNatClampNeg 1)))) b4 (Int32.toNatClampNeg 0)))) x0 = 2 ∧ ∃ b6 : Nat, hP (sI (sI (sI S b1 (Int32.toNatClampNeg 1) (x3 + 1)) b2 (Int32.toNatClampNeg 0) ((x2 + 1) * (hI (sI S b1 (Int32.toNatClampNeg 1) (x3 + 1)) b3 (Int32.toNatClampNeg 1)))) x0 1 ((x1 + 1) * (hI (sI (sI S b1 (Int32.toNatClampNeg 1) (x3 + 1)) b2 (Int32.toNatClampNeg 0) ((x2 + 1) * (hI (sI S b1 (Int32.toNatClampNeg 1) (x3 + 1)) b3 (Int32.toNatClampNeg 1)))) b4 (Int32.toNatClampNeg 0)))) x0 0 = some b6 ∧ hT (sI (sI (sI S b1 (Int32.toNatClampNeg 1) (x3 + 1)) b2 (Int32.toNatClampNeg 0) ((x2 + 1) * (hI (sI S b1 (Int32.toNatClampNeg 1) (x3 + 1)) b3 (Int32.toNatClampNeg 1)))) x0 1 ((x1 + 1) * (hI (sI (sI S b1 (Int32.toNatClampNeg 1) (x3 + 1)) b2 (Int32.toNatClampNeg 0) ((x2 + 1) * (hI (sI S b1 (Int32.toNatClampNeg 1) (x3 + 1)) b3 (Int32.toNatClampNeg 1)))) b4 (Int32.toNatClampNeg 0)))) x0 = 2 ∧ wp_J7_fill_fda19 M b6 0 (hI (sI (sI (sI S b1 (Int32.toNatClampNeg 1) (x3 + 1)) b2 (Int32.toNatClampNeg 0) ((x2 + 1) * (hI (sI S b1 (Int32.toNatClampNeg 1) (x3 + 1)) b3 (Int32.toNatClampNeg 1)))) x0 1 ((x1 + 1) * (hI (sI (sI S b1 (Int32.toNatClampNeg 1) (x3 + 1)) b2 (Int32.toNatClampNeg 0) ((x2 + 1) * (hI (sI S b1 (Int32.toNatClampNeg 1) (x3 + 1)) b3 (Int32.toNatClampNeg 1)))) b4 (Int32.toNatClampNeg 0)))) x0 1) 0 (sI (sI (sI S b1 (Int32.toNatClampNeg 1) (x3 + 1)) b2 (Int32.toNatClampNeg 0) ((x2 + 1) * (hI (sI S b1 (Int32.toNatClampNeg 1) (x3 + 1)) b3 (Int32.toNatClampNeg 1)))) x0 1 ((x1 + 1) * (hI (sI (sI S b1 (Int32.toNatClampNeg 1) (x3 + 1)) b2 (Int32.toNatClampNeg 0) ((x2 + 1) * (hI (sI S b1 (Int32.toNatClampNeg 1) (x3 + 1)) b3 (Int32.toNatClampNeg 1)))) b4 (Int32.toNatClampNeg 0)))) (fun r7 S7 => K 0 S7)) ∧ (¬ ((hI (sI (sI (sI S b1 (Int32.toNatClampNeg 1) (x3 + 1)) b2 (Int32.toNatClampNeg 0) ((x2 + 1) * (hI (sI S b1 (Int32.toNatClampNeg 1) (x3 + 1)) b3 (Int32.toNatClampNeg 1)))) x0 1 ((x1 + 1) * (hI (sI (sI S b1 (Int32.toNatClampNeg 1) (x3 + 1)) b2 (Int32.toNatClampNeg 0) ((x2 + 1) * (hI (sI S b1 (Int32.toNatClampNeg 1) (x3 + 1)) b3 (Int32.toNatClampNeg 1)))) b4 (Int32.toNatClampNeg 0)))) x0 1) ≤ (Int32.ofNat (hN (sI (sI (sI S b1 (Int32.toNatClampNeg 1) (x3 + 1)) b2 (Int32.toNatClampNeg 0) ((x2 + 1) * (hI (sI S b1 (Int32.toNatClampNeg 1) (x3 + 1)) b3 (Int32.toNatClampNeg 1)))) x0 1 ((x1 + 1) * (hI (sI (sI S b1 (Int32.toNatClampNeg 1) (x3 + 1)) b2 (Int32.toNatClampNeg 0) ((x2 + 1) * (hI (sI S b1 (Int32.toNatClampNeg 1) (x3 + 1)) b3 (Int32.toNatClampNeg 1)))) b4 (Int32.toNatClampNeg 0)))) b5))) → hT (sI (sI (sI S b1 (Int32.toNatClampNeg 1) (x3 + 1)) b2 (Int32.toNatClampNeg 0) ((x2 + 1) * (hI (sI S b1 (Int32.toNatClampNeg 1) (x3 + 1)) b3 (Int32.toNatClampNeg 1)))) x0 1 ((x1 + 1) * (hI (sI (sI S b1 (Int32.toNatClampNeg 1) (x3 + 1)) b2 (Int32.toNatClampNeg 0) ((x2 + 1) * (hI (sI S b1 (Int32.toNatClampNeg 1) (x3 + 1)) b3 (Int32.toNatClampNeg 1)))) b4 (Int32.toNatClampNeg 0)))) x0 = 2 ∧ hT (sI (sI (sI S b1 (Int32.toNatClampNeg 1) (x3 + 1)) b2 (Int32.toNatClampNeg 0) ((x2 + 1) * (hI (sI S b1 (Int32.toNatClampNeg 1) (x3 + 1)) b3 (Int32.toNatClampNeg 1)))) x0 1 ((x1 + 1) * (hI (sI (sI S b1 (Int32.toNatClampNeg 1) (x3 + 1)) b2 (Int32.toNatClampNeg 0) ((x2 + 1) * (hI (sI S b1 (Int32.toNatClampNeg 1) (x3 + 1)) b3 (Int32.toNatClampNeg 1)))) b4 (Int32.toNatClampNeg 0)))) x0 = 2 ∧ ∃ b8 : Nat, hP (sI (sI (sI S b1 (Int32.toNatClampNeg 1) (x3 + 1)) b2 (Int32.toNatClampNeg 0) ((x2 + 1) * (hI (sI S b1 (Int32.toNatClampNeg 1) (x3 + 1)) b3 (Int32.toNatClampNeg 1)))) x0 1 ((x1 + 1) * (hI (sI (sI S b1 (Int32.toNatClampNeg 1) (x3 + 1)) b2 (Int32.toNatClampNeg 0) ((x2 + 1) * (hI (sI S b1 (Int32.toNatClampNeg 1) (x3 + 1)) b3 (Int32.toNatClampNeg 1)))) b4 (Int32.toNatClampNeg 0)))) x0 0 = some b8 ∧ (hT (sI (sI (sI S b1 (Int32.toNatClampNeg 1) (x3 + 1)) b2 (Int32.toNatClampNeg 0) ((x2 + 1) * (hI (sI S b1 (Int32.toNatClampNeg 1) (x3 + 1)) b3 (Int32.toNatClampNeg 1)))) x0 1 ((x1 + 1) * (hI (sI (sI S b1 (Int32.toNatClampNeg 1) (x3 + 1)) b2 (Int32.toNatClampNeg 0) ((x2 + 1) * (hI (sI S b1 (Int32.toNatClampNeg 1) (x3 + 1)) b3 (Int32.toNatClampNeg 1)))) b4 (Int32.toNatClampNeg 0)))) b8 = 21 ∨ hT (sI (sI (sI S b1 (Int32.toNatClampNeg 1) (x3 + 1)) b2 (Int32.toNatClampNeg 0) ((x2 + 1) * (hI (sI S b1 (Int32.toNatClampNeg 1) (x3 + 1)) b3 (Int32.toNatClampNeg 1)))) x0 1 ((x1 + 1) * (hI (sI (sI S b1 (Int32.toNatClampNeg 1) (x3 + 1)) b2 (Int32.toNatClampNeg 0) ((x2 + 1) * (hI (sI S b1 (Int32.toNatClampNeg 1) (x3 + 1)) b3 (Int32.toNatClampNeg 1)))) b4 (Int32.toNatClampNeg 0)))) b8 = 22 ∨ hT (sI (sI (sI S b1 (Int32.toNatClampNeg 1) (x3 + 1)) b2 (Int32.toNatClampNeg 0) ((x2 + 1) * (hI (sI S b1 (Int32.toNatClampNeg 1) (x3 + 1)) b3 (Int32.toNatClampNeg 1)))) x0 1 ((x1 + 1) * (hI (sI (sI S b1 (Int32.toNatClampNeg 1) (x3 + 1)) b2 (Int32.toNatClampNeg 0) ((x2 + 1) * (hI (sI S b1 (Int32.toNatClampNeg 1) (x3 + 1)) b3 (Int32.toNatClampNeg 1)))) b4 (Int32.toNatClampNeg 0)))) b8 = 23) ∧ ¬ (if hI (sI (sI (sI S b1 (Int32.toNatClampNeg 1) (x3 + 1)) b2 (Int32.toNatClampNeg 0) ((x2 + 1) * (hI (sI S b1 (Int32.toNatClampNeg 1) (x3 + 1)) b3 (Int32.toNatClampNeg 1)))) x0 1 ((x1 + 1) * (hI (sI (sI S b1 (Int32.toNatClampNeg 1) (x3 + 1)) b2 (Int32.toNatClampNeg 0) ((x2 + 1) * (hI (sI S b1 (Int32.toNatClampNeg 1) (x3 + 1)) b3 (Int32.toNatClampNeg 1)))) b4 (Int32.toNatClampNeg 0)))) x0 1 < if 269001 < 2 * (Int32.ofNat (hN (sI (sI (sI S b1 (Int32.toNatClampNeg 1) (x3 + 1)) b2 (Int32.toNatClampNeg 0) ((x2 + 1) * (hI (sI S b1 (Int32.toNatClampNeg 1) (x3 + 1)) b3 (Int32.toNatClampNeg 1)))) x0 1 ((x1 + 1) * (hI (sI (sI S b1 (Int32.toNatClampNeg 1) (x3 + 1)) b2 (Int32.toNatClampNeg 0) ((x2 + 1) * (hI (sI S b1 (Int32.toNatClampNeg 1) (x3 + 1)) b3 (Int32.toNatClampNeg 1)))) b4 (Int32.toNatClampNeg 0)))) b8)) then 269001 else 2 * (Int32.ofNat (hN (sI (sI (sI S b1 (Int32.toNatClampNeg 1) (x3 + 1)) b2 (Int32.toNatClampNeg 0) ((x2 + 1) * (hI (sI S b1 (Int32.toNatClampNeg 1) (x3 + 1)) b3 (Int32.toNatClampNeg 1)))) x0 1 ((x1 + 1) * (hI (sI (sI S b1 (Int32.toNatClampNeg 1) (x3 + 1)) b2 (Int32.toNatClampNeg 0) ((x2 + 1) * (hI (sI S b1 (Int32.toNatClampNeg 1) (x3 + 1)) b3 (Int32.toNatClampNeg 1)))) b4 (Int32.toNatClampNeg 0)))) b8)) then if 269001 < 2 * (Int32.ofNat (hN (sI (sI (sI S b1 (Int32.toNatClampNeg 1) (x3 + 1)) b2 (Int32.toNatClampNeg 0) ((x2 + 1) * (hI (sI S b1 (Int32.toNatClampNeg 1) (x3 + 1)) b3 (Int32.toNatClampNeg 1)))) x0 1 ((x1 + 1) * (hI (sI (sI S b1 (Int32.toNatClampNeg 1) (x3 + 1)) b2 (Int32.toNatClampNeg 0) ((x2 + 1) * (hI (sI S b1 (Int32.toNatClampNeg 1) (x3 + 1)) b3 (Int32.toNatClampNeg 1)))) b4 (Int32.toNatClampNeg 0)))) b8)) then 269001 else 2 * (Int32.ofNat (hN (sI (sI (sI S b1 (Int32.toNatClampNeg 1) (x3 + 1)) b2 (Int32.toNatClampNeg 0) ((x2 + 1) * (hI (sI S b1 (Int32.toNatClampNeg 1) (x3 + 1)) b3 (Int32.toNatClampNeg 1)))) x0 1 ((x1 + 1) * (hI (sI (sI S b1 (Int32.toNatClampNeg 1) (x3 + 1)) b2 (Int32.toNatClampNeg 0) ((x2 + 1) * (hI (sI S b1 (Int32.toNatClampNeg 1) (x3 + 1)) b3 (Int32.toNatClampNeg 1)))) b4 (Int32.toNatClampNeg 0)))) b8)) else hI (sI (sI (sI S b1 (Int32.toNatClampNeg 1) (x3 + 1)) b2 (Int32.toNatClampNeg 0) ((x2 + 1) * (hI (sI S b1 (Int32.toNatClampNeg 1) (x3 + 1)) b3 (Int32.toNatClampNeg 1)))) x0 1 ((x1 + 1) * (hI (sI (sI S b1 (Int32.toNatClampNeg 1) (x3 + 1)) b2 (Int32.toNatClampNeg 0) ((x2 + 1) * (hI (sI S b1 (Int32.toNatClampNeg 1) (x3 + 1)) b3 (Int32.toNatClampNeg 1)))) b4 (Int32.toNatClampNeg 0)))) x0 1 : Int32) < 0 ∧ (Int32.toNatClampNeg (if hI (sI (sI (sI S b1 (Int32.toNatClampNeg 1) (x3 + 1)) b2 (Int32.toNatClampNeg 0) ((x2 + 1) * (hI (sI S b1 (Int32.toNatClampNeg 1) (x3 + 1)) b3 (Int32.toNatClampNeg 1)))) x0 1 ((x1 + 1) * (hI (sI (sI S b1 (Int32.toNatClampNeg 1) (x3 + 1)) b2 (Int32.toNatClampNeg 0) ((x2 + 1) * (hI (sI S b1 (Int32.toNatClampNeg 1) (x3 + 1)) b3 (Int32.toNatClampNeg 1)))) b4 (Int32.toNatClampNeg 0)))) x0 1 < if 269001 < 2 * (Int32.ofNat (hN (sI (sI (sI S b1 (Int32.toNatClampNeg 1) (x3 + 1)) b2 (Int32.toNatClampNeg 0) ((x2 + 1) * (hI (sI S b1 (Int32.toNatClampNeg 1) (x3 + 1)) b3 (Int32.toNatClampNeg 1)))) x0 1 ((x1 + 1) * (hI (sI (sI S b1 (Int32.toNatClampNeg 1) (x3 + 1)) b2 (Int32.toNatClampNeg 0) ((x2 + 1) * (hI (sI S b1 (Int32.toNatClampNeg 1) (x3 + 1)) b3 (Int32.toNatClampNeg 1)))) b4 (Int32.toNatClampNeg 0)))) b8)) then 269001 else 2 * (Int32.ofNat (hN (sI (sI (sI S b1 (Int32.toNatClampNeg 1) (x3 + 1)) b2 (Int32.toNatClampNeg 0) ((x2 + 1) * (hI (sI S b1 (Int32.toNatClampNeg 1) (x3 + 1)) b3 (Int32.toNatClampNeg 1)))) x0 1 ((x1 + 1) * (hI (sI (sI S b1 (Int32.toNatClampNeg 1) (x3 + 1)) b2 (Int32.toNatClampNeg 0) ((x2 + 1) * (hI (sI S b1 (Int32.toNatClampNeg 1) (x3 + 1)) b3 (Int32.toNatClampNeg 1)))) b4 (Int32.toNatClampNeg 0)))) b8)) then if 269001 < 2 * (Int32.ofNat (hN (sI (sI (sI S b1 (Int32.toNatClampNeg 1) (x3 + 1)) b2 (Int32.toNatClampNeg 0) ((x2 + 1) * (hI (sI S b1 (Int32.toNatClampNeg 1) (x3 + 1)) b3 (Int32.toNatClampNeg 1)))) x0 1 ((x1 + 1) * (hI (sI (sI S b1 (Int32.toNatClampNeg 1) (x3 + 1)) b2 (Int32.toNatClampNeg 0) ((x2 + 1) * (hI (sI S b1 (Int32.toNatClampNeg 1) (x3 + 1)) b3 (Int32.toNatClampNeg 1)))) b4 (Int32.toNatClampNeg 0)))) b8)) then 269001 else 2 * (Int32.ofNat (hN (sI (sI (sI S b1 (Int32.toNatClampNeg 1) (x3 + 1)) b2 (Int32.toNatClampNeg 0) ((x2 + 1) * (hI (sI S b1 (Int32.toNatClampNeg 1) (x3 + 1)) b3 (Int32.toNatClampNeg 1)))) x0 1 ((x1 + 1) * (hI (sI (sI S b1 (Int32.toNatClampNeg 1) (x3 + 1)) b2 (Int32.toNatClampNeg 0) ((x2 + 1) * (hI (sI S b1 (Int32.toNatClampNeg 1) (x3 + 1)) b3 (Int32.toNatClampNeg 1)))) b4 (Int32.toNatClampNeg 0)))) b8)) else hI (sI (sI (sI S b1 (Int32.toNatClampNeg 1) (x3 + 1)) b2 (Int32.toNatClampNeg 0) ((x2 + 1) * (hI (sI S b1 (Int32.toNatClampNeg 1) (x3 + 1)) b3 (Int32.toNatClampNeg 1)))) x0 1 ((x1 + 1) * (hI (sI (sI S b1 (Int32.toNatClampNeg 1) (x3 + 1)) b2 (Int32.toNatClampNeg 0) ((x2 + 1) * (hI (sI S b1 (Int32.toNatClampNeg 1) (x3 + 1)) b3 (Int32.toNatClampNeg 1)))) b4 (Int32.toNatClampNeg 0)))) x0 1)) ≤ 100000000 ∧ hX (sI (sI (sI S b1 (Int32.toNatClampNeg 1) (x3 + 1)) b2 (Int32.toNatClampNeg 0) ((x2 + 1) * (hI (sI S b1 (Int32.toNatClampNeg 1) (x3 + 1)) b3 (Int32.toNatClampNeg 1)))) x0 1 ((x1 + 1) * (hI (sI (sI S b1 (Int32.toNatClampNeg 1) (x3 + 1)) b2 (Int32.toNatClampNeg 0) ((x2 + 1) * (hI (sI S b1 (Int32.toNatClampNeg 1) (x3 + 1)) b3 (Int32.toNatClampNeg 1)))) b4 (Int32.toNatClampNeg 0)))) + 1 ≤ M.1 ∧ hS (sI (sI (sI S b1 (Int32.toNatClampNeg 1) (x3 + 1)) b2 (Int32.toNatClampNeg 0) ((x2 + 1) * (hI (sI S b1 (Int32.toNatClampNeg 1) (x3 + 1)) b3 (Int32.toNatClampNeg 1)))) x0 1 ((x1 + 1) * (hI (sI (sI S b1 (Int32.toNatClampNeg 1) (x3 + 1)) b2 (Int32.toNatClampNeg 0) ((x2 + 1) * (hI (sI S b1 (Int32.toNatClampNeg 1) (x3 + 1)) b3 (Int32.toNatClampNeg 1)))) b4 (Int32.toNatClampNeg 0)))) + (Int32.toNatClampNeg (if hI (sI (sI (sI S b1 (Int32.toNatClampNeg 1) (x3 + 1)) b2 (Int32.toNatClampNeg 0) ((x2 + 1) * (hI (sI S b1 (Int32.toNatClampNeg 1) (x3 + 1)) b3 (Int32.toNatClampNeg 1)))) x0 1 ((x1 + 1) * (hI (sI (sI S b1 (Int32.toNatClampNeg 1) (x3 + 1)) b2 (Int32.toNatClampNeg 0) ((x2 + 1) * (hI (sI S b1 (Int32.toNatClampNeg 1) (x3 + 1)) b3 (Int32.toNatClampNeg 1)))) b4 (Int32.toNatClampNeg 0)))) x0 1 < if 269001 < 2 * (Int32.ofNat (hN (sI (sI (sI S b1 (Int32.toNatClampNeg 1) (x3 + 1)) b2 (Int32.toNatClampNeg 0) ((x2 + 1) * (hI (sI S b1 (Int32.toNatClampNeg 1) (x3 + 1)) b3 (Int32.toNatClampNeg 1)))) x0 1 ((x1 + 1) * (hI (sI (sI S b1 (Int32.toNatClampNeg 1) (x3 + 1)) b2 (Int32.toNatClampNeg 0) ((x2 + 1) * (hI (sI S b1 (Int32.toNatClampNeg 1) (x3 + 1)) b3 (Int32.toNatClampNeg 1)))) b4 (Int32.toNatClampNeg 0)))) b8)) then 269001 else 2 * (Int32.ofNat (hN (sI (sI (sI S b1 (Int32.toNatClampNeg 1) (x3 + 1)) b2 (Int32.toNatClampNeg 0) ((x2 + 1) * (hI (sI S b1 (Int32.toNatClampNeg 1) (x3 + 1)) b3 (Int32.toNatClampNeg 1)))) x0 1 ((x1 + 1) * (hI (sI (sI S b1 (Int32.toNatClampNeg 1) (x3 + 1)) b2 (Int32.toNatClampNeg 0) ((x2 + 1) * (hI (sI S b1 (Int32.toNatClampNeg 1) (x3 + 1)) b3 (Int32.toNatClampNeg 1)))) b4 (Int32.toNatClampNeg 0)))) b8)) then if 269001 < 2 * (Int32.ofNat (hN (sI (sI (sI S b1 (Int32.toNatClampNeg 1) (x3 + 1)) b2 (Int32.toNatClampNeg 0) ((x2 + 1) * (hI (sI S b1 (Int32.toNatClampNeg 1) (x3 + 1)) b3 (Int32.toNatClampNeg 1)))) x0 1 ((x1 + 1) * (hI (sI (sI S b1 (Int32.toNatClampNeg 1) (x3 + 1)) b2 (Int32.toNatClampNeg 0) ((x2 + 1) * (hI (sI S b1 (Int32.toNatClampNeg 1) (x3 + 1)) b3 (Int32.toNatClampNeg 1)))) b4 (Int32.toNatClampNeg 0)))) b8)) then 269001 else 2 * (Int32.ofNat (hN (sI (sI (sI S b1 (Int32.toNatClampNeg 1) (x3 + 1)) b2 (Int32.toNatClampNeg 0) ((x2 + 1) * (hI (sI S b1 (Int32.toNatClampNeg 1) (x3 + 1)) b3 (Int32.toNatClampNeg 1)))) x0 1 ((x1 + 1) * (hI (sI (sI S b1 (Int32.toNatClampNeg 1) (x3 + 1)) b2 (Int32.toNatClampNeg 0) ((x2 + 1) * (hI (sI S b1 (Int32.toNatClampNeg 1) (x3 + 1)) b3 (Int32.toNatClampNeg 1)))) b4 (Int32.toNatClampNeg 0)))) b8)) else hI (sI (sI (sI S b1 (Int32.toNatClampNeg 1) (x3 + 1)) b2 (Int32.toNatClampNeg 0) ((x2 + 1) * (hI (sI S b1 (Int32.toNatClampNeg 1) (x3 + 1)) b3 (Int32.toNatClampNeg 1)))) x0 1 ((x1 + 1) * (hI (sI (sI S b1 (Int32.toNatClampNeg 1) (x3 + 1)) b2 (Int32.toNatClampNeg 0) ((x2 + 1) * (hI (sI S b1 (Int32.toNatClampNeg 1) (x3 + 1)) b3 (Int32.toNatClampNeg 1)))) b4 (Int32.toNatClampNeg 0)))) x0 1)) ≤ M.2 ∧ ∀ (b9 : Nat) (S9 : HS), b9 = hX (sI (sI (sI S b1 (Int32.toNatClampNeg 1) (x3 + 1)) b2 (Int32.toNatClampNeg 0) ((x2 + 1) * (hI (sI S b1 (Int32.toNatClampNeg 1) (x3 + 1)) b3 (Int32.toNatClampNeg 1)))) x0 1 ((x1 + 1) * (hI (sI (sI S b1 (Int32.toNatClampNeg 1) (x3 + 1)) b2 (Int32.toNatClampNeg 0) ((x2 + 1) * (hI (sI S b1 (Int32.toNatClampNeg 1) (x3 + 1)) b3 (Int32.toNatClampNeg 1)))) b4 (Int32.toNatClampNeg 0)))) → S9 = nO (sI (sI (sI S b1 (Int32.toNatClampNeg 1) (x3 + 1)) b2 (Int32.toNatClampNeg 0) ((x2 + 1) * (hI (sI S b1 (Int32.toNatClampNeg 1) (x3 + 1)) b3 (Int32.toNatClampNeg 1)))) x0 1 ((x1 + 1) * (hI (sI (sI S b1 (Int32.toNatClampNeg 1) (x3 + 1)) b2 (Int32.toNatClampNeg 0) ((x2 + 1) * (hI (sI S b1 (Int32.toNatClampNeg 1) (x3 + 1)) b3 (Int32.toNatClampNeg 1)))) b4 (Int32.toNatClampNeg 0)))) 21 (Int32.toNatClampNeg (if hI (sI (sI (sI S b1 (Int32.toNatClampNeg 1) (x3 + 1)) b2 (Int32.toNatClampNeg 0) ((x2 + 1) * (hI (sI S b1 (Int32.toNatClampNeg 1) (x3 + 1)) b3 (Int32.toNatClampNeg 1)))) x0 1 ((x1 + 1) * (hI (sI (sI S b1 (Int32.toNatClampNeg 1) (x3 + 1)) b2 (Int32.toNatClampNeg 0) ((x2 + 1) * (hI (sI S b1 (Int32.toNatClampNeg 1) (x3 + 1)) b3 (Int32.toNatClampNeg 1)))) b4 (Int32.toNatClampNeg 0)))) x0 1 < if 269001 < 2 * (Int32.ofNat (hN (sI (sI (sI S b1 (Int32.toNatClampNeg 1) (x3 + 1)) b2 (Int32.toNatClampNeg 0) ((x2 + 1) * (hI (sI S b1 (Int32.toNatClampNeg 1) (x3 + 1)) b3 (Int32.toNatClampNeg 1)))) x0 1 ((x1 + 1) * (hI (sI (sI S b1 (Int32.toNatClampNeg 1) (x3 + 1)) b2 (Int32.toNatClampNeg 0) ((x2 + 1) * (hI (sI S b1 (Int32.toNatClampNeg 1) (x3 + 1)) b3 (Int32.toNatClampNeg 1)))) b4 (Int32.toNatClampNeg 0)))) b8)) then 269001 else 2 * (Int32.ofNat (hN (sI (sI (sI S b1 (Int32.toNatClampNeg 1) (x3 + 1)) b2 (Int32.toNatClampNeg 0) ((x2 + 1) * (hI (sI S b1 (Int32.toNatClampNeg 1) (x3 + 1)) b3 (Int32.toNatClampNeg 1)))) x0 1 ((x1 + 1) * (hI (sI (sI S b1 (Int32.toNatClampNeg 1) (x3 + 1)) b2 (Int32.toNatClampNeg 0) ((x2 + 1) * (hI (sI S b1 (Int32.toNatClampNeg 1) (x3 + 1)) b3 (Int32.toNatClampNeg 1)))) b4 (Int32.toNatClampNeg 0)))) b8)) then if 269001 < 2 * (Int32.ofNat (hN (sI (sI (sI S b1 (Int32.toNatClampNeg 1) (x3 + 1)) b2 (Int32.toNatClampNeg 0) ((x2 + 1) * (hI (sI S b1 (Int32.toNatClampNeg 1) (x3 + 1)) b3 (Int32.toNatClampNeg 1)))) x0 1 ((x1 + 1) * (hI (sI (sI S b1 (Int32.toNatClampNeg 1) (x3 + 1)) b2 (Int32.toNatClampNeg 0) ((x2 + 1) * (hI (sI S b1 (Int32.toNatClampNeg 1) (x3 + 1)) b3 (Int32.toNatClampNeg 1)))) b4 (Int32.toNatClampNeg 0)))) b8)) then 269001 else 2 * (Int32.ofNat (hN (sI (sI (sI S b1 (Int32.toNatClampNeg 1) (x3 + 1)) b2 (Int32.toNatClampNeg 0) ((x2 + 1) * (hI (sI S b1 (Int32.toNatClampNeg 1) (x3 + 1)) b3 (Int32.toNatClampNeg 1)))) x0 1 ((x1 + 1) * (hI (sI (sI S b1 (Int32.toNatClampNeg 1) (x3 + 1)) b2 (Int32.toNatClampNeg 0) ((x2 + 1) * (hI (sI S b1 (Int32.toNatClampNeg 1) (x3 + 1)) b3 (Int32.toNatClampNeg 1)))) b4 (Int32.toNatClampNeg 0)))) b8)) else hI (sI (sI (sI S b1 (Int32.toNatClampNeg 1) (x3 + 1)) b2 (Int32.toNatClampNeg 0) ((x2 + 1) * (hI (sI S b1 (Int32.toNatClampNeg 1) (x3 + 1)) b3 (Int32.toNatClampNeg 1)))) x0 1 ((x1 + 1) * (hI (sI (sI S b1 (Int32.toNatClampNeg 1) (x3 + 1)) b2 (Int32.toNatClampNeg 0) ((x2 + 1) * (hI (sI S b1 (Int32.toNatClampNeg 1) (x3 + 1)) b3 (Int32.toNatClampNeg 1)))) b4 (Int32.toNatClampNeg 0)))) x0 1)) → hT S9 x0 = 2 ∧ K 0 (sP S9 x0 0 (some b9)))
set_option maxHeartbeats 4000000 in
set_option maxRecDepth 100000 in
theorem ok_X1_open {G : CG} {x0 : Nat} {x1 : Int32} {x2 : Int32} {x3 : Int32} {S : HS} {K : Int32 → HS → Prop} (hw : wp_X1_open (gC G, gS G) x0 x1 x2 x3 S K) : CC 2 yX1_open cX1_open 4 none [.ref x0, .int x1, .int x2, .int x3] G S (kV K) := by
  refine CC.of (by decide +kernel) (Nat.le_of_ble_eq_true rfl) (fun X hc hr hname => ?_)
  show MC G S X 4 S 0 [(0, .ref x0), (1, .int x1), (2, .int x2), (3, .int x3)] []
  unfold wp_X1_open at hw
  refine m_aload_n hc 0 dX1_open_0 rfl rfl ?_
  obtain ⟨ht, b1, e_b1, hw⟩ := hw
  refine c_getr hc hr ciX1 (Nat.le_of_ble_eq_true rfl) 2 (Nat.le_of_ble_eq_true rfl) rfl dX1_open_1 lf_X1_19 ht e_b1 ?_
  refine m_iconst hc 1 dX1_open_4 (by decide) ?_
  refine m_iload_n hc 3 dX1_open_5 rfl rfl ?_
  refine m_iconst hc 1 dX1_open_6 (by decide) ?_
  refine m_iadd hc dX1_open_7 ?_
  obtain ⟨ht, hi, hw⟩ := hw
  refine c_iast hc hr ht hi dX1_open_8 ?_
  refine m_aload_n hc 0 dX1_open_9 rfl rfl ?_
  obtain ⟨ht, b2, e_b2, hw⟩ := hw
  refine c_getr hc hr ciX1 (Nat.le_of_ble_eq_true rfl) 2 (Nat.le_of_ble_eq_true rfl) rfl dX1_open_10 lf_X1_19 ht e_b2 ?_
  refine m_iconst hc 0 dX1_open_13 (by decide) ?_
  refine m_iload_n hc 2 dX1_open_14 rfl rfl ?_
  refine m_iconst hc 1 dX1_open_15 (by decide) ?_
  refine m_iadd hc dX1_open_16 ?_
  refine m_aload_n hc 0 dX1_open_17 rfl rfl ?_
  obtain ⟨ht, b3, e_b3, hw⟩ := hw
  refine c_getr hc hr ciX1 (Nat.le_of_ble_eq_true rfl) 2 (Nat.le_of_ble_eq_true rfl) rfl dX1_open_18 lf_X1_19 ht e_b3 ?_
  refine m_iconst hc 1 dX1_open_21 (by decide) ?_
  obtain ⟨ht, hi, hw⟩ := hw
  refine c_iald hc hr ht hi dX1_open_22 ?_
  refine m_imul hc dX1_open_23 ?_
  obtain ⟨ht, hi, hw⟩ := hw
  refine c_iast hc hr ht hi dX1_open_24 ?_
  refine m_aload_n hc 0 dX1_open_25 rfl rfl ?_
  refine m_iload_n hc 1 dX1_open_26 rfl rfl ?_
  refine m_iconst hc 1 dX1_open_27 (by decide) ?_
  refine m_iadd hc dX1_open_28 ?_
  refine m_aload_n hc 0 dX1_open_29 rfl rfl ?_
  obtain ⟨ht, b4, e_b4, hw⟩ := hw
  refine c_getr hc hr ciX1 (Nat.le_of_ble_eq_true rfl) 2 (Nat.le_of_ble_eq_true rfl) rfl dX1_open_30 lf_X1_19 ht e_b4 ?_
  refine m_iconst hc 0 dX1_open_33 (by decide) ?_
  obtain ⟨ht, hi, hw⟩ := hw
  refine c_iald hc hr ht hi dX1_open_34 ?_
  refine m_imul hc dX1_open_35 ?_
  obtain ⟨ht, hw⟩ := hw
  refine c_puti hc hr ciX1 (Nat.le_of_ble_eq_true rfl) 1 (Nat.le_of_ble_eq_true rfl) rfl dX1_open_36 lf_X1_15 ht (Or.inl rfl) ⟨rfl, rfl⟩ ?_
  refine m_aload_n hc 0 dX1_open_39 rfl rfl ?_
  obtain ⟨ht, hw⟩ := hw
  refine c_geti hc hr ciX1 (Nat.le_of_ble_eq_true rfl) 1 (Nat.le_of_ble_eq_true rfl) rfl dX1_open_40 lf_X1_15 ht ?_
  refine m_aload_n hc 0 dX1_open_43 rfl rfl ?_
  obtain ⟨ht, b5, e_b5, hw⟩ := hw
  refine c_getr hc hr ciX1 (Nat.le_of_ble_eq_true rfl) 0 (Nat.le_of_ble_eq_true rfl) rfl dX1_open_44 lf_X1_9 ht e_b5 ?_
  obtain ⟨ht, hw⟩ := hw
  refine c_alen hc hr ht dX1_open_47 ?_
  refine m_icmp_le hc 79 dX1_open_48 rfl (fun cq => ?_) (fun cq => ?_)
  · have hw := hw.1 cq
    refine m_aload_n hc 0 dX1_open_79 rfl rfl ?_
    obtain ⟨ht, b6, e_b6, hw⟩ := hw
    refine c_getr hc hr ciX1 (Nat.le_of_ble_eq_true rfl) 0 (Nat.le_of_ble_eq_true rfl) rfl dX1_open_80 lf_X1_9 ht e_b6 ?_
    refine m_iconst hc 0 dX1_open_83 (by decide) ?_
    refine m_aload_n hc 0 dX1_open_84 rfl rfl ?_
    obtain ⟨ht, hw⟩ := hw
    refine c_geti hc hr ciX1 (Nat.le_of_ble_eq_true rfl) 1 (Nat.le_of_ble_eq_true rfl) rfl dX1_open_85 lf_X1_15 ht ?_
    refine m_iconst hc 0 dX1_open_88 (by decide) ?_
    refine c_callSv hc hr mt_J7_fill_fda19 lm_X1_32 (ok_J7_fill_fda19 hw) (Nat.le_of_ble_eq_true rfl) dX1_open_89 rfl (rest := []) rfl (Nat.le_of_ble_eq_true rfl) (fun S7 hw => ?_)
    exact c_vret hc hr dX1_open_92 hw
  · have hw := hw.2 cq
    refine m_aload_n hc 0 dX1_open_51 rfl rfl ?_
    refine m_aload_n hc 0 dX1_open_52 rfl rfl ?_
    obtain ⟨ht, hw⟩ := hw
    refine c_geti hc hr ciX1 (Nat.le_of_ble_eq_true rfl) 1 (Nat.le_of_ble_eq_true rfl) rfl dX1_open_53 lf_X1_15 ht ?_
    refine m_iconst hc 2 dX1_open_56 (by decide) ?_
    refine m_aload_n hc 0 dX1_open_57 rfl rfl ?_
    obtain ⟨ht, b8, e_b8, hw⟩ := hw
    refine c_getr hc hr ciX1 (Nat.le_of_ble_eq_true rfl) 0 (Nat.le_of_ble_eq_true rfl) rfl dX1_open_58 lf_X1_9 ht e_b8 ?_
    obtain ⟨ht, hw⟩ := hw
    refine c_alen hc hr ht dX1_open_61 ?_
    refine m_imul hc dX1_open_62 ?_
    refine m_ldc hc dX1_open_63 lc_X1_22 ?_
    refine c_bnd (fun g1 g2 => ?_)
    refine m_mmin hc dX1_open_65 lm_X1_23 lM_min (c_room hr g1 g2) (Nat.le_of_ble_eq_true rfl) ?_
    refine c_bnd (fun g1 g2 => ?_)
    refine m_mmax hc dX1_open_68 lm_X1_29 lM_max (c_room hr g1 g2) (Nat.le_of_ble_eq_true rfl) ?_
    obtain ⟨hn0, hn1, hm, hm2, hw⟩ := hw
    refine n_newi hc hr dX1_open_71 laI hn0 hn1 hm hm2 (fun b9 S9 e_b9 e_S9 => ?_)
    have hw := hw b9 S9 e_b9 e_S9
    obtain ⟨ht, hw⟩ := hw
    refine c_putr hc hr ciX1 (Nat.le_of_ble_eq_true rfl) 0 (Nat.le_of_ble_eq_true rfl) rfl dX1_open_73 lf_X1_9 ht (Or.inl rfl) (Or.inr ⟨_, rfl⟩) ?_
    refine m_goto hc 92 dX1_open_76 rfl ?_
    exact c_vret hc hr dX1_open_92 hw
def wp_X1_narrow (M : Nat × Nat) (x0 : Nat) (x1 x2 x3 : Int32) (S : HS) (K : Int32 → HS → Prop) : Prop := hT S x0 = 2 ∧ hT S x0 = 2 ∧ ∃ b1 : Nat, hP S x0 2 = some b1 ∧ hT S b1 = 21 ∧ vp_in 0 (hN S b1) ∧ hT S x0 = 2 ∧ ∃ b2 : Nat, hP S x0 2 = some b2 ∧ hT S b2 = 21 ∧ vp_in 1 (hN S b2) ∧ hT S x0 = 2 ∧ K 0 (sI S x0 1 (if (((x1 * (hI S b1 (Int32.toNatClampNeg 0))) + (x2 * (hI S b2 (Int32.toNatClampNeg 1)))) + x3) + 1 < hI S x0 1 then (((x1 * (hI S b1 (Int32.toNatClampNeg 0))) + (x2 * (hI S b2 (Int32.toNatClampNeg 1)))) + x3) + 1 else hI S x0 1))
set_option maxHeartbeats 4000000 in
set_option maxRecDepth 100000 in
theorem ok_X1_narrow {G : CG} {x0 : Nat} {x1 : Int32} {x2 : Int32} {x3 : Int32} {S : HS} {K : Int32 → HS → Prop} (hw : wp_X1_narrow (gC G, gS G) x0 x1 x2 x3 S K) : CC 1 yX1_narrow cX1_narrow 4 none [.ref x0, .int x1, .int x2, .int x3] G S (kV K) := by
  refine CC.of (by decide +kernel) (Nat.le_of_ble_eq_true rfl) (fun X hc hr hname => ?_)
  show MC G S X 4 S 0 [(0, .ref x0), (1, .int x1), (2, .int x2), (3, .int x3)] []
  unfold wp_X1_narrow at hw
  refine m_aload_n hc 0 dX1_narrow_0 rfl rfl ?_
  refine m_aload_n hc 0 dX1_narrow_1 rfl rfl ?_
  obtain ⟨ht, hw⟩ := hw
  refine c_geti hc hr ciX1 (Nat.le_of_ble_eq_true rfl) 1 (Nat.le_of_ble_eq_true rfl) rfl dX1_narrow_2 lf_X1_15 ht ?_
  refine m_iload_n hc 1 dX1_narrow_5 rfl rfl ?_
  refine m_aload_n hc 0 dX1_narrow_6 rfl rfl ?_
  obtain ⟨ht, b1, e_b1, hw⟩ := hw
  refine c_getr hc hr ciX1 (Nat.le_of_ble_eq_true rfl) 2 (Nat.le_of_ble_eq_true rfl) rfl dX1_narrow_7 lf_X1_19 ht e_b1 ?_
  refine m_iconst hc 0 dX1_narrow_10 (by decide) ?_
  obtain ⟨ht, hi, hw⟩ := hw
  refine c_iald hc hr ht hi dX1_narrow_11 ?_
  refine m_imul hc dX1_narrow_12 ?_
  refine m_iload_n hc 2 dX1_narrow_13 rfl rfl ?_
  refine m_aload_n hc 0 dX1_narrow_14 rfl rfl ?_
  obtain ⟨ht, b2, e_b2, hw⟩ := hw
  refine c_getr hc hr ciX1 (Nat.le_of_ble_eq_true rfl) 2 (Nat.le_of_ble_eq_true rfl) rfl dX1_narrow_15 lf_X1_19 ht e_b2 ?_
  refine m_iconst hc 1 dX1_narrow_18 (by decide) ?_
  obtain ⟨ht, hi, hw⟩ := hw
  refine c_iald hc hr ht hi dX1_narrow_19 ?_
  refine m_imul hc dX1_narrow_20 ?_
  refine m_iadd hc dX1_narrow_21 ?_
  refine m_iload_n hc 3 dX1_narrow_22 rfl rfl ?_
  refine m_iadd hc dX1_narrow_23 ?_
  refine m_iconst hc 1 dX1_narrow_24 (by decide) ?_
  refine m_iadd hc dX1_narrow_25 ?_
  refine c_bnd (fun g1 g2 => ?_)
  refine m_mmin hc dX1_narrow_26 lm_X1_23 lM_min (c_room hr g1 g2) (Nat.le_of_ble_eq_true rfl) ?_
  obtain ⟨ht, hw⟩ := hw
  refine c_puti hc hr ciX1 (Nat.le_of_ble_eq_true rfl) 1 (Nat.le_of_ble_eq_true rfl) rfl dX1_narrow_29 lf_X1_15 ht (Or.inl rfl) ⟨rfl, rfl⟩ ?_
  exact c_vret hc hr dX1_narrow_32 hw
def wp_X6_exponent (M : Nat × Nat) (x0 x1 : Int32) (S : HS) (K : Int32 → HS → Prop) : Prop := K ((x0 >>> (((2 - x1) * 6) &&& 31)) &&& 63) S
set_option maxHeartbeats 4000000 in
set_option maxRecDepth 100000 in
theorem ok_X6_exponent {G : CG} {x0 : Int32} {x1 : Int32} {S : HS} {K : Int32 → HS → Prop} (hw : wp_X6_exponent (gC G, gS G) x0 x1 S K) : CC 0 yX6_exponent cX6_exponent 2 (some .int) [.int x0, .int x1] G S (kI K) := by
  refine CC.of (by decide +kernel) (Nat.le_of_ble_eq_true rfl) (fun X hc hr hname => ?_)
  show MC G S X 2 S 0 [(0, .int x0), (1, .int x1)] []
  unfold wp_X6_exponent at hw
  refine m_iload_n hc 0 dX6_exponent_0 rfl rfl ?_
  refine m_iconst hc 2 dX6_exponent_1 (by decide) ?_
  refine m_iload_n hc 1 dX6_exponent_2 rfl rfl ?_
  refine m_isub hc dX6_exponent_3 ?_
  refine m_bipush hc 6 dX6_exponent_4 (by decide) ?_
  refine m_imul hc dX6_exponent_6 ?_
  refine m_ishr hc dX6_exponent_7 ?_
  refine m_bipush hc 63 dX6_exponent_8 (by decide) ?_
  refine m_iand hc dX6_exponent_10 ?_
  exact c_iret hc hr dX6_exponent_11 hw
def wp_X1_cellOf (M : Nat × Nat) (x0 : Nat) (x1 : Int32) (S : HS) (K : Int32 → HS → Prop) : Prop := wp_X6_exponent M x1 0 S (fun r1 S1 => hT S1 x0 = 2 ∧ ∃ b2 : Nat, hP S1 x0 2 = some b2 ∧ hT S1 b2 = 21 ∧ vp_in 0 (hN S1 b2) ∧ wp_X6_exponent M x1 1 S1 (fun r3 S3 => hT S3 x0 = 2 ∧ ∃ b4 : Nat, hP S3 x0 2 = some b4 ∧ hT S3 b4 = 21 ∧ vp_in 1 (hN S3 b4) ∧ wp_X6_exponent M x1 2 S3 (fun r5 S5 => K (((r1 * (hI S1 b2 (Int32.toNatClampNeg 0))) + (r3 * (hI S3 b4 (Int32.toNatClampNeg 1)))) + r5) S5)))
set_option maxHeartbeats 4000000 in
set_option maxRecDepth 100000 in
theorem ok_X1_cellOf {G : CG} {x0 : Nat} {x1 : Int32} {S : HS} {K : Int32 → HS → Prop} (hw : wp_X1_cellOf (gC G, gS G) x0 x1 S K) : CC 1 yX1_cellOf cX1_cellOf 2 (some .int) [.ref x0, .int x1] G S (kI K) := by
  refine CC.of (by decide +kernel) (Nat.le_of_ble_eq_true rfl) (fun X hc hr hname => ?_)
  show MC G S X 2 S 0 [(0, .ref x0), (1, .int x1)] []
  unfold wp_X1_cellOf at hw
  refine m_iload_n hc 1 dX1_cellOf_0 rfl rfl ?_
  refine m_iconst hc 0 dX1_cellOf_1 (by decide) ?_
  refine c_callSi hc hr mt_X6_exponent lm_X1_38 (ok_X6_exponent hw) (Nat.le_of_ble_eq_true rfl) dX1_cellOf_2 rfl (rest := []) rfl (Nat.le_of_ble_eq_true rfl) (fun r1 S1 hw => ?_)
  refine m_aload_n hc 0 dX1_cellOf_5 rfl rfl ?_
  obtain ⟨ht, b2, e_b2, hw⟩ := hw
  refine c_getr hc hr ciX1 (Nat.le_of_ble_eq_true rfl) 2 (Nat.le_of_ble_eq_true rfl) rfl dX1_cellOf_6 lf_X1_19 ht e_b2 ?_
  refine m_iconst hc 0 dX1_cellOf_9 (by decide) ?_
  obtain ⟨ht, hi, hw⟩ := hw
  refine c_iald hc hr ht hi dX1_cellOf_10 ?_
  refine m_imul hc dX1_cellOf_11 ?_
  refine m_iload_n hc 1 dX1_cellOf_12 rfl rfl ?_
  refine m_iconst hc 1 dX1_cellOf_13 (by decide) ?_
  refine c_callSi hc hr mt_X6_exponent lm_X1_38 (ok_X6_exponent hw) (Nat.le_of_ble_eq_true rfl) dX1_cellOf_14 rfl (rest := [.int (r1 * (hI S1 b2 (Int32.toNatClampNeg 0)))]) rfl (Nat.le_of_ble_eq_true rfl) (fun r3 S3 hw => ?_)
  refine m_aload_n hc 0 dX1_cellOf_17 rfl rfl ?_
  obtain ⟨ht, b4, e_b4, hw⟩ := hw
  refine c_getr hc hr ciX1 (Nat.le_of_ble_eq_true rfl) 2 (Nat.le_of_ble_eq_true rfl) rfl dX1_cellOf_18 lf_X1_19 ht e_b4 ?_
  refine m_iconst hc 1 dX1_cellOf_21 (by decide) ?_
  obtain ⟨ht, hi, hw⟩ := hw
  refine c_iald hc hr ht hi dX1_cellOf_22 ?_
  refine m_imul hc dX1_cellOf_23 ?_
  refine m_iadd hc dX1_cellOf_24 ?_
  refine m_iload_n hc 1 dX1_cellOf_25 rfl rfl ?_
  refine m_iconst hc 2 dX1_cellOf_26 (by decide) ?_
  refine c_callSi hc hr mt_X6_exponent lm_X1_38 (ok_X6_exponent hw) (Nat.le_of_ble_eq_true rfl) dX1_cellOf_27 rfl (rest := [.int ((r1 * (hI S1 b2 (Int32.toNatClampNeg 0))) + (r3 * (hI S3 b4 (Int32.toNatClampNeg 1))))]) rfl (Nat.le_of_ble_eq_true rfl) (fun r5 S5 hw => ?_)
  refine m_iadd hc dX1_cellOf_30 ?_
  exact c_iret hc hr dX1_cellOf_31 hw
def w_X1_copyFrom_23 (M : Nat × Nat) (K : Int32 → HS → Prop) (x0 x1 : Nat) (S : HS) : Prop := hT S x1 = 2 ∧ hT S x0 = 2 ∧ hT (sI S x0 1 (hI S x1 1)) x0 = 2 ∧ ∃ b1 : Nat, hP (sI S x0 1 (hI S x1 1)) x0 2 = some b1 ∧ hT (sI S x0 1 (hI S x1 1)) x1 = 2 ∧ ∃ b2 : Nat, hP (sI S x0 1 (hI S x1 1)) x1 2 = some b2 ∧ hT (sI S x0 1 (hI S x1 1)) b2 = 21 ∧ vp_in 0 (hN (sI S x0 1 (hI S x1 1)) b2) ∧ hT (sI S x0 1 (hI S x1 1)) b1 = 21 ∧ vp_in 0 (hN (sI S x0 1 (hI S x1 1)) b1) ∧ hT (sI (sI S x0 1 (hI S x1 1)) b1 (Int32.toNatClampNeg 0) (hI (sI S x0 1 (hI S x1 1)) b2 (Int32.toNatClampNeg 0))) x0 = 2 ∧ ∃ b3 : Nat, hP (sI (sI S x0 1 (hI S x1 1)) b1 (Int32.toNatClampNeg 0) (hI (sI S x0 1 (hI S x1 1)) b2 (Int32.toNatClampNeg 0))) x0 2 = some b3 ∧ hT (sI (sI S x0 1 (hI S x1 1)) b1 (Int32.toNatClampNeg 0) (hI (sI S x0 1 (hI S x1 1)) b2 (Int32.toNatClampNeg 0))) x1 = 2 ∧ ∃ b4 : Nat, hP (sI (sI S x0 1 (hI S x1 1)) b1 (Int32.toNatClampNeg 0) (hI (sI S x0 1 (hI S x1 1)) b2 (Int32.toNatClampNeg 0))) x1 2 = some b4 ∧ hT (sI (sI S x0 1 (hI S x1 1)) b1 (Int32.toNatClampNeg 0) (hI (sI S x0 1 (hI S x1 1)) b2 (Int32.toNatClampNeg 0))) b4 = 21 ∧ vp_in 1 (hN (sI (sI S x0 1 (hI S x1 1)) b1 (Int32.toNatClampNeg 0) (hI (sI S x0 1 (hI S x1 1)) b2 (Int32.toNatClampNeg 0))) b4) ∧ hT (sI (sI S x0 1 (hI S x1 1)) b1 (Int32.toNatClampNeg 0) (hI (sI S x0 1 (hI S x1 1)) b2 (Int32.toNatClampNeg 0))) b3 = 21 ∧ vp_in 1 (hN (sI (sI S x0 1 (hI S x1 1)) b1 (Int32.toNatClampNeg 0) (hI (sI S x0 1 (hI S x1 1)) b2 (Int32.toNatClampNeg 0))) b3) ∧ hT (sI (sI (sI S x0 1 (hI S x1 1)) b1 (Int32.toNatClampNeg 0) (hI (sI S x0 1 (hI S x1 1)) b2 (Int32.toNatClampNeg 0))) b3 (Int32.toNatClampNeg 1) (hI (sI (sI S x0 1 (hI S x1 1)) b1 (Int32.toNatClampNeg 0) (hI (sI S x0 1 (hI S x1 1)) b2 (Int32.toNatClampNeg 0))) b4 (Int32.toNatClampNeg 1))) x1 = 2 ∧ ∃ b5 : Nat, hP (sI (sI (sI S x0 1 (hI S x1 1)) b1 (Int32.toNatClampNeg 0) (hI (sI S x0 1 (hI S x1 1)) b2 (Int32.toNatClampNeg 0))) b3 (Int32.toNatClampNeg 1) (hI (sI (sI S x0 1 (hI S x1 1)) b1 (Int32.toNatClampNeg 0) (hI (sI S x0 1 (hI S x1 1)) b2 (Int32.toNatClampNeg 0))) b4 (Int32.toNatClampNeg 1))) x1 0 = some b5 ∧ hT (sI (sI (sI S x0 1 (hI S x1 1)) b1 (Int32.toNatClampNeg 0) (hI (sI S x0 1 (hI S x1 1)) b2 (Int32.toNatClampNeg 0))) b3 (Int32.toNatClampNeg 1) (hI (sI (sI S x0 1 (hI S x1 1)) b1 (Int32.toNatClampNeg 0) (hI (sI S x0 1 (hI S x1 1)) b2 (Int32.toNatClampNeg 0))) b4 (Int32.toNatClampNeg 1))) x0 = 2 ∧ ∃ b6 : Nat, hP (sI (sI (sI S x0 1 (hI S x1 1)) b1 (Int32.toNatClampNeg 0) (hI (sI S x0 1 (hI S x1 1)) b2 (Int32.toNatClampNeg 0))) b3 (Int32.toNatClampNeg 1) (hI (sI (sI S x0 1 (hI S x1 1)) b1 (Int32.toNatClampNeg 0) (hI (sI S x0 1 (hI S x1 1)) b2 (Int32.toNatClampNeg 0))) b4 (Int32.toNatClampNeg 1))) x0 0 = some b6 ∧ hT (sI (sI (sI S x0 1 (hI S x1 1)) b1 (Int32.toNatClampNeg 0) (hI (sI S x0 1 (hI S x1 1)) b2 (Int32.toNatClampNeg 0))) b3 (Int32.toNatClampNeg 1) (hI (sI (sI S x0 1 (hI S x1 1)) b1 (Int32.toNatClampNeg 0) (hI (sI S x0 1 (hI S x1 1)) b2 (Int32.toNatClampNeg 0))) b4 (Int32.toNatClampNeg 1))) x0 = 2 ∧ hT (sI (sI (sI S x0 1 (hI S x1 1)) b1 (Int32.toNatClampNeg 0) (hI (sI S x0 1 (hI S x1 1)) b2 (Int32.toNatClampNeg 0))) b3 (Int32.toNatClampNeg 1) (hI (sI (sI S x0 1 (hI S x1 1)) b1 (Int32.toNatClampNeg 0) (hI (sI S x0 1 (hI S x1 1)) b2 (Int32.toNatClampNeg 0))) b4 (Int32.toNatClampNeg 1))) b5 = 21 ∧ hT (sI (sI (sI S x0 1 (hI S x1 1)) b1 (Int32.toNatClampNeg 0) (hI (sI S x0 1 (hI S x1 1)) b2 (Int32.toNatClampNeg 0))) b3 (Int32.toNatClampNeg 1) (hI (sI (sI S x0 1 (hI S x1 1)) b1 (Int32.toNatClampNeg 0) (hI (sI S x0 1 (hI S x1 1)) b2 (Int32.toNatClampNeg 0))) b4 (Int32.toNatClampNeg 1))) b6 = 21 ∧ ¬ (0 : Int32) < 0 ∧ ¬ (0 : Int32) < 0 ∧ ¬ ((hI (sI (sI (sI S x0 1 (hI S x1 1)) b1 (Int32.toNatClampNeg 0) (hI (sI S x0 1 (hI S x1 1)) b2 (Int32.toNatClampNeg 0))) b3 (Int32.toNatClampNeg 1) (hI (sI (sI S x0 1 (hI S x1 1)) b1 (Int32.toNatClampNeg 0) (hI (sI S x0 1 (hI S x1 1)) b2 (Int32.toNatClampNeg 0))) b4 (Int32.toNatClampNeg 1))) x0 1) : Int32) < 0 ∧ Int32.toNatClampNeg 0 + Int32.toNatClampNeg (hI (sI (sI (sI S x0 1 (hI S x1 1)) b1 (Int32.toNatClampNeg 0) (hI (sI S x0 1 (hI S x1 1)) b2 (Int32.toNatClampNeg 0))) b3 (Int32.toNatClampNeg 1) (hI (sI (sI S x0 1 (hI S x1 1)) b1 (Int32.toNatClampNeg 0) (hI (sI S x0 1 (hI S x1 1)) b2 (Int32.toNatClampNeg 0))) b4 (Int32.toNatClampNeg 1))) x0 1) ≤ hN (sI (sI (sI S x0 1 (hI S x1 1)) b1 (Int32.toNatClampNeg 0) (hI (sI S x0 1 (hI S x1 1)) b2 (Int32.toNatClampNeg 0))) b3 (Int32.toNatClampNeg 1) (hI (sI (sI S x0 1 (hI S x1 1)) b1 (Int32.toNatClampNeg 0) (hI (sI S x0 1 (hI S x1 1)) b2 (Int32.toNatClampNeg 0))) b4 (Int32.toNatClampNeg 1))) b5 ∧ Int32.toNatClampNeg 0 + Int32.toNatClampNeg (hI (sI (sI (sI S x0 1 (hI S x1 1)) b1 (Int32.toNatClampNeg 0) (hI (sI S x0 1 (hI S x1 1)) b2 (Int32.toNatClampNeg 0))) b3 (Int32.toNatClampNeg 1) (hI (sI (sI S x0 1 (hI S x1 1)) b1 (Int32.toNatClampNeg 0) (hI (sI S x0 1 (hI S x1 1)) b2 (Int32.toNatClampNeg 0))) b4 (Int32.toNatClampNeg 1))) x0 1) ≤ hN (sI (sI (sI S x0 1 (hI S x1 1)) b1 (Int32.toNatClampNeg 0) (hI (sI S x0 1 (hI S x1 1)) b2 (Int32.toNatClampNeg 0))) b3 (Int32.toNatClampNeg 1) (hI (sI (sI S x0 1 (hI S x1 1)) b1 (Int32.toNatClampNeg 0) (hI (sI S x0 1 (hI S x1 1)) b2 (Int32.toNatClampNeg 0))) b4 (Int32.toNatClampNeg 1))) b6 ∧ K 0 (sR (sI (sI (sI S x0 1 (hI S x1 1)) b1 (Int32.toNatClampNeg 0) (hI (sI S x0 1 (hI S x1 1)) b2 (Int32.toNatClampNeg 0))) b3 (Int32.toNatClampNeg 1) (hI (sI (sI S x0 1 (hI S x1 1)) b1 (Int32.toNatClampNeg 0) (hI (sI S x0 1 (hI S x1 1)) b2 (Int32.toNatClampNeg 0))) b4 (Int32.toNatClampNeg 1))) b6 (va_cpy (hI (sI (sI (sI S x0 1 (hI S x1 1)) b1 (Int32.toNatClampNeg 0) (hI (sI S x0 1 (hI S x1 1)) b2 (Int32.toNatClampNeg 0))) b3 (Int32.toNatClampNeg 1) (hI (sI (sI S x0 1 (hI S x1 1)) b1 (Int32.toNatClampNeg 0) (hI (sI S x0 1 (hI S x1 1)) b2 (Int32.toNatClampNeg 0))) b4 (Int32.toNatClampNeg 1))) b5) (hI (sI (sI (sI S x0 1 (hI S x1 1)) b1 (Int32.toNatClampNeg 0) (hI (sI S x0 1 (hI S x1 1)) b2 (Int32.toNatClampNeg 0))) b3 (Int32.toNatClampNeg 1) (hI (sI (sI S x0 1 (hI S x1 1)) b1 (Int32.toNatClampNeg 0) (hI (sI S x0 1 (hI S x1 1)) b2 (Int32.toNatClampNeg 0))) b4 (Int32.toNatClampNeg 1))) b6) (Int32.toNatClampNeg 0) (Int32.toNatClampNeg 0) (Int32.toNatClampNeg (hI (sI (sI (sI S x0 1 (hI S x1 1)) b1 (Int32.toNatClampNeg 0) (hI (sI S x0 1 (hI S x1 1)) b2 (Int32.toNatClampNeg 0))) b3 (Int32.toNatClampNeg 1) (hI (sI (sI S x0 1 (hI S x1 1)) b1 (Int32.toNatClampNeg 0) (hI (sI S x0 1 (hI S x1 1)) b2 (Int32.toNatClampNeg 0))) b4 (Int32.toNatClampNeg 1))) x0 1))))
set_option maxHeartbeats 4000000 in
set_option maxRecDepth 100000 in
theorem b_X1_copyFrom_23 {G : CG} {S0 : HS} {X : Fx} {K : Int32 → HS → Prop} (hc : Cx X RX1 cX1_copyFrom 2) (hr : Cc G S0 1 none (kV K) X) : ∀ (x0 x1 : Nat) (S : HS), w_X1_copyFrom_23 (gC G, gS G) K x0 x1 S → MC G S0 X 2 S 23 [(0, .ref x0), (1, .ref x1)] [] := by
  intro x0 x1 S hw
  unfold w_X1_copyFrom_23 at hw
  refine m_aload_n hc 0 dX1_copyFrom_23 rfl rfl ?_
  refine m_aload_n hc 1 dX1_copyFrom_24 rfl rfl ?_
  obtain ⟨ht, hw⟩ := hw
  refine c_geti hc hr ciX1 (Nat.le_of_ble_eq_true rfl) 1 (Nat.le_of_ble_eq_true rfl) rfl dX1_copyFrom_25 lf_X1_15 ht ?_
  obtain ⟨ht, hw⟩ := hw
  refine c_puti hc hr ciX1 (Nat.le_of_ble_eq_true rfl) 1 (Nat.le_of_ble_eq_true rfl) rfl dX1_copyFrom_28 lf_X1_15 ht (Or.inl rfl) ⟨rfl, rfl⟩ ?_
  refine m_aload_n hc 0 dX1_copyFrom_31 rfl rfl ?_
  obtain ⟨ht, b1, e_b1, hw⟩ := hw
  refine c_getr hc hr ciX1 (Nat.le_of_ble_eq_true rfl) 2 (Nat.le_of_ble_eq_true rfl) rfl dX1_copyFrom_32 lf_X1_19 ht e_b1 ?_
  refine m_iconst hc 0 dX1_copyFrom_35 (by decide) ?_
  refine m_aload_n hc 1 dX1_copyFrom_36 rfl rfl ?_
  obtain ⟨ht, b2, e_b2, hw⟩ := hw
  refine c_getr hc hr ciX1 (Nat.le_of_ble_eq_true rfl) 2 (Nat.le_of_ble_eq_true rfl) rfl dX1_copyFrom_37 lf_X1_19 ht e_b2 ?_
  refine m_iconst hc 0 dX1_copyFrom_40 (by decide) ?_
  obtain ⟨ht, hi, hw⟩ := hw
  refine c_iald hc hr ht hi dX1_copyFrom_41 ?_
  obtain ⟨ht, hi, hw⟩ := hw
  refine c_iast hc hr ht hi dX1_copyFrom_42 ?_
  refine m_aload_n hc 0 dX1_copyFrom_43 rfl rfl ?_
  obtain ⟨ht, b3, e_b3, hw⟩ := hw
  refine c_getr hc hr ciX1 (Nat.le_of_ble_eq_true rfl) 2 (Nat.le_of_ble_eq_true rfl) rfl dX1_copyFrom_44 lf_X1_19 ht e_b3 ?_
  refine m_iconst hc 1 dX1_copyFrom_47 (by decide) ?_
  refine m_aload_n hc 1 dX1_copyFrom_48 rfl rfl ?_
  obtain ⟨ht, b4, e_b4, hw⟩ := hw
  refine c_getr hc hr ciX1 (Nat.le_of_ble_eq_true rfl) 2 (Nat.le_of_ble_eq_true rfl) rfl dX1_copyFrom_49 lf_X1_19 ht e_b4 ?_
  refine m_iconst hc 1 dX1_copyFrom_52 (by decide) ?_
  obtain ⟨ht, hi, hw⟩ := hw
  refine c_iald hc hr ht hi dX1_copyFrom_53 ?_
  obtain ⟨ht, hi, hw⟩ := hw
  refine c_iast hc hr ht hi dX1_copyFrom_54 ?_
  refine m_aload_n hc 1 dX1_copyFrom_55 rfl rfl ?_
  obtain ⟨ht, b5, e_b5, hw⟩ := hw
  refine c_getr hc hr ciX1 (Nat.le_of_ble_eq_true rfl) 0 (Nat.le_of_ble_eq_true rfl) rfl dX1_copyFrom_56 lf_X1_9 ht e_b5 ?_
  refine m_iconst hc 0 dX1_copyFrom_59 (by decide) ?_
  refine m_aload_n hc 0 dX1_copyFrom_60 rfl rfl ?_
  obtain ⟨ht, b6, e_b6, hw⟩ := hw
  refine c_getr hc hr ciX1 (Nat.le_of_ble_eq_true rfl) 0 (Nat.le_of_ble_eq_true rfl) rfl dX1_copyFrom_61 lf_X1_9 ht e_b6 ?_
  refine m_iconst hc 0 dX1_copyFrom_64 (by decide) ?_
  refine m_aload_n hc 0 dX1_copyFrom_65 rfl rfl ?_
  obtain ⟨ht, hw⟩ := hw
  refine c_geti hc hr ciX1 (Nat.le_of_ble_eq_true rfl) 1 (Nat.le_of_ble_eq_true rfl) rfl dX1_copyFrom_66 lf_X1_15 ht ?_
  obtain ⟨ht0, ht1, q1, q2, q3, q4, q5, hw⟩ := hw
  refine c_copy hc hr dX1_copyFrom_69 lm_X1_43 lAC ht0 ht1 q1 q2 q3 q4 q5 (Nat.le_of_ble_eq_true rfl) ?_
  exact c_vret hc hr dX1_copyFrom_72 hw
def wp_X1_copyFrom (M : Nat × Nat) (x0 x1 : Nat) (S : HS) (K : Int32 → HS → Prop) : Prop := hT S x1 = 2 ∧ hT S x0 = 2 ∧ ∃ b1 : Nat, hP S x0 0 = some b1 ∧ (hT S b1 = 21 ∨ hT S b1 = 22 ∨ hT S b1 = 23) ∧ ((hI S x1 1) ≤ (Int32.ofNat (hN S b1)) → w_X1_copyFrom_23 M K x0 x1 S) ∧ (¬ ((hI S x1 1) ≤ (Int32.ofNat (hN S b1))) → hT S x1 = 2 ∧ ∃ b2 : Nat, hP S x1 0 = some b2 ∧ (hT S b2 = 21 ∨ hT S b2 = 22 ∨ hT S b2 = 23) ∧ ¬ (Int32.ofNat (hN S b2) : Int32) < 0 ∧ (Int32.toNatClampNeg (Int32.ofNat (hN S b2))) ≤ 100000000 ∧ hX S + 1 ≤ M.1 ∧ hS S + (Int32.toNatClampNeg (Int32.ofNat (hN S b2))) ≤ M.2 ∧ ∀ (b3 : Nat) (S3 : HS), b3 = hX S → S3 = nO S 21 (Int32.toNatClampNeg (Int32.ofNat (hN S b2))) → hT S3 x0 = 2 ∧ w_X1_copyFrom_23 M K x0 x1 (sP S3 x0 0 (some b3)))
set_option maxHeartbeats 4000000 in
set_option maxRecDepth 100000 in
theorem ok_X1_copyFrom {G : CG} {x0 : Nat} {x1 : Nat} {S : HS} {K : Int32 → HS → Prop} (hw : wp_X1_copyFrom (gC G, gS G) x0 x1 S K) : CC 1 yX1_copyFrom cX1_copyFrom 2 none [.ref x0, .ref x1] G S (kV K) := by
  refine CC.of (by decide +kernel) (Nat.le_of_ble_eq_true rfl) (fun X hc hr hname => ?_)
  show MC G S X 2 S 0 [(0, .ref x0), (1, .ref x1)] []
  unfold wp_X1_copyFrom at hw
  refine m_aload_n hc 1 dX1_copyFrom_0 rfl rfl ?_
  obtain ⟨ht, hw⟩ := hw
  refine c_geti hc hr ciX1 (Nat.le_of_ble_eq_true rfl) 1 (Nat.le_of_ble_eq_true rfl) rfl dX1_copyFrom_1 lf_X1_15 ht ?_
  refine m_aload_n hc 0 dX1_copyFrom_4 rfl rfl ?_
  obtain ⟨ht, b1, e_b1, hw⟩ := hw
  refine c_getr hc hr ciX1 (Nat.le_of_ble_eq_true rfl) 0 (Nat.le_of_ble_eq_true rfl) rfl dX1_copyFrom_5 lf_X1_9 ht e_b1 ?_
  obtain ⟨ht, hw⟩ := hw
  refine c_alen hc hr ht dX1_copyFrom_8 ?_
  refine m_icmp_le hc 23 dX1_copyFrom_9 rfl (fun cq => ?_) (fun cq => ?_)
  · have hw := hw.1 cq
    exact b_X1_copyFrom_23 hc hr x0 x1 S hw
  · have hw := hw.2 cq
    refine m_aload_n hc 0 dX1_copyFrom_12 rfl rfl ?_
    refine m_aload_n hc 1 dX1_copyFrom_13 rfl rfl ?_
    obtain ⟨ht, b2, e_b2, hw⟩ := hw
    refine c_getr hc hr ciX1 (Nat.le_of_ble_eq_true rfl) 0 (Nat.le_of_ble_eq_true rfl) rfl dX1_copyFrom_14 lf_X1_9 ht e_b2 ?_
    obtain ⟨ht, hw⟩ := hw
    refine c_alen hc hr ht dX1_copyFrom_17 ?_
    obtain ⟨hn0, hn1, hm, hm2, hw⟩ := hw
    refine n_newi hc hr dX1_copyFrom_18 laI hn0 hn1 hm hm2 (fun b3 S3 e_b3 e_S3 => ?_)
    have hw := hw b3 S3 e_b3 e_S3
    obtain ⟨ht, hw⟩ := hw
    refine c_putr hc hr ciX1 (Nat.le_of_ble_eq_true rfl) 0 (Nat.le_of_ble_eq_true rfl) rfl dX1_copyFrom_20 lf_X1_9 ht (Or.inl rfl) (Or.inr ⟨_, rfl⟩) ?_
    exact b_X1_copyFrom_23 hc hr x0 x1 (sP S3 x0 0 (some b3)) hw
def wp_X6_key (M : Nat × Nat) (x0 x1 x2 : Int32) (S : HS) (K : Int32 → HS → Prop) : Prop := K (((x0 <<< (12 &&& 31)) ||| (x1 <<< (6 &&& 31))) ||| x2) S
set_option maxHeartbeats 4000000 in
set_option maxRecDepth 100000 in
theorem ok_X6_key {G : CG} {x0 : Int32} {x1 : Int32} {x2 : Int32} {S : HS} {K : Int32 → HS → Prop} (hw : wp_X6_key (gC G, gS G) x0 x1 x2 S K) : CC 0 yX6_key cX6_key 3 (some .int) [.int x0, .int x1, .int x2] G S (kI K) := by
  refine CC.of (by decide +kernel) (Nat.le_of_ble_eq_true rfl) (fun X hc hr hname => ?_)
  show MC G S X 3 S 0 [(0, .int x0), (1, .int x1), (2, .int x2)] []
  unfold wp_X6_key at hw
  refine m_iload_n hc 0 dX6_key_0 rfl rfl ?_
  refine m_bipush hc 12 dX6_key_1 (by decide) ?_
  refine m_ishl hc dX6_key_3 ?_
  refine m_iload_n hc 1 dX6_key_4 rfl rfl ?_
  refine m_bipush hc 6 dX6_key_5 (by decide) ?_
  refine m_ishl hc dX6_key_7 ?_
  refine m_ior hc dX6_key_8 ?_
  refine m_iload_n hc 2 dX6_key_9 rfl rfl ?_
  refine m_ior hc dX6_key_10 ?_
  exact c_iret hc hr dX6_key_11 hw
def wp_X6_push (M : Nat × Nat) (x0 : Nat) (x1 x2 : Int32) (S : HS) (K : Int32 → HS → Prop) : Prop := (¬ x2 = 0 → hT S x0 = 7 ∧ hT S x0 = 7 ∧ ∃ b1 : Nat, hP S x0 0 = some b1 ∧ (hT S b1 = 21 ∨ hT S b1 = 22 ∨ hT S b1 = 23) ∧ ((hI S x0 2) < (Int32.ofNat (hN S b1)) → hT S x0 = 7 ∧ ∃ b2 : Nat, hP S x0 0 = some b2 ∧ hT S x0 = 7 ∧ hT S b2 = 21 ∧ vp_in (hI S x0 2) (hN S b2) ∧ hT (sI S b2 (Int32.toNatClampNeg (hI S x0 2)) x1) x0 = 7 ∧ ∃ b3 : Nat, hP (sI S b2 (Int32.toNatClampNeg (hI S x0 2)) x1) x0 1 = some b3 ∧ hT (sI S b2 (Int32.toNatClampNeg (hI S x0 2)) x1) x0 = 7 ∧ hT (sI S b2 (Int32.toNatClampNeg (hI S x0 2)) x1) b3 = 21 ∧ vp_in (hI (sI S b2 (Int32.toNatClampNeg (hI S x0 2)) x1) x0 2) (hN (sI S b2 (Int32.toNatClampNeg (hI S x0 2)) x1) b3) ∧ hT (sI (sI S b2 (Int32.toNatClampNeg (hI S x0 2)) x1) b3 (Int32.toNatClampNeg (hI (sI S b2 (Int32.toNatClampNeg (hI S x0 2)) x1) x0 2)) x2) x0 = 7 ∧ hT (sI (sI S b2 (Int32.toNatClampNeg (hI S x0 2)) x1) b3 (Int32.toNatClampNeg (hI (sI S b2 (Int32.toNatClampNeg (hI S x0 2)) x1) x0 2)) x2) x0 = 7 ∧ K 0 (sI (sI (sI S b2 (Int32.toNatClampNeg (hI S x0 2)) x1) b3 (Int32.toNatClampNeg (hI (sI S b2 (Int32.toNatClampNeg (hI S x0 2)) x1) x0 2)) x2) x0 2 ((hI (sI (sI S b2 (Int32.toNatClampNeg (hI S x0 2)) x1) b3 (Int32.toNatClampNeg (hI (sI S b2 (Int32.toNatClampNeg (hI S x0 2)) x1) x0 2)) x2) x0 2) + 1))) ∧ (¬ ((hI S x0 2) < (Int32.ofNat (hN S b1))) → hT S x0 = 7 ∧ K 0 (sI S x0 3 1))) ∧ (x2 = 0 → K 0 S)
set_option maxHeartbeats 4000000 in
set_option maxRecDepth 100000 in
theorem ok_X6_push {G : CG} {x0 : Nat} {x1 : Int32} {x2 : Int32} {S : HS} {K : Int32 → HS → Prop} (hw : wp_X6_push (gC G, gS G) x0 x1 x2 S K) : CC 0 yX6_push cX6_push 3 none [.ref x0, .int x1, .int x2] G S (kV K) := by
  refine CC.of (by decide +kernel) (Nat.le_of_ble_eq_true rfl) (fun X hc hr hname => ?_)
  show MC G S X 3 S 0 [(0, .ref x0), (1, .int x1), (2, .int x2)] []
  unfold wp_X6_push at hw
  refine m_iload_n hc 2 dX6_push_0 rfl rfl ?_
  refine m_if_ne hc 5 dX6_push_1 rfl (fun cq => ?_) (fun cq => ?_)
  · have hw := hw.1 cq
    refine m_aload_n hc 0 dX6_push_5 rfl rfl ?_
    obtain ⟨ht, hw⟩ := hw
    refine c_geti hc hr ciX6 (Nat.le_of_ble_eq_true rfl) 2 (Nat.le_of_ble_eq_true rfl) rfl dX6_push_6 lf_X6_9 ht ?_
    refine m_aload_n hc 0 dX6_push_9 rfl rfl ?_
    obtain ⟨ht, b1, e_b1, hw⟩ := hw
    refine c_getr hc hr ciX6 (Nat.le_of_ble_eq_true rfl) 0 (Nat.le_of_ble_eq_true rfl) rfl dX6_push_10 lf_X6_19 ht e_b1 ?_
    obtain ⟨ht, hw⟩ := hw
    refine c_alen hc hr ht dX6_push_13 ?_
    refine m_icmp_lt hc 23 dX6_push_14 rfl (fun cq => ?_) (fun cq => ?_)
    · have hw := hw.1 cq
      refine m_aload_n hc 0 dX6_push_23 rfl rfl ?_
      obtain ⟨ht, b2, e_b2, hw⟩ := hw
      refine c_getr hc hr ciX6 (Nat.le_of_ble_eq_true rfl) 0 (Nat.le_of_ble_eq_true rfl) rfl dX6_push_24 lf_X6_19 ht e_b2 ?_
      refine m_aload_n hc 0 dX6_push_27 rfl rfl ?_
      obtain ⟨ht, hw⟩ := hw
      refine c_geti hc hr ciX6 (Nat.le_of_ble_eq_true rfl) 2 (Nat.le_of_ble_eq_true rfl) rfl dX6_push_28 lf_X6_9 ht ?_
      refine m_iload_n hc 1 dX6_push_31 rfl rfl ?_
      obtain ⟨ht, hi, hw⟩ := hw
      refine c_iast hc hr ht hi dX6_push_32 ?_
      refine m_aload_n hc 0 dX6_push_33 rfl rfl ?_
      obtain ⟨ht, b3, e_b3, hw⟩ := hw
      refine c_getr hc hr ciX6 (Nat.le_of_ble_eq_true rfl) 1 (Nat.le_of_ble_eq_true rfl) rfl dX6_push_34 lf_X6_23 ht e_b3 ?_
      refine m_aload_n hc 0 dX6_push_37 rfl rfl ?_
      obtain ⟨ht, hw⟩ := hw
      refine c_geti hc hr ciX6 (Nat.le_of_ble_eq_true rfl) 2 (Nat.le_of_ble_eq_true rfl) rfl dX6_push_38 lf_X6_9 ht ?_
      refine m_iload_n hc 2 dX6_push_41 rfl rfl ?_
      obtain ⟨ht, hi, hw⟩ := hw
      refine c_iast hc hr ht hi dX6_push_42 ?_
      refine m_aload_n hc 0 dX6_push_43 rfl rfl ?_
      refine m_dup hc dX6_push_44 rfl ?_
      obtain ⟨ht, hw⟩ := hw
      refine c_geti hc hr ciX6 (Nat.le_of_ble_eq_true rfl) 2 (Nat.le_of_ble_eq_true rfl) rfl dX6_push_45 lf_X6_9 ht ?_
      refine m_iconst hc 1 dX6_push_48 (by decide) ?_
      refine m_iadd hc dX6_push_49 ?_
      obtain ⟨ht, hw⟩ := hw
      refine c_puti hc hr ciX6 (Nat.le_of_ble_eq_true rfl) 2 (Nat.le_of_ble_eq_true rfl) rfl dX6_push_50 lf_X6_9 ht (Or.inl rfl) ⟨rfl, rfl⟩ ?_
      exact c_vret hc hr dX6_push_53 hw
    · have hw := hw.2 cq
      refine m_aload_n hc 0 dX6_push_17 rfl rfl ?_
      refine m_iconst hc 1 dX6_push_18 (by decide) ?_
      obtain ⟨ht, hw⟩ := hw
      refine c_puti hc hr ciX6 (Nat.le_of_ble_eq_true rfl) 3 (Nat.le_of_ble_eq_true rfl) rfl dX6_push_19 lf_X6_15 ht (Or.inl rfl) ⟨rfl, rfl⟩ ?_
      exact c_vret hc hr dX6_push_22 hw
  · have hw := hw.2 cq
    exact c_vret hc hr dX6_push_4 hw
def w_X1_pushCell_86 (M : Nat × Nat) (K : Int32 → HS → Prop) (x1 : Nat) (x3 : Int32) (S : HS) : Prop := (x3 = 0 → K 0 S) ∧ (¬ (x3 = 0) → hT S x1 = 7 ∧ K 0 (sI S x1 3 1))
set_option maxHeartbeats 4000000 in
set_option maxRecDepth 100000 in
theorem b_X1_pushCell_86 {G : CG} {S0 : HS} {X : Fx} {K : Int32 → HS → Prop} (hc : Cx X RX1 cX1_pushCell 8) (hr : Cc G S0 1 none (kV K) X) : ∀ (x1 : Nat) (x3 : Int32) (S : HS), w_X1_pushCell_86 (gC G, gS G) K x1 x3 S → MC G S0 X 8 S 86 [(1, .ref x1), (3, .int x3)] [] := by
  intro x1 x3 S hw
  unfold w_X1_pushCell_86 at hw
  refine m_iload_n hc 1 dX1_pushCell_86 rfl rfl ?_
  refine m_if_eq hc 95 dX1_pushCell_87 rfl (fun cq => ?_) (fun cq => ?_)
  · have hw := hw.1 cq
    exact c_vret hc hr dX1_pushCell_95 hw
  · have hw := hw.2 cq
    refine m_aload_n hc 0 dX1_pushCell_90 rfl rfl ?_
    refine m_iconst hc 1 dX1_pushCell_91 (by decide) ?_
    obtain ⟨ht, hw⟩ := hw
    refine c_puti hc hr ciX6 (Nat.le_of_ble_eq_true rfl) 3 (Nat.le_of_ble_eq_true rfl) rfl dX1_pushCell_92 lf_X1_52 ht (Or.inl rfl) ⟨rfl, rfl⟩ ?_
    exact c_vret hc hr dX1_pushCell_95 hw
def wp_X1_pushCell (M : Nat × Nat) (x0 x1 : Nat) (x2 x3 : Int32) (S : HS) (K : Int32 → HS → Prop) : Prop := hT S x0 = 2 ∧ ∃ b1 : Nat, hP S x0 2 = some b1 ∧ hT S b1 = 21 ∧ vp_in 0 (hN S b1) ∧ ¬ (hI S b1 (Int32.toNatClampNeg 0)) = 0 ∧ (∀ v2 : Int32, v2 = (x2 / (hI S b1 (Int32.toNatClampNeg 0))) → hT S x0 = 2 ∧ ∃ b3 : Nat, hP S x0 2 = some b3 ∧ hT S b3 = 21 ∧ vp_in 0 (hN S b3) ∧ ∀ v4 : Int32, v4 = (x2 - (v2 * (hI S b3 (Int32.toNatClampNeg 0)))) → hT S x0 = 2 ∧ ∃ b5 : Nat, hP S x0 2 = some b5 ∧ hT S b5 = 21 ∧ vp_in 1 (hN S b5) ∧ ¬ (hI S b5 (Int32.toNatClampNeg 1)) = 0 ∧ (∀ v6 : Int32, v6 = (v4 / (hI S b5 (Int32.toNatClampNeg 1))) → hT S x0 = 2 ∧ ∃ b7 : Nat, hP S x0 2 = some b7 ∧ hT S b7 = 21 ∧ vp_in 1 (hN S b7) ∧ ∀ v8 : Int32, v8 = (v4 - (v6 * (hI S b7 (Int32.toNatClampNeg 1)))) → (40 < v2 → w_X1_pushCell_86 M K x1 x3 S) ∧ (¬ (40 < v2) → (40 < v6 → w_X1_pushCell_86 M K x1 x3 S) ∧ (¬ (40 < v6) → (40 < v8 → w_X1_pushCell_86 M K x1 x3 S) ∧ (¬ (40 < v8) → wp_X6_key M v2 v6 v8 S (fun r9 S9 => hT S9 x1 = 7 ∧ wp_X6_push M x1 r9 x3 S9 (fun r10 S10 => K 0 S10)))))))
set_option maxHeartbeats 4000000 in
set_option maxRecDepth 100000 in
theorem ok_X1_pushCell {G : CG} {x0 : Nat} {x1 : Nat} {x2 : Int32} {x3 : Int32} {S : HS} {K : Int32 → HS → Prop} (hw : wp_X1_pushCell (gC G, gS G) x0 x1 x2 x3 S K) : CC 1 yX1_pushCell cX1_pushCell 8 none [.ref x0, .ref x1, .int x2, .int x3] G S (kV K) := by
  refine CC.of (by decide +kernel) (Nat.le_of_ble_eq_true rfl) (fun X hc hr hname => ?_)
  show MC G S X 8 S 0 [(0, .ref x0), (1, .ref x1), (2, .int x2), (3, .int x3)] []
  unfold wp_X1_pushCell at hw
  refine m_iload_n hc 2 dX1_pushCell_0 rfl rfl ?_
  refine m_aload_n hc 0 dX1_pushCell_1 rfl rfl ?_
  obtain ⟨ht, b1, e_b1, hw⟩ := hw
  refine c_getr hc hr ciX1 (Nat.le_of_ble_eq_true rfl) 2 (Nat.le_of_ble_eq_true rfl) rfl dX1_pushCell_2 lf_X1_19 ht e_b1 ?_
  refine m_iconst hc 0 dX1_pushCell_5 (by decide) ?_
  obtain ⟨ht, hi, hw⟩ := hw
  refine c_iald hc hr ht hi dX1_pushCell_6 ?_
  obtain ⟨hq, hw⟩ := hw
  refine m_idiv hc dX1_pushCell_7 hq ?_
  refine m_topi (fun v2 e_v2 => ?_)
  have hw := hw v2 e_v2
  refine m_istore hc [(4, .int v2), (0, .ref x0), (1, .ref x1), (2, .int x2), (3, .int x3)] dX1_pushCell_8 (Nat.le_of_ble_eq_true rfl) rfl ?_
  refine m_iload_n hc 3 dX1_pushCell_10 rfl rfl ?_
  refine m_iload hc 0 dX1_pushCell_11 rfl ?_
  refine m_aload_n hc 1 dX1_pushCell_13 rfl rfl ?_
  obtain ⟨ht, b3, e_b3, hw⟩ := hw
  refine c_getr hc hr ciX1 (Nat.le_of_ble_eq_true rfl) 2 (Nat.le_of_ble_eq_true rfl) rfl dX1_pushCell_14 lf_X1_19 ht e_b3 ?_
  refine m_iconst hc 0 dX1_pushCell_17 (by decide) ?_
  obtain ⟨ht, hi, hw⟩ := hw
  refine c_iald hc hr ht hi dX1_pushCell_18 ?_
  refine m_imul hc dX1_pushCell_19 ?_
  refine m_isub hc dX1_pushCell_20 ?_
  refine m_topi (fun v4 e_v4 => ?_)
  have hw := hw v4 e_v4
  refine m_istore hc [(5, .int v4), (4, .int v2), (0, .ref x0), (1, .ref x1), (2, .int x2), (3, .int x3)] dX1_pushCell_21 (Nat.le_of_ble_eq_true rfl) rfl ?_
  refine m_iload hc 0 dX1_pushCell_23 rfl ?_
  refine m_aload_n hc 2 dX1_pushCell_25 rfl rfl ?_
  obtain ⟨ht, b5, e_b5, hw⟩ := hw
  refine c_getr hc hr ciX1 (Nat.le_of_ble_eq_true rfl) 2 (Nat.le_of_ble_eq_true rfl) rfl dX1_pushCell_26 lf_X1_19 ht e_b5 ?_
  refine m_iconst hc 1 dX1_pushCell_29 (by decide) ?_
  obtain ⟨ht, hi, hw⟩ := hw
  refine c_iald hc hr ht hi dX1_pushCell_30 ?_
  obtain ⟨hq, hw⟩ := hw
  refine m_idiv hc dX1_pushCell_31 hq ?_
  refine m_topi (fun v6 e_v6 => ?_)
  have hw := hw v6 e_v6
  refine m_istore hc [(6, .int v6), (5, .int v4), (4, .int v2), (0, .ref x0), (1, .ref x1), (2, .int x2), (3, .int x3)] dX1_pushCell_32 (Nat.le_of_ble_eq_true rfl) rfl ?_
  refine m_iload hc 1 dX1_pushCell_34 rfl ?_
  refine m_iload hc 0 dX1_pushCell_36 rfl ?_
  refine m_aload_n hc 3 dX1_pushCell_38 rfl rfl ?_
  obtain ⟨ht, b7, e_b7, hw⟩ := hw
  refine c_getr hc hr ciX1 (Nat.le_of_ble_eq_true rfl) 2 (Nat.le_of_ble_eq_true rfl) rfl dX1_pushCell_39 lf_X1_19 ht e_b7 ?_
  refine m_iconst hc 1 dX1_pushCell_42 (by decide) ?_
  obtain ⟨ht, hi, hw⟩ := hw
  refine c_iald hc hr ht hi dX1_pushCell_43 ?_
  refine m_imul hc dX1_pushCell_44 ?_
  refine m_isub hc dX1_pushCell_45 ?_
  refine m_topi (fun v8 e_v8 => ?_)
  have hw := hw v8 e_v8
  refine m_istore hc [(7, .int v8), (6, .int v6), (5, .int v4), (4, .int v2), (0, .ref x0), (1, .ref x1), (2, .int x2), (3, .int x3)] dX1_pushCell_46 (Nat.le_of_ble_eq_true rfl) rfl ?_
  refine m_iload hc 3 dX1_pushCell_48 rfl ?_
  refine m_bipush hc 40 dX1_pushCell_50 (by decide) ?_
  refine m_icmp_gt hc 86 dX1_pushCell_52 rfl (fun cq => ?_) (fun cq => ?_)
  · have hw := hw.1 cq
    refine m_sub [5, 7] rfl ?_
    exact b_X1_pushCell_86 hc hr x1 x3 S hw
  · have hw := hw.2 cq
    refine m_iload hc 1 dX1_pushCell_55 rfl ?_
    refine m_bipush hc 40 dX1_pushCell_57 (by decide) ?_
    refine m_icmp_gt hc 86 dX1_pushCell_59 rfl (fun cq => ?_) (fun cq => ?_)
    · have hw := hw.1 cq
      refine m_sub [5, 7] rfl ?_
      exact b_X1_pushCell_86 hc hr x1 x3 S hw
    · have hw := hw.2 cq
      refine m_iload hc 0 dX1_pushCell_62 rfl ?_
      refine m_bipush hc 40 dX1_pushCell_64 (by decide) ?_
      refine m_icmp_gt hc 86 dX1_pushCell_66 rfl (fun cq => ?_) (fun cq => ?_)
      · have hw := hw.1 cq
        refine m_sub [5, 7] rfl ?_
        exact b_X1_pushCell_86 hc hr x1 x3 S hw
      · have hw := hw.2 cq
        refine m_aload_n hc 5 dX1_pushCell_69 rfl rfl ?_
        refine m_iload hc 3 dX1_pushCell_70 rfl ?_
        refine m_iload hc 1 dX1_pushCell_72 rfl ?_
        refine m_iload hc 0 dX1_pushCell_74 rfl ?_
        refine c_callSi hc hr mt_X6_key lm_X1_60 (ok_X6_key hw) (Nat.le_of_ble_eq_true rfl) dX1_pushCell_76 rfl (rest := [.ref x1]) rfl (Nat.le_of_ble_eq_true rfl) (fun r9 S9 hw => ?_)
        refine m_iload_n hc 7 dX1_pushCell_79 rfl rfl ?_
        obtain ⟨ht, hw⟩ := hw
        refine c_callVv hc hr ciX6 (Nat.le_of_ble_eq_true rfl) ht mt_X6_push rfl lm_X1_64 (ok_X6_push hw) (Nat.le_of_ble_eq_true rfl) dX1_pushCell_80 rfl (rest := []) rfl (Nat.le_of_ble_eq_true rfl) (fun S10 hw => ?_)
        refine m_goto hc 95 dX1_pushCell_83 rfl ?_
        exact c_vret hc hr dX1_pushCell_95 hw
def wp_X6_clear (M : Nat × Nat) (x0 : Nat) (S : HS) (K : Int32 → HS → Prop) : Prop := hT S x0 = 7 ∧ hT (sI S x0 2 0) x0 = 7 ∧ K 0 (sI (sI S x0 2 0) x0 3 0)
set_option maxHeartbeats 4000000 in
set_option maxRecDepth 100000 in
theorem ok_X6_clear {G : CG} {x0 : Nat} {S : HS} {K : Int32 → HS → Prop} (hw : wp_X6_clear (gC G, gS G) x0 S K) : CC 0 yX6_clear cX6_clear 1 none [.ref x0] G S (kV K) := by
  refine CC.of (by decide +kernel) (Nat.le_of_ble_eq_true rfl) (fun X hc hr hname => ?_)
  show MC G S X 1 S 0 [(0, .ref x0)] []
  unfold wp_X6_clear at hw
  refine m_aload_n hc 0 dX6_clear_0 rfl rfl ?_
  refine m_iconst hc 0 dX6_clear_1 (by decide) ?_
  obtain ⟨ht, hw⟩ := hw
  refine c_puti hc hr ciX6 (Nat.le_of_ble_eq_true rfl) 2 (Nat.le_of_ble_eq_true rfl) rfl dX6_clear_2 lf_X6_9 ht (Or.inl rfl) ⟨rfl, rfl⟩ ?_
  refine m_aload_n hc 0 dX6_clear_5 rfl rfl ?_
  refine m_iconst hc 0 dX6_clear_6 (by decide) ?_
  obtain ⟨ht, hw⟩ := hw
  refine c_puti hc hr ciX6 (Nat.le_of_ble_eq_true rfl) 3 (Nat.le_of_ble_eq_true rfl) rfl dX6_clear_7 lf_X6_15 ht (Or.inl rfl) ⟨rfl, rfl⟩ ?_
  exact c_vret hc hr dX6_clear_10 hw
def wb_X1_readInto_11 (M : Nat × Nat) (K11 : Nat → Nat → Int32 → Int32 → HS → Prop) (K : Int32 → HS → Prop) (x0 x1 : Nat) (x2 x3 : Int32) (S : HS) : Prop := (x3 < 0 → K 0 S) ∧ (¬ (x3 < 0) → hT S x1 = 7 ∧ (¬ (hI S x1 3) = 0 → K 0 S) ∧ ((hI S x1 3) = 0 → hT S x0 = 2 ∧ ∃ b1 : Nat, hP S x0 0 = some b1 ∧ hT S b1 = 21 ∧ vp_in x3 (hN S b1) ∧ ((hI S b1 (Int32.toNatClampNeg x3)) = 0 → K11 x0 x1 x2 (x3 + (-1)) S) ∧ (¬ ((hI S b1 (Int32.toNatClampNeg x3)) = 0) → hT S x0 = 2 ∧ ∃ b2 : Nat, hP S x0 0 = some b2 ∧ hT S b2 = 21 ∧ vp_in x3 (hN S b2) ∧ ¬ x2 = 0 ∧ (hT S x0 = 2 ∧ wp_X1_pushCell M x0 x1 x3 (iRem (hI S b2 (Int32.toNatClampNeg x3)) x2) S (fun r3 S3 => K11 x0 x1 x2 (x3 + (-1)) S3)))))
def wl_X1_readInto_11 (M : Nat × Nat) (K : Int32 → HS → Prop) : Nat → Nat → Nat → Int32 → Int32 → HS → Prop
  | 0 => fun _ _ _ _ _ => False
  | nn + 1 => wb_X1_readInto_11 M (wl_X1_readInto_11 M K nn) K
set_option maxHeartbeats 4000000 in
set_option maxRecDepth 100000 in
theorem l_X1_readInto_11 {G : CG} {S0 : HS} {X : Fx} {K : Int32 → HS → Prop} (hc : Cx X RX1 cX1_readInto 4) (hr : Cc G S0 2 none (kV K) X) : ∀ (nn : Nat) (x0 x1 : Nat) (x2 x3 : Int32) (S : HS), wl_X1_readInto_11 (gC G, gS G) K nn x0 x1 x2 x3 S → MC G S0 X 4 S 11 [(0, .ref x0), (1, .ref x1), (2, .int x2), (3, .int x3)] [] := by
  intro nn
  induction nn with
  | zero => intro x0 x1 x2 x3 S hw; exact False.elim hw
  | succ nn ih =>
    intro x0 x1 x2 x3 S hw
    have hw : wb_X1_readInto_11 (gC G, gS G) (wl_X1_readInto_11 (gC G, gS G) K nn) K x0 x1 x2 x3 S := hw
    have h11 := ih
    generalize wl_X1_readInto_11 (gC G, gS G) K nn = K11 at hw h11
    unfold wb_X1_readInto_11 at hw
    refine m_iload_n hc 3 dX1_readInto_11 rfl rfl ?_
    refine m_if_lt hc 51 dX1_readInto_12 rfl (fun cq => ?_) (fun cq => ?_)
    · have hw := hw.1 cq
      exact c_vret hc hr dX1_readInto_51 hw
    · have hw := hw.2 cq
      refine m_aload_n hc 1 dX1_readInto_15 rfl rfl ?_
      obtain ⟨ht, hw⟩ := hw
      refine c_geti hc hr ciX6 (Nat.le_of_ble_eq_true rfl) 3 (Nat.le_of_ble_eq_true rfl) rfl dX1_readInto_16 lf_X1_52 ht ?_
      refine m_if_ne hc 51 dX1_readInto_19 rfl (fun cq => ?_) (fun cq => ?_)
      · have hw := hw.1 cq
        exact c_vret hc hr dX1_readInto_51 hw
      · have hw := hw.2 cq
        refine m_aload_n hc 0 dX1_readInto_22 rfl rfl ?_
        obtain ⟨ht, b1, e_b1, hw⟩ := hw
        refine c_getr hc hr ciX1 (Nat.le_of_ble_eq_true rfl) 0 (Nat.le_of_ble_eq_true rfl) rfl dX1_readInto_23 lf_X1_9 ht e_b1 ?_
        refine m_iload_n hc 3 dX1_readInto_26 rfl rfl ?_
        obtain ⟨ht, hi, hw⟩ := hw
        refine c_iald hc hr ht hi dX1_readInto_27 ?_
        refine m_if_eq hc 45 dX1_readInto_28 rfl (fun cq => ?_) (fun cq => ?_)
        · have hw := hw.1 cq
          refine m_iinc hc 3 (x3 + (-1)) [(3, .int (x3 + (-1))), (0, .ref x0), (1, .ref x1), (2, .int x2)] dX1_readInto_45 rfl rfl (Nat.le_of_ble_eq_true rfl) rfl ?_
          refine m_goto hc 11 dX1_readInto_48 rfl ?_
          refine m_sub [1, 2, 3, 0] rfl ?_
          exact h11 x0 x1 x2 (x3 + (-1)) S hw
        · have hw := hw.2 cq
          refine m_aload_n hc 0 dX1_readInto_31 rfl rfl ?_
          refine m_aload_n hc 1 dX1_readInto_32 rfl rfl ?_
          refine m_iload_n hc 3 dX1_readInto_33 rfl rfl ?_
          refine m_aload_n hc 0 dX1_readInto_34 rfl rfl ?_
          obtain ⟨ht, b2, e_b2, hw⟩ := hw
          refine c_getr hc hr ciX1 (Nat.le_of_ble_eq_true rfl) 0 (Nat.le_of_ble_eq_true rfl) rfl dX1_readInto_35 lf_X1_9 ht e_b2 ?_
          refine m_iload_n hc 3 dX1_readInto_38 rfl rfl ?_
          obtain ⟨ht, hi, hw⟩ := hw
          refine c_iald hc hr ht hi dX1_readInto_39 ?_
          refine m_iload_n hc 2 dX1_readInto_40 rfl rfl ?_
          obtain ⟨hq, hw⟩ := hw
          refine m_irem hc dX1_readInto_41 hq ?_
          obtain ⟨ht, hw⟩ := hw
          refine c_callVv hc hr ciX1 (Nat.le_of_ble_eq_true rfl) ht mt_X1_pushCell rfl lm_X1_56 (ok_X1_pushCell hw) (Nat.le_of_ble_eq_true rfl) dX1_readInto_42 rfl (rest := []) rfl (Nat.le_of_ble_eq_true rfl) (fun S3 hw => ?_)
          refine m_iinc hc 3 (x3 + (-1)) [(3, .int (x3 + (-1))), (0, .ref x0), (1, .ref x1), (2, .int x2)] dX1_readInto_45 rfl rfl (Nat.le_of_ble_eq_true rfl) rfl ?_
          refine m_goto hc 11 dX1_readInto_48 rfl ?_
          refine m_sub [1, 2, 3, 0] rfl ?_
          exact h11 x0 x1 x2 (x3 + (-1)) S3 hw
def wp_X1_readInto (M : Nat × Nat) (x0 x1 : Nat) (x2 : Int32) (S : HS) (K : Int32 → HS → Prop) : Prop := hT S x1 = 7 ∧ wp_X6_clear M x1 S (fun r1 S1 => hT S1 x0 = 2 ∧ ∃ nn : Nat, wl_X1_readInto_11 M K nn x0 x1 x2 ((hI S1 x0 1) - 1) S1)
set_option maxHeartbeats 4000000 in
set_option maxRecDepth 100000 in
theorem ok_X1_readInto {G : CG} {x0 : Nat} {x1 : Nat} {x2 : Int32} {S : HS} {K : Int32 → HS → Prop} (hw : wp_X1_readInto (gC G, gS G) x0 x1 x2 S K) : CC 2 yX1_readInto cX1_readInto 4 none [.ref x0, .ref x1, .int x2] G S (kV K) := by
  refine CC.of (by decide +kernel) (Nat.le_of_ble_eq_true rfl) (fun X hc hr hname => ?_)
  show MC G S X 4 S 0 [(0, .ref x0), (1, .ref x1), (2, .int x2)] []
  unfold wp_X1_readInto at hw
  refine m_aload_n hc 1 dX1_readInto_0 rfl rfl ?_
  obtain ⟨ht, hw⟩ := hw
  refine c_callVv hc hr ciX6 (Nat.le_of_ble_eq_true rfl) ht mt_X6_clear rfl lm_X1_49 (ok_X6_clear hw) (Nat.le_of_ble_eq_true rfl) dX1_readInto_1 rfl (rest := []) rfl (Nat.le_of_ble_eq_true rfl) (fun S1 hw => ?_)
  refine m_aload_n hc 0 dX1_readInto_4 rfl rfl ?_
  obtain ⟨ht, hw⟩ := hw
  refine c_geti hc hr ciX1 (Nat.le_of_ble_eq_true rfl) 1 (Nat.le_of_ble_eq_true rfl) rfl dX1_readInto_5 lf_X1_15 ht ?_
  refine m_iconst hc 1 dX1_readInto_8 (by decide) ?_
  refine m_isub hc dX1_readInto_9 ?_
  refine m_istore_n hc [(3, .int ((hI S1 x0 1) - 1)), (0, .ref x0), (1, .ref x1), (2, .int x2)] dX1_readInto_10 rfl (Nat.le_of_ble_eq_true rfl) rfl ?_
  refine m_sub [1, 2, 3, 0] rfl ?_
  obtain ⟨nn, hw⟩ := hw
  exact l_X1_readInto_11 hc hr nn x0 x1 x2 ((hI S1 x0 1) - 1) S1 hw
def w_X3_set_67 (M : Nat × Nat) (K : Int32 → HS → Prop) (x0 : Nat) (x3 x4 s0 : Int32) (s1 : Nat) (S : HS) : Prop := hT S s1 = 4 ∧ hT (sI S s1 3 s0) x0 = 4 ∧ (¬ (hI (sI S s1 3 s0) x0 0) = 2 → hT (sI S s1 3 s0) x0 = 4 ∧ hT (sI (sI S s1 3 s0) x0 4 x3) x0 = 4 ∧ K 0 (sI (sI (sI S s1 3 s0) x0 4 x3) x0 5 x4)) ∧ ((hI (sI S s1 3 s0) x0 0) = 2 → hT (sI S s1 3 s0) x0 = 4 ∧ hT (sI (sI S s1 3 s0) x0 4 0) x0 = 4 ∧ K 0 (sI (sI (sI S s1 3 s0) x0 4 0) x0 5 x4))
set_option maxHeartbeats 4000000 in
set_option maxRecDepth 100000 in
theorem b_X3_set_67 {G : CG} {S0 : HS} {X : Fx} {K : Int32 → HS → Prop} (hc : Cx X RX3 cX3_set 5) (hr : Cc G S0 0 none (kV K) X) : ∀ (x0 : Nat) (x3 x4 s0 : Int32) (s1 : Nat) (S : HS), w_X3_set_67 (gC G, gS G) K x0 x3 x4 s0 s1 S → MC G S0 X 5 S 67 [(0, .ref x0), (3, .int x3), (4, .int x4)] [.int s0, .ref s1] := by
  intro x0 x3 x4 s0 s1 S hw
  unfold w_X3_set_67 at hw
  obtain ⟨ht, hw⟩ := hw
  refine c_puti hc hr ciX3 (Nat.le_of_ble_eq_true rfl) 3 (Nat.le_of_ble_eq_true rfl) rfl dX3_set_67 lf_X3_23 ht (Or.inl rfl) ⟨rfl, rfl⟩ ?_
  refine m_aload_n hc 0 dX3_set_70 rfl rfl ?_
  refine m_aload_n hc 0 dX3_set_71 rfl rfl ?_
  obtain ⟨ht, hw⟩ := hw
  refine c_geti hc hr ciX3 (Nat.le_of_ble_eq_true rfl) 0 (Nat.le_of_ble_eq_true rfl) rfl dX3_set_72 lf_X3_13 ht ?_
  refine m_iconst hc 2 dX3_set_75 (by decide) ?_
  refine m_icmp_ne hc 83 dX3_set_76 rfl (fun cq => ?_) (fun cq => ?_)
  · have hw := hw.1 cq
    refine m_iload_n hc 1 dX3_set_83 rfl rfl ?_
    obtain ⟨ht, hw⟩ := hw
    refine c_puti hc hr ciX3 (Nat.le_of_ble_eq_true rfl) 4 (Nat.le_of_ble_eq_true rfl) rfl dX3_set_84 lf_X3_26 ht (Or.inl rfl) ⟨rfl, rfl⟩ ?_
    refine m_aload_n hc 0 dX3_set_87 rfl rfl ?_
    refine m_iload hc 2 dX3_set_88 rfl ?_
    obtain ⟨ht, hw⟩ := hw
    refine c_puti hc hr ciX3 (Nat.le_of_ble_eq_true rfl) 5 (Nat.le_of_ble_eq_true rfl) rfl dX3_set_90 lf_X3_29 ht (Or.inl rfl) ⟨rfl, rfl⟩ ?_
    exact c_vret hc hr dX3_set_93 hw
  · have hw := hw.2 cq
    refine m_iconst hc 0 dX3_set_79 (by decide) ?_
    refine m_goto hc 84 dX3_set_80 rfl ?_
    obtain ⟨ht, hw⟩ := hw
    refine c_puti hc hr ciX3 (Nat.le_of_ble_eq_true rfl) 4 (Nat.le_of_ble_eq_true rfl) rfl dX3_set_84 lf_X3_26 ht (Or.inl rfl) ⟨rfl, rfl⟩ ?_
    refine m_aload_n hc 0 dX3_set_87 rfl rfl ?_
    refine m_iload hc 2 dX3_set_88 rfl ?_
    obtain ⟨ht, hw⟩ := hw
    refine c_puti hc hr ciX3 (Nat.le_of_ble_eq_true rfl) 5 (Nat.le_of_ble_eq_true rfl) rfl dX3_set_90 lf_X3_29 ht (Or.inl rfl) ⟨rfl, rfl⟩ ?_
    exact c_vret hc hr dX3_set_93 hw
def w_X3_set_51 (M : Nat × Nat) (K : Int32 → HS → Prop) (x0 : Nat) (x2 x3 x4 s0 : Int32) (s1 : Nat) (S : HS) : Prop := hT S s1 = 4 ∧ hT (sI S s1 2 s0) x0 = 4 ∧ (¬ (hI (sI S s1 2 s0) x0 0) = 0 → w_X3_set_67 M K x0 x3 x4 0 x0 (sI S s1 2 s0)) ∧ ((hI (sI S s1 2 s0) x0 0) = 0 → w_X3_set_67 M K x0 x3 x4 x2 x0 (sI S s1 2 s0))
set_option maxHeartbeats 4000000 in
set_option maxRecDepth 100000 in
theorem b_X3_set_51 {G : CG} {S0 : HS} {X : Fx} {K : Int32 → HS → Prop} (hc : Cx X RX3 cX3_set 5) (hr : Cc G S0 0 none (kV K) X) : ∀ (x0 : Nat) (x2 x3 x4 s0 : Int32) (s1 : Nat) (S : HS), w_X3_set_51 (gC G, gS G) K x0 x2 x3 x4 s0 s1 S → MC G S0 X 5 S 51 [(0, .ref x0), (2, .int x2), (3, .int x3), (4, .int x4)] [.int s0, .ref s1] := by
  intro x0 x2 x3 x4 s0 s1 S hw
  unfold w_X3_set_51 at hw
  obtain ⟨ht, hw⟩ := hw
  refine c_puti hc hr ciX3 (Nat.le_of_ble_eq_true rfl) 2 (Nat.le_of_ble_eq_true rfl) rfl dX3_set_51 lf_X3_20 ht (Or.inl rfl) ⟨rfl, rfl⟩ ?_
  refine m_aload_n hc 0 dX3_set_54 rfl rfl ?_
  refine m_aload_n hc 0 dX3_set_55 rfl rfl ?_
  obtain ⟨ht, hw⟩ := hw
  refine c_geti hc hr ciX3 (Nat.le_of_ble_eq_true rfl) 0 (Nat.le_of_ble_eq_true rfl) rfl dX3_set_56 lf_X3_13 ht ?_
  refine m_if_ne hc 66 dX3_set_59 rfl (fun cq => ?_) (fun cq => ?_)
  · have hw := hw.1 cq
    refine m_iconst hc 0 dX3_set_66 (by decide) ?_
    refine m_sub [0, 2, 3] rfl ?_
    exact b_X3_set_67 hc hr x0 x3 x4 0 x0 (sI S s1 2 s0) hw
  · have hw := hw.2 cq
    refine m_iload_n hc 1 dX3_set_62 rfl rfl ?_
    refine m_goto hc 67 dX3_set_63 rfl ?_
    refine m_sub [0, 2, 3] rfl ?_
    exact b_X3_set_67 hc hr x0 x3 x4 x2 x0 (sI S s1 2 s0) hw
def w_X3_set_34 (M : Nat × Nat) (K : Int32 → HS → Prop) (x0 : Nat) (x2 x3 x4 s0 : Int32) (s1 : Nat) (S : HS) : Prop := hT S s1 = 4 ∧ hT (sI S s1 1 s0) x0 = 4 ∧ (¬ (hI (sI S s1 1 s0) x0 0) = 2 → w_X3_set_51 M K x0 x2 x3 x4 2 x0 (sI S s1 1 s0)) ∧ ((hI (sI S s1 1 s0) x0 0) = 2 → w_X3_set_51 M K x0 x2 x3 x4 1 x0 (sI S s1 1 s0))
set_option maxHeartbeats 4000000 in
set_option maxRecDepth 100000 in
theorem b_X3_set_34 {G : CG} {S0 : HS} {X : Fx} {K : Int32 → HS → Prop} (hc : Cx X RX3 cX3_set 5) (hr : Cc G S0 0 none (kV K) X) : ∀ (x0 : Nat) (x2 x3 x4 s0 : Int32) (s1 : Nat) (S : HS), w_X3_set_34 (gC G, gS G) K x0 x2 x3 x4 s0 s1 S → MC G S0 X 5 S 34 [(0, .ref x0), (2, .int x2), (3, .int x3), (4, .int x4)] [.int s0, .ref s1] := by
  intro x0 x2 x3 x4 s0 s1 S hw
  unfold w_X3_set_34 at hw
  obtain ⟨ht, hw⟩ := hw
  refine c_puti hc hr ciX3 (Nat.le_of_ble_eq_true rfl) 1 (Nat.le_of_ble_eq_true rfl) rfl dX3_set_34 lf_X3_17 ht (Or.inl rfl) ⟨rfl, rfl⟩ ?_
  refine m_aload_n hc 0 dX3_set_37 rfl rfl ?_
  refine m_aload_n hc 0 dX3_set_38 rfl rfl ?_
  obtain ⟨ht, hw⟩ := hw
  refine c_geti hc hr ciX3 (Nat.le_of_ble_eq_true rfl) 0 (Nat.le_of_ble_eq_true rfl) rfl dX3_set_39 lf_X3_13 ht ?_
  refine m_iconst hc 2 dX3_set_42 (by decide) ?_
  refine m_icmp_ne hc 50 dX3_set_43 rfl (fun cq => ?_) (fun cq => ?_)
  · have hw := hw.1 cq
    refine m_iconst hc 2 dX3_set_50 (by decide) ?_
    exact b_X3_set_51 hc hr x0 x2 x3 x4 2 x0 (sI S s1 1 s0) hw
  · have hw := hw.2 cq
    refine m_iconst hc 1 dX3_set_46 (by decide) ?_
    refine m_goto hc 51 dX3_set_47 rfl ?_
    exact b_X3_set_51 hc hr x0 x2 x3 x4 1 x0 (sI S s1 1 s0) hw
def w_X3_set_18 (M : Nat × Nat) (K : Int32 → HS → Prop) (x0 : Nat) (x2 x3 x4 s0 : Int32) (s1 : Nat) (S : HS) : Prop := hT S s1 = 4 ∧ hT (sI S s1 0 s0) x0 = 4 ∧ (¬ (hI (sI S s1 0 s0) x0 0) = 0 → w_X3_set_34 M K x0 x2 x3 x4 0 x0 (sI S s1 0 s0)) ∧ ((hI (sI S s1 0 s0) x0 0) = 0 → w_X3_set_34 M K x0 x2 x3 x4 1 x0 (sI S s1 0 s0))
set_option maxHeartbeats 4000000 in
set_option maxRecDepth 100000 in
theorem b_X3_set_18 {G : CG} {S0 : HS} {X : Fx} {K : Int32 → HS → Prop} (hc : Cx X RX3 cX3_set 5) (hr : Cc G S0 0 none (kV K) X) : ∀ (x0 : Nat) (x2 x3 x4 s0 : Int32) (s1 : Nat) (S : HS), w_X3_set_18 (gC G, gS G) K x0 x2 x3 x4 s0 s1 S → MC G S0 X 5 S 18 [(0, .ref x0), (2, .int x2), (3, .int x3), (4, .int x4)] [.int s0, .ref s1] := by
  intro x0 x2 x3 x4 s0 s1 S hw
  unfold w_X3_set_18 at hw
  obtain ⟨ht, hw⟩ := hw
  refine c_puti hc hr ciX3 (Nat.le_of_ble_eq_true rfl) 0 (Nat.le_of_ble_eq_true rfl) rfl dX3_set_18 lf_X3_13 ht (Or.inl rfl) ⟨rfl, rfl⟩ ?_
  refine m_aload_n hc 0 dX3_set_21 rfl rfl ?_
  refine m_aload_n hc 0 dX3_set_22 rfl rfl ?_
  obtain ⟨ht, hw⟩ := hw
  refine c_geti hc hr ciX3 (Nat.le_of_ble_eq_true rfl) 0 (Nat.le_of_ble_eq_true rfl) rfl dX3_set_23 lf_X3_13 ht ?_
  refine m_if_ne hc 33 dX3_set_26 rfl (fun cq => ?_) (fun cq => ?_)
  · have hw := hw.1 cq
    refine m_iconst hc 0 dX3_set_33 (by decide) ?_
    exact b_X3_set_34 hc hr x0 x2 x3 x4 0 x0 (sI S s1 0 s0) hw
  · have hw := hw.2 cq
    refine m_iconst hc 1 dX3_set_29 (by decide) ?_
    refine m_goto hc 34 dX3_set_30 rfl ?_
    exact b_X3_set_34 hc hr x0 x2 x3 x4 1 x0 (sI S s1 0 s0) hw
def wp_X3_set (M : Nat × Nat) (x0 : Nat) (x1 x2 x3 x4 : Int32) (S : HS) (K : Int32 → HS → Prop) : Prop := (x1 = 0 → (x2 = 0 → w_X3_set_18 M K x0 x2 x3 x4 2 x0 S) ∧ (¬ (x2 = 0) → w_X3_set_18 M K x0 x2 x3 x4 1 x0 S)) ∧ (¬ (x1 = 0) → w_X3_set_18 M K x0 x2 x3 x4 0 x0 S)
set_option maxHeartbeats 4000000 in
set_option maxRecDepth 100000 in
theorem ok_X3_set {G : CG} {x0 : Nat} {x1 : Int32} {x2 : Int32} {x3 : Int32} {x4 : Int32} {S : HS} {K : Int32 → HS → Prop} (hw : wp_X3_set (gC G, gS G) x0 x1 x2 x3 x4 S K) : CC 0 yX3_set cX3_set 5 none [.ref x0, .int x1, .int x2, .int x3, .int x4] G S (kV K) := by
  refine CC.of (by decide +kernel) (Nat.le_of_ble_eq_true rfl) (fun X hc hr hname => ?_)
  show MC G S X 5 S 0 [(0, .ref x0), (1, .int x1), (2, .int x2), (3, .int x3), (4, .int x4)] []
  unfold wp_X3_set at hw
  refine m_aload_n hc 0 dX3_set_0 rfl rfl ?_
  refine m_iload_n hc 1 dX3_set_1 rfl rfl ?_
  refine m_if_eq hc 9 dX3_set_2 rfl (fun cq => ?_) (fun cq => ?_)
  · have hw := hw.1 cq
    refine m_iload_n hc 2 dX3_set_9 rfl rfl ?_
    refine m_if_eq hc 17 dX3_set_10 rfl (fun cq => ?_) (fun cq => ?_)
    · have hw := hw.1 cq
      refine m_iconst hc 2 dX3_set_17 (by decide) ?_
      refine m_sub [0, 2, 3, 4] rfl ?_
      exact b_X3_set_18 hc hr x0 x2 x3 x4 2 x0 S hw
    · have hw := hw.2 cq
      refine m_iconst hc 1 dX3_set_13 (by decide) ?_
      refine m_goto hc 18 dX3_set_14 rfl ?_
      refine m_sub [0, 2, 3, 4] rfl ?_
      exact b_X3_set_18 hc hr x0 x2 x3 x4 1 x0 S hw
  · have hw := hw.2 cq
    refine m_iconst hc 0 dX3_set_5 (by decide) ?_
    refine m_goto hc 18 dX3_set_6 rfl ?_
    refine m_sub [0, 2, 3, 4] rfl ?_
    exact b_X3_set_18 hc hr x0 x2 x3 x4 0 x0 S hw
