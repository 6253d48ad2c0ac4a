def wb_isStoodOn_24 (K16 : Int32 → Int32 → Int32 → RS → Prop) (K24 : Int32 → Int32 → Int32 → Int32 → RS → Prop) (K : Int32 → RS → Prop) (x1 x2 x3 x4 : Int32) (R : RS) : Prop := (x3 ≤ x4 → K16 x1 x2 (x3 + (-1)) R) ∧ (¬ (x3 ≤ x4) → (¬ ((x2 >>> (x3 &&& 31)) &&& 1) = 1 → K24 x1 x2 x3 (x4 + 1) R) ∧ (((x2 >>> (x3 &&& 31)) &&& 1) = 1 → wp_has x3 x4 R (fun r1 R1 => (r1 = 0 → K24 x1 x2 x3 (x4 + 1) R1) ∧ (¬ (r1 = 0) → ∀ v2 : Int32, v2 = (x2 ||| (1 <<< (x4 &&& 31))) → K24 x1 v2 x3 (x4 + 1) R1))))
def wl_isStoodOn_24 (K16 : Int32 → Int32 → Int32 → RS → Prop) (K : Int32 → RS → Prop) : Nat → Int32 → Int32 → Int32 → Int32 → RS → Prop
  | 0 => fun _ _ _ _ _ => False
  | nn + 1 => wb_isStoodOn_24 K16 (wl_isStoodOn_24 K16 K nn) K
set_option maxHeartbeats 4000000 in
set_option maxRecDepth 100000 in
theorem l_isStoodOn_24 {G : RG} {X : Fx} {K : Int32 → RS → Prop} (hok : okG G) (hc : Cx X RX12 cX12_isStoodOn 5) (hr : Cr G 2 (some .boolean) K X) (K16 : Int32 → Int32 → Int32 → RS → Prop) (h16 : ∀ (x1 x2 x3 : Int32) (R : RS), K16 x1 x2 x3 R → MR G X 5 R 16 [(0, .ref G.2.2.1), (1, .int x1), (2, .int x2), (3, .int x3)] []) : ∀ (nn : Nat) (x1 x2 x3 x4 : Int32) (R : RS), wl_isStoodOn_24 K16 K nn x1 x2 x3 x4 R → MR G X 5 R 24 [(0, .ref G.2.2.1), (1, .int x1), (2, .int x2), (3, .int x3), (4, .int x4)] [] := by
  intro nn
  induction nn with
  | zero => intro x1 x2 x3 x4 R hw; exact False.elim hw
  | succ nn ih =>
    intro x1 x2 x3 x4 R hw
    have hw : wb_isStoodOn_24 K16 (wl_isStoodOn_24 K16 K nn) K x1 x2 x3 x4 R := hw
    have h24 := ih
    generalize wl_isStoodOn_24 K16 K nn = K24 at hw h24
    unfold wb_isStoodOn_24 at hw
    refine m_iload hc 4 dX12_isStoodOn_24 rfl ?_
    refine m_iload_n hc 3 dX12_isStoodOn_26 rfl rfl ?_
    refine m_icmp_ge hc 62 dX12_isStoodOn_27 rfl (fun cq => ?_) (fun cq => ?_)
    · have hw := hw.1 cq
      refine m_iinc hc 3 (x3 + (-1)) [(3, .int (x3 + (-1))), (0, .ref G.2.2.1), (1, .int x1), (2, .int x2), (4, .int x4)] dX12_isStoodOn_62 rfl rfl (Nat.le_of_ble_eq_true rfl) rfl ?_
      refine m_goto hc 16 dX12_isStoodOn_65 rfl ?_
      refine m_sub [1, 2, 3, 0] rfl ?_
      exact h16 x1 x2 (x3 + (-1)) R hw
    · have hw := hw.2 cq
      refine m_iload_n hc 2 dX12_isStoodOn_30 rfl rfl ?_
      refine m_iload_n hc 3 dX12_isStoodOn_31 rfl rfl ?_
      refine m_ishr hc dX12_isStoodOn_32 ?_
      refine m_iconst hc 1 dX12_isStoodOn_33 (by decide) ?_
      refine m_iand hc dX12_isStoodOn_34 ?_
      refine m_iconst hc 1 dX12_isStoodOn_35 (by decide) ?_
      refine m_icmp_ne hc 56 dX12_isStoodOn_36 rfl (fun cq => ?_) (fun cq => ?_)
      · have hw := hw.1 cq
        refine m_iinc hc 4 (x4 + 1) [(4, .int (x4 + 1)), (0, .ref G.2.2.1), (1, .int x1), (2, .int x2), (3, .int x3)] dX12_isStoodOn_56 rfl rfl (Nat.le_of_ble_eq_true rfl) rfl ?_
        refine m_goto hc 24 dX12_isStoodOn_59 rfl ?_
        refine m_sub [1, 2, 3, 4, 0] rfl ?_
        exact h24 x1 x2 x3 (x4 + 1) R hw
      · have hw := hw.2 cq
        refine m_aload_n hc 0 dX12_isStoodOn_39 rfl rfl ?_
        refine m_iload_n hc 3 dX12_isStoodOn_40 rfl rfl ?_
        refine m_iload hc 4 dX12_isStoodOn_41 rfl ?_
        refine r_callVi hc hr mt_has rfl lm_X12_397 (ok_has hok hw) (Nat.le_of_ble_eq_true rfl) dX12_isStoodOn_43 rfl (rest := []) rfl (Nat.le_of_ble_eq_true rfl) (fun r1 R1 hw => ?_)
        refine m_if_eq hc 56 dX12_isStoodOn_46 rfl (fun cq => ?_) (fun cq => ?_)
        · have hw := hw.1 cq
          refine m_iinc hc 4 (x4 + 1) [(4, .int (x4 + 1)), (0, .ref G.2.2.1), (1, .int x1), (2, .int x2), (3, .int x3)] dX12_isStoodOn_56 rfl rfl (Nat.le_of_ble_eq_true rfl) rfl ?_
          refine m_goto hc 24 dX12_isStoodOn_59 rfl ?_
          refine m_sub [1, 2, 3, 4, 0] rfl ?_
          exact h24 x1 x2 x3 (x4 + 1) R1 hw
        · have hw := hw.2 cq
          refine m_iload_n hc 2 dX12_isStoodOn_49 rfl rfl ?_
          refine m_iconst hc 1 dX12_isStoodOn_50 (by decide) ?_
          refine m_iload hc 4 dX12_isStoodOn_51 rfl ?_
          refine m_ishl hc dX12_isStoodOn_53 ?_
          refine m_ior hc dX12_isStoodOn_54 ?_
          refine m_topi (fun v2 e_v2 => ?_)
          have hw := hw v2 e_v2
          refine m_istore_n hc [(2, .int v2), (0, .ref G.2.2.1), (1, .int x1), (3, .int x3), (4, .int x4)] dX12_isStoodOn_55 rfl (Nat.le_of_ble_eq_true rfl) rfl ?_
          refine m_iinc hc 4 (x4 + 1) [(4, .int (x4 + 1)), (2, .int v2), (0, .ref G.2.2.1), (1, .int x1), (3, .int x3)] dX12_isStoodOn_56 rfl rfl (Nat.le_of_ble_eq_true rfl) rfl ?_
          refine m_goto hc 24 dX12_isStoodOn_59 rfl ?_
          refine m_sub [2, 3, 1, 4, 0] rfl ?_
          exact h24 x1 v2 x3 (x4 + 1) R1 hw
def wb_isStoodOn_16 (K16 : Int32 → Int32 → Int32 → RS → Prop) (K : Int32 → RS → Prop) (x1 x2 x3 : Int32) (R : RS) : Prop := (x3 ≤ x1 → (¬ ((x2 >>> (x1 &&& 31)) &&& 1) = 1 → K 0 R) ∧ (((x2 >>> (x1 &&& 31)) &&& 1) = 1 → K 1 R)) ∧ (¬ (x3 ≤ x1) → ∃ nn : Nat, wl_isStoodOn_24 K16 K nn x1 x2 x3 0 R)
def wl_isStoodOn_16 (K : Int32 → RS → Prop) : Nat → Int32 → Int32 → Int32 → RS → Prop
  | 0 => fun _ _ _ _ => False
  | nn + 1 => wb_isStoodOn_16 (wl_isStoodOn_16 K nn) K
set_option maxHeartbeats 4000000 in
set_option maxRecDepth 100000 in
theorem l_isStoodOn_16 {G : RG} {X : Fx} {K : Int32 → RS → Prop} (hok : okG G) (hc : Cx X RX12 cX12_isStoodOn 5) (hr : Cr G 2 (some .boolean) K X) : ∀ (nn : Nat) (x1 x2 x3 : Int32) (R : RS), wl_isStoodOn_16 K nn x1 x2 x3 R → MR G X 5 R 16 [(0, .ref G.2.2.1), (1, .int x1), (2, .int x2), (3, .int x3)] [] := by
  intro nn
  induction nn with
  | zero => intro x1 x2 x3 R hw; exact False.elim hw
  | succ nn ih =>
    intro x1 x2 x3 R hw
    have hw : wb_isStoodOn_16 (wl_isStoodOn_16 K nn) K x1 x2 x3 R := hw
    have h16 := ih
    generalize wl_isStoodOn_16 K nn = K16 at hw h16
    unfold wb_isStoodOn_16 at hw
    refine m_iload_n hc 3 dX12_isStoodOn_16 rfl rfl ?_
    refine m_iload_n hc 1 dX12_isStoodOn_17 rfl rfl ?_
    refine m_icmp_le hc 68 dX12_isStoodOn_18 rfl (fun cq => ?_) (fun cq => ?_)
    · have hw := hw.1 cq
      refine m_iload_n hc 2 dX12_isStoodOn_68 rfl rfl ?_
      refine m_iload_n hc 1 dX12_isStoodOn_69 rfl rfl ?_
      refine m_ishr hc dX12_isStoodOn_70 ?_
      refine m_iconst hc 1 dX12_isStoodOn_71 (by decide) ?_
      refine m_iand hc dX12_isStoodOn_72 ?_
      refine m_iconst hc 1 dX12_isStoodOn_73 (by decide) ?_
      refine m_icmp_ne hc 81 dX12_isStoodOn_74 rfl (fun cq => ?_) (fun cq => ?_)
      · have hw := hw.1 cq
        refine m_iconst hc 0 dX12_isStoodOn_81 (by decide) ?_
        exact r_zret hc hr dX12_isStoodOn_82 (by decide) hw
      · have hw := hw.2 cq
        refine m_iconst hc 1 dX12_isStoodOn_77 (by decide) ?_
        refine m_goto hc 82 dX12_isStoodOn_78 rfl ?_
        exact r_zret hc hr dX12_isStoodOn_82 (by decide) hw
    · have hw := hw.2 cq
      refine m_iconst hc 0 dX12_isStoodOn_21 (by decide) ?_
      refine m_istore hc [(4, .int 0), (0, .ref G.2.2.1), (1, .int x1), (2, .int x2), (3, .int x3)] dX12_isStoodOn_22 (Nat.le_of_ble_eq_true rfl) rfl ?_
      refine m_sub [1, 2, 3, 4, 0] rfl ?_
      obtain ⟨nn, hw⟩ := hw
      exact l_isStoodOn_24 hok hc hr K16 h16 nn x1 x2 x3 0 R hw
def wp_isStoodOn (x1 : Int32) (R : RS) (K : Int32 → RS → Prop) : Prop := ∀ v1 : Int32, v1 = (1 <<< (((R 0 37) - 1) &&& 31)) → ∃ nn : Nat, wl_isStoodOn_16 K nn x1 v1 ((R 0 37) - 1) R
set_option maxHeartbeats 4000000 in
set_option maxRecDepth 100000 in
theorem ok_isStoodOn {G : RG} (hok : okG G) {x1 : Int32} {R : RS} {K : Int32 → RS → Prop} (hw : wp_isStoodOn x1 R K) : CF 2 yX12_isStoodOn cX12_isStoodOn 5 (some .boolean) [.ref G.2.2.1, .int x1] G R K := by
  refine CF.of (by decide +kernel) hok (Nat.le_of_ble_eq_true rfl) (fun X hc hr => ?_)
  show MR G X 5 R 0 [(0, .ref G.2.2.1), (1, .int x1)] []
  unfold wp_isStoodOn at hw
  refine m_iconst hc 1 dX12_isStoodOn_0 (by decide) ?_
  refine m_aload_n hc 0 dX12_isStoodOn_1 rfl rfl ?_
  refine r_geti hc hr 37 dX12_isStoodOn_2 lf_X12_194 (Nat.le_of_ble_eq_true rfl) rfl ?_
  refine m_iconst hc 1 dX12_isStoodOn_5 (by decide) ?_
  refine m_isub hc dX12_isStoodOn_6 ?_
  refine m_ishl hc dX12_isStoodOn_7 ?_
  refine m_topi (fun v1 e_v1 => ?_)
  have hw := hw v1 e_v1
  refine m_istore_n hc [(2, .int v1), (0, .ref G.2.2.1), (1, .int x1)] dX12_isStoodOn_8 rfl (Nat.le_of_ble_eq_true rfl) rfl ?_
  refine m_aload_n hc 1 dX12_isStoodOn_9 rfl rfl ?_
  refine r_geti hc hr 37 dX12_isStoodOn_10 lf_X12_194 (Nat.le_of_ble_eq_true rfl) rfl ?_
  refine m_iconst hc 1 dX12_isStoodOn_13 (by decide) ?_
  refine m_isub hc dX12_isStoodOn_14 ?_
  refine m_istore_n hc [(3, .int ((R 0 37) - 1)), (2, .int v1), (0, .ref G.2.2.1), (1, .int x1)] dX12_isStoodOn_15 rfl (Nat.le_of_ble_eq_true rfl) rfl ?_
  refine m_sub [2, 3, 1, 0] rfl ?_
  obtain ⟨nn, hw⟩ := hw
  exact l_isStoodOn_16 hok hc hr nn x1 v1 ((R 0 37) - 1) R hw
def wb_step_144 (K144 : Int32 → Int32 → Int32 → RS → Prop) (K : Int32 → RS → Prop) (x1 x3 x4 : Int32) (R : RS) : Prop := ((R 0 37) ≤ x4 → K x3 R) ∧ (¬ ((R 0 37) ≤ x4) → wp_has x4 x1 R (fun r1 R1 => (r1 = 0 → K144 x1 (x3 + 0) (x4 + 1) R1) ∧ (¬ (r1 = 0) → K144 x1 (x3 + 1) (x4 + 1) R1)))
def wl_step_144 (K : Int32 → RS → Prop) : Nat → Int32 → Int32 → Int32 → RS → Prop
  | 0 => fun _ _ _ _ => False
  | nn + 1 => wb_step_144 (wl_step_144 K nn) K
set_option maxHeartbeats 4000000 in
set_option maxRecDepth 100000 in
theorem l_step_144 {G : RG} {X : Fx} {K : Int32 → RS → Prop} (hok : okG G) (hc : Cx X RX12 cX12_step 5) (hr : Cr G 3 (some .int) K X) : ∀ (nn : Nat) (x1 x3 x4 : Int32) (R : RS), wl_step_144 K nn x1 x3 x4 R → MR G X 5 R 144 [(0, .ref G.2.2.1), (1, .int x1), (3, .int x3), (4, .int x4)] [] := by
  intro nn
  induction nn with
  | zero => intro x1 x3 x4 R hw; exact False.elim hw
  | succ nn ih =>
    intro x1 x3 x4 R hw
    have hw : wb_step_144 (wl_step_144 K nn) K x1 x3 x4 R := hw
    have h144 := ih
    generalize wl_step_144 K nn = K144 at hw h144
    unfold wb_step_144 at hw
    refine m_iload hc 3 dX12_step_144 rfl ?_
    refine m_aload_n hc 0 dX12_step_146 rfl rfl ?_
    refine r_geti hc hr 37 dX12_step_147 lf_X12_194 (Nat.le_of_ble_eq_true rfl) rfl ?_
    refine m_icmp_ge hc 177 dX12_step_150 rfl (fun cq => ?_) (fun cq => ?_)
    · have hw := hw.1 cq
      refine m_iload_n hc 2 dX12_step_177 rfl rfl ?_
      exact r_iret hc hr dX12_step_178 hw
    · have hw := hw.2 cq
      refine m_iload_n hc 2 dX12_step_153 rfl rfl ?_
      refine m_aload_n hc 0 dX12_step_154 rfl rfl ?_
      refine m_iload hc 3 dX12_step_155 rfl ?_
      refine m_iload_n hc 1 dX12_step_157 rfl rfl ?_
      refine r_callVi hc hr mt_has rfl lm_X12_397 (ok_has hok hw) (Nat.le_of_ble_eq_true rfl) dX12_step_158 rfl (rest := [.int x3]) rfl (Nat.le_of_ble_eq_true rfl) (fun r1 R1 hw => ?_)
      refine m_if_eq hc 168 dX12_step_161 rfl (fun cq => ?_) (fun cq => ?_)
      · have hw := hw.1 cq
        refine m_iconst hc 0 dX12_step_168 (by decide) ?_
        refine m_iadd hc dX12_step_169 ?_
        refine m_istore_n hc [(3, .int (x3 + 0)), (0, .ref G.2.2.1), (1, .int x1), (4, .int x4)] dX12_step_170 rfl (Nat.le_of_ble_eq_true rfl) rfl ?_
        refine m_iinc hc 3 (x4 + 1) [(4, .int (x4 + 1)), (3, .int (x3 + 0)), (0, .ref G.2.2.1), (1, .int x1)] dX12_step_171 rfl rfl (Nat.le_of_ble_eq_true rfl) rfl ?_
        refine m_goto hc 144 dX12_step_174 rfl ?_
        refine m_sub [2, 3, 1, 0] rfl ?_
        exact h144 x1 (x3 + 0) (x4 + 1) R1 hw
      · have hw := hw.2 cq
        refine m_iconst hc 1 dX12_step_164 (by decide) ?_
        refine m_goto hc 169 dX12_step_165 rfl ?_
        refine m_iadd hc dX12_step_169 ?_
        refine m_istore_n hc [(3, .int (x3 + 1)), (0, .ref G.2.2.1), (1, .int x1), (4, .int x4)] dX12_step_170 rfl (Nat.le_of_ble_eq_true rfl) rfl ?_
        refine m_iinc hc 3 (x4 + 1) [(4, .int (x4 + 1)), (3, .int (x3 + 1)), (0, .ref G.2.2.1), (1, .int x1)] dX12_step_171 rfl rfl (Nat.le_of_ble_eq_true rfl) rfl ?_
        refine m_goto hc 144 dX12_step_174 rfl ?_
        refine m_sub [2, 3, 1, 0] rfl ?_
        exact h144 x1 (x3 + 1) (x4 + 1) R1 hw
def wb_step_118 (K118 : Int32 → Int32 → RS → Prop) (K : Int32 → RS → Prop) (x1 x3 : Int32) (R : RS) : Prop := wp_areSame (6 + x3) (6 + x1) R (fun r1 R1 => (¬ r1 = 0 → K x3 R1) ∧ (r1 = 0 → K118 x1 (x3 + 1) R1))
def wl_step_118 (K : Int32 → RS → Prop) : Nat → Int32 → Int32 → RS → Prop
  | 0 => fun _ _ _ => False
  | nn + 1 => wb_step_118 (wl_step_118 K nn) K
set_option maxHeartbeats 4000000 in
set_option maxRecDepth 100000 in
theorem l_step_118 {G : RG} {X : Fx} {K : Int32 → RS → Prop} (hok : okG G) (hc : Cx X RX12 cX12_step 5) (hr : Cr G 3 (some .int) K X) : ∀ (nn : Nat) (x1 x3 : Int32) (R : RS), wl_step_118 K nn x1 x3 R → MR G X 5 R 118 [(0, .ref G.2.2.1), (1, .int x1), (3, .int x3)] [] := by
  intro nn
  induction nn with
  | zero => intro x1 x3 R hw; exact False.elim hw
  | succ nn ih =>
    intro x1 x3 R hw
    have hw : wb_step_118 (wl_step_118 K nn) K x1 x3 R := hw
    have h118 := ih
    generalize wl_step_118 K nn = K118 at hw h118
    unfold wb_step_118 at hw
    refine m_aload_n hc 0 dX12_step_118 rfl rfl ?_
    refine m_bipush hc 6 dX12_step_119 (by decide) ?_
    refine m_iload_n hc 2 dX12_step_121 rfl rfl ?_
    refine m_iadd hc dX12_step_122 ?_
    refine m_bipush hc 6 dX12_step_123 (by decide) ?_
    refine m_iload_n hc 1 dX12_step_125 rfl rfl ?_
    refine m_iadd hc dX12_step_126 ?_
    refine r_callVi hc hr mt_areSame rfl lm_X12_351 (ok_areSame hok hw) (Nat.le_of_ble_eq_true rfl) dX12_step_127 rfl (rest := []) rfl (Nat.le_of_ble_eq_true rfl) (fun r1 R1 hw => ?_)
    refine m_if_ne hc 139 dX12_step_130 rfl (fun cq => ?_) (fun cq => ?_)
    · have hw := hw.1 cq
      refine m_iload_n hc 2 dX12_step_139 rfl rfl ?_
      exact r_iret hc hr dX12_step_140 hw
    · have hw := hw.2 cq
      refine m_iinc hc 2 (x3 + 1) [(3, .int (x3 + 1)), (0, .ref G.2.2.1), (1, .int x1)] dX12_step_133 rfl rfl (Nat.le_of_ble_eq_true rfl) rfl ?_
      refine m_goto hc 118 dX12_step_136 rfl ?_
      refine m_sub [1, 2, 0] rfl ?_
      exact h118 x1 (x3 + 1) R1 hw
def wp_step (x1 x2 : Int32) (R : RS) (K : Int32 → RS → Prop) : Prop := wp_isIn x1 0 (((up R 0 0 0) 0 37) - 1) (up R 0 0 0) (fun r1 R1 => (¬ r1 = 0 → ((Int32.toInt x2 < 0 ∨ 6 < Int32.toInt x2) → wp_fail 1 R1 (fun r2 R2 => K r2 R2)) ∧ (x2 = 0 → wp_boundOf x1 R1 (fun r3 R3 => K r3 R3)) ∧ (x2 = 1 → wp_degreeOf (6 + x1) R1 (fun r4 R4 => K r4 R4)) ∧ (x2 = 2 → vp_in (6 + x1) 56 ∧ K (R1 2 (Int32.toNatClampNeg (6 + x1))) R1) ∧ (x2 = 3 → vp_in x1 23 ∧ K (R1 29 (Int32.toNatClampNeg x1)) R1) ∧ (x2 = 4 → wp_isStoodOn x1 R1 (fun r5 R5 => (r5 = 0 → K 0 R5) ∧ (¬ (r5 = 0) → K 1 R5))) ∧ (x2 = 5 → ∃ nn : Nat, wl_step_118 K nn x1 0 R1) ∧ (x2 = 6 → ∃ nn : Nat, wl_step_144 K nn x1 0 0 R1)) ∧ (r1 = 0 → wp_fail 1 R1 (fun r6 R6 => K r6 R6)))
set_option maxHeartbeats 4000000 in
set_option maxRecDepth 100000 in
theorem ok_step {G : RG} (hok : okG G) {x1 : Int32} {x2 : Int32} {R : RS} {K : Int32 → RS → Prop} (hw : wp_step x1 x2 R K) : CF 3 yX12_step cX12_step 5 (some .int) [.ref G.2.2.1, .int x1, .int x2] G R K := by
  refine CF.of (by decide +kernel) hok (Nat.le_of_ble_eq_true rfl) (fun X hc hr => ?_)
  show MR G X 5 R 0 [(0, .ref G.2.2.1), (1, .int x1), (2, .int x2)] []
  unfold wp_step at hw
  refine m_aload_n hc 0 dX12_step_0 rfl rfl ?_
  refine m_iconst hc 0 dX12_step_1 (by decide) ?_
  refine r_put hc hr 0 dX12_step_2 lf_X12_116 (Nat.le_of_ble_eq_true rfl) rfl rfl (by decide +kernel) ?_
  refine m_iload_n hc 1 dX12_step_5 rfl rfl ?_
  refine m_iconst hc 0 dX12_step_6 (by decide) ?_
  refine m_aload_n hc 0 dX12_step_7 rfl rfl ?_
  refine r_geti hc hr 37 dX12_step_8 lf_X12_194 (Nat.le_of_ble_eq_true rfl) rfl ?_
  refine m_iconst hc 1 dX12_step_11 (by decide) ?_
  refine m_isub hc dX12_step_12 ?_
  refine r_callSi hc hr mt_isIn lm_X12_181 (ok_isIn hok hw) (Nat.le_of_ble_eq_true rfl) dX12_step_13 rfl (rest := []) rfl (Nat.le_of_ble_eq_true rfl) (fun r1 R1 hw => ?_)
  refine m_if_ne hc 25 dX12_step_16 rfl (fun cq => ?_) (fun cq => ?_)
  · have hw := hw.1 cq
    refine m_iconst hc 0 dX12_step_25 (by decide) ?_
    refine m_istore_n hc [(3, .int 0), (0, .ref G.2.2.1), (1, .int x1), (2, .int x2)] dX12_step_26 rfl (Nat.le_of_ble_eq_true rfl) rfl ?_
    refine m_iload_n hc 3 dX12_step_27 rfl rfl ?_
    rcases sw_in 6 (x := x2) (Nat.le_of_ble_eq_true rfl) with cq | ⟨cn, cl, cq⟩
    · have hw := hw.1 cq
      refine m_tout hc 179 dX12_step_28 cq rfl ?_
      refine m_aload_n hc 1 dX12_step_179 rfl rfl ?_
      refine m_iconst hc 1 dX12_step_180 (by decide) ?_
      refine r_callVi hc hr mt_fail rfl lm_X12_317 (ok_fail hok hw) (Nat.le_of_ble_eq_true rfl) dX12_step_181 rfl (rest := []) rfl (Nat.le_of_ble_eq_true rfl) (fun r2 R2 hw => ?_)
      exact r_iret hc hr dX12_step_184 hw
    · have hw := hw.2
      match cn, cl, cq with
      | 0, _, cq =>
        have cq : x2 = 0 := cq
        have hw := hw.1 cq
        refine m_tin hc (off := 44) 72 dX12_step_28 (by rw [cq]; decide) (by rw [cq]; decide) (by rw [cq]; rfl) rfl ?_
        refine m_aload_n hc 1 dX12_step_72 rfl rfl ?_
        refine m_iload_n hc 2 dX12_step_73 rfl rfl ?_
        refine r_callVi hc hr mt_boundOf rfl lm_X12_400 (ok_boundOf hok hw) (Nat.le_of_ble_eq_true rfl) dX12_step_74 rfl (rest := []) rfl (Nat.le_of_ble_eq_true rfl) (fun r3 R3 hw => ?_)
        exact r_iret hc hr dX12_step_77 hw
      | 1, _, cq =>
        have cq : x2 = 1 := cq
        have hw := hw.2.1 cq
        refine m_tin hc (off := 50) 78 dX12_step_28 (by rw [cq]; decide) (by rw [cq]; decide) (by rw [cq]; rfl) rfl ?_
        refine m_aload_n hc 1 dX12_step_78 rfl rfl ?_
        refine m_bipush hc 6 dX12_step_79 (by decide) ?_
        refine m_iload_n hc 2 dX12_step_81 rfl rfl ?_
        refine m_iadd hc dX12_step_82 ?_
        refine r_callVi hc hr mt_degreeOf rfl lm_X12_320 (ok_degreeOf hok hw) (Nat.le_of_ble_eq_true rfl) dX12_step_83 rfl (rest := []) rfl (Nat.le_of_ble_eq_true rfl) (fun r4 R4 hw => ?_)
        exact r_iret hc hr dX12_step_86 hw
      | 2, _, cq =>
        have cq : x2 = 2 := cq
        have hw := hw.2.2.1 cq
        refine m_tin hc (off := 59) 87 dX12_step_28 (by rw [cq]; decide) (by rw [cq]; decide) (by rw [cq]; rfl) rfl ?_
        refine m_aload_n hc 1 dX12_step_87 rfl rfl ?_
        refine r_geta hc hr 2 dX12_step_88 lf_X12_13 (Nat.le_of_ble_eq_true rfl) rfl ?_
        refine m_bipush hc 6 dX12_step_91 (by decide) ?_
        refine m_iload_n hc 2 dX12_step_93 rfl rfl ?_
        refine m_iadd hc dX12_step_94 ?_
        obtain ⟨hi, hw⟩ := hw
        refine r_iald hc hr (i := 0) (f := 2) rfl hi dX12_step_95 ?_
        exact r_iret hc hr dX12_step_96 hw
      | 3, _, cq =>
        have cq : x2 = 3 := cq
        have hw := hw.2.2.2.1 cq
        refine m_tin hc (off := 69) 97 dX12_step_28 (by rw [cq]; decide) (by rw [cq]; decide) (by rw [cq]; rfl) rfl ?_
        refine m_aload_n hc 1 dX12_step_97 rfl rfl ?_
        refine r_geta hc hr 29 dX12_step_98 lf_X12_77 (Nat.le_of_ble_eq_true rfl) rfl ?_
        refine m_iload_n hc 2 dX12_step_101 rfl rfl ?_
        obtain ⟨hi, hw⟩ := hw
        refine r_iald hc hr (i := 20) (f := 29) rfl hi dX12_step_102 ?_
        exact r_iret hc hr dX12_step_103 hw
      | 4, _, cq =>
        have cq : x2 = 4 := cq
        have hw := hw.2.2.2.2.1 cq
        refine m_tin hc (off := 76) 104 dX12_step_28 (by rw [cq]; decide) (by rw [cq]; decide) (by rw [cq]; rfl) rfl ?_
        refine m_aload_n hc 1 dX12_step_104 rfl rfl ?_
        refine m_iload_n hc 2 dX12_step_105 rfl rfl ?_
        refine r_callVi hc hr mt_isStoodOn rfl lm_X12_403 (ok_isStoodOn hok hw) (Nat.le_of_ble_eq_true rfl) dX12_step_106 rfl (rest := []) rfl (Nat.le_of_ble_eq_true rfl) (fun r5 R5 hw => ?_)
        refine m_if_eq hc 116 dX12_step_109 rfl (fun cq => ?_) (fun cq => ?_)
        · have hw := hw.1 cq
          refine m_iconst hc 0 dX12_step_116 (by decide) ?_
          exact r_iret hc hr dX12_step_117 hw
        · have hw := hw.2 cq
          refine m_iconst hc 1 dX12_step_112 (by decide) ?_
          refine m_goto hc 117 dX12_step_113 rfl ?_
          exact r_iret hc hr dX12_step_117 hw
      | 5, _, cq =>
        have cq : x2 = 5 := cq
        have hw := hw.2.2.2.2.2.1 cq
        refine m_tin hc (off := 90) 118 dX12_step_28 (by rw [cq]; decide) (by rw [cq]; decide) (by rw [cq]; rfl) rfl ?_
        refine m_sub [1, 2, 0] rfl ?_
        obtain ⟨nn, hw⟩ := hw
        exact l_step_118 hok hc hr nn x1 0 R1 hw
      | 6, _, cq =>
        have cq : x2 = 6 := cq
        have hw := hw.2.2.2.2.2.2 cq
        refine m_tin hc (off := 113) 141 dX12_step_28 (by rw [cq]; decide) (by rw [cq]; decide) (by rw [cq]; rfl) rfl ?_
        refine m_iconst hc 0 dX12_step_141 (by decide) ?_
        refine m_istore hc [(4, .int 0), (3, .int 0), (0, .ref G.2.2.1), (1, .int x1), (2, .int x2)] dX12_step_142 (Nat.le_of_ble_eq_true rfl) rfl ?_
        refine m_sub [2, 3, 1, 0] rfl ?_
        obtain ⟨nn, hw⟩ := hw
        exact l_step_144 hok hc hr nn x1 0 0 R1 hw
      | nn + 7, cl, _ => exact absurd cl (by omega)
  · have hw := hw.2 cq
    refine m_aload_n hc 0 dX12_step_19 rfl rfl ?_
    refine m_iconst hc 1 dX12_step_20 (by decide) ?_
    refine r_callVi hc hr mt_fail rfl lm_X12_317 (ok_fail hok hw) (Nat.le_of_ble_eq_true rfl) dX12_step_21 rfl (rest := []) rfl (Nat.le_of_ble_eq_true rfl) (fun r6 R6 hw => ?_)
    exact r_iret hc hr dX12_step_24 hw
def wp_valueOfAtom (x1 x2 x3 x4 : Int32) (R : RS) (K : Int32 → RS → Prop) : Prop := vp_in x1 46 ∧ ∀ v1 : Int32, v1 = (R 32 (Int32.toNatClampNeg x1)) → vp_in x1 46 ∧ (¬ (R 31 (Int32.toNatClampNeg x1)) = 0 → vp_in x1 46 ∧ (¬ (R 31 (Int32.toNatClampNeg x1)) = 1 → vp_in v1 23 ∧ K (R 40 (Int32.toNatClampNeg v1)) R) ∧ ((R 31 (Int32.toNatClampNeg x1)) = 1 → (¬ v1 = 0 → (¬ v1 = 1 → K x4 R) ∧ (v1 = 1 → K x3 R)) ∧ (v1 = 0 → K x2 R))) ∧ ((R 31 (Int32.toNatClampNeg x1)) = 0 → ¬ (R 0 1) = 0 ∧ (K (iRem v1 (R 0 1)) R))
set_option maxHeartbeats 4000000 in
set_option maxRecDepth 100000 in
theorem ok_valueOfAtom {G : RG} (hok : okG G) {x1 : Int32} {x2 : Int32} {x3 : Int32} {x4 : Int32} {R : RS} {K : Int32 → RS → Prop} (hw : wp_valueOfAtom x1 x2 x3 x4 R K) : CF 0 yX12_valueOfAtom cX12_valueOfAtom 6 (some .int) [.ref G.2.2.1, .int x1, .int x2, .int x3, .int x4] G R K := by
  refine CF.of (by decide +kernel) hok (Nat.le_of_ble_eq_true rfl) (fun X hc hr => ?_)
  show MR G X 6 R 0 [(0, .ref G.2.2.1), (1, .int x1), (2, .int x2), (3, .int x3), (4, .int x4)] []
  unfold wp_valueOfAtom at hw
  refine m_aload_n hc 0 dX12_valueOfAtom_0 rfl rfl ?_
  refine r_geta hc hr 32 dX12_valueOfAtom_1 lf_X12_86 (Nat.le_of_ble_eq_true rfl) rfl ?_
  refine m_iload_n hc 1 dX12_valueOfAtom_4 rfl rfl ?_
  obtain ⟨hi, hw⟩ := hw
  refine r_iald hc hr (i := 23) (f := 32) rfl hi dX12_valueOfAtom_5 ?_
  refine m_topi (fun v1 e_v1 => ?_)
  have hw := hw v1 e_v1
  refine m_istore hc [(5, .int v1), (0, .ref G.2.2.1), (1, .int x1), (2, .int x2), (3, .int x3), (4, .int x4)] dX12_valueOfAtom_6 (Nat.le_of_ble_eq_true rfl) rfl ?_
  refine m_aload_n hc 1 dX12_valueOfAtom_8 rfl rfl ?_
  refine r_geta hc hr 31 dX12_valueOfAtom_9 lf_X12_83 (Nat.le_of_ble_eq_true rfl) rfl ?_
  refine m_iload_n hc 2 dX12_valueOfAtom_12 rfl rfl ?_
  obtain ⟨hi, hw⟩ := hw
  refine r_iald hc hr (i := 22) (f := 31) rfl hi dX12_valueOfAtom_13 ?_
  refine m_if_ne hc 27 dX12_valueOfAtom_14 rfl (fun cq => ?_) (fun cq => ?_)
  · have hw := hw.1 cq
    refine m_aload_n hc 1 dX12_valueOfAtom_27 rfl rfl ?_
    refine r_geta hc hr 31 dX12_valueOfAtom_28 lf_X12_83 (Nat.le_of_ble_eq_true rfl) rfl ?_
    refine m_iload_n hc 2 dX12_valueOfAtom_31 rfl rfl ?_
    obtain ⟨hi, hw⟩ := hw
    refine r_iald hc hr (i := 22) (f := 31) rfl hi dX12_valueOfAtom_32 ?_
    refine m_iconst hc 1 dX12_valueOfAtom_33 (by decide) ?_
    refine m_icmp_ne hc 61 dX12_valueOfAtom_34 rfl (fun cq => ?_) (fun cq => ?_)
    · have hw := hw.1 cq
      refine m_aload_n hc 1 dX12_valueOfAtom_61 rfl rfl ?_
      refine r_geta hc hr 40 dX12_valueOfAtom_62 lf_X12_104 (Nat.le_of_ble_eq_true rfl) rfl ?_
      refine m_iload hc 0 dX12_valueOfAtom_65 rfl ?_
      obtain ⟨hi, hw⟩ := hw
      refine r_iald hc hr (i := 29) (f := 40) rfl hi dX12_valueOfAtom_67 ?_
      exact r_iret hc hr dX12_valueOfAtom_68 hw
    · have hw := hw.2 cq
      refine m_iload hc 0 dX12_valueOfAtom_37 rfl ?_
      refine m_if_ne hc 46 dX12_valueOfAtom_39 rfl (fun cq => ?_) (fun cq => ?_)
      · have hw := hw.1 cq
        refine m_iload hc 0 dX12_valueOfAtom_46 rfl ?_
        refine m_iconst hc 1 dX12_valueOfAtom_48 (by decide) ?_
        refine m_icmp_ne hc 56 dX12_valueOfAtom_49 rfl (fun cq => ?_) (fun cq => ?_)
        · have hw := hw.1 cq
          refine m_iload hc 5 dX12_valueOfAtom_56 rfl ?_
          refine m_goto hc 68 dX12_valueOfAtom_58 rfl ?_
          exact r_iret hc hr dX12_valueOfAtom_68 hw
        · have hw := hw.2 cq
          refine m_iload_n hc 4 dX12_valueOfAtom_52 rfl rfl ?_
          refine m_goto hc 68 dX12_valueOfAtom_53 rfl ?_
          exact r_iret hc hr dX12_valueOfAtom_68 hw
      · have hw := hw.2 cq
        refine m_iload_n hc 3 dX12_valueOfAtom_42 rfl rfl ?_
        refine m_goto hc 68 dX12_valueOfAtom_43 rfl ?_
        exact r_iret hc hr dX12_valueOfAtom_68 hw
  · have hw := hw.2 cq
    refine m_iload hc 0 dX12_valueOfAtom_17 rfl ?_
    refine m_aload_n hc 1 dX12_valueOfAtom_19 rfl rfl ?_
    refine r_geti hc hr 1 dX12_valueOfAtom_20 lf_X12_9 (Nat.le_of_ble_eq_true rfl) rfl ?_
    obtain ⟨hq, hw⟩ := hw
    refine m_irem hc dX12_valueOfAtom_23 hq ?_
    refine m_goto hc 68 dX12_valueOfAtom_24 rfl ?_
    exact r_iret hc hr dX12_valueOfAtom_68 hw
def wp_turnOfAtom (x1 x2 : Int32) (R : RS) (K : Int32 → RS → Prop) : Prop := wp_isName x1 R (fun r1 R1 => (r1 = 0 → K 0 R1) ∧ (¬ (r1 = 0) → vp_in x1 46 ∧ ((R1 32 (Int32.toNatClampNeg x1)) < x2 → K 0 R1) ∧ (¬ ((R1 32 (Int32.toNatClampNeg x1)) < x2) → vp_in x1 46 ∧ vp_in (R1 32 (Int32.toNatClampNeg x1)) 23 ∧ K (R1 41 (Int32.toNatClampNeg (R1 32 (Int32.toNatClampNeg x1)))) R1)))
set_option maxHeartbeats 4000000 in
set_option maxRecDepth 100000 in
theorem ok_turnOfAtom {G : RG} (hok : okG G) {x1 : Int32} {x2 : Int32} {R : RS} {K : Int32 → RS → Prop} (hw : wp_turnOfAtom x1 x2 R K) : CF 1 yX12_turnOfAtom cX12_turnOfAtom 3 (some .int) [.ref G.2.2.1, .int x1, .int x2] G R K := by
  refine CF.of (by decide +kernel) hok (Nat.le_of_ble_eq_true rfl) (fun X hc hr => ?_)
  show MR G X 3 R 0 [(0, .ref G.2.2.1), (1, .int x1), (2, .int x2)] []
  unfold wp_turnOfAtom at hw
  refine m_aload_n hc 0 dX12_turnOfAtom_0 rfl rfl ?_
  refine m_iload_n hc 1 dX12_turnOfAtom_1 rfl rfl ?_
  refine r_callVi hc hr mt_isName rfl lm_X12_390 (ok_isName hok hw) (Nat.le_of_ble_eq_true rfl) dX12_turnOfAtom_2 rfl (rest := []) rfl (Nat.le_of_ble_eq_true rfl) (fun r1 R1 hw => ?_)
  refine m_if_eq hc 32 dX12_turnOfAtom_5 rfl (fun cq => ?_) (fun cq => ?_)
  · have hw := hw.1 cq
    refine m_iconst hc 0 dX12_turnOfAtom_32 (by decide) ?_
    exact r_iret hc hr dX12_turnOfAtom_33 hw
  · have hw := hw.2 cq
    refine m_aload_n hc 0 dX12_turnOfAtom_8 rfl rfl ?_
    refine r_geta hc hr 32 dX12_turnOfAtom_9 lf_X12_86 (Nat.le_of_ble_eq_true rfl) rfl ?_
    refine m_iload_n hc 1 dX12_turnOfAtom_12 rfl rfl ?_
    obtain ⟨hi, hw⟩ := hw
    refine r_iald hc hr (i := 23) (f := 32) rfl hi dX12_turnOfAtom_13 ?_
    refine m_iload_n hc 2 dX12_turnOfAtom_14 rfl rfl ?_
    refine m_icmp_lt hc 32 dX12_turnOfAtom_15 rfl (fun cq => ?_) (fun cq => ?_)
    · have hw := hw.1 cq
      refine m_iconst hc 0 dX12_turnOfAtom_32 (by decide) ?_
      exact r_iret hc hr dX12_turnOfAtom_33 hw
    · have hw := hw.2 cq
      refine m_aload_n hc 0 dX12_turnOfAtom_18 rfl rfl ?_
      refine r_geta hc hr 41 dX12_turnOfAtom_19 lf_X12_107 (Nat.le_of_ble_eq_true rfl) rfl ?_
      refine m_aload_n hc 0 dX12_turnOfAtom_22 rfl rfl ?_
      refine r_geta hc hr 32 dX12_turnOfAtom_23 lf_X12_86 (Nat.le_of_ble_eq_true rfl) rfl ?_
      refine m_iload_n hc 1 dX12_turnOfAtom_26 rfl rfl ?_
      obtain ⟨hi, hw⟩ := hw
      refine r_iald hc hr (i := 23) (f := 32) rfl hi dX12_turnOfAtom_27 ?_
      obtain ⟨hi, hw⟩ := hw
      refine r_iald hc hr (i := 30) (f := 41) rfl hi dX12_turnOfAtom_28 ?_
      refine m_goto hc 33 dX12_turnOfAtom_29 rfl ?_
      exact r_iret hc hr dX12_turnOfAtom_33 hw
def w_layStep_342 (K : Int32 → RS → Prop) (x1 x2 : Int32) (R : RS) : Prop := (x2 ≤ x1 → K 0 R) ∧ (¬ (x2 ≤ x1) → vp_in x1 23 ∧ K 0 (up R 41 (Int32.toNatClampNeg x1) 0))
set_option maxHeartbeats 4000000 in
set_option maxRecDepth 100000 in
theorem b_layStep_342 {G : RG} {X : Fx} {K : Int32 → RS → Prop} (hok : okG G) (hc : Cx X RX12 cX12_layStep 12) (hr : Cr G 2 none K X) : ∀ (x1 x2 : Int32) (R : RS), w_layStep_342 K x1 x2 R → MR G X 12 R 342 [(0, .ref G.2.2.1), (1, .int x1), (2, .int x2)] [] := by
  intro x1 x2 R hw
  unfold w_layStep_342 at hw
  refine m_iload_n hc 1 dX12_layStep_342 rfl rfl ?_
  refine m_iload_n hc 2 dX12_layStep_343 rfl rfl ?_
  refine m_icmp_ge hc 354 dX12_layStep_344 rfl (fun cq => ?_) (fun cq => ?_)
  · have hw := hw.1 cq
    exact r_vret hc hr dX12_layStep_354 hw
  · have hw := hw.2 cq
    refine m_aload_n hc 0 dX12_layStep_347 rfl rfl ?_
    refine r_geta hc hr 41 dX12_layStep_348 lf_X12_107 (Nat.le_of_ble_eq_true rfl) rfl ?_
    refine m_iload_n hc 1 dX12_layStep_351 rfl rfl ?_
    refine m_iconst hc 0 dX12_layStep_352 (by decide) ?_
    obtain ⟨hi, hw⟩ := hw
    refine r_iast hc hr (i := 30) (f := 41) rfl hi dX12_layStep_353 ?_
    exact r_vret hc hr dX12_layStep_354 hw
def w_layStep_330 (K : Int32 → RS → Prop) (x1 x2 : Int32) (R : RS) : Prop := (¬ x1 = x2 → w_layStep_342 K x1 x2 R) ∧ (x1 = x2 → vp_in x1 23 ∧ w_layStep_342 K x1 x2 (up R 41 (Int32.toNatClampNeg x1) 1))
set_option maxHeartbeats 4000000 in
set_option maxRecDepth 100000 in
theorem b_layStep_330 {G : RG} {X : Fx} {K : Int32 → RS → Prop} (hok : okG G) (hc : Cx X RX12 cX12_layStep 12) (hr : Cr G 2 none K X) : ∀ (x1 x2 : Int32) (R : RS), w_layStep_330 K x1 x2 R → MR G X 12 R 330 [(0, .ref G.2.2.1), (1, .int x1), (2, .int x2)] [] := by
  intro x1 x2 R hw
  unfold w_layStep_330 at hw
  refine m_iload_n hc 1 dX12_layStep_330 rfl rfl ?_
  refine m_iload_n hc 2 dX12_layStep_331 rfl rfl ?_
  refine m_icmp_ne hc 342 dX12_layStep_332 rfl (fun cq => ?_) (fun cq => ?_)
  · have hw := hw.1 cq
    exact b_layStep_342 hok hc hr x1 x2 R hw
  · have hw := hw.2 cq
    refine m_aload_n hc 0 dX12_layStep_335 rfl rfl ?_
    refine r_geta hc hr 41 dX12_layStep_336 lf_X12_107 (Nat.le_of_ble_eq_true rfl) rfl ?_
    refine m_iload_n hc 1 dX12_layStep_339 rfl rfl ?_
    refine m_iconst hc 1 dX12_layStep_340 (by decide) ?_
    obtain ⟨hi, hw⟩ := hw
    refine r_iast hc hr (i := 30) (f := 41) rfl hi dX12_layStep_341 ?_
    exact b_layStep_342 hok hc hr x1 x2 (up R 41 (Int32.toNatClampNeg x1) 1) hw
def w_layStep_95 (K : Int32 → RS → Prop) (x1 x2 x6 x8 x9 s0 : Int32) (R : RS) : Prop := vp_in ((2 * x1) + 1) 46 ∧ ∀ v1 : Int32, v1 = (R 32 (Int32.toNatClampNeg ((2 * x1) + 1))) → vp_in x1 23 ∧ ((R 30 (Int32.toNatClampNeg x1)) = 42 → ¬ (R 0 1) = 0 ∧ (vp_in x1 23 ∧ wp_mod ((x9 * x8) + (x6 * s0)) (up R 40 (Int32.toNatClampNeg x1) (iRem (x6 * x8) (R 0 1))) (fun r2 R2 => vp_in x1 23 ∧ w_layStep_330 K x1 x2 (up R2 41 (Int32.toNatClampNeg x1) r2)))) ∧ ((R 30 (Int32.toNatClampNeg x1)) = 43 → wp_mod (x6 + x8) R (fun r3 R3 => vp_in x1 23 ∧ wp_mod (x9 + s0) (up R3 40 (Int32.toNatClampNeg x1) r3) (fun r4 R4 => vp_in x1 23 ∧ w_layStep_330 K x1 x2 (up R4 41 (Int32.toNatClampNeg x1) r4)))) ∧ ((R 30 (Int32.toNatClampNeg x1)) = 45 → wp_mod (x6 - x8) R (fun r5 R5 => vp_in x1 23 ∧ wp_mod (x9 - s0) (up R5 40 (Int32.toNatClampNeg x1) r5) (fun r6 R6 => vp_in x1 23 ∧ w_layStep_330 K x1 x2 (up R6 41 (Int32.toNatClampNeg x1) r6)))) ∧ ((R 30 (Int32.toNatClampNeg x1)) = 94 → wp_powerOf x6 v1 R (fun r7 R7 => vp_in x1 23 ∧ (¬ v1 = 0 → wp_powerOf x6 (v1 - 1) (up R7 40 (Int32.toNatClampNeg x1) r7) (fun r8 R8 => wp_mod ((v1 * r8) * x9) R8 (fun r9 R9 => vp_in x1 23 ∧ w_layStep_330 K x1 x2 (up R9 41 (Int32.toNatClampNeg x1) r9)))) ∧ (v1 = 0 → vp_in x1 23 ∧ w_layStep_330 K x1 x2 (up (up R7 40 (Int32.toNatClampNeg x1) r7) 41 (Int32.toNatClampNeg x1) 0)))) ∧ (¬ (R 30 (Int32.toNatClampNeg x1)) = 42 ∧ ¬ (R 30 (Int32.toNatClampNeg x1)) = 43 ∧ ¬ (R 30 (Int32.toNatClampNeg x1)) = 45 ∧ ¬ (R 30 (Int32.toNatClampNeg x1)) = 94 → vp_in x1 23 ∧ vp_in x1 23 ∧ w_layStep_330 K x1 x2 (up (up R 40 (Int32.toNatClampNeg x1) x6) 41 (Int32.toNatClampNeg x1) x9))
set_option maxHeartbeats 4000000 in
set_option maxRecDepth 100000 in
theorem b_layStep_95 {G : RG} {X : Fx} {K : Int32 → RS → Prop} (hok : okG G) (hc : Cx X RX12 cX12_layStep 12) (hr : Cr G 2 none K X) : ∀ (x1 x2 x6 x8 x9 s0 : Int32) (R : RS), w_layStep_95 K x1 x2 x6 x8 x9 s0 R → MR G X 12 R 95 [(0, .ref G.2.2.1), (1, .int x1), (2, .int x2), (6, .int x6), (8, .int x8), (9, .int x9)] [.int s0] := by
  intro x1 x2 x6 x8 x9 s0 R hw
  unfold w_layStep_95 at hw
  refine m_istore hc [(10, .int s0), (0, .ref G.2.2.1), (1, .int x1), (2, .int x2), (6, .int x6), (8, .int x8), (9, .int x9)] dX12_layStep_95 (Nat.le_of_ble_eq_true rfl) rfl ?_
  refine m_aload_n hc 1 dX12_layStep_97 rfl rfl ?_
  refine r_geta hc hr 32 dX12_layStep_98 lf_X12_86 (Nat.le_of_ble_eq_true rfl) rfl ?_
  refine m_iconst hc 2 dX12_layStep_101 (by decide) ?_
  refine m_iload_n hc 2 dX12_layStep_102 rfl rfl ?_
  refine m_imul hc dX12_layStep_103 ?_
  refine m_iconst hc 1 dX12_layStep_104 (by decide) ?_
  refine m_iadd hc dX12_layStep_105 ?_
  obtain ⟨hi, hw⟩ := hw
  refine r_iald hc hr (i := 23) (f := 32) rfl hi dX12_layStep_106 ?_
  refine m_topi (fun v1 e_v1 => ?_)
  have hw := hw v1 e_v1
  refine m_istore hc [(11, .int v1), (10, .int s0), (0, .ref G.2.2.1), (1, .int x1), (2, .int x2), (6, .int x6), (8, .int x8), (9, .int x9)] dX12_layStep_107 (Nat.le_of_ble_eq_true rfl) rfl ?_
  refine m_aload_n hc 2 dX12_layStep_109 rfl rfl ?_
  refine r_geta hc hr 30 dX12_layStep_110 lf_X12_80 (Nat.le_of_ble_eq_true rfl) rfl ?_
  refine m_iload_n hc 3 dX12_layStep_113 rfl rfl ?_
  obtain ⟨hi, hw⟩ := hw
  refine r_iald hc hr (i := 21) (f := 30) rfl hi dX12_layStep_114 ?_
  by_cases q0 : (R 30 (Int32.toNatClampNeg x1)) = 42
  · have hw := hw.1 q0
    refine m_look hc (off := 107) 222 dX12_layStep_115 (by decide +kernel) (by rw [q0]; rfl) rfl ?_
    refine m_aload_n hc 2 dX12_layStep_222 rfl rfl ?_
    refine r_geta hc hr 40 dX12_layStep_223 lf_X12_104 (Nat.le_of_ble_eq_true rfl) rfl ?_
    refine m_iload_n hc 3 dX12_layStep_226 rfl rfl ?_
    refine m_iload hc 5 dX12_layStep_227 rfl ?_
    refine m_iload hc 6 dX12_layStep_229 rfl ?_
    refine m_imul hc dX12_layStep_231 ?_
    refine m_aload_n hc 2 dX12_layStep_232 rfl rfl ?_
    refine r_geti hc hr 1 dX12_layStep_233 lf_X12_9 (Nat.le_of_ble_eq_true rfl) rfl ?_
    obtain ⟨hq, hw⟩ := hw
    refine m_irem hc dX12_layStep_236 hq ?_
    obtain ⟨hi, hw⟩ := hw
    refine r_iast hc hr (i := 29) (f := 40) rfl hi dX12_layStep_237 ?_
    refine m_aload_n hc 2 dX12_layStep_238 rfl rfl ?_
    refine r_geta hc hr 41 dX12_layStep_239 lf_X12_107 (Nat.le_of_ble_eq_true rfl) rfl ?_
    refine m_iload_n hc 3 dX12_layStep_242 rfl rfl ?_
    refine m_aload_n hc 2 dX12_layStep_243 rfl rfl ?_
    refine m_iload hc 7 dX12_layStep_244 rfl ?_
    refine m_iload hc 6 dX12_layStep_246 rfl ?_
    refine m_imul hc dX12_layStep_248 ?_
    refine m_iload hc 5 dX12_layStep_249 rfl ?_
    refine m_iload hc 1 dX12_layStep_251 rfl ?_
    refine m_imul hc dX12_layStep_253 ?_
    refine m_iadd hc dX12_layStep_254 ?_
    refine r_callVi hc hr mt_mod rfl lm_X12_138 (ok_mod hok hw) (Nat.le_of_ble_eq_true rfl) dX12_layStep_255 rfl (rest := [.int x1, .ref (G.2.2.2 41)]) rfl (Nat.le_of_ble_eq_true rfl) (fun r2 R2 hw => ?_)
    obtain ⟨hi, hw⟩ := hw
    refine r_iast hc hr (i := 30) (f := 41) rfl hi dX12_layStep_258 ?_
    refine m_goto hc 330 dX12_layStep_259 rfl ?_
    refine m_sub [2, 3, 4] rfl ?_
    exact b_layStep_330 hok hc hr x1 x2 (up R2 41 (Int32.toNatClampNeg x1) r2) hw
  · skip
    by_cases q1 : (R 30 (Int32.toNatClampNeg x1)) = 43
    · have hw := hw.2.1 q1
      refine m_look hc (off := 41) 156 dX12_layStep_115 (by decide +kernel) (by rw [q1]; rfl) rfl ?_
      refine m_aload_n hc 2 dX12_layStep_156 rfl rfl ?_
      refine r_geta hc hr 40 dX12_layStep_157 lf_X12_104 (Nat.le_of_ble_eq_true rfl) rfl ?_
      refine m_iload_n hc 3 dX12_layStep_160 rfl rfl ?_
      refine m_aload_n hc 2 dX12_layStep_161 rfl rfl ?_
      refine m_iload hc 5 dX12_layStep_162 rfl ?_
      refine m_iload hc 6 dX12_layStep_164 rfl ?_
      refine m_iadd hc dX12_layStep_166 ?_
      refine r_callVi hc hr mt_mod rfl lm_X12_138 (ok_mod hok hw) (Nat.le_of_ble_eq_true rfl) dX12_layStep_167 rfl (rest := [.int x1, .ref (G.2.2.2 40)]) rfl (Nat.le_of_ble_eq_true rfl) (fun r3 R3 hw => ?_)
      obtain ⟨hi, hw⟩ := hw
      refine r_iast hc hr (i := 29) (f := 40) rfl hi dX12_layStep_170 ?_
      refine m_aload_n hc 2 dX12_layStep_171 rfl rfl ?_
      refine r_geta hc hr 41 dX12_layStep_172 lf_X12_107 (Nat.le_of_ble_eq_true rfl) rfl ?_
      refine m_iload_n hc 3 dX12_layStep_175 rfl rfl ?_
      refine m_aload_n hc 2 dX12_layStep_176 rfl rfl ?_
      refine m_iload hc 7 dX12_layStep_177 rfl ?_
      refine m_iload hc 1 dX12_layStep_179 rfl ?_
      refine m_iadd hc dX12_layStep_181 ?_
      refine r_callVi hc hr mt_mod rfl lm_X12_138 (ok_mod hok hw) (Nat.le_of_ble_eq_true rfl) dX12_layStep_182 rfl (rest := [.int x1, .ref (G.2.2.2 41)]) rfl (Nat.le_of_ble_eq_true rfl) (fun r4 R4 hw => ?_)
      obtain ⟨hi, hw⟩ := hw
      refine r_iast hc hr (i := 30) (f := 41) rfl hi dX12_layStep_185 ?_
      refine m_goto hc 330 dX12_layStep_186 rfl ?_
      refine m_sub [2, 3, 4] rfl ?_
      exact b_layStep_330 hok hc hr x1 x2 (up R4 41 (Int32.toNatClampNeg x1) r4) hw
    · skip
      by_cases q2 : (R 30 (Int32.toNatClampNeg x1)) = 45
      · have hw := hw.2.2.1 q2
        refine m_look hc (off := 74) 189 dX12_layStep_115 (by decide +kernel) (by rw [q2]; rfl) rfl ?_
        refine m_aload_n hc 2 dX12_layStep_189 rfl rfl ?_
        refine r_geta hc hr 40 dX12_layStep_190 lf_X12_104 (Nat.le_of_ble_eq_true rfl) rfl ?_
        refine m_iload_n hc 3 dX12_layStep_193 rfl rfl ?_
        refine m_aload_n hc 2 dX12_layStep_194 rfl rfl ?_
        refine m_iload hc 5 dX12_layStep_195 rfl ?_
        refine m_iload hc 6 dX12_layStep_197 rfl ?_
        refine m_isub hc dX12_layStep_199 ?_
        refine r_callVi hc hr mt_mod rfl lm_X12_138 (ok_mod hok hw) (Nat.le_of_ble_eq_true rfl) dX12_layStep_200 rfl (rest := [.int x1, .ref (G.2.2.2 40)]) rfl (Nat.le_of_ble_eq_true rfl) (fun r5 R5 hw => ?_)
        obtain ⟨hi, hw⟩ := hw
        refine r_iast hc hr (i := 29) (f := 40) rfl hi dX12_layStep_203 ?_
        refine m_aload_n hc 2 dX12_layStep_204 rfl rfl ?_
        refine r_geta hc hr 41 dX12_layStep_205 lf_X12_107 (Nat.le_of_ble_eq_true rfl) rfl ?_
        refine m_iload_n hc 3 dX12_layStep_208 rfl rfl ?_
        refine m_aload_n hc 2 dX12_layStep_209 rfl rfl ?_
        refine m_iload hc 7 dX12_layStep_210 rfl ?_
        refine m_iload hc 1 dX12_layStep_212 rfl ?_
        refine m_isub hc dX12_layStep_214 ?_
        refine r_callVi hc hr mt_mod rfl lm_X12_138 (ok_mod hok hw) (Nat.le_of_ble_eq_true rfl) dX12_layStep_215 rfl (rest := [.int x1, .ref (G.2.2.2 41)]) rfl (Nat.le_of_ble_eq_true rfl) (fun r6 R6 hw => ?_)
        obtain ⟨hi, hw⟩ := hw
        refine r_iast hc hr (i := 30) (f := 41) rfl hi dX12_layStep_218 ?_
        refine m_goto hc 330 dX12_layStep_219 rfl ?_
        refine m_sub [2, 3, 4] rfl ?_
        exact b_layStep_330 hok hc hr x1 x2 (up R6 41 (Int32.toNatClampNeg x1) r6) hw
      · skip
        by_cases q3 : (R 30 (Int32.toNatClampNeg x1)) = 94
        · have hw := hw.2.2.2.1 q3
          refine m_look hc (off := 147) 262 dX12_layStep_115 (by decide +kernel) (by rw [q3]; rfl) rfl ?_
          refine m_aload_n hc 2 dX12_layStep_262 rfl rfl ?_
          refine r_geta hc hr 40 dX12_layStep_263 lf_X12_104 (Nat.le_of_ble_eq_true rfl) rfl ?_
          refine m_iload_n hc 3 dX12_layStep_266 rfl rfl ?_
          refine m_aload_n hc 2 dX12_layStep_267 rfl rfl ?_
          refine m_iload hc 5 dX12_layStep_268 rfl ?_
          refine m_iload hc 0 dX12_layStep_270 rfl ?_
          refine r_callVi hc hr mt_powerOf rfl lm_X12_314 (ok_powerOf hok hw) (Nat.le_of_ble_eq_true rfl) dX12_layStep_272 rfl (rest := [.int x1, .ref (G.2.2.2 40)]) rfl (Nat.le_of_ble_eq_true rfl) (fun r7 R7 hw => ?_)
          obtain ⟨hi, hw⟩ := hw
          refine r_iast hc hr (i := 29) (f := 40) rfl hi dX12_layStep_275 ?_
          refine m_aload_n hc 2 dX12_layStep_276 rfl rfl ?_
          refine r_geta hc hr 41 dX12_layStep_277 lf_X12_107 (Nat.le_of_ble_eq_true rfl) rfl ?_
          refine m_iload_n hc 3 dX12_layStep_280 rfl rfl ?_
          refine m_iload hc 0 dX12_layStep_281 rfl ?_
          refine m_if_ne hc 290 dX12_layStep_283 rfl (fun cq => ?_) (fun cq => ?_)
          · have hw := hw.1 cq
            refine m_aload_n hc 2 dX12_layStep_290 rfl rfl ?_
            refine m_iload hc 0 dX12_layStep_291 rfl ?_
            refine m_aload_n hc 2 dX12_layStep_293 rfl rfl ?_
            refine m_iload hc 5 dX12_layStep_294 rfl ?_
            refine m_iload hc 0 dX12_layStep_296 rfl ?_
            refine m_iconst hc 1 dX12_layStep_298 (by decide) ?_
            refine m_isub hc dX12_layStep_299 ?_
            refine r_callVi hc hr mt_powerOf rfl lm_X12_314 (ok_powerOf hok hw) (Nat.le_of_ble_eq_true rfl) dX12_layStep_300 rfl (rest := [.int v1, .ref G.2.2.1, .int x1, .ref (G.2.2.2 41)]) rfl (Nat.le_of_ble_eq_true rfl) (fun r8 R8 hw => ?_)
            refine m_imul hc dX12_layStep_303 ?_
            refine m_iload hc 7 dX12_layStep_304 rfl ?_
            refine m_imul hc dX12_layStep_306 ?_
            refine r_callVi hc hr mt_mod rfl lm_X12_138 (ok_mod hok hw) (Nat.le_of_ble_eq_true rfl) dX12_layStep_307 rfl (rest := [.int x1, .ref (G.2.2.2 41)]) rfl (Nat.le_of_ble_eq_true rfl) (fun r9 R9 hw => ?_)
            obtain ⟨hi, hw⟩ := hw
            refine r_iast hc hr (i := 30) (f := 41) rfl hi dX12_layStep_310 ?_
            refine m_goto hc 330 dX12_layStep_311 rfl ?_
            refine m_sub [2, 3, 4] rfl ?_
            exact b_layStep_330 hok hc hr x1 x2 (up R9 41 (Int32.toNatClampNeg x1) r9) hw
          · have hw := hw.2 cq
            refine m_iconst hc 0 dX12_layStep_286 (by decide) ?_
            refine m_goto hc 310 dX12_layStep_287 rfl ?_
            obtain ⟨hi, hw⟩ := hw
            refine r_iast hc hr (i := 30) (f := 41) rfl hi dX12_layStep_310 ?_
            refine m_goto hc 330 dX12_layStep_311 rfl ?_
            refine m_sub [2, 3, 4] rfl ?_
            exact b_layStep_330 hok hc hr x1 x2 (up (up R7 40 (Int32.toNatClampNeg x1) r7) 41 (Int32.toNatClampNeg x1) 0) hw
        · skip
          have hw := hw.2.2.2.2 ⟨q0, q1, q2, q3⟩
          refine m_look hc (off := 199) 314 dX12_layStep_115 (by decide +kernel) (lk_no 42 q0 rfl (lk_no 43 q1 rfl (lk_no 45 q2 rfl (lk_no 94 q3 rfl (rfl))))) rfl ?_
          refine m_aload_n hc 2 dX12_layStep_314 rfl rfl ?_
          refine r_geta hc hr 40 dX12_layStep_315 lf_X12_104 (Nat.le_of_ble_eq_true rfl) rfl ?_
          refine m_iload_n hc 3 dX12_layStep_318 rfl rfl ?_
          refine m_iload hc 5 dX12_layStep_319 rfl ?_
          obtain ⟨hi, hw⟩ := hw
          refine r_iast hc hr (i := 29) (f := 40) rfl hi dX12_layStep_321 ?_
          refine m_aload_n hc 2 dX12_layStep_322 rfl rfl ?_
          refine r_geta hc hr 41 dX12_layStep_323 lf_X12_107 (Nat.le_of_ble_eq_true rfl) rfl ?_
          refine m_iload_n hc 3 dX12_layStep_326 rfl rfl ?_
          refine m_iload hc 7 dX12_layStep_327 rfl ?_
          obtain ⟨hi, hw⟩ := hw
          refine r_iast hc hr (i := 30) (f := 41) rfl hi dX12_layStep_329 ?_
          refine m_sub [2, 3, 4] rfl ?_
          exact b_layStep_330 hok hc hr x1 x2 (up (up R 40 (Int32.toNatClampNeg x1) x6) 41 (Int32.toNatClampNeg x1) x9) hw
def w_layStep_64 (K : Int32 → RS → Prop) (x1 x2 x6 x7 s0 : Int32) (R : RS) : Prop := wp_turnOfAtom (2 * x1) x2 R (fun r1 R1 => (x7 = 0 → w_layStep_95 K x1 x2 x6 s0 r1 0 R1) ∧ (¬ (x7 = 0) → wp_turnOfAtom ((2 * x1) + 1) x2 R1 (fun r2 R2 => w_layStep_95 K x1 x2 x6 s0 r1 r2 R2)))
set_option maxHeartbeats 4000000 in
set_option maxRecDepth 100000 in
theorem b_layStep_64 {G : RG} {X : Fx} {K : Int32 → RS → Prop} (hok : okG G) (hc : Cx X RX12 cX12_layStep 12) (hr : Cr G 2 none K X) : ∀ (x1 x2 x6 x7 s0 : Int32) (R : RS), w_layStep_64 K x1 x2 x6 x7 s0 R → MR G X 12 R 64 [(0, .ref G.2.2.1), (1, .int x1), (2, .int x2), (6, .int x6), (7, .int x7)] [.int s0] := by
  intro x1 x2 x6 x7 s0 R hw
  unfold w_layStep_64 at hw
  refine m_istore hc [(8, .int s0), (0, .ref G.2.2.1), (1, .int x1), (2, .int x2), (6, .int x6), (7, .int x7)] dX12_layStep_64 (Nat.le_of_ble_eq_true rfl) rfl ?_
  refine m_aload_n hc 1 dX12_layStep_66 rfl rfl ?_
  refine m_iconst hc 2 dX12_layStep_67 (by decide) ?_
  refine m_iload_n hc 2 dX12_layStep_68 rfl rfl ?_
  refine m_imul hc dX12_layStep_69 ?_
  refine m_iload_n hc 3 dX12_layStep_70 rfl rfl ?_
  refine r_callVi hc hr mt_turnOfAtom rfl lm_X12_409 (ok_turnOfAtom hok hw) (Nat.le_of_ble_eq_true rfl) dX12_layStep_71 rfl (rest := []) rfl (Nat.le_of_ble_eq_true rfl) (fun r1 R1 hw => ?_)
  refine m_istore hc [(9, .int r1), (8, .int s0), (0, .ref G.2.2.1), (1, .int x1), (2, .int x2), (6, .int x6), (7, .int x7)] dX12_layStep_74 (Nat.le_of_ble_eq_true rfl) rfl ?_
  refine m_iload hc 6 dX12_layStep_76 rfl ?_
  refine m_if_eq hc 94 dX12_layStep_78 rfl (fun cq => ?_) (fun cq => ?_)
  · have hw := hw.1 cq
    refine m_iconst hc 0 dX12_layStep_94 (by decide) ?_
    refine m_sub [2, 3, 4, 5, 1, 0] rfl ?_
    exact b_layStep_95 hok hc hr x1 x2 x6 s0 r1 0 R1 hw
  · have hw := hw.2 cq
    refine m_aload_n hc 2 dX12_layStep_81 rfl rfl ?_
    refine m_iconst hc 2 dX12_layStep_82 (by decide) ?_
    refine m_iload_n hc 3 dX12_layStep_83 rfl rfl ?_
    refine m_imul hc dX12_layStep_84 ?_
    refine m_iconst hc 1 dX12_layStep_85 (by decide) ?_
    refine m_iadd hc dX12_layStep_86 ?_
    refine m_iload_n hc 4 dX12_layStep_87 rfl rfl ?_
    refine r_callVi hc hr mt_turnOfAtom rfl lm_X12_409 (ok_turnOfAtom hok hw) (Nat.le_of_ble_eq_true rfl) dX12_layStep_88 rfl (rest := []) rfl (Nat.le_of_ble_eq_true rfl) (fun r2 R2 hw => ?_)
    refine m_goto hc 95 dX12_layStep_91 rfl ?_
    refine m_sub [2, 3, 4, 5, 1, 0] rfl ?_
    exact b_layStep_95 hok hc hr x1 x2 x6 s0 r1 r2 R2 hw
def w_layStep_39 (K : Int32 → RS → Prop) (x1 x2 x3 x4 x5 x6 s0 : Int32) (R : RS) : Prop := (s0 = 0 → w_layStep_64 K x1 x2 x6 s0 0 R) ∧ (¬ (s0 = 0) → wp_valueOfAtom ((2 * x1) + 1) x3 x4 x5 R (fun r1 R1 => w_layStep_64 K x1 x2 x6 s0 r1 R1))
set_option maxHeartbeats 4000000 in
set_option maxRecDepth 100000 in
theorem b_layStep_39 {G : RG} {X : Fx} {K : Int32 → RS → Prop} (hok : okG G) (hc : Cx X RX12 cX12_layStep 12) (hr : Cr G 2 none K X) : ∀ (x1 x2 x3 x4 x5 x6 s0 : Int32) (R : RS), w_layStep_39 K x1 x2 x3 x4 x5 x6 s0 R → MR G X 12 R 39 [(0, .ref G.2.2.1), (1, .int x1), (2, .int x2), (3, .int x3), (4, .int x4), (5, .int x5), (6, .int x6)] [.int s0] := by
  intro x1 x2 x3 x4 x5 x6 s0 R hw
  unfold w_layStep_39 at hw
  refine m_istore hc [(7, .int s0), (0, .ref G.2.2.1), (1, .int x1), (2, .int x2), (3, .int x3), (4, .int x4), (5, .int x5), (6, .int x6)] dX12_layStep_39 (Nat.le_of_ble_eq_true rfl) rfl ?_
  refine m_iload hc 0 dX12_layStep_41 rfl ?_
  refine m_if_eq hc 63 dX12_layStep_43 rfl (fun cq => ?_) (fun cq => ?_)
  · have hw := hw.1 cq
    refine m_iconst hc 0 dX12_layStep_63 (by decide) ?_
    refine m_sub [1, 2, 3, 7, 0] rfl ?_
    exact b_layStep_64 hok hc hr x1 x2 x6 s0 0 R hw
  · have hw := hw.2 cq
    refine m_aload_n hc 1 dX12_layStep_46 rfl rfl ?_
    refine m_iconst hc 2 dX12_layStep_47 (by decide) ?_
    refine m_iload_n hc 2 dX12_layStep_48 rfl rfl ?_
    refine m_imul hc dX12_layStep_49 ?_
    refine m_iconst hc 1 dX12_layStep_50 (by decide) ?_
    refine m_iadd hc dX12_layStep_51 ?_
    refine m_iload_n hc 4 dX12_layStep_52 rfl rfl ?_
    refine m_iload hc 5 dX12_layStep_53 rfl ?_
    refine m_iload hc 6 dX12_layStep_55 rfl ?_
    refine r_callVi hc hr mt_valueOfAtom rfl lm_X12_406 (ok_valueOfAtom hok hw) (Nat.le_of_ble_eq_true rfl) dX12_layStep_57 rfl (rest := []) rfl (Nat.le_of_ble_eq_true rfl) (fun r1 R1 hw => ?_)
    refine m_goto hc 64 dX12_layStep_60 rfl ?_
    refine m_sub [1, 2, 3, 7, 0] rfl ?_
    exact b_layStep_64 hok hc hr x1 x2 x6 s0 r1 R1 hw
def wp_layStep (x1 x2 x3 x4 x5 : Int32) (R : RS) (K : Int32 → RS → Prop) : Prop := wp_valueOfAtom (2 * x1) x3 x4 x5 R (fun r1 R1 => vp_in x1 23 ∧ ((R1 30 (Int32.toNatClampNeg x1)) = 0 → w_layStep_39 K x1 x2 x3 x4 x5 r1 0 R1) ∧ (¬ ((R1 30 (Int32.toNatClampNeg x1)) = 0) → vp_in x1 23 ∧ ((R1 30 (Int32.toNatClampNeg x1)) = 94 → w_layStep_39 K x1 x2 x3 x4 x5 r1 0 R1) ∧ (¬ ((R1 30 (Int32.toNatClampNeg x1)) = 94) → w_layStep_39 K x1 x2 x3 x4 x5 r1 1 R1)))
set_option maxHeartbeats 4000000 in
set_option maxRecDepth 100000 in
theorem ok_layStep {G : RG} (hok : okG G) {x1 : Int32} {x2 : Int32} {x3 : Int32} {x4 : Int32} {x5 : Int32} {R : RS} {K : Int32 → RS → Prop} (hw : wp_layStep x1 x2 x3 x4 x5 R K) : CF 2 yX12_layStep cX12_layStep 12 none [.ref G.2.2.1, .int x1, .int x2, .int x3, .int x4, .int x5] G R K := by
  refine CF.of (by decide +kernel) hok (Nat.le_of_ble_eq_true rfl) (fun X hc hr => ?_)
  show MR G X 12 R 0 [(0, .ref G.2.2.1), (1, .int x1), (2, .int x2), (3, .int x3), (4, .int x4), (5, .int x5)] []
  unfold wp_layStep at hw
  refine m_aload_n hc 0 dX12_layStep_0 rfl rfl ?_
  refine m_iconst hc 2 dX12_layStep_1 (by decide) ?_
  refine m_iload_n hc 1 dX12_layStep_2 rfl rfl ?_
  refine m_imul hc dX12_layStep_3 ?_
  refine m_iload_n hc 3 dX12_layStep_4 rfl rfl ?_
  refine m_iload hc 4 dX12_layStep_5 rfl ?_
  refine m_iload hc 5 dX12_layStep_7 rfl ?_
  refine r_callVi hc hr mt_valueOfAtom rfl lm_X12_406 (ok_valueOfAtom hok hw) (Nat.le_of_ble_eq_true rfl) dX12_layStep_9 rfl (rest := []) rfl (Nat.le_of_ble_eq_true rfl) (fun r1 R1 hw => ?_)
  refine m_istore hc [(6, .int r1), (0, .ref G.2.2.1), (1, .int x1), (2, .int x2), (3, .int x3), (4, .int x4), (5, .int x5)] dX12_layStep_12 (Nat.le_of_ble_eq_true rfl) rfl ?_
  refine m_aload_n hc 1 dX12_layStep_14 rfl rfl ?_
  refine r_geta hc hr 30 dX12_layStep_15 lf_X12_80 (Nat.le_of_ble_eq_true rfl) rfl ?_
  refine m_iload_n hc 2 dX12_layStep_18 rfl rfl ?_
  obtain ⟨hi, hw⟩ := hw
  refine r_iald hc hr (i := 21) (f := 30) rfl hi dX12_layStep_19 ?_
  refine m_if_eq hc 38 dX12_layStep_20 rfl (fun cq => ?_) (fun cq => ?_)
  · have hw := hw.1 cq
    refine m_iconst hc 0 dX12_layStep_38 (by decide) ?_
    refine m_sub [1, 2, 3, 4, 5, 6, 0] rfl ?_
    exact b_layStep_39 hok hc hr x1 x2 x3 x4 x5 r1 0 R1 hw
  · have hw := hw.2 cq
    refine m_aload_n hc 1 dX12_layStep_23 rfl rfl ?_
    refine r_geta hc hr 30 dX12_layStep_24 lf_X12_80 (Nat.le_of_ble_eq_true rfl) rfl ?_
    refine m_iload_n hc 2 dX12_layStep_27 rfl rfl ?_
    obtain ⟨hi, hw⟩ := hw
    refine r_iald hc hr (i := 21) (f := 30) rfl hi dX12_layStep_28 ?_
    refine m_bipush hc 94 dX12_layStep_29 (by decide) ?_
    refine m_icmp_eq hc 38 dX12_layStep_31 rfl (fun cq => ?_) (fun cq => ?_)
    · have hw := hw.1 cq
      refine m_iconst hc 0 dX12_layStep_38 (by decide) ?_
      refine m_sub [1, 2, 3, 4, 5, 6, 0] rfl ?_
      exact b_layStep_39 hok hc hr x1 x2 x3 x4 x5 r1 0 R1 hw
    · have hw := hw.2 cq
      refine m_iconst hc 1 dX12_layStep_34 (by decide) ?_
      refine m_goto hc 39 dX12_layStep_35 rfl ?_
      refine m_sub [1, 2, 3, 4, 5, 6, 0] rfl ?_
      exact b_layStep_39 hok hc hr x1 x2 x3 x4 x5 r1 1 R1 hw
def wb_at_51 (K51 : Int32 → Int32 → Int32 → Int32 → Int32 → Int32 → RS → Prop) (K : Int32 → RS → Prop) (x1 x2 x3 x4 x5 x6 : Int32) (R : RS) : Prop := ((R 0 37) ≤ x6 → (x2 = 0 → vp_in x1 23 ∧ K (R 40 (Int32.toNatClampNeg x1)) R) ∧ (¬ (x2 = 0) → vp_in ((R 0 37) - 1) 23 ∧ K (R 41 (Int32.toNatClampNeg ((R 0 37) - 1))) R)) ∧ (¬ ((R 0 37) ≤ x6) → wp_layStep x6 x1 x3 x4 x5 R (fun r1 R1 => K51 x1 x2 x3 x4 x5 (x6 + 1) R1))
def wl_at_51 (K : Int32 → RS → Prop) : Nat → Int32 → Int32 → Int32 → Int32 → Int32 → Int32 → RS → Prop
  | 0 => fun _ _ _ _ _ _ _ => False
  | nn + 1 => wb_at_51 (wl_at_51 K nn) K
set_option maxHeartbeats 4000000 in
set_option maxRecDepth 100000 in
theorem l_at_51 {G : RG} {X : Fx} {K : Int32 → RS → Prop} (hok : okG G) (hc : Cx X RX12 cX12_at 7) (hr : Cr G 3 (some .int) K X) : ∀ (nn : Nat) (x1 x2 x3 x4 x5 x6 : Int32) (R : RS), wl_at_51 K nn x1 x2 x3 x4 x5 x6 R → MR G X 7 R 51 [(0, .ref G.2.2.1), (1, .int x1), (2, .int x2), (3, .int x3), (4, .int x4), (5, .int x5), (6, .int x6)] [] := by
  intro nn
  induction nn with
  | zero => intro x1 x2 x3 x4 x5 x6 R hw; exact False.elim hw
  | succ nn ih =>
    intro x1 x2 x3 x4 x5 x6 R hw
    have hw : wb_at_51 (wl_at_51 K nn) K x1 x2 x3 x4 x5 x6 R := hw
    have h51 := ih
    generalize wl_at_51 K nn = K51 at hw h51
    unfold wb_at_51 at hw
    refine m_iload hc 6 dX12_at_51 rfl ?_
    refine m_aload_n hc 0 dX12_at_53 rfl rfl ?_
    refine r_geti hc hr 37 dX12_at_54 lf_X12_194 (Nat.le_of_ble_eq_true rfl) rfl ?_
    refine m_icmp_ge hc 78 dX12_at_57 rfl (fun cq => ?_) (fun cq => ?_)
    · have hw := hw.1 cq
      refine m_iload_n hc 2 dX12_at_78 rfl rfl ?_
      refine m_if_eq hc 96 dX12_at_79 rfl (fun cq => ?_) (fun cq => ?_)
      · have hw := hw.1 cq
        refine m_aload_n hc 0 dX12_at_96 rfl rfl ?_
        refine r_geta hc hr 40 dX12_at_97 lf_X12_104 (Nat.le_of_ble_eq_true rfl) rfl ?_
        refine m_iload_n hc 1 dX12_at_100 rfl rfl ?_
        obtain ⟨hi, hw⟩ := hw
        refine r_iald hc hr (i := 29) (f := 40) rfl hi dX12_at_101 ?_
        exact r_iret hc hr dX12_at_102 hw
      · have hw := hw.2 cq
        refine m_aload_n hc 0 dX12_at_82 rfl rfl ?_
        refine r_geta hc hr 41 dX12_at_83 lf_X12_107 (Nat.le_of_ble_eq_true rfl) rfl ?_
        refine m_aload_n hc 0 dX12_at_86 rfl rfl ?_
        refine r_geti hc hr 37 dX12_at_87 lf_X12_194 (Nat.le_of_ble_eq_true rfl) rfl ?_
        refine m_iconst hc 1 dX12_at_90 (by decide) ?_
        refine m_isub hc dX12_at_91 ?_
        obtain ⟨hi, hw⟩ := hw
        refine r_iald hc hr (i := 30) (f := 41) rfl hi dX12_at_92 ?_
        refine m_goto hc 102 dX12_at_93 rfl ?_
        exact r_iret hc hr dX12_at_102 hw
    · have hw := hw.2 cq
      refine m_aload_n hc 0 dX12_at_60 rfl rfl ?_
      refine m_iload hc 6 dX12_at_61 rfl ?_
      refine m_iload_n hc 1 dX12_at_63 rfl rfl ?_
      refine m_iload_n hc 3 dX12_at_64 rfl rfl ?_
      refine m_iload hc 4 dX12_at_65 rfl ?_
      refine m_iload hc 5 dX12_at_67 rfl ?_
      refine r_callVv hc hr mt_layStep rfl lm_X12_412 (ok_layStep hok hw) (Nat.le_of_ble_eq_true rfl) dX12_at_69 rfl (rest := []) rfl (Nat.le_of_ble_eq_true rfl) (fun r1 R1 hw => ?_)
      refine m_iinc hc 6 (x6 + 1) [(6, .int (x6 + 1)), (0, .ref G.2.2.1), (1, .int x1), (2, .int x2), (3, .int x3), (4, .int x4), (5, .int x5)] dX12_at_72 rfl rfl (Nat.le_of_ble_eq_true rfl) rfl ?_
      refine m_goto hc 51 dX12_at_75 rfl ?_
      refine m_sub [1, 2, 3, 4, 5, 6, 0] rfl ?_
      exact h51 x1 x2 x3 x4 x5 (x6 + 1) R1 hw
def w_at_36 (K : Int32 → RS → Prop) (x1 x2 x3 x4 x5 s0 : Int32) (R : RS) : Prop := (((up R 0 0 s0) 0 0) ≤ 0 → ∃ nn : Nat, wl_at_51 K nn x1 x2 x3 x4 x5 0 (up R 0 0 s0)) ∧ (¬ (((up R 0 0 s0) 0 0) ≤ 0) → K 0 (up R 0 0 s0))
set_option maxHeartbeats 4000000 in
set_option maxRecDepth 100000 in
theorem b_at_36 {G : RG} {X : Fx} {K : Int32 → RS → Prop} (hok : okG G) (hc : Cx X RX12 cX12_at 7) (hr : Cr G 3 (some .int) K X) : ∀ (x1 x2 x3 x4 x5 s0 : Int32) (R : RS), w_at_36 K x1 x2 x3 x4 x5 s0 R → MR G X 7 R 36 [(0, .ref G.2.2.1), (1, .int x1), (2, .int x2), (3, .int x3), (4, .int x4), (5, .int x5)] [.int s0, .ref G.2.2.1] := by
  intro x1 x2 x3 x4 x5 s0 R hw
  unfold w_at_36 at hw
  refine r_put hc hr 0 dX12_at_36 lf_X12_116 (Nat.le_of_ble_eq_true rfl) rfl rfl (by decide +kernel) ?_
  refine m_aload_n hc 0 dX12_at_39 rfl rfl ?_
  refine r_geti hc hr 0 dX12_at_40 lf_X12_116 (Nat.le_of_ble_eq_true rfl) rfl ?_
  refine m_if_le hc 48 dX12_at_43 rfl (fun cq => ?_) (fun cq => ?_)
  · have hw := hw.1 cq
    refine m_iconst hc 0 dX12_at_48 (by decide) ?_
    refine m_istore hc [(6, .int 0), (0, .ref G.2.2.1), (1, .int x1), (2, .int x2), (3, .int x3), (4, .int x4), (5, .int x5)] dX12_at_49 (Nat.le_of_ble_eq_true rfl) rfl ?_
    refine m_sub [1, 2, 3, 4, 5, 6, 0] rfl ?_
    obtain ⟨nn, hw⟩ := hw
    exact l_at_51 hok hc hr nn x1 x2 x3 x4 x5 0 (up R 0 0 s0) hw
  · have hw := hw.2 cq
    refine m_iconst hc 0 dX12_at_46 (by decide) ?_
    exact r_iret hc hr dX12_at_47 hw
def wp_at (x1 x2 x3 x4 x5 : Int32) (R : RS) (K : Int32 → RS → Prop) : Prop := wp_isIn x1 0 ((R 0 37) - 1) R (fun r1 R1 => (¬ r1 = 0 → wp_isPoint x3 x4 x5 R1 (fun r2 R2 => (¬ r2 = 0 → w_at_36 K x1 x2 x3 x4 x5 0 R2) ∧ (r2 = 0 → w_at_36 K x1 x2 x3 x4 x5 2 R2))) ∧ (r1 = 0 → w_at_36 K x1 x2 x3 x4 x5 1 R1))
set_option maxHeartbeats 4000000 in
set_option maxRecDepth 100000 in
theorem ok_at {G : RG} (hok : okG G) {x1 : Int32} {x2 : Int32} {x3 : Int32} {x4 : Int32} {x5 : Int32} {R : RS} {K : Int32 → RS → Prop} (hw : wp_at x1 x2 x3 x4 x5 R K) : CF 3 yX12_at cX12_at 7 (some .int) [.ref G.2.2.1, .int x1, .int x2, .int x3, .int x4, .int x5] G R K := by
  refine CF.of (by decide +kernel) hok (Nat.le_of_ble_eq_true rfl) (fun X hc hr => ?_)
  show MR G X 7 R 0 [(0, .ref G.2.2.1), (1, .int x1), (2, .int x2), (3, .int x3), (4, .int x4), (5, .int x5)] []
  unfold wp_at at hw
  refine m_aload_n hc 0 dX12_at_0 rfl rfl ?_
  refine m_iload_n hc 1 dX12_at_1 rfl rfl ?_
  refine m_iconst hc 0 dX12_at_2 (by decide) ?_
  refine m_aload_n hc 0 dX12_at_3 rfl rfl ?_
  refine r_geti hc hr 37 dX12_at_4 lf_X12_194 (Nat.le_of_ble_eq_true rfl) rfl ?_
  refine m_iconst hc 1 dX12_at_7 (by decide) ?_
  refine m_isub hc dX12_at_8 ?_
  refine r_callSi hc hr mt_isIn lm_X12_181 (ok_isIn hok hw) (Nat.le_of_ble_eq_true rfl) dX12_at_9 rfl (rest := [.ref G.2.2.1]) rfl (Nat.le_of_ble_eq_true rfl) (fun r1 R1 hw => ?_)
  refine m_if_ne hc 19 dX12_at_12 rfl (fun cq => ?_) (fun cq => ?_)
  · have hw := hw.1 cq
    refine m_aload_n hc 0 dX12_at_19 rfl rfl ?_
    refine m_iload_n hc 3 dX12_at_20 rfl rfl ?_
    refine m_iload hc 4 dX12_at_21 rfl ?_
    refine m_iload hc 5 dX12_at_23 rfl ?_
    refine r_callVi hc hr mt_isPoint rfl lm_X12_345 (ok_isPoint hok hw) (Nat.le_of_ble_eq_true rfl) dX12_at_25 rfl (rest := [.ref G.2.2.1]) rfl (Nat.le_of_ble_eq_true rfl) (fun r2 R2 hw => ?_)
    refine m_if_ne hc 35 dX12_at_28 rfl (fun cq => ?_) (fun cq => ?_)
    · have hw := hw.1 cq
      refine m_iconst hc 0 dX12_at_35 (by decide) ?_
      exact b_at_36 hok hc hr x1 x2 x3 x4 x5 0 R2 hw
    · have hw := hw.2 cq
      refine m_iconst hc 2 dX12_at_31 (by decide) ?_
      refine m_goto hc 36 dX12_at_32 rfl ?_
      exact b_at_36 hok hc hr x1 x2 x3 x4 x5 2 R2 hw
  · have hw := hw.2 cq
    refine m_iconst hc 1 dX12_at_15 (by decide) ?_
    refine m_goto hc 36 dX12_at_16 rfl ?_
    exact b_at_36 hok hc hr x1 x2 x3 x4 x5 1 R1 hw
def w_feed_76 (K23 : Int32 → Int32 → Int32 → Int32 → Int32 → Int32 → RS → Prop) (K : Int32 → RS → Prop) (x1 x2 x3 x4 x5 x6 s0 : Int32) (R : RS) : Prop := vp_in (R 0 43) 200 ∧ K23 x1 x2 x3 x4 x5 (x6 + 1) (up (up R 42 (Int32.toNatClampNeg (R 0 43)) ((s0 >>> ((24 - (8 * (iRem x6 4))) &&& 31)) &&& 255)) 0 43 (((up R 42 (Int32.toNatClampNeg (R 0 43)) ((s0 >>> ((24 - (8 * (iRem x6 4))) &&& 31)) &&& 255)) 0 43) + 1))
set_option maxHeartbeats 4000000 in
set_option maxRecDepth 100000 in
theorem b_feed_76 {G : RG} {X : Fx} {K : Int32 → RS → Prop} (hok : okG G) (hc : Cx X RX12 cX12_feed 8) (hr : Cr G 0 (some .int) K X) (K23 : Int32 → Int32 → Int32 → Int32 → Int32 → Int32 → RS → Prop) (h23 : ∀ (x1 x2 x3 x4 x5 x6 : Int32) (R : RS), K23 x1 x2 x3 x4 x5 x6 R → MR G X 8 R 23 [(0, .ref G.2.2.1), (1, .int x1), (2, .int x2), (3, .int x3), (4, .int x4), (5, .int x5), (6, .int x6)] []) : ∀ (x1 x2 x3 x4 x5 x6 s0 : Int32) (R : RS), w_feed_76 K23 K x1 x2 x3 x4 x5 x6 s0 R → MR G X 8 R 76 [(0, .ref G.2.2.1), (1, .int x1), (2, .int x2), (3, .int x3), (4, .int x4), (5, .int x5), (6, .int x6)] [.int s0] := by
  intro x1 x2 x3 x4 x5 x6 s0 R hw
  unfold w_feed_76 at hw
  refine m_istore hc [(7, .int s0), (0, .ref G.2.2.1), (1, .int x1), (2, .int x2), (3, .int x3), (4, .int x4), (5, .int x5), (6, .int x6)] dX12_feed_76 (Nat.le_of_ble_eq_true rfl) rfl ?_
  refine m_aload_n hc 1 dX12_feed_78 rfl rfl ?_
  refine r_geta hc hr 42 dX12_feed_79 lf_X12_110 (Nat.le_of_ble_eq_true rfl) rfl ?_
  refine m_aload_n hc 1 dX12_feed_82 rfl rfl ?_
  refine r_geti hc hr 43 dX12_feed_83 lf_X12_311 (Nat.le_of_ble_eq_true rfl) rfl ?_
  refine m_iload hc 0 dX12_feed_86 rfl ?_
  refine m_bipush hc 24 dX12_feed_88 (by decide) ?_
  refine m_bipush hc 8 dX12_feed_90 (by decide) ?_
  refine m_iload hc 7 dX12_feed_92 rfl ?_
  refine m_iconst hc 4 dX12_feed_94 (by decide) ?_
  refine m_irem hc dX12_feed_95 (by decide) ?_
  refine m_imul hc dX12_feed_96 ?_
  refine m_isub hc dX12_feed_97 ?_
  refine m_ishr hc dX12_feed_98 ?_
  refine m_sipush hc 255 dX12_feed_99 (by decide) ?_
  refine m_iand hc dX12_feed_102 ?_
  obtain ⟨hi, hw⟩ := hw
  refine r_iast hc hr (i := 31) (f := 42) rfl hi dX12_feed_103 ?_
  refine m_aload_n hc 1 dX12_feed_104 rfl rfl ?_
  refine m_dup hc dX12_feed_105 rfl ?_
  refine r_geti hc hr 43 dX12_feed_106 lf_X12_311 (Nat.le_of_ble_eq_true rfl) rfl ?_
  refine m_iconst hc 1 dX12_feed_109 (by decide) ?_
  refine m_iadd hc dX12_feed_110 ?_
  refine r_put hc hr 43 dX12_feed_111 lf_X12_311 (Nat.le_of_ble_eq_true rfl) rfl rfl (by decide +kernel) ?_
  refine m_iinc hc 7 (x6 + 1) [(6, .int (x6 + 1)), (7, .int s0), (0, .ref G.2.2.1), (1, .int x1), (2, .int x2), (3, .int x3), (4, .int x4), (5, .int x5)] dX12_feed_114 rfl rfl (Nat.le_of_ble_eq_true rfl) rfl ?_
  refine m_goto hc 23 dX12_feed_117 rfl ?_
  refine m_sub [2, 3, 4, 5, 6, 7, 0] rfl ?_
  exact h23 x1 x2 x3 x4 x5 (x6 + 1) (up (up R 42 (Int32.toNatClampNeg (R 0 43)) ((s0 >>> ((24 - (8 * (iRem x6 4))) &&& 31)) &&& 255)) 0 43 (((up R 42 (Int32.toNatClampNeg (R 0 43)) ((s0 >>> ((24 - (8 * (iRem x6 4))) &&& 31)) &&& 255)) 0 43) + 1)) hw
def wb_feed_23 (K23 : Int32 → Int32 → Int32 → Int32 → Int32 → Int32 → RS → Prop) (K : Int32 → RS → Prop) (x1 x2 x3 x4 x5 x6 : Int32) (R : RS) : Prop := (20 ≤ x6 → K (R 0 43) R) ∧ (¬ (20 ≤ x6) → (4 ≤ x6 → (8 ≤ x6 → (12 ≤ x6 → (16 ≤ x6 → w_feed_76 K23 K x1 x2 x3 x4 x5 x6 x5 R) ∧ (¬ (16 ≤ x6) → w_feed_76 K23 K x1 x2 x3 x4 x5 x6 x4 R)) ∧ (¬ (12 ≤ x6) → w_feed_76 K23 K x1 x2 x3 x4 x5 x6 x3 R)) ∧ (¬ (8 ≤ x6) → w_feed_76 K23 K x1 x2 x3 x4 x5 x6 x2 R)) ∧ (¬ (4 ≤ x6) → w_feed_76 K23 K x1 x2 x3 x4 x5 x6 x1 R))
def wl_feed_23 (K : Int32 → RS → Prop) : Nat → Int32 → Int32 → Int32 → Int32 → Int32 → Int32 → RS → Prop
  | 0 => fun _ _ _ _ _ _ _ => False
  | nn + 1 => wb_feed_23 (wl_feed_23 K nn) K
set_option maxHeartbeats 4000000 in
set_option maxRecDepth 100000 in
theorem l_feed_23 {G : RG} {X : Fx} {K : Int32 → RS → Prop} (hok : okG G) (hc : Cx X RX12 cX12_feed 8) (hr : Cr G 0 (some .int) K X) : ∀ (nn : Nat) (x1 x2 x3 x4 x5 x6 : Int32) (R : RS), wl_feed_23 K nn x1 x2 x3 x4 x5 x6 R → MR G X 8 R 23 [(0, .ref G.2.2.1), (1, .int x1), (2, .int x2), (3, .int x3), (4, .int x4), (5, .int x5), (6, .int x6)] [] := by
  intro nn
  induction nn with
  | zero => intro x1 x2 x3 x4 x5 x6 R hw; exact False.elim hw
  | succ nn ih =>
    intro x1 x2 x3 x4 x5 x6 R hw
    have hw : wb_feed_23 (wl_feed_23 K nn) K x1 x2 x3 x4 x5 x6 R := hw
    have h23 := ih
    generalize wl_feed_23 K nn = K23 at hw h23
    unfold wb_feed_23 at hw
    refine m_iload hc 6 dX12_feed_23 rfl ?_
    refine m_bipush hc 20 dX12_feed_25 (by decide) ?_
    refine m_icmp_ge hc 120 dX12_feed_27 rfl (fun cq => ?_) (fun cq => ?_)
    · have hw := hw.1 cq
      refine m_aload_n hc 0 dX12_feed_120 rfl rfl ?_
      refine r_geti hc hr 43 dX12_feed_121 lf_X12_311 (Nat.le_of_ble_eq_true rfl) rfl ?_
      exact r_iret hc hr dX12_feed_124 hw
    · have hw := hw.2 cq
      refine m_iload hc 6 dX12_feed_30 rfl ?_
      refine m_iconst hc 4 dX12_feed_32 (by decide) ?_
      refine m_icmp_ge hc 40 dX12_feed_33 rfl (fun cq => ?_) (fun cq => ?_)
      · have hw := hw.1 cq
        refine m_iload hc 6 dX12_feed_40 rfl ?_
        refine m_bipush hc 8 dX12_feed_42 (by decide) ?_
        refine m_icmp_ge hc 51 dX12_feed_44 rfl (fun cq => ?_) (fun cq => ?_)
        · have hw := hw.1 cq
          refine m_iload hc 6 dX12_feed_51 rfl ?_
          refine m_bipush hc 12 dX12_feed_53 (by decide) ?_
          refine m_icmp_ge hc 62 dX12_feed_55 rfl (fun cq => ?_) (fun cq => ?_)
          · have hw := hw.1 cq
            refine m_iload hc 6 dX12_feed_62 rfl ?_
            refine m_bipush hc 16 dX12_feed_64 (by decide) ?_
            refine m_icmp_ge hc 74 dX12_feed_66 rfl (fun cq => ?_) (fun cq => ?_)
            · have hw := hw.1 cq
              refine m_iload hc 5 dX12_feed_74 rfl ?_
              exact b_feed_76 hok hc hr K23 h23 x1 x2 x3 x4 x5 x6 x5 R hw
            · have hw := hw.2 cq
              refine m_iload hc 4 dX12_feed_69 rfl ?_
              refine m_goto hc 76 dX12_feed_71 rfl ?_
              exact b_feed_76 hok hc hr K23 h23 x1 x2 x3 x4 x5 x6 x4 R hw
          · have hw := hw.2 cq
            refine m_iload_n hc 3 dX12_feed_58 rfl rfl ?_
            refine m_goto hc 76 dX12_feed_59 rfl ?_
            exact b_feed_76 hok hc hr K23 h23 x1 x2 x3 x4 x5 x6 x3 R hw
        · have hw := hw.2 cq
          refine m_iload_n hc 2 dX12_feed_47 rfl rfl ?_
          refine m_goto hc 76 dX12_feed_48 rfl ?_
          exact b_feed_76 hok hc hr K23 h23 x1 x2 x3 x4 x5 x6 x2 R hw
      · have hw := hw.2 cq
        refine m_iload_n hc 1 dX12_feed_36 rfl rfl ?_
        refine m_goto hc 76 dX12_feed_37 rfl ?_
        exact b_feed_76 hok hc hr K23 h23 x1 x2 x3 x4 x5 x6 x1 R hw
def wp_feed (x1 x2 x3 x4 x5 : Int32) (R : RS) (K : Int32 → RS → Prop) : Prop := ((((up R 0 0 0) 0 43) + 20) ≤ 200 → ∃ nn : Nat, wl_feed_23 K nn x1 x2 x3 x4 x5 0 (up R 0 0 0)) ∧ (¬ ((((up R 0 0 0) 0 43) + 20) ≤ 200) → K (-1) (up R 0 0 0))
set_option maxHeartbeats 4000000 in
set_option maxRecDepth 100000 in
theorem ok_feed {G : RG} (hok : okG G) {x1 : Int32} {x2 : Int32} {x3 : Int32} {x4 : Int32} {x5 : Int32} {R : RS} {K : Int32 → RS → Prop} (hw : wp_feed x1 x2 x3 x4 x5 R K) : CF 0 yX12_feed cX12_feed 8 (some .int) [.ref G.2.2.1, .int x1, .int x2, .int x3, .int x4, .int x5] G R K := by
  refine CF.of (by decide +kernel) hok (Nat.le_of_ble_eq_true rfl) (fun X hc hr => ?_)
  show MR G X 8 R 0 [(0, .ref G.2.2.1), (1, .int x1), (2, .int x2), (3, .int x3), (4, .int x4), (5, .int x5)] []
  unfold wp_feed at hw
  refine m_aload_n hc 0 dX12_feed_0 rfl rfl ?_
  refine m_iconst hc 0 dX12_feed_1 (by decide) ?_
  refine r_put hc hr 0 dX12_feed_2 lf_X12_116 (Nat.le_of_ble_eq_true rfl) rfl rfl (by decide +kernel) ?_
  refine m_aload_n hc 0 dX12_feed_5 rfl rfl ?_
  refine r_geti hc hr 43 dX12_feed_6 lf_X12_311 (Nat.le_of_ble_eq_true rfl) rfl ?_
  refine m_bipush hc 20 dX12_feed_9 (by decide) ?_
  refine m_iadd hc dX12_feed_11 ?_
  refine m_sipush hc 200 dX12_feed_12 (by decide) ?_
  refine m_icmp_le hc 20 dX12_feed_15 rfl (fun cq => ?_) (fun cq => ?_)
  · have hw := hw.1 cq
    refine m_iconst hc 0 dX12_feed_20 (by decide) ?_
    refine m_istore hc [(6, .int 0), (0, .ref G.2.2.1), (1, .int x1), (2, .int x2), (3, .int x3), (4, .int x4), (5, .int x5)] dX12_feed_21 (Nat.le_of_ble_eq_true rfl) rfl ?_
    refine m_sub [1, 2, 3, 4, 5, 6, 0] rfl ?_
    obtain ⟨nn, hw⟩ := hw
    exact l_feed_23 hok hc hr nn x1 x2 x3 x4 x5 0 (up R 0 0 0) hw
  · have hw := hw.2 cq
    refine m_iconst hc (-1) dX12_feed_18 (by decide) ?_
    exact r_iret hc hr dX12_feed_19 hw
