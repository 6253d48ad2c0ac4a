def wb_layRow_11 (K2 : Int32 → Int32 → Int32 → RS → Prop) (K11 : Int32 → Int32 → Int32 → Int32 → RS → Prop) (K : Int32 → RS → Prop) (x1 x2 x3 x4 : Int32) (R : RS) : Prop := (41 ≤ x4 → K2 x1 x2 (x3 + 1) R) ∧ (¬ (41 ≤ x4) → wp_cell x1 x2 x3 x4 R (fun r1 R1 => vp_in ((x3 * 42) + x4) 1764 ∧ vp_in r1 68921 ∧ K11 x1 x2 x3 (x4 + 1) (up R1 18 (Int32.toNatClampNeg r1) (R1 19 (Int32.toNatClampNeg ((x3 * 42) + x4))))))
def wl_layRow_11 (K2 : Int32 → Int32 → Int32 → RS → Prop) (K : Int32 → RS → Prop) : Nat → Int32 → Int32 → Int32 → Int32 → RS → Prop
  | 0 => fun _ _ _ _ _ => False
  | nn + 1 => wb_layRow_11 K2 (wl_layRow_11 K2 K nn) K
set_option maxHeartbeats 4000000 in
set_option maxRecDepth 100000 in
theorem l_layRow_11 {G : RG} {X : Fx} {K : Int32 → RS → Prop} (hok : okG G) (hc : Cx X RX12 cX12_layRow 5) (hr : Cr G 2 none K X) (K2 : Int32 → Int32 → Int32 → RS → Prop) (h2 : ∀ (x1 x2 x3 : Int32) (R : RS), K2 x1 x2 x3 R → MR G X 5 R 2 [(0, .ref G.2.2.1), (1, .int x1), (2, .int x2), (3, .int x3)] []) : ∀ (nn : Nat) (x1 x2 x3 x4 : Int32) (R : RS), wl_layRow_11 K2 K nn x1 x2 x3 x4 R → MR G X 5 R 11 [(0, .ref G.2.2.1), (1, .int x1), (2, .int x2), (3, .int x3), (4, .int x4)] [] := by
  intro nn
  induction nn with
  | zero => intro x1 x2 x3 x4 R hw; exact False.elim hw
  | succ nn ih =>
    intro x1 x2 x3 x4 R hw
    have hw : wb_layRow_11 K2 (wl_layRow_11 K2 K nn) K x1 x2 x3 x4 R := hw
    have h11 := ih
    generalize wl_layRow_11 K2 K nn = K11 at hw h11
    unfold wb_layRow_11 at hw
    refine m_iload hc 4 dX12_layRow_11 rfl ?_
    refine m_bipush hc 41 dX12_layRow_13 (by decide) ?_
    refine m_icmp_ge hc 49 dX12_layRow_15 rfl (fun cq => ?_) (fun cq => ?_)
    · have hw := hw.1 cq
      refine m_iinc hc 3 (x3 + 1) [(3, .int (x3 + 1)), (0, .ref G.2.2.1), (1, .int x1), (2, .int x2), (4, .int x4)] dX12_layRow_49 rfl rfl (Nat.le_of_ble_eq_true rfl) rfl ?_
      refine m_goto hc 2 dX12_layRow_52 rfl ?_
      refine m_sub [1, 2, 3, 0] rfl ?_
      exact h2 x1 x2 (x3 + 1) R hw
    · have hw := hw.2 cq
      refine m_aload_n hc 0 dX12_layRow_18 rfl rfl ?_
      refine r_geta hc hr 18 dX12_layRow_19 lf_X12_59 (Nat.le_of_ble_eq_true rfl) rfl ?_
      refine m_iload_n hc 1 dX12_layRow_22 rfl rfl ?_
      refine m_iload_n hc 2 dX12_layRow_23 rfl rfl ?_
      refine m_iload_n hc 3 dX12_layRow_24 rfl rfl ?_
      refine m_iload hc 4 dX12_layRow_25 rfl ?_
      refine r_callSi hc hr mt_cell lm_X12_233 (ok_cell hok hw) (Nat.le_of_ble_eq_true rfl) dX12_layRow_27 rfl (rest := [.ref (G.2.2.2 18)]) rfl (Nat.le_of_ble_eq_true rfl) (fun r1 R1 hw => ?_)
      refine m_aload_n hc 0 dX12_layRow_30 rfl rfl ?_
      refine r_geta hc hr 19 dX12_layRow_31 lf_X12_62 (Nat.le_of_ble_eq_true rfl) rfl ?_
      refine m_iload_n hc 3 dX12_layRow_34 rfl rfl ?_
      refine m_bipush hc 42 dX12_layRow_35 (by decide) ?_
      refine m_imul hc dX12_layRow_37 ?_
      refine m_iload hc 4 dX12_layRow_38 rfl ?_
      refine m_iadd hc dX12_layRow_40 ?_
      obtain ⟨hi, hw⟩ := hw
      refine r_iald hc hr (i := 15) (f := 19) rfl hi dX12_layRow_41 ?_
      obtain ⟨hi, hw⟩ := hw
      refine r_iast hc hr (i := 14) (f := 18) rfl hi dX12_layRow_42 ?_
      refine m_iinc hc 4 (x4 + 1) [(4, .int (x4 + 1)), (0, .ref G.2.2.1), (1, .int x1), (2, .int x2), (3, .int x3)] dX12_layRow_43 rfl rfl (Nat.le_of_ble_eq_true rfl) rfl ?_
      refine m_goto hc 11 dX12_layRow_46 rfl ?_
      refine m_sub [1, 2, 3, 4, 0] rfl ?_
      exact h11 x1 x2 x3 (x4 + 1) (up R1 18 (Int32.toNatClampNeg r1) (R1 19 (Int32.toNatClampNeg ((x3 * 42) + x4)))) hw
def wb_layRow_2 (K2 : Int32 → Int32 → Int32 → RS → Prop) (K : Int32 → RS → Prop) (x1 x2 x3 : Int32) (R : RS) : Prop := (41 ≤ x3 → K 0 R) ∧ (¬ (41 ≤ x3) → ∃ nn : Nat, wl_layRow_11 K2 K nn x1 x2 x3 0 R)
def wl_layRow_2 (K : Int32 → RS → Prop) : Nat → Int32 → Int32 → Int32 → RS → Prop
  | 0 => fun _ _ _ _ => False
  | nn + 1 => wb_layRow_2 (wl_layRow_2 K nn) K
set_option maxHeartbeats 4000000 in
set_option maxRecDepth 100000 in
theorem l_layRow_2 {G : RG} {X : Fx} {K : Int32 → RS → Prop} (hok : okG G) (hc : Cx X RX12 cX12_layRow 5) (hr : Cr G 2 none K X) : ∀ (nn : Nat) (x1 x2 x3 : Int32) (R : RS), wl_layRow_2 K nn x1 x2 x3 R → MR G X 5 R 2 [(0, .ref G.2.2.1), (1, .int x1), (2, .int x2), (3, .int x3)] [] := by
  intro nn
  induction nn with
  | zero => intro x1 x2 x3 R hw; exact False.elim hw
  | succ nn ih =>
    intro x1 x2 x3 R hw
    have hw : wb_layRow_2 (wl_layRow_2 K nn) K x1 x2 x3 R := hw
    have h2 := ih
    generalize wl_layRow_2 K nn = K2 at hw h2
    unfold wb_layRow_2 at hw
    refine m_iload_n hc 3 dX12_layRow_2 rfl rfl ?_
    refine m_bipush hc 41 dX12_layRow_3 (by decide) ?_
    refine m_icmp_ge hc 55 dX12_layRow_5 rfl (fun cq => ?_) (fun cq => ?_)
    · have hw := hw.1 cq
      exact r_vret hc hr dX12_layRow_55 hw
    · have hw := hw.2 cq
      refine m_iconst hc 0 dX12_layRow_8 (by decide) ?_
      refine m_istore hc [(4, .int 0), (0, .ref G.2.2.1), (1, .int x1), (2, .int x2), (3, .int x3)] dX12_layRow_9 (Nat.le_of_ble_eq_true rfl) rfl ?_
      refine m_sub [1, 2, 3, 4, 0] rfl ?_
      obtain ⟨nn, hw⟩ := hw
      exact l_layRow_11 hok hc hr K2 h2 nn x1 x2 x3 0 R hw
def wp_layRow (x1 x2 : Int32) (R : RS) (K : Int32 → RS → Prop) : Prop := ∃ nn : Nat, wl_layRow_2 K nn x1 x2 0 R
set_option maxHeartbeats 4000000 in
set_option maxRecDepth 100000 in
theorem ok_layRow {G : RG} (hok : okG G) {x1 : Int32} {x2 : Int32} {R : RS} {K : Int32 → RS → Prop} (hw : wp_layRow x1 x2 R K) : CF 2 yX12_layRow cX12_layRow 5 none [.ref G.2.2.1, .int x1, .int x2] G R K := by
  refine CF.of (by decide +kernel) hok (Nat.le_of_ble_eq_true rfl) (fun X hc hr => ?_)
  show MR G X 5 R 0 [(0, .ref G.2.2.1), (1, .int x1), (2, .int x2)] []
  unfold wp_layRow at hw
  refine m_iconst hc 0 dX12_layRow_0 (by decide) ?_
  refine m_istore_n hc [(3, .int 0), (0, .ref G.2.2.1), (1, .int x1), (2, .int x2)] dX12_layRow_1 rfl (Nat.le_of_ble_eq_true rfl) rfl ?_
  refine m_sub [1, 2, 3, 0] rfl ?_
  obtain ⟨nn, hw⟩ := hw
  exact l_layRow_2 hok hc hr nn x1 x2 0 R hw
def wb_divides_119 (K119 : Int32 → RS → Prop) (K : Int32 → RS → Prop) (x2 : Int32) (R : RS) : Prop := (68921 ≤ x2 → K 1 R) ∧ (¬ (68921 ≤ x2) → vp_in x2 68921 ∧ vp_in x2 68921 ∧ K119 (x2 + 1) (up R 17 (Int32.toNatClampNeg x2) (R 18 (Int32.toNatClampNeg x2))))
def wl_divides_119 (K : Int32 → RS → Prop) : Nat → Int32 → RS → Prop
  | 0 => fun _ _ => False
  | nn + 1 => wb_divides_119 (wl_divides_119 K nn) K
set_option maxHeartbeats 4000000 in
set_option maxRecDepth 100000 in
theorem l_divides_119 {G : RG} {X : Fx} {K : Int32 → RS → Prop} (hok : okG G) (hc : Cx X RX12 cX12_divides 3) (hr : Cr G 3 (some .boolean) K X) : ∀ (nn : Nat) (x2 : Int32) (R : RS), wl_divides_119 K nn x2 R → MR G X 3 R 119 [(0, .ref G.2.2.1), (2, .int x2)] [] := by
  intro nn
  induction nn with
  | zero => intro x2 R hw; exact False.elim hw
  | succ nn ih =>
    intro x2 R hw
    have hw : wb_divides_119 (wl_divides_119 K nn) K x2 R := hw
    have h119 := ih
    generalize wl_divides_119 K nn = K119 at hw h119
    unfold wb_divides_119 at hw
    refine m_iload_n hc 1 dX12_divides_119 rfl rfl ?_
    refine m_aload_n hc 0 dX12_divides_120 rfl rfl ?_
    refine r_geta hc hr 17 dX12_divides_121 lf_X12_56 (Nat.le_of_ble_eq_true rfl) rfl ?_
    refine r_alen hc hr (i := 13) (f := 17) (v := 68921) rfl rfl dX12_divides_124 ?_
    refine m_icmp_ge hc 146 dX12_divides_125 rfl (fun cq => ?_) (fun cq => ?_)
    · have hw := hw.1 cq
      refine m_iconst hc 1 dX12_divides_146 (by decide) ?_
      exact r_zret hc hr dX12_divides_147 (by decide) hw
    · have hw := hw.2 cq
      refine m_aload_n hc 0 dX12_divides_128 rfl rfl ?_
      refine r_geta hc hr 17 dX12_divides_129 lf_X12_56 (Nat.le_of_ble_eq_true rfl) rfl ?_
      refine m_iload_n hc 1 dX12_divides_132 rfl rfl ?_
      refine m_aload_n hc 0 dX12_divides_133 rfl rfl ?_
      refine r_geta hc hr 18 dX12_divides_134 lf_X12_59 (Nat.le_of_ble_eq_true rfl) rfl ?_
      refine m_iload_n hc 1 dX12_divides_137 rfl rfl ?_
      obtain ⟨hi, hw⟩ := hw
      refine r_iald hc hr (i := 14) (f := 18) rfl hi dX12_divides_138 ?_
      obtain ⟨hi, hw⟩ := hw
      refine r_iast hc hr (i := 13) (f := 17) rfl hi dX12_divides_139 ?_
      refine m_iinc hc 1 (x2 + 1) [(2, .int (x2 + 1)), (0, .ref G.2.2.1)] dX12_divides_140 rfl rfl (Nat.le_of_ble_eq_true rfl) rfl ?_
      refine m_goto hc 119 dX12_divides_143 rfl ?_
      refine m_sub [1, 0] rfl ?_
      exact h119 (x2 + 1) (up R 17 (Int32.toNatClampNeg x2) (R 18 (Int32.toNatClampNeg x2))) hw
def wb_divides_91 (K91 : Int32 → RS → Prop) (K : Int32 → RS → Prop) (x2 : Int32) (R : RS) : Prop := (1764 ≤ x2 → ∃ nn : Nat, wl_divides_119 K nn 0 R) ∧ (¬ (1764 ≤ x2) → vp_in x2 1764 ∧ ((R 19 (Int32.toNatClampNeg x2)) = 0 → K91 (x2 + 1) R) ∧ (¬ ((R 19 (Int32.toNatClampNeg x2)) = 0) → K 0 R))
def wl_divides_91 (K : Int32 → RS → Prop) : Nat → Int32 → RS → Prop
  | 0 => fun _ _ => False
  | nn + 1 => wb_divides_91 (wl_divides_91 K nn) K
set_option maxHeartbeats 4000000 in
set_option maxRecDepth 100000 in
theorem l_divides_91 {G : RG} {X : Fx} {K : Int32 → RS → Prop} (hok : okG G) (hc : Cx X RX12 cX12_divides 3) (hr : Cr G 3 (some .boolean) K X) : ∀ (nn : Nat) (x2 : Int32) (R : RS), wl_divides_91 K nn x2 R → MR G X 3 R 91 [(0, .ref G.2.2.1), (2, .int x2)] [] := by
  intro nn
  induction nn with
  | zero => intro x2 R hw; exact False.elim hw
  | succ nn ih =>
    intro x2 R hw
    have hw : wb_divides_91 (wl_divides_91 K nn) K x2 R := hw
    have h91 := ih
    generalize wl_divides_91 K nn = K91 at hw h91
    unfold wb_divides_91 at hw
    refine m_iload_n hc 1 dX12_divides_91 rfl rfl ?_
    refine m_aload_n hc 0 dX12_divides_92 rfl rfl ?_
    refine r_geta hc hr 19 dX12_divides_93 lf_X12_62 (Nat.le_of_ble_eq_true rfl) rfl ?_
    refine r_alen hc hr (i := 15) (f := 19) (v := 1764) rfl rfl dX12_divides_96 ?_
    refine m_icmp_ge hc 117 dX12_divides_97 rfl (fun cq => ?_) (fun cq => ?_)
    · have hw := hw.1 cq
      refine m_iconst hc 0 dX12_divides_117 (by decide) ?_
      refine m_istore_n hc [(2, .int 0), (0, .ref G.2.2.1)] dX12_divides_118 rfl (Nat.le_of_ble_eq_true rfl) rfl ?_
      refine m_sub [1, 0] rfl ?_
      obtain ⟨nn, hw⟩ := hw
      exact l_divides_119 hok hc hr nn 0 R hw
    · have hw := hw.2 cq
      refine m_aload_n hc 0 dX12_divides_100 rfl rfl ?_
      refine r_geta hc hr 19 dX12_divides_101 lf_X12_62 (Nat.le_of_ble_eq_true rfl) rfl ?_
      refine m_iload_n hc 1 dX12_divides_104 rfl rfl ?_
      obtain ⟨hi, hw⟩ := hw
      refine r_iald hc hr (i := 15) (f := 19) rfl hi dX12_divides_105 ?_
      refine m_if_eq hc 111 dX12_divides_106 rfl (fun cq => ?_) (fun cq => ?_)
      · have hw := hw.1 cq
        refine m_iinc hc 1 (x2 + 1) [(2, .int (x2 + 1)), (0, .ref G.2.2.1)] dX12_divides_111 rfl rfl (Nat.le_of_ble_eq_true rfl) rfl ?_
        refine m_goto hc 91 dX12_divides_114 rfl ?_
        refine m_sub [1, 0] rfl ?_
        exact h91 (x2 + 1) R hw
      · have hw := hw.2 cq
        refine m_iconst hc 0 dX12_divides_109 (by decide) ?_
        exact r_zret hc hr dX12_divides_110 (by decide) hw
def wb_divides_56 (K56 : Int32 → Int32 → RS → Prop) (K : Int32 → RS → Prop) (x1 x2 : Int32) (R : RS) : Prop := (x2 < 0 → ∃ nn : Nat, wl_divides_91 K nn 0 R) ∧ (¬ (x2 < 0) → wp_steps x1 x2 R (fun r1 R1 => (¬ r1 = 0 → (x2 ≤ 0 → K56 x1 (x2 + (-1)) R1) ∧ (¬ (x2 ≤ 0) → wp_layRow x1 (x2 - 1) R1 (fun r2 R2 => K56 x1 (x2 + (-1)) R2))) ∧ (r1 = 0 → K 0 R1)))
def wl_divides_56 (K : Int32 → RS → Prop) : Nat → Int32 → Int32 → RS → Prop
  | 0 => fun _ _ _ => False
  | nn + 1 => wb_divides_56 (wl_divides_56 K nn) K
set_option maxHeartbeats 4000000 in
set_option maxRecDepth 100000 in
theorem l_divides_56 {G : RG} {X : Fx} {K : Int32 → RS → Prop} (hok : okG G) (hc : Cx X RX12 cX12_divides 3) (hr : Cr G 3 (some .boolean) K X) : ∀ (nn : Nat) (x1 x2 : Int32) (R : RS), wl_divides_56 K nn x1 x2 R → MR G X 3 R 56 [(0, .ref G.2.2.1), (1, .int x1), (2, .int x2)] [] := by
  intro nn
  induction nn with
  | zero => intro x1 x2 R hw; exact False.elim hw
  | succ nn ih =>
    intro x1 x2 R hw
    have hw : wb_divides_56 (wl_divides_56 K nn) K x1 x2 R := hw
    have h56 := ih
    generalize wl_divides_56 K nn = K56 at hw h56
    unfold wb_divides_56 at hw
    refine m_iload_n hc 2 dX12_divides_56 rfl rfl ?_
    refine m_if_lt hc 89 dX12_divides_57 rfl (fun cq => ?_) (fun cq => ?_)
    · have hw := hw.1 cq
      refine m_iconst hc 0 dX12_divides_89 (by decide) ?_
      refine m_istore_n hc [(2, .int 0), (0, .ref G.2.2.1), (1, .int x1)] dX12_divides_90 rfl (Nat.le_of_ble_eq_true rfl) rfl ?_
      refine m_sub [1, 0] rfl ?_
      obtain ⟨nn, hw⟩ := hw
      exact l_divides_91 hok hc hr nn 0 R hw
    · have hw := hw.2 cq
      refine m_aload_n hc 0 dX12_divides_60 rfl rfl ?_
      refine m_iload_n hc 1 dX12_divides_61 rfl rfl ?_
      refine m_iload_n hc 2 dX12_divides_62 rfl rfl ?_
      refine r_callVi hc hr mt_steps rfl lm_X12_240 (ok_steps hok hw) (Nat.le_of_ble_eq_true rfl) dX12_divides_63 rfl (rest := []) rfl (Nat.le_of_ble_eq_true rfl) (fun r1 R1 hw => ?_)
      refine m_if_ne hc 71 dX12_divides_66 rfl (fun cq => ?_) (fun cq => ?_)
      · have hw := hw.1 cq
        refine m_iload_n hc 2 dX12_divides_71 rfl rfl ?_
        refine m_if_le hc 83 dX12_divides_72 rfl (fun cq => ?_) (fun cq => ?_)
        · have hw := hw.1 cq
          refine m_iinc hc 2 (x2 + (-1)) [(2, .int (x2 + (-1))), (0, .ref G.2.2.1), (1, .int x1)] dX12_divides_83 rfl rfl (Nat.le_of_ble_eq_true rfl) rfl ?_
          refine m_goto hc 56 dX12_divides_86 rfl ?_
          refine m_sub [1, 2, 0] rfl ?_
          exact h56 x1 (x2 + (-1)) R1 hw
        · have hw := hw.2 cq
          refine m_aload_n hc 0 dX12_divides_75 rfl rfl ?_
          refine m_iload_n hc 1 dX12_divides_76 rfl rfl ?_
          refine m_iload_n hc 2 dX12_divides_77 rfl rfl ?_
          refine m_iconst hc 1 dX12_divides_78 (by decide) ?_
          refine m_isub hc dX12_divides_79 ?_
          refine r_callVv hc hr mt_layRow rfl lm_X12_243 (ok_layRow hok hw) (Nat.le_of_ble_eq_true rfl) dX12_divides_80 rfl (rest := []) rfl (Nat.le_of_ble_eq_true rfl) (fun r2 R2 hw => ?_)
          refine m_iinc hc 2 (x2 + (-1)) [(2, .int (x2 + (-1))), (0, .ref G.2.2.1), (1, .int x1)] dX12_divides_83 rfl rfl (Nat.le_of_ble_eq_true rfl) rfl ?_
          refine m_goto hc 56 dX12_divides_86 rfl ?_
          refine m_sub [1, 2, 0] rfl ?_
          exact h56 x1 (x2 + (-1)) R2 hw
      · have hw := hw.2 cq
        refine m_iconst hc 0 dX12_divides_69 (by decide) ?_
        exact r_zret hc hr dX12_divides_70 (by decide) hw
def wb_divides_31 (K31 : Int32 → Int32 → RS → Prop) (K : Int32 → RS → Prop) (x1 x2 : Int32) (R : RS) : Prop := (68921 ≤ x2 → ∃ nn : Nat, wl_divides_56 K nn x1 40 R) ∧ (¬ (68921 ≤ x2) → vp_in x2 68921 ∧ K31 x1 (x2 + 1) (up R 18 (Int32.toNatClampNeg x2) 0))
def wl_divides_31 (K : Int32 → RS → Prop) : Nat → Int32 → Int32 → RS → Prop
  | 0 => fun _ _ _ => False
  | nn + 1 => wb_divides_31 (wl_divides_31 K nn) K
set_option maxHeartbeats 4000000 in
set_option maxRecDepth 100000 in
theorem l_divides_31 {G : RG} {X : Fx} {K : Int32 → RS → Prop} (hok : okG G) (hc : Cx X RX12 cX12_divides 3) (hr : Cr G 3 (some .boolean) K X) : ∀ (nn : Nat) (x1 x2 : Int32) (R : RS), wl_divides_31 K nn x1 x2 R → MR G X 3 R 31 [(0, .ref G.2.2.1), (1, .int x1), (2, .int x2)] [] := by
  intro nn
  induction nn with
  | zero => intro x1 x2 R hw; exact False.elim hw
  | succ nn ih =>
    intro x1 x2 R hw
    have hw : wb_divides_31 (wl_divides_31 K nn) K x1 x2 R := hw
    have h31 := ih
    generalize wl_divides_31 K nn = K31 at hw h31
    unfold wb_divides_31 at hw
    refine m_iload_n hc 2 dX12_divides_31 rfl rfl ?_
    refine m_aload_n hc 0 dX12_divides_32 rfl rfl ?_
    refine r_geta hc hr 18 dX12_divides_33 lf_X12_59 (Nat.le_of_ble_eq_true rfl) rfl ?_
    refine r_alen hc hr (i := 14) (f := 18) (v := 68921) rfl rfl dX12_divides_36 ?_
    refine m_icmp_ge hc 53 dX12_divides_37 rfl (fun cq => ?_) (fun cq => ?_)
    · have hw := hw.1 cq
      refine m_bipush hc 40 dX12_divides_53 (by decide) ?_
      refine m_istore_n hc [(2, .int 40), (0, .ref G.2.2.1), (1, .int x1)] dX12_divides_55 rfl (Nat.le_of_ble_eq_true rfl) rfl ?_
      refine m_sub [1, 2, 0] rfl ?_
      obtain ⟨nn, hw⟩ := hw
      exact l_divides_56 hok hc hr nn x1 40 R hw
    · have hw := hw.2 cq
      refine m_aload_n hc 0 dX12_divides_40 rfl rfl ?_
      refine r_geta hc hr 18 dX12_divides_41 lf_X12_59 (Nat.le_of_ble_eq_true rfl) rfl ?_
      refine m_iload_n hc 2 dX12_divides_44 rfl rfl ?_
      refine m_iconst hc 0 dX12_divides_45 (by decide) ?_
      obtain ⟨hi, hw⟩ := hw
      refine r_iast hc hr (i := 14) (f := 18) rfl hi dX12_divides_46 ?_
      refine m_iinc hc 2 (x2 + 1) [(2, .int (x2 + 1)), (0, .ref G.2.2.1), (1, .int x1)] dX12_divides_47 rfl rfl (Nat.le_of_ble_eq_true rfl) rfl ?_
      refine m_goto hc 31 dX12_divides_50 rfl ?_
      refine m_sub [1, 2, 0] rfl ?_
      exact h31 x1 (x2 + 1) (up R 18 (Int32.toNatClampNeg x2) 0) hw
def wb_divides_7 (K7 : Int32 → Int32 → RS → Prop) (K : Int32 → RS → Prop) (x1 x2 : Int32) (R : RS) : Prop := (1764 ≤ x2 → ∃ nn : Nat, wl_divides_31 K nn x1 0 R) ∧ (¬ (1764 ≤ x2) → vp_in x2 1764 ∧ K7 x1 (x2 + 1) (up R 19 (Int32.toNatClampNeg x2) 0))
def wl_divides_7 (K : Int32 → RS → Prop) : Nat → Int32 → Int32 → RS → Prop
  | 0 => fun _ _ _ => False
  | nn + 1 => wb_divides_7 (wl_divides_7 K nn) K
set_option maxHeartbeats 4000000 in
set_option maxRecDepth 100000 in
theorem l_divides_7 {G : RG} {X : Fx} {K : Int32 → RS → Prop} (hok : okG G) (hc : Cx X RX12 cX12_divides 3) (hr : Cr G 3 (some .boolean) K X) : ∀ (nn : Nat) (x1 x2 : Int32) (R : RS), wl_divides_7 K nn x1 x2 R → MR G X 3 R 7 [(0, .ref G.2.2.1), (1, .int x1), (2, .int x2)] [] := by
  intro nn
  induction nn with
  | zero => intro x1 x2 R hw; exact False.elim hw
  | succ nn ih =>
    intro x1 x2 R hw
    have hw : wb_divides_7 (wl_divides_7 K nn) K x1 x2 R := hw
    have h7 := ih
    generalize wl_divides_7 K nn = K7 at hw h7
    unfold wb_divides_7 at hw
    refine m_iload_n hc 2 dX12_divides_7 rfl rfl ?_
    refine m_aload_n hc 0 dX12_divides_8 rfl rfl ?_
    refine r_geta hc hr 19 dX12_divides_9 lf_X12_62 (Nat.le_of_ble_eq_true rfl) rfl ?_
    refine r_alen hc hr (i := 15) (f := 19) (v := 1764) rfl rfl dX12_divides_12 ?_
    refine m_icmp_ge hc 29 dX12_divides_13 rfl (fun cq => ?_) (fun cq => ?_)
    · have hw := hw.1 cq
      refine m_iconst hc 0 dX12_divides_29 (by decide) ?_
      refine m_istore_n hc [(2, .int 0), (0, .ref G.2.2.1), (1, .int x1)] dX12_divides_30 rfl (Nat.le_of_ble_eq_true rfl) rfl ?_
      refine m_sub [1, 2, 0] rfl ?_
      obtain ⟨nn, hw⟩ := hw
      exact l_divides_31 hok hc hr nn x1 0 R hw
    · have hw := hw.2 cq
      refine m_aload_n hc 0 dX12_divides_16 rfl rfl ?_
      refine r_geta hc hr 19 dX12_divides_17 lf_X12_62 (Nat.le_of_ble_eq_true rfl) rfl ?_
      refine m_iload_n hc 2 dX12_divides_20 rfl rfl ?_
      refine m_iconst hc 0 dX12_divides_21 (by decide) ?_
      obtain ⟨hi, hw⟩ := hw
      refine r_iast hc hr (i := 15) (f := 19) rfl hi dX12_divides_22 ?_
      refine m_iinc hc 2 (x2 + 1) [(2, .int (x2 + 1)), (0, .ref G.2.2.1), (1, .int x1)] dX12_divides_23 rfl rfl (Nat.le_of_ble_eq_true rfl) rfl ?_
      refine m_goto hc 7 dX12_divides_26 rfl ?_
      refine m_sub [1, 2, 0] rfl ?_
      exact h7 x1 (x2 + 1) (up R 19 (Int32.toNatClampNeg x2) 0) hw
def wp_divides (R : RS) (K : Int32 → RS → Prop) : Prop := wp_lead R (fun r1 R1 => ∃ nn : Nat, wl_divides_7 K nn r1 0 R1)
set_option maxHeartbeats 4000000 in
set_option maxRecDepth 100000 in
theorem ok_divides {G : RG} (hok : okG G) {R : RS} {K : Int32 → RS → Prop} (hw : wp_divides R K) : CF 3 yX12_divides cX12_divides 3 (some .boolean) [.ref G.2.2.1] G R K := by
  refine CF.of (by decide +kernel) hok (Nat.le_of_ble_eq_true rfl) (fun X hc hr => ?_)
  show MR G X 3 R 0 [(0, .ref G.2.2.1)] []
  unfold wp_divides at hw
  refine m_aload_n hc 0 dX12_divides_0 rfl rfl ?_
  refine r_callVi hc hr mt_lead rfl lm_X12_236 (ok_lead hok hw) (Nat.le_of_ble_eq_true rfl) dX12_divides_1 rfl (rest := []) rfl (Nat.le_of_ble_eq_true rfl) (fun r1 R1 hw => ?_)
  refine m_istore_n hc [(1, .int r1), (0, .ref G.2.2.1)] dX12_divides_4 rfl (Nat.le_of_ble_eq_true rfl) rfl ?_
  refine m_iconst hc 0 dX12_divides_5 (by decide) ?_
  refine m_istore_n hc [(2, .int 0), (1, .int r1), (0, .ref G.2.2.1)] dX12_divides_6 rfl (Nat.le_of_ble_eq_true rfl) rfl ?_
  refine m_sub [2, 1, 0] rfl ?_
  obtain ⟨nn, hw⟩ := hw
  exact l_divides_7 hok hc hr nn r1 0 R1 hw
def wb_oftenOf_16 (K16 : Int32 → RS → Prop) (K : Int32 → RS → Prop) (x2 : Int32) (R : RS) : Prop := wp_divides R (fun r1 R1 => (r1 = 0 → K x2 R1) ∧ (¬ (r1 = 0) → K16 (x2 + 1) R1))
def wl_oftenOf_16 (K : Int32 → RS → Prop) : Nat → Int32 → RS → Prop
  | 0 => fun _ _ => False
  | nn + 1 => wb_oftenOf_16 (wl_oftenOf_16 K nn) K
set_option maxHeartbeats 4000000 in
set_option maxRecDepth 100000 in
theorem l_oftenOf_16 {G : RG} {X : Fx} {K : Int32 → RS → Prop} (hok : okG G) (hc : Cx X RX12 cX12_oftenOf 3) (hr : Cr G 4 (some .int) K X) : ∀ (nn : Nat) (x2 : Int32) (R : RS), wl_oftenOf_16 K nn x2 R → MR G X 3 R 16 [(0, .ref G.2.2.1), (2, .int x2)] [] := by
  intro nn
  induction nn with
  | zero => intro x2 R hw; exact False.elim hw
  | succ nn ih =>
    intro x2 R hw
    have hw : wb_oftenOf_16 (wl_oftenOf_16 K nn) K x2 R := hw
    have h16 := ih
    generalize wl_oftenOf_16 K nn = K16 at hw h16
    unfold wb_oftenOf_16 at hw
    refine m_aload_n hc 0 dX12_oftenOf_16 rfl rfl ?_
    refine r_callVi hc hr mt_divides rfl lm_X12_253 (ok_divides hok hw) (Nat.le_of_ble_eq_true rfl) dX12_oftenOf_17 rfl (rest := []) rfl (Nat.le_of_ble_eq_true rfl) (fun r1 R1 hw => ?_)
    refine m_if_eq hc 29 dX12_oftenOf_20 rfl (fun cq => ?_) (fun cq => ?_)
    · have hw := hw.1 cq
      refine m_iload_n hc 1 dX12_oftenOf_29 rfl rfl ?_
      exact r_iret hc hr dX12_oftenOf_30 hw
    · have hw := hw.2 cq
      refine m_iinc hc 1 (x2 + 1) [(2, .int (x2 + 1)), (0, .ref G.2.2.1)] dX12_oftenOf_23 rfl rfl (Nat.le_of_ble_eq_true rfl) rfl ?_
      refine m_goto hc 16 dX12_oftenOf_26 rfl ?_
      refine m_sub [1, 0] rfl ?_
      exact h16 (x2 + 1) R1 hw
def wp_oftenOf (x1 : Int32) (R : RS) (K : Int32 → RS → Prop) : Prop := wp_vanishes R (fun r1 R1 => (¬ r1 = 0 → wp_layWhole x1 R1 (fun r2 R2 => ∃ nn : Nat, wl_oftenOf_16 K nn 0 R2)) ∧ (r1 = 0 → K 0 R1))
set_option maxHeartbeats 4000000 in
set_option maxRecDepth 100000 in
theorem ok_oftenOf {G : RG} (hok : okG G) {x1 : Int32} {R : RS} {K : Int32 → RS → Prop} (hw : wp_oftenOf x1 R K) : CF 4 yX12_oftenOf cX12_oftenOf 3 (some .int) [.ref G.2.2.1, .int x1] G R K := by
  refine CF.of (by decide +kernel) hok (Nat.le_of_ble_eq_true rfl) (fun X hc hr => ?_)
  show MR G X 3 R 0 [(0, .ref G.2.2.1), (1, .int x1)] []
  unfold wp_oftenOf at hw
  refine m_aload_n hc 0 dX12_oftenOf_0 rfl rfl ?_
  refine r_callVi hc hr mt_vanishes rfl lm_X12_246 (ok_vanishes hok hw) (Nat.le_of_ble_eq_true rfl) dX12_oftenOf_1 rfl (rest := []) rfl (Nat.le_of_ble_eq_true rfl) (fun r1 R1 hw => ?_)
  refine m_if_ne hc 9 dX12_oftenOf_4 rfl (fun cq => ?_) (fun cq => ?_)
  · have hw := hw.1 cq
    refine m_aload_n hc 0 dX12_oftenOf_9 rfl rfl ?_
    refine m_iload_n hc 1 dX12_oftenOf_10 rfl rfl ?_
    refine r_callVv hc hr mt_layWhole rfl lm_X12_250 (ok_layWhole hok hw) (Nat.le_of_ble_eq_true rfl) dX12_oftenOf_11 rfl (rest := []) rfl (Nat.le_of_ble_eq_true rfl) (fun r2 R2 hw => ?_)
    refine m_iconst hc 0 dX12_oftenOf_14 (by decide) ?_
    refine m_istore_n hc [(2, .int 0), (0, .ref G.2.2.1), (1, .int x1)] dX12_oftenOf_15 rfl (Nat.le_of_ble_eq_true rfl) rfl ?_
    refine m_sub [1, 0] rfl ?_
    obtain ⟨nn, hw⟩ := hw
    exact l_oftenOf_16 hok hc hr nn 0 R2 hw
  · have hw := hw.2 cq
    refine m_iconst hc 0 dX12_oftenOf_7 (by decide) ?_
    exact r_iret hc hr dX12_oftenOf_8 hw
def wb_rest_69 (K69 : Int32 → Int32 → Int32 → RS → Prop) (K : Int32 → RS → Prop) (x1 x4 x5 : Int32) (R : RS) : Prop := (68921 ≤ x5 → vp_in x1 56 ∧ K 1 (up R 2 (Int32.toNatClampNeg x1) x4)) ∧ (¬ (68921 ≤ x5) → vp_in x5 68921 ∧ (¬ (R 17 (Int32.toNatClampNeg x5)) = 0 → ((x4 + 1) ≤ 300 → vp_in (((300 * x1) + (x4 + 1)) - 1) 16800 ∧ vp_in x5 68921 ∧ vp_in (((300 * x1) + (x4 + 1)) - 1) 16800 ∧ K69 x1 (x4 + 1) (x5 + 1) (up (up R 3 (Int32.toNatClampNeg (((300 * x1) + (x4 + 1)) - 1)) x5) 4 (Int32.toNatClampNeg (((300 * x1) + (x4 + 1)) - 1)) ((up R 3 (Int32.toNatClampNeg (((300 * x1) + (x4 + 1)) - 1)) x5) 17 (Int32.toNatClampNeg x5)))) ∧ (¬ ((x4 + 1) ≤ 300) → K 0 R)) ∧ ((R 17 (Int32.toNatClampNeg x5)) = 0 → K69 x1 x4 (x5 + 1) R))
def wl_rest_69 (K : Int32 → RS → Prop) : Nat → Int32 → Int32 → Int32 → RS → Prop
  | 0 => fun _ _ _ _ => False
  | nn + 1 => wb_rest_69 (wl_rest_69 K nn) K
set_option maxHeartbeats 4000000 in
set_option maxRecDepth 100000 in
theorem l_rest_69 {G : RG} {X : Fx} {K : Int32 → RS → Prop} (hok : okG G) (hc : Cx X RX12 cX12_rest 6) (hr : Cr G 4 (some .boolean) K X) : ∀ (nn : Nat) (x1 x4 x5 : Int32) (R : RS), wl_rest_69 K nn x1 x4 x5 R → MR G X 6 R 69 [(0, .ref G.2.2.1), (1, .int x1), (4, .int x4), (5, .int x5)] [] := by
  intro nn
  induction nn with
  | zero => intro x1 x4 x5 R hw; exact False.elim hw
  | succ nn ih =>
    intro x1 x4 x5 R hw
    have hw : wb_rest_69 (wl_rest_69 K nn) K x1 x4 x5 R := hw
    have h69 := ih
    generalize wl_rest_69 K nn = K69 at hw h69
    unfold wb_rest_69 at hw
    refine m_iload hc 3 dX12_rest_69 rfl ?_
    refine m_aload_n hc 0 dX12_rest_71 rfl rfl ?_
    refine r_geta hc hr 17 dX12_rest_72 lf_X12_56 (Nat.le_of_ble_eq_true rfl) rfl ?_
    refine r_alen hc hr (i := 13) (f := 17) (v := 68921) rfl rfl dX12_rest_75 ?_
    refine m_icmp_ge hc 150 dX12_rest_76 rfl (fun cq => ?_) (fun cq => ?_)
    · have hw := hw.1 cq
      refine m_aload_n hc 0 dX12_rest_150 rfl rfl ?_
      refine r_geta hc hr 2 dX12_rest_151 lf_X12_13 (Nat.le_of_ble_eq_true rfl) rfl ?_
      refine m_iload_n hc 1 dX12_rest_154 rfl rfl ?_
      refine m_iload hc 2 dX12_rest_155 rfl ?_
      obtain ⟨hi, hw⟩ := hw
      refine r_iast hc hr (i := 0) (f := 2) rfl hi dX12_rest_157 ?_
      refine m_iconst hc 1 dX12_rest_158 (by decide) ?_
      exact r_zret hc hr dX12_rest_159 (by decide) hw
    · have hw := hw.2 cq
      refine m_aload_n hc 0 dX12_rest_79 rfl rfl ?_
      refine r_geta hc hr 17 dX12_rest_80 lf_X12_56 (Nat.le_of_ble_eq_true rfl) rfl ?_
      refine m_iload hc 3 dX12_rest_83 rfl ?_
      obtain ⟨hi, hw⟩ := hw
      refine r_iald hc hr (i := 13) (f := 17) rfl hi dX12_rest_85 ?_
      refine m_if_ne hc 92 dX12_rest_86 rfl (fun cq => ?_) (fun cq => ?_)
      · have hw := hw.1 cq
        refine m_iinc hc 2 (x4 + 1) [(4, .int (x4 + 1)), (0, .ref G.2.2.1), (1, .int x1), (5, .int x5)] dX12_rest_92 rfl rfl (Nat.le_of_ble_eq_true rfl) rfl ?_
        refine m_iload hc 0 dX12_rest_95 rfl ?_
        refine m_sipush hc 300 dX12_rest_97 (by decide) ?_
        refine m_icmp_le hc 105 dX12_rest_100 rfl (fun cq => ?_) (fun cq => ?_)
        · have hw := hw.1 cq
          refine m_aload_n hc 1 dX12_rest_105 rfl rfl ?_
          refine r_geta hc hr 3 dX12_rest_106 lf_X12_17 (Nat.le_of_ble_eq_true rfl) rfl ?_
          refine m_sipush hc 300 dX12_rest_109 (by decide) ?_
          refine m_iload_n hc 2 dX12_rest_112 rfl rfl ?_
          refine m_imul hc dX12_rest_113 ?_
          refine m_iload hc 0 dX12_rest_114 rfl ?_
          refine m_iadd hc dX12_rest_116 ?_
          refine m_iconst hc 1 dX12_rest_117 (by decide) ?_
          refine m_isub hc dX12_rest_118 ?_
          refine m_iload hc 3 dX12_rest_119 rfl ?_
          obtain ⟨hi, hw⟩ := hw
          refine r_iast hc hr (i := 1) (f := 3) rfl hi dX12_rest_121 ?_
          refine m_aload_n hc 1 dX12_rest_122 rfl rfl ?_
          refine r_geta hc hr 4 dX12_rest_123 lf_X12_20 (Nat.le_of_ble_eq_true rfl) rfl ?_
          refine m_sipush hc 300 dX12_rest_126 (by decide) ?_
          refine m_iload_n hc 2 dX12_rest_129 rfl rfl ?_
          refine m_imul hc dX12_rest_130 ?_
          refine m_iload hc 0 dX12_rest_131 rfl ?_
          refine m_iadd hc dX12_rest_133 ?_
          refine m_iconst hc 1 dX12_rest_134 (by decide) ?_
          refine m_isub hc dX12_rest_135 ?_
          refine m_aload_n hc 1 dX12_rest_136 rfl rfl ?_
          refine r_geta hc hr 17 dX12_rest_137 lf_X12_56 (Nat.le_of_ble_eq_true rfl) rfl ?_
          refine m_iload hc 3 dX12_rest_140 rfl ?_
          obtain ⟨hi, hw⟩ := hw
          refine r_iald hc hr (i := 13) (f := 17) rfl hi dX12_rest_142 ?_
          obtain ⟨hi, hw⟩ := hw
          refine r_iast hc hr (i := 2) (f := 4) rfl hi dX12_rest_143 ?_
          refine m_iinc hc 3 (x5 + 1) [(5, .int (x5 + 1)), (4, .int (x4 + 1)), (0, .ref G.2.2.1), (1, .int x1)] dX12_rest_144 rfl rfl (Nat.le_of_ble_eq_true rfl) rfl ?_
          refine m_goto hc 69 dX12_rest_147 rfl ?_
          refine m_sub [2, 3, 1, 0] rfl ?_
          exact h69 x1 (x4 + 1) (x5 + 1) (up (up R 3 (Int32.toNatClampNeg (((300 * x1) + (x4 + 1)) - 1)) x5) 4 (Int32.toNatClampNeg (((300 * x1) + (x4 + 1)) - 1)) ((up R 3 (Int32.toNatClampNeg (((300 * x1) + (x4 + 1)) - 1)) x5) 17 (Int32.toNatClampNeg x5))) hw
        · have hw := hw.2 cq
          refine m_iconst hc 0 dX12_rest_103 (by decide) ?_
          exact r_zret hc hr dX12_rest_104 (by decide) hw
      · have hw := hw.2 cq
        refine m_goto hc 144 dX12_rest_89 rfl ?_
        refine m_iinc hc 3 (x5 + 1) [(5, .int (x5 + 1)), (0, .ref G.2.2.1), (1, .int x1), (4, .int x4)] dX12_rest_144 rfl rfl (Nat.le_of_ble_eq_true rfl) rfl ?_
        refine m_goto hc 69 dX12_rest_147 rfl ?_
        refine m_sub [1, 2, 3, 0] rfl ?_
        exact h69 x1 x4 (x5 + 1) R hw
def wb_rest_43 (K18 : Int32 → Int32 → Int32 → RS → Prop) (K43 : Int32 → Int32 → Int32 → Int32 → RS → Prop) (K : Int32 → RS → Prop) (x1 x3 x4 x5 : Int32) (R : RS) : Prop := (x5 = 0 → K18 x1 x3 (x4 + 1) R) ∧ (¬ (x5 = 0) → wp_divides R (fun r1 R1 => K43 x1 x3 x4 r1 R1))
def wl_rest_43 (K18 : Int32 → Int32 → Int32 → RS → Prop) (K : Int32 → RS → Prop) : Nat → Int32 → Int32 → Int32 → Int32 → RS → Prop
  | 0 => fun _ _ _ _ _ => False
  | nn + 1 => wb_rest_43 K18 (wl_rest_43 K18 K nn) K
set_option maxHeartbeats 4000000 in
set_option maxRecDepth 100000 in
theorem l_rest_43 {G : RG} {X : Fx} {K : Int32 → RS → Prop} (hok : okG G) (hc : Cx X RX12 cX12_rest 6) (hr : Cr G 4 (some .boolean) K X) (K18 : Int32 → Int32 → Int32 → RS → Prop) (h18 : ∀ (x1 x3 x4 : Int32) (R : RS), K18 x1 x3 x4 R → MR G X 6 R 18 [(0, .ref G.2.2.1), (1, .int x1), (3, .int x3), (4, .int x4)] []) : ∀ (nn : Nat) (x1 x3 x4 x5 : Int32) (R : RS), wl_rest_43 K18 K nn x1 x3 x4 x5 R → MR G X 6 R 43 [(0, .ref G.2.2.1), (1, .int x1), (3, .int x3), (4, .int x4), (5, .int x5)] [] := by
  intro nn
  induction nn with
  | zero => intro x1 x3 x4 x5 R hw; exact False.elim hw
  | succ nn ih =>
    intro x1 x3 x4 x5 R hw
    have hw : wb_rest_43 K18 (wl_rest_43 K18 K nn) K x1 x3 x4 x5 R := hw
    have h43 := ih
    generalize wl_rest_43 K18 K nn = K43 at hw h43
    unfold wb_rest_43 at hw
    refine m_iload hc 4 dX12_rest_43 rfl ?_
    refine m_if_eq hc 57 dX12_rest_45 rfl (fun cq => ?_) (fun cq => ?_)
    · have hw := hw.1 cq
      refine m_iinc hc 3 (x4 + 1) [(4, .int (x4 + 1)), (0, .ref G.2.2.1), (1, .int x1), (3, .int x3), (5, .int x5)] dX12_rest_57 rfl rfl (Nat.le_of_ble_eq_true rfl) rfl ?_
      refine m_goto hc 18 dX12_rest_60 rfl ?_
      refine m_sub [1, 2, 3, 0] rfl ?_
      exact h18 x1 x3 (x4 + 1) R hw
    · have hw := hw.2 cq
      refine m_aload_n hc 0 dX12_rest_48 rfl rfl ?_
      refine r_callVi hc hr mt_divides rfl lm_X12_253 (ok_divides hok hw) (Nat.le_of_ble_eq_true rfl) dX12_rest_49 rfl (rest := []) rfl (Nat.le_of_ble_eq_true rfl) (fun r1 R1 hw => ?_)
      refine m_istore hc [(5, .int r1), (0, .ref G.2.2.1), (1, .int x1), (3, .int x3), (4, .int x4)] dX12_rest_52 (Nat.le_of_ble_eq_true rfl) rfl ?_
      refine m_goto hc 43 dX12_rest_54 rfl ?_
      refine m_sub [1, 2, 3, 4, 0] rfl ?_
      exact h43 x1 x3 x4 r1 R1 hw
def wb_rest_18 (K18 : Int32 → Int32 → Int32 → RS → Prop) (K : Int32 → RS → Prop) (x1 x3 x4 : Int32) (R : RS) : Prop := (x3 ≤ x4 → ∃ nn : Nat, wl_rest_69 K nn x1 0 0 R) ∧ (¬ (x3 ≤ x4) → wp_layLine x4 R (fun r1 R1 => wp_vanishes R1 (fun r2 R2 => (¬ r2 = 0 → ∃ nn : Nat, wl_rest_43 K18 K nn x1 x3 x4 1 R2) ∧ (r2 = 0 → K18 x1 x3 (x4 + 1) R2))))
def wl_rest_18 (K : Int32 → RS → Prop) : Nat → Int32 → Int32 → Int32 → RS → Prop
  | 0 => fun _ _ _ _ => False
  | nn + 1 => wb_rest_18 (wl_rest_18 K nn) K
set_option maxHeartbeats 4000000 in
set_option maxRecDepth 100000 in
theorem l_rest_18 {G : RG} {X : Fx} {K : Int32 → RS → Prop} (hok : okG G) (hc : Cx X RX12 cX12_rest 6) (hr : Cr G 4 (some .boolean) K X) : ∀ (nn : Nat) (x1 x3 x4 : Int32) (R : RS), wl_rest_18 K nn x1 x3 x4 R → MR G X 6 R 18 [(0, .ref G.2.2.1), (1, .int x1), (3, .int x3), (4, .int x4)] [] := by
  intro nn
  induction nn with
  | zero => intro x1 x3 x4 R hw; exact False.elim hw
  | succ nn ih =>
    intro x1 x3 x4 R hw
    have hw : wb_rest_18 (wl_rest_18 K nn) K x1 x3 x4 R := hw
    have h18 := ih
    generalize wl_rest_18 K nn = K18 at hw h18
    unfold wb_rest_18 at hw
    refine m_iload hc 3 dX12_rest_18 rfl ?_
    refine m_iload_n hc 2 dX12_rest_20 rfl rfl ?_
    refine m_icmp_ge hc 63 dX12_rest_21 rfl (fun cq => ?_) (fun cq => ?_)
    · have hw := hw.1 cq
      refine m_iconst hc 0 dX12_rest_63 (by decide) ?_
      refine m_istore hc [(4, .int 0), (0, .ref G.2.2.1), (1, .int x1), (3, .int x3)] dX12_rest_64 (Nat.le_of_ble_eq_true rfl) rfl ?_
      refine m_iconst hc 0 dX12_rest_66 (by decide) ?_
      refine m_istore hc [(5, .int 0), (4, .int 0), (0, .ref G.2.2.1), (1, .int x1), (3, .int x3)] dX12_rest_67 (Nat.le_of_ble_eq_true rfl) rfl ?_
      refine m_sub [2, 3, 1, 0] rfl ?_
      obtain ⟨nn, hw⟩ := hw
      exact l_rest_69 hok hc hr nn x1 0 0 R hw
    · have hw := hw.2 cq
      refine m_aload_n hc 0 dX12_rest_24 rfl rfl ?_
      refine m_iload hc 3 dX12_rest_25 rfl ?_
      refine r_callVv hc hr mt_layLine rfl lm_X12_262 (ok_layLine hok hw) (Nat.le_of_ble_eq_true rfl) dX12_rest_27 rfl (rest := []) rfl (Nat.le_of_ble_eq_true rfl) (fun r1 R1 hw => ?_)
      refine m_aload_n hc 0 dX12_rest_30 rfl rfl ?_
      refine r_callVi hc hr mt_vanishes rfl lm_X12_246 (ok_vanishes hok hw) (Nat.le_of_ble_eq_true rfl) dX12_rest_31 rfl (rest := []) rfl (Nat.le_of_ble_eq_true rfl) (fun r2 R2 hw => ?_)
      refine m_if_ne hc 40 dX12_rest_34 rfl (fun cq => ?_) (fun cq => ?_)
      · have hw := hw.1 cq
        refine m_iconst hc 1 dX12_rest_40 (by decide) ?_
        refine m_istore hc [(5, .int 1), (0, .ref G.2.2.1), (1, .int x1), (3, .int x3), (4, .int x4)] dX12_rest_41 (Nat.le_of_ble_eq_true rfl) rfl ?_
        refine m_sub [1, 2, 3, 4, 0] rfl ?_
        obtain ⟨nn, hw⟩ := hw
        exact l_rest_43 hok hc hr K18 h18 nn x1 x3 x4 1 R2 hw
      · have hw := hw.2 cq
        refine m_goto hc 57 dX12_rest_37 rfl ?_
        refine m_iinc hc 3 (x4 + 1) [(4, .int (x4 + 1)), (0, .ref G.2.2.1), (1, .int x1), (3, .int x3)] dX12_rest_57 rfl rfl (Nat.le_of_ble_eq_true rfl) rfl ?_
        refine m_goto hc 18 dX12_rest_60 rfl ?_
        refine m_sub [1, 2, 3, 0] rfl ?_
        exact h18 x1 x3 (x4 + 1) R2 hw
def wp_rest (x1 x2 : Int32) (R : RS) (K : Int32 → RS → Prop) : Prop := wp_layValues x2 R (fun r1 R1 => wp_layWhole x2 R1 (fun r2 R2 => wp_lines R2 (fun r3 R3 => ∃ nn : Nat, wl_rest_18 K nn x1 r3 0 R3)))
set_option maxHeartbeats 4000000 in
set_option maxRecDepth 100000 in
theorem ok_rest {G : RG} (hok : okG G) {x1 : Int32} {x2 : Int32} {R : RS} {K : Int32 → RS → Prop} (hw : wp_rest x1 x2 R K) : CF 4 yX12_rest cX12_rest 6 (some .boolean) [.ref G.2.2.1, .int x1, .int x2] G R K := by
  refine CF.of (by decide +kernel) hok (Nat.le_of_ble_eq_true rfl) (fun X hc hr => ?_)
  show MR G X 6 R 0 [(0, .ref G.2.2.1), (1, .int x1), (2, .int x2)] []
  unfold wp_rest at hw
  refine m_aload_n hc 0 dX12_rest_0 rfl rfl ?_
  refine m_iload_n hc 2 dX12_rest_1 rfl rfl ?_
  refine r_callVv hc hr mt_layValues rfl lm_X12_256 (ok_layValues hok hw) (Nat.le_of_ble_eq_true rfl) dX12_rest_2 rfl (rest := []) rfl (Nat.le_of_ble_eq_true rfl) (fun r1 R1 hw => ?_)
  refine m_aload_n hc 0 dX12_rest_5 rfl rfl ?_
  refine m_iload_n hc 2 dX12_rest_6 rfl rfl ?_
  refine r_callVv hc hr mt_layWhole rfl lm_X12_250 (ok_layWhole hok hw) (Nat.le_of_ble_eq_true rfl) dX12_rest_7 rfl (rest := []) rfl (Nat.le_of_ble_eq_true rfl) (fun r2 R2 hw => ?_)
  refine m_aload_n hc 0 dX12_rest_10 rfl rfl ?_
  refine r_callVi hc hr mt_lines rfl lm_X12_259 (ok_lines hok hw) (Nat.le_of_ble_eq_true rfl) dX12_rest_11 rfl (rest := []) rfl (Nat.le_of_ble_eq_true rfl) (fun r3 R3 hw => ?_)
  refine m_istore_n hc [(3, .int r3), (0, .ref G.2.2.1), (1, .int x1), (2, .int x2)] dX12_rest_14 rfl (Nat.le_of_ble_eq_true rfl) rfl ?_
  refine m_iconst hc 0 dX12_rest_15 (by decide) ?_
  refine m_istore hc [(4, .int 0), (3, .int r3), (0, .ref G.2.2.1), (1, .int x1), (2, .int x2)] dX12_rest_16 (Nat.le_of_ble_eq_true rfl) rfl ?_
  refine m_sub [2, 3, 1, 0] rfl ?_
  obtain ⟨nn, hw⟩ := hw
  exact l_rest_18 hok hc hr nn x1 r3 0 R3 hw
def wp_isPlace (x0 : Int32) (R : RS) (K : Int32 → RS → Prop) : Prop := wp_isIn x0 0 5 R (fun r1 R1 => (r1 = 0 ∨ r1 = 1) ∧ K r1 R1)
set_option maxHeartbeats 4000000 in
set_option maxRecDepth 100000 in
theorem ok_isPlace {G : RG} (hok : okG G) {x0 : Int32} {R : RS} {K : Int32 → RS → Prop} (hw : wp_isPlace x0 R K) : CF 1 yX12_isPlace cX12_isPlace 1 (some .boolean) [.int x0] G R K := by
  refine CF.of (by decide +kernel) hok (Nat.le_of_ble_eq_true rfl) (fun X hc hr => ?_)
  show MR G X 1 R 0 [(0, .int x0)] []
  unfold wp_isPlace at hw
  refine m_iload_n hc 0 dX12_isPlace_0 rfl rfl ?_
  refine m_iconst hc 0 dX12_isPlace_1 (by decide) ?_
  refine m_iconst hc 5 dX12_isPlace_2 (by decide) ?_
  refine r_callSi hc hr mt_isIn lm_X12_181 (ok_isIn hok hw) (Nat.le_of_ble_eq_true rfl) dX12_isPlace_3 rfl (rest := []) rfl (Nat.le_of_ble_eq_true rfl) (fun r1 R1 hw => ?_)
  exact r_zret hc hr dX12_isPlace_6 hw.1 hw.2
def wp_makes (x1 x2 x3 x4 : Int32) (R : RS) (K : Int32 → RS → Prop) : Prop := ((Int32.toInt x2 < 0 ∨ 8 < Int32.toInt x2) → wp_turned x1 x3 x4 R (fun r1 R1 => (r1 = 0 ∨ r1 = 1) ∧ K r1 R1)) ∧ (x2 = 0 → wp_sum x1 x3 x4 1 R (fun r2 R2 => (r2 = 0 ∨ r2 = 1) ∧ K r2 R2)) ∧ (x2 = 1 → wp_sum x1 x3 x4 (-1) R (fun r3 R3 => (r3 = 0 ∨ r3 = 1) ∧ K r3 R3)) ∧ (x2 = 2 → wp_product x1 x3 x4 R (fun r4 R4 => (r4 = 0 ∨ r4 = 1) ∧ K r4 R4)) ∧ (x2 = 3 → wp_derivative x1 x3 x4 R (fun r5 R5 => (r5 = 0 ∨ r5 = 1) ∧ K r5 R5)) ∧ (x2 = 4 → wp_power x1 x3 x4 R (fun r6 R6 => (r6 = 0 ∨ r6 = 1) ∧ K r6 R6)) ∧ (x2 = 5 → wp_part x1 x3 x4 R (fun r7 R7 => (r7 = 0 ∨ r7 = 1) ∧ K r7 R7)) ∧ (x2 = 6 → wp_reduced x1 x3 R (fun r8 R8 => (r8 = 0 ∨ r8 = 1) ∧ K r8 R8)) ∧ (x2 = 7 → wp_rest x1 x3 R (fun r9 R9 => (r9 = 0 ∨ r9 = 1) ∧ K r9 R9)) ∧ (x2 = 8 → wp_common x1 x3 x4 R (fun r10 R10 => (r10 = 0 ∨ r10 = 1) ∧ K r10 R10))
set_option maxHeartbeats 4000000 in
set_option maxRecDepth 100000 in
theorem ok_makes {G : RG} (hok : okG G) {x1 : Int32} {x2 : Int32} {x3 : Int32} {x4 : Int32} {R : RS} {K : Int32 → RS → Prop} (hw : wp_makes x1 x2 x3 x4 R K) : CF 5 yX12_makes cX12_makes 5 (some .boolean) [.ref G.2.2.1, .int x1, .int x2, .int x3, .int x4] G R K := by
  refine CF.of (by decide +kernel) hok (Nat.le_of_ble_eq_true rfl) (fun X hc hr => ?_)
  show MR G X 5 R 0 [(0, .ref G.2.2.1), (1, .int x1), (2, .int x2), (3, .int x3), (4, .int x4)] []
  unfold wp_makes at hw
  refine m_iload_n hc 2 dX12_makes_0 rfl rfl ?_
  rcases sw_in 8 (x := x2) (Nat.le_of_ble_eq_true rfl) with cq | ⟨cn, cl, cq⟩
  · have hw := hw.1 cq
    refine m_tout hc 131 dX12_makes_1 cq rfl ?_
    refine m_aload_n hc 0 dX12_makes_131 rfl rfl ?_
    refine m_iload_n hc 1 dX12_makes_132 rfl rfl ?_
    refine m_iload_n hc 3 dX12_makes_133 rfl rfl ?_
    refine m_iload hc 4 dX12_makes_134 rfl ?_
    refine r_callVi hc hr mt_turned rfl lm_X12_302 (ok_turned hok hw) (Nat.le_of_ble_eq_true rfl) dX12_makes_136 rfl (rest := []) rfl (Nat.le_of_ble_eq_true rfl) (fun r1 R1 hw => ?_)
    exact r_zret hc hr dX12_makes_139 hw.1 hw.2
  · have hw := hw.2
    match cn, cl, cq with
    | 0, _, cq =>
      have cq : x2 = 0 := cq
      have hw := hw.1 cq
      refine m_tin hc (off := 51) 52 dX12_makes_1 (by rw [cq]; decide) (by rw [cq]; decide) (by rw [cq]; rfl) rfl ?_
      refine m_aload_n hc 0 dX12_makes_52 rfl rfl ?_
      refine m_iload_n hc 1 dX12_makes_53 rfl rfl ?_
      refine m_iload_n hc 3 dX12_makes_54 rfl rfl ?_
      refine m_iload hc 4 dX12_makes_55 rfl ?_
      refine m_iconst hc 1 dX12_makes_57 (by decide) ?_
      refine r_callVi hc hr mt_sum rfl lm_X12_281 (ok_sum hok hw) (Nat.le_of_ble_eq_true rfl) dX12_makes_58 rfl (rest := []) rfl (Nat.le_of_ble_eq_true rfl) (fun r2 R2 hw => ?_)
      exact r_zret hc hr dX12_makes_61 hw.1 hw.2
    | 1, _, cq =>
      have cq : x2 = 1 := cq
      have hw := hw.2.1 cq
      refine m_tin hc (off := 61) 62 dX12_makes_1 (by rw [cq]; decide) (by rw [cq]; decide) (by rw [cq]; rfl) rfl ?_
      refine m_aload_n hc 0 dX12_makes_62 rfl rfl ?_
      refine m_iload_n hc 1 dX12_makes_63 rfl rfl ?_
      refine m_iload_n hc 3 dX12_makes_64 rfl rfl ?_
      refine m_iload hc 4 dX12_makes_65 rfl ?_
      refine m_iconst hc (-1) dX12_makes_67 (by decide) ?_
      refine r_callVi hc hr mt_sum rfl lm_X12_281 (ok_sum hok hw) (Nat.le_of_ble_eq_true rfl) dX12_makes_68 rfl (rest := []) rfl (Nat.le_of_ble_eq_true rfl) (fun r3 R3 hw => ?_)
      exact r_zret hc hr dX12_makes_71 hw.1 hw.2
    | 2, _, cq =>
      have cq : x2 = 2 := cq
      have hw := hw.2.2.1 cq
      refine m_tin hc (off := 71) 72 dX12_makes_1 (by rw [cq]; decide) (by rw [cq]; decide) (by rw [cq]; rfl) rfl ?_
      refine m_aload_n hc 0 dX12_makes_72 rfl rfl ?_
      refine m_iload_n hc 1 dX12_makes_73 rfl rfl ?_
      refine m_iload_n hc 3 dX12_makes_74 rfl rfl ?_
      refine m_iload hc 4 dX12_makes_75 rfl ?_
      refine r_callVi hc hr mt_product rfl lm_X12_174 (ok_product hok hw) (Nat.le_of_ble_eq_true rfl) dX12_makes_77 rfl (rest := []) rfl (Nat.le_of_ble_eq_true rfl) (fun r4 R4 hw => ?_)
      exact r_zret hc hr dX12_makes_80 hw.1 hw.2
    | 3, _, cq =>
      have cq : x2 = 3 := cq
      have hw := hw.2.2.2.1 cq
      refine m_tin hc (off := 80) 81 dX12_makes_1 (by rw [cq]; decide) (by rw [cq]; decide) (by rw [cq]; rfl) rfl ?_
      refine m_aload_n hc 0 dX12_makes_81 rfl rfl ?_
      refine m_iload_n hc 1 dX12_makes_82 rfl rfl ?_
      refine m_iload_n hc 3 dX12_makes_83 rfl rfl ?_
      refine m_iload hc 4 dX12_makes_84 rfl ?_
      refine r_callVi hc hr mt_derivative rfl lm_X12_284 (ok_derivative hok hw) (Nat.le_of_ble_eq_true rfl) dX12_makes_86 rfl (rest := []) rfl (Nat.le_of_ble_eq_true rfl) (fun r5 R5 hw => ?_)
      exact r_zret hc hr dX12_makes_89 hw.1 hw.2
    | 4, _, cq =>
      have cq : x2 = 4 := cq
      have hw := hw.2.2.2.2.1 cq
      refine m_tin hc (off := 89) 90 dX12_makes_1 (by rw [cq]; decide) (by rw [cq]; decide) (by rw [cq]; rfl) rfl ?_
      refine m_aload_n hc 0 dX12_makes_90 rfl rfl ?_
      refine m_iload_n hc 1 dX12_makes_91 rfl rfl ?_
      refine m_iload_n hc 3 dX12_makes_92 rfl rfl ?_
      refine m_iload hc 4 dX12_makes_93 rfl ?_
      refine r_callVi hc hr mt_power rfl lm_X12_287 (ok_power hok hw) (Nat.le_of_ble_eq_true rfl) dX12_makes_95 rfl (rest := []) rfl (Nat.le_of_ble_eq_true rfl) (fun r6 R6 hw => ?_)
      exact r_zret hc hr dX12_makes_98 hw.1 hw.2
    | 5, _, cq =>
      have cq : x2 = 5 := cq
      have hw := hw.2.2.2.2.2.1 cq
      refine m_tin hc (off := 98) 99 dX12_makes_1 (by rw [cq]; decide) (by rw [cq]; decide) (by rw [cq]; rfl) rfl ?_
      refine m_aload_n hc 0 dX12_makes_99 rfl rfl ?_
      refine m_iload_n hc 1 dX12_makes_100 rfl rfl ?_
      refine m_iload_n hc 3 dX12_makes_101 rfl rfl ?_
      refine m_iload hc 4 dX12_makes_102 rfl ?_
      refine r_callVi hc hr mt_part rfl lm_X12_290 (ok_part hok hw) (Nat.le_of_ble_eq_true rfl) dX12_makes_104 rfl (rest := []) rfl (Nat.le_of_ble_eq_true rfl) (fun r7 R7 hw => ?_)
      exact r_zret hc hr dX12_makes_107 hw.1 hw.2
    | 6, _, cq =>
      have cq : x2 = 6 := cq
      have hw := hw.2.2.2.2.2.2.1 cq
      refine m_tin hc (off := 107) 108 dX12_makes_1 (by rw [cq]; decide) (by rw [cq]; decide) (by rw [cq]; rfl) rfl ?_
      refine m_aload_n hc 0 dX12_makes_108 rfl rfl ?_
      refine m_iload_n hc 1 dX12_makes_109 rfl rfl ?_
      refine m_iload_n hc 3 dX12_makes_110 rfl rfl ?_
      refine r_callVi hc hr mt_reduced rfl lm_X12_293 (ok_reduced hok hw) (Nat.le_of_ble_eq_true rfl) dX12_makes_111 rfl (rest := []) rfl (Nat.le_of_ble_eq_true rfl) (fun r8 R8 hw => ?_)
      exact r_zret hc hr dX12_makes_114 hw.1 hw.2
    | 7, _, cq =>
      have cq : x2 = 7 := cq
      have hw := hw.2.2.2.2.2.2.2.1 cq
      refine m_tin hc (off := 114) 115 dX12_makes_1 (by rw [cq]; decide) (by rw [cq]; decide) (by rw [cq]; rfl) rfl ?_
      refine m_aload_n hc 0 dX12_makes_115 rfl rfl ?_
      refine m_iload_n hc 1 dX12_makes_116 rfl rfl ?_
      refine m_iload_n hc 3 dX12_makes_117 rfl rfl ?_
      refine r_callVi hc hr mt_rest rfl lm_X12_296 (ok_rest hok hw) (Nat.le_of_ble_eq_true rfl) dX12_makes_118 rfl (rest := []) rfl (Nat.le_of_ble_eq_true rfl) (fun r9 R9 hw => ?_)
      exact r_zret hc hr dX12_makes_121 hw.1 hw.2
    | 8, _, cq =>
      have cq : x2 = 8 := cq
      have hw := hw.2.2.2.2.2.2.2.2 cq
      refine m_tin hc (off := 121) 122 dX12_makes_1 (by rw [cq]; decide) (by rw [cq]; decide) (by rw [cq]; rfl) rfl ?_
      refine m_aload_n hc 0 dX12_makes_122 rfl rfl ?_
      refine m_iload_n hc 1 dX12_makes_123 rfl rfl ?_
      refine m_iload_n hc 3 dX12_makes_124 rfl rfl ?_
      refine m_iload hc 4 dX12_makes_125 rfl ?_
      refine r_callVi hc hr mt_common rfl lm_X12_299 (ok_common hok hw) (Nat.le_of_ble_eq_true rfl) dX12_makes_127 rfl (rest := []) rfl (Nat.le_of_ble_eq_true rfl) (fun r10 R10 hw => ?_)
      exact r_zret hc hr dX12_makes_130 hw.1 hw.2
    | nn + 9, cl, _ => exact absurd cl (by omega)
def wp_mayMake (x1 x2 x3 : Int32) (R : RS) (K : Int32 → RS → Prop) : Prop := ((Int32.toInt x1 < 0 ∨ 8 < Int32.toInt x1) → (¬ x1 = 9 → K 0 R) ∧ (x1 = 9 → wp_isIn x3 0 5 R (fun r1 R1 => (r1 = 0 → K 0 R1) ∧ (¬ (r1 = 0) → K 1 R1)))) ∧ (x1 = 0 → wp_isPlace x3 R (fun r2 R2 => (r2 = 0 ∨ r2 = 1) ∧ K r2 R2)) ∧ (x1 = 1 → wp_isPlace x3 R (fun r3 R3 => (r3 = 0 ∨ r3 = 1) ∧ K r3 R3)) ∧ (x1 = 2 → wp_isPlace x3 R (fun r4 R4 => (r4 = 0 ∨ r4 = 1) ∧ K r4 R4)) ∧ (x1 = 3 → wp_isIn x3 0 2 R (fun r5 R5 => (r5 = 0 ∨ r5 = 1) ∧ K r5 R5)) ∧ (x1 = 4 → wp_isIn x3 0 9 R (fun r6 R6 => (r6 = 0 ∨ r6 = 1) ∧ K r6 R6)) ∧ (x1 = 5 → wp_isIn x3 0 120 R (fun r7 R7 => (r7 = 0 ∨ r7 = 1) ∧ K r7 R7)) ∧ (x1 = 6 → K 1 R) ∧ (x1 = 7 → vp_in x2 56 ∧ ((R 2 (Int32.toNatClampNeg x2)) ≤ 0 → K 0 R) ∧ (¬ ((R 2 (Int32.toNatClampNeg x2)) ≤ 0) → K 1 R)) ∧ (x1 = 8 → wp_isPlace x3 R (fun r8 R8 => (r8 = 0 → K 0 R8) ∧ (¬ (r8 = 0) → wp_isInX x2 R8 (fun r9 R9 => (r9 = 0 → K 0 R9) ∧ (¬ (r9 = 0) → wp_isInX x3 R9 (fun r10 R10 => (r10 = 0 → K 0 R10) ∧ (¬ (r10 = 0) → K 1 R10)))))))
set_option maxHeartbeats 4000000 in
set_option maxRecDepth 100000 in
theorem ok_mayMake {G : RG} (hok : okG G) {x1 : Int32} {x2 : Int32} {x3 : Int32} {R : RS} {K : Int32 → RS → Prop} (hw : wp_mayMake x1 x2 x3 R K) : CF 3 yX12_mayMake cX12_mayMake 4 (some .boolean) [.ref G.2.2.1, .int x1, .int x2, .int x3] G R K := by
  refine CF.of (by decide +kernel) hok (Nat.le_of_ble_eq_true rfl) (fun X hc hr => ?_)
  show MR G X 4 R 0 [(0, .ref G.2.2.1), (1, .int x1), (2, .int x2), (3, .int x3)] []
  unfold wp_mayMake at hw
  refine m_iload_n hc 1 dX12_mayMake_0 rfl rfl ?_
  rcases sw_in 8 (x := x1) (Nat.le_of_ble_eq_true rfl) with cq | ⟨cn, cl, cq⟩
  · have hw := hw.1 cq
    refine m_tout hc 126 dX12_mayMake_1 cq rfl ?_
    refine m_iload_n hc 1 dX12_mayMake_126 rfl rfl ?_
    refine m_bipush hc 9 dX12_mayMake_127 (by decide) ?_
    refine m_icmp_ne hc 145 dX12_mayMake_129 rfl (fun cq => ?_) (fun cq => ?_)
    · have hw := hw.1 cq
      refine m_iconst hc 0 dX12_mayMake_145 (by decide) ?_
      exact r_zret hc hr dX12_mayMake_146 (by decide) hw
    · have hw := hw.2 cq
      refine m_iload_n hc 3 dX12_mayMake_132 rfl rfl ?_
      refine m_iconst hc 0 dX12_mayMake_133 (by decide) ?_
      refine m_iconst hc 5 dX12_mayMake_134 (by decide) ?_
      refine r_callSi hc hr mt_isIn lm_X12_181 (ok_isIn hok hw) (Nat.le_of_ble_eq_true rfl) dX12_mayMake_135 rfl (rest := []) rfl (Nat.le_of_ble_eq_true rfl) (fun r1 R1 hw => ?_)
      refine m_if_eq hc 145 dX12_mayMake_138 rfl (fun cq => ?_) (fun cq => ?_)
      · have hw := hw.1 cq
        refine m_iconst hc 0 dX12_mayMake_145 (by decide) ?_
        exact r_zret hc hr dX12_mayMake_146 (by decide) hw
      · have hw := hw.2 cq
        refine m_iconst hc 1 dX12_mayMake_141 (by decide) ?_
        refine m_goto hc 146 dX12_mayMake_142 rfl ?_
        exact r_zret hc hr dX12_mayMake_146 (by decide) hw
  · have hw := hw.2
    match cn, cl, cq with
    | 0, _, cq =>
      have cq : x1 = 0 := cq
      have hw := hw.1 cq
      refine m_tin hc (off := 51) 52 dX12_mayMake_1 (by rw [cq]; decide) (by rw [cq]; decide) (by rw [cq]; rfl) rfl ?_
      refine m_iload_n hc 3 dX12_mayMake_52 rfl rfl ?_
      refine r_callSi hc hr mt_isPlace lm_X12_265 (ok_isPlace hok hw) (Nat.le_of_ble_eq_true rfl) dX12_mayMake_53 rfl (rest := []) rfl (Nat.le_of_ble_eq_true rfl) (fun r2 R2 hw => ?_)
      exact r_zret hc hr dX12_mayMake_56 hw.1 hw.2
    | 1, _, cq =>
      have cq : x1 = 1 := cq
      have hw := hw.2.1 cq
      refine m_tin hc (off := 51) 52 dX12_mayMake_1 (by rw [cq]; decide) (by rw [cq]; decide) (by rw [cq]; rfl) rfl ?_
      refine m_iload_n hc 3 dX12_mayMake_52 rfl rfl ?_
      refine r_callSi hc hr mt_isPlace lm_X12_265 (ok_isPlace hok hw) (Nat.le_of_ble_eq_true rfl) dX12_mayMake_53 rfl (rest := []) rfl (Nat.le_of_ble_eq_true rfl) (fun r3 R3 hw => ?_)
      exact r_zret hc hr dX12_mayMake_56 hw.1 hw.2
    | 2, _, cq =>
      have cq : x1 = 2 := cq
      have hw := hw.2.2.1 cq
      refine m_tin hc (off := 51) 52 dX12_mayMake_1 (by rw [cq]; decide) (by rw [cq]; decide) (by rw [cq]; rfl) rfl ?_
      refine m_iload_n hc 3 dX12_mayMake_52 rfl rfl ?_
      refine r_callSi hc hr mt_isPlace lm_X12_265 (ok_isPlace hok hw) (Nat.le_of_ble_eq_true rfl) dX12_mayMake_53 rfl (rest := []) rfl (Nat.le_of_ble_eq_true rfl) (fun r4 R4 hw => ?_)
      exact r_zret hc hr dX12_mayMake_56 hw.1 hw.2
    | 3, _, cq =>
      have cq : x1 = 3 := cq
      have hw := hw.2.2.2.1 cq
      refine m_tin hc (off := 56) 57 dX12_mayMake_1 (by rw [cq]; decide) (by rw [cq]; decide) (by rw [cq]; rfl) rfl ?_
      refine m_iload_n hc 3 dX12_mayMake_57 rfl rfl ?_
      refine m_iconst hc 0 dX12_mayMake_58 (by decide) ?_
      refine m_iconst hc 2 dX12_mayMake_59 (by decide) ?_
      refine r_callSi hc hr mt_isIn lm_X12_181 (ok_isIn hok hw) (Nat.le_of_ble_eq_true rfl) dX12_mayMake_60 rfl (rest := []) rfl (Nat.le_of_ble_eq_true rfl) (fun r5 R5 hw => ?_)
      exact r_zret hc hr dX12_mayMake_63 hw.1 hw.2
    | 4, _, cq =>
      have cq : x1 = 4 := cq
      have hw := hw.2.2.2.2.1 cq
      refine m_tin hc (off := 63) 64 dX12_mayMake_1 (by rw [cq]; decide) (by rw [cq]; decide) (by rw [cq]; rfl) rfl ?_
      refine m_iload_n hc 3 dX12_mayMake_64 rfl rfl ?_
      refine m_iconst hc 0 dX12_mayMake_65 (by decide) ?_
      refine m_bipush hc 9 dX12_mayMake_66 (by decide) ?_
      refine r_callSi hc hr mt_isIn lm_X12_181 (ok_isIn hok hw) (Nat.le_of_ble_eq_true rfl) dX12_mayMake_68 rfl (rest := []) rfl (Nat.le_of_ble_eq_true rfl) (fun r6 R6 hw => ?_)
      exact r_zret hc hr dX12_mayMake_71 hw.1 hw.2
    | 5, _, cq =>
      have cq : x1 = 5 := cq
      have hw := hw.2.2.2.2.2.1 cq
      refine m_tin hc (off := 71) 72 dX12_mayMake_1 (by rw [cq]; decide) (by rw [cq]; decide) (by rw [cq]; rfl) rfl ?_
      refine m_iload_n hc 3 dX12_mayMake_72 rfl rfl ?_
      refine m_iconst hc 0 dX12_mayMake_73 (by decide) ?_
      refine m_bipush hc 120 dX12_mayMake_74 (by decide) ?_
      refine r_callSi hc hr mt_isIn lm_X12_181 (ok_isIn hok hw) (Nat.le_of_ble_eq_true rfl) dX12_mayMake_76 rfl (rest := []) rfl (Nat.le_of_ble_eq_true rfl) (fun r7 R7 hw => ?_)
      exact r_zret hc hr dX12_mayMake_79 hw.1 hw.2
    | 6, _, cq =>
      have cq : x1 = 6 := cq
      have hw := hw.2.2.2.2.2.2.1 cq
      refine m_tin hc (off := 79) 80 dX12_mayMake_1 (by rw [cq]; decide) (by rw [cq]; decide) (by rw [cq]; rfl) rfl ?_
      refine m_iconst hc 1 dX12_mayMake_80 (by decide) ?_
      exact r_zret hc hr dX12_mayMake_81 (by decide) hw
    | 7, _, cq =>
      have cq : x1 = 7 := cq
      have hw := hw.2.2.2.2.2.2.2.1 cq
      refine m_tin hc (off := 81) 82 dX12_mayMake_1 (by rw [cq]; decide) (by rw [cq]; decide) (by rw [cq]; rfl) rfl ?_
      refine m_aload_n hc 0 dX12_mayMake_82 rfl rfl ?_
      refine r_geta hc hr 2 dX12_mayMake_83 lf_X12_13 (Nat.le_of_ble_eq_true rfl) rfl ?_
      refine m_iload_n hc 2 dX12_mayMake_86 rfl rfl ?_
      obtain ⟨hi, hw⟩ := hw
      refine r_iald hc hr (i := 0) (f := 2) rfl hi dX12_mayMake_87 ?_
      refine m_if_le hc 95 dX12_mayMake_88 rfl (fun cq => ?_) (fun cq => ?_)
      · have hw := hw.1 cq
        refine m_iconst hc 0 dX12_mayMake_95 (by decide) ?_
        exact r_zret hc hr dX12_mayMake_96 (by decide) hw
      · have hw := hw.2 cq
        refine m_iconst hc 1 dX12_mayMake_91 (by decide) ?_
        refine m_goto hc 96 dX12_mayMake_92 rfl ?_
        exact r_zret hc hr dX12_mayMake_96 (by decide) hw
    | 8, _, cq =>
      have cq : x1 = 8 := cq
      have hw := hw.2.2.2.2.2.2.2.2 cq
      refine m_tin hc (off := 96) 97 dX12_mayMake_1 (by rw [cq]; decide) (by rw [cq]; decide) (by rw [cq]; rfl) rfl ?_
      refine m_iload_n hc 3 dX12_mayMake_97 rfl rfl ?_
      refine r_callSi hc hr mt_isPlace lm_X12_265 (ok_isPlace hok hw) (Nat.le_of_ble_eq_true rfl) dX12_mayMake_98 rfl (rest := []) rfl (Nat.le_of_ble_eq_true rfl) (fun r8 R8 hw => ?_)
      refine m_if_eq hc 124 dX12_mayMake_101 rfl (fun cq => ?_) (fun cq => ?_)
      · have hw := hw.1 cq
        refine m_iconst hc 0 dX12_mayMake_124 (by decide) ?_
        exact r_zret hc hr dX12_mayMake_125 (by decide) hw
      · have hw := hw.2 cq
        refine m_aload_n hc 0 dX12_mayMake_104 rfl rfl ?_
        refine m_iload_n hc 2 dX12_mayMake_105 rfl rfl ?_
        refine r_callVi hc hr mt_isInX rfl lm_X12_278 (ok_isInX hok hw) (Nat.le_of_ble_eq_true rfl) dX12_mayMake_106 rfl (rest := []) rfl (Nat.le_of_ble_eq_true rfl) (fun r9 R9 hw => ?_)
        refine m_if_eq hc 124 dX12_mayMake_109 rfl (fun cq => ?_) (fun cq => ?_)
        · have hw := hw.1 cq
          refine m_iconst hc 0 dX12_mayMake_124 (by decide) ?_
          exact r_zret hc hr dX12_mayMake_125 (by decide) hw
        · have hw := hw.2 cq
          refine m_aload_n hc 0 dX12_mayMake_112 rfl rfl ?_
          refine m_iload_n hc 3 dX12_mayMake_113 rfl rfl ?_
          refine r_callVi hc hr mt_isInX rfl lm_X12_278 (ok_isInX hok hw) (Nat.le_of_ble_eq_true rfl) dX12_mayMake_114 rfl (rest := []) rfl (Nat.le_of_ble_eq_true rfl) (fun r10 R10 hw => ?_)
          refine m_if_eq hc 124 dX12_mayMake_117 rfl (fun cq => ?_) (fun cq => ?_)
          · have hw := hw.1 cq
            refine m_iconst hc 0 dX12_mayMake_124 (by decide) ?_
            exact r_zret hc hr dX12_mayMake_125 (by decide) hw
          · have hw := hw.2 cq
            refine m_iconst hc 1 dX12_mayMake_120 (by decide) ?_
            refine m_goto hc 125 dX12_mayMake_121 rfl ?_
            exact r_zret hc hr dX12_mayMake_125 (by decide) hw
    | nn + 9, cl, _ => exact absurd cl (by omega)
def wp_make (x1 x2 x3 x4 : Int32) (R : RS) (K : Int32 → RS → Prop) : Prop := wp_isPlace x1 (up R 0 0 0) (fun r1 R1 => (r1 = 0 → K (-1) R1) ∧ (¬ (r1 = 0) → wp_isPlace x3 R1 (fun r2 R2 => (r2 = 0 → K (-1) R2) ∧ (¬ (r2 = 0) → wp_mayMake x2 x3 x4 R2 (fun r3 R3 => (¬ r3 = 0 → wp_makes 54 x2 x3 x4 R3 (fun r4 R4 => (r4 = 0 → K (-2) R4) ∧ (¬ (r4 = 0) → wp_become x1 54 R4 (fun r5 R5 => K r5 R5)))) ∧ (r3 = 0 → K (-1) R3))))))
set_option maxHeartbeats 4000000 in
set_option maxRecDepth 100000 in
theorem ok_make {G : RG} (hok : okG G) {x1 : Int32} {x2 : Int32} {x3 : Int32} {x4 : Int32} {R : RS} {K : Int32 → RS → Prop} (hw : wp_make x1 x2 x3 x4 R K) : CF 6 yX12_make cX12_make 5 (some .int) [.ref G.2.2.1, .int x1, .int x2, .int x3, .int x4] G R K := by
  refine CF.of (by decide +kernel) hok (Nat.le_of_ble_eq_true rfl) (fun X hc hr => ?_)
  show MR G X 5 R 0 [(0, .ref G.2.2.1), (1, .int x1), (2, .int x2), (3, .int x3), (4, .int x4)] []
  unfold wp_make at hw
  refine m_aload_n hc 0 dX12_make_0 rfl rfl ?_
  refine m_iconst hc 0 dX12_make_1 (by decide) ?_
  refine r_put hc hr 0 dX12_make_2 lf_X12_116 (Nat.le_of_ble_eq_true rfl) rfl rfl (by decide +kernel) ?_
  refine m_iload_n hc 1 dX12_make_5 rfl rfl ?_
  refine r_callSi hc hr mt_isPlace lm_X12_265 (ok_isPlace hok hw) (Nat.le_of_ble_eq_true rfl) dX12_make_6 rfl (rest := []) rfl (Nat.le_of_ble_eq_true rfl) (fun r1 R1 hw => ?_)
  refine m_if_eq hc 30 dX12_make_9 rfl (fun cq => ?_) (fun cq => ?_)
  · have hw := hw.1 cq
    refine m_iconst hc (-1) dX12_make_30 (by decide) ?_
    exact r_iret hc hr dX12_make_31 hw
  · have hw := hw.2 cq
    refine m_iload_n hc 3 dX12_make_12 rfl rfl ?_
    refine r_callSi hc hr mt_isPlace lm_X12_265 (ok_isPlace hok hw) (Nat.le_of_ble_eq_true rfl) dX12_make_13 rfl (rest := []) rfl (Nat.le_of_ble_eq_true rfl) (fun r2 R2 hw => ?_)
    refine m_if_eq hc 30 dX12_make_16 rfl (fun cq => ?_) (fun cq => ?_)
    · have hw := hw.1 cq
      refine m_iconst hc (-1) dX12_make_30 (by decide) ?_
      exact r_iret hc hr dX12_make_31 hw
    · have hw := hw.2 cq
      refine m_aload_n hc 0 dX12_make_19 rfl rfl ?_
      refine m_iload_n hc 2 dX12_make_20 rfl rfl ?_
      refine m_iload_n hc 3 dX12_make_21 rfl rfl ?_
      refine m_iload hc 4 dX12_make_22 rfl ?_
      refine r_callVi hc hr mt_mayMake rfl lm_X12_268 (ok_mayMake hok hw) (Nat.le_of_ble_eq_true rfl) dX12_make_24 rfl (rest := []) rfl (Nat.le_of_ble_eq_true rfl) (fun r3 R3 hw => ?_)
      refine m_if_ne hc 32 dX12_make_27 rfl (fun cq => ?_) (fun cq => ?_)
      · have hw := hw.1 cq
        refine m_aload_n hc 0 dX12_make_32 rfl rfl ?_
        refine m_bipush hc 54 dX12_make_33 (by decide) ?_
        refine m_iload_n hc 2 dX12_make_35 rfl rfl ?_
        refine m_iload_n hc 3 dX12_make_36 rfl rfl ?_
        refine m_iload hc 4 dX12_make_37 rfl ?_
        refine r_callVi hc hr mt_makes rfl lm_X12_271 (ok_makes hok hw) (Nat.le_of_ble_eq_true rfl) dX12_make_39 rfl (rest := []) rfl (Nat.le_of_ble_eq_true rfl) (fun r4 R4 hw => ?_)
        refine m_if_eq hc 55 dX12_make_42 rfl (fun cq => ?_) (fun cq => ?_)
        · have hw := hw.1 cq
          refine m_bipush hc (-2) dX12_make_55 (by decide) ?_
          exact r_iret hc hr dX12_make_57 hw
        · have hw := hw.2 cq
          refine m_aload_n hc 0 dX12_make_45 rfl rfl ?_
          refine m_iload_n hc 1 dX12_make_46 rfl rfl ?_
          refine m_bipush hc 54 dX12_make_47 (by decide) ?_
          refine r_callVi hc hr mt_become rfl lm_X12_275 (ok_become hok hw) (Nat.le_of_ble_eq_true rfl) dX12_make_49 rfl (rest := []) rfl (Nat.le_of_ble_eq_true rfl) (fun r5 R5 hw => ?_)
          refine m_goto hc 57 dX12_make_52 rfl ?_
          exact r_iret hc hr dX12_make_57 hw
      · have hw := hw.2 cq
        refine m_iconst hc (-1) dX12_make_30 (by decide) ?_
        exact r_iret hc hr dX12_make_31 hw
def wb_gathersPuts_4 (K4 : Int32 → Int32 → Int32 → RS → Prop) (K : Int32 → RS → Prop) (x1 x2 x3 : Int32) (R : RS) : Prop := (531441 ≤ x3 → vp_in x1 56 ∧ K 1 (up R 2 (Int32.toNatClampNeg x1) x2)) ∧ (¬ (531441 ≤ x3) → vp_in x3 531441 ∧ (¬ (R 26 (Int32.toNatClampNeg x3)) = 0 → (x2 = 300 → K 0 R) ∧ (¬ (x2 = 300) → (40 < (x3 / 6561) → K 0 R) ∧ (¬ (40 < (x3 / 6561)) → (40 < (iRem (x3 / 81) 81) → K 0 R) ∧ (¬ (40 < (iRem (x3 / 81) 81)) → ((iRem x3 81) ≤ 40 → wp_keyOf (x3 / 6561) (iRem (x3 / 81) 81) (iRem x3 81) R (fun r1 R1 => vp_in ((300 * x1) + x2) 16800 ∧ vp_in x3 531441 ∧ vp_in ((300 * x1) + x2) 16800 ∧ K4 x1 (x2 + 1) (x3 + 1) (up (up R1 3 (Int32.toNatClampNeg ((300 * x1) + x2)) r1) 4 (Int32.toNatClampNeg ((300 * x1) + x2)) ((up R1 3 (Int32.toNatClampNeg ((300 * x1) + x2)) r1) 26 (Int32.toNatClampNeg x3))))) ∧ (¬ ((iRem x3 81) ≤ 40) → K 0 R))))) ∧ ((R 26 (Int32.toNatClampNeg x3)) = 0 → K4 x1 x2 (x3 + 1) R))
def wl_gathersPuts_4 (K : Int32 → RS → Prop) : Nat → Int32 → Int32 → Int32 → RS → Prop
  | 0 => fun _ _ _ _ => False
  | nn + 1 => wb_gathersPuts_4 (wl_gathersPuts_4 K nn) K
set_option maxHeartbeats 4000000 in
set_option maxRecDepth 100000 in
theorem l_gathersPuts_4 {G : RG} {X : Fx} {K : Int32 → RS → Prop} (hok : okG G) (hc : Cx X RX12 cX12_gathersPuts 7) (hr : Cr G 1 (some .boolean) K X) : ∀ (nn : Nat) (x1 x2 x3 : Int32) (R : RS), wl_gathersPuts_4 K nn x1 x2 x3 R → MR G X 7 R 4 [(0, .ref G.2.2.1), (1, .int x1), (2, .int x2), (3, .int x3)] [] := by
  intro nn
  induction nn with
  | zero => intro x1 x2 x3 R hw; exact False.elim hw
  | succ nn ih =>
    intro x1 x2 x3 R hw
    have hw : wb_gathersPuts_4 (wl_gathersPuts_4 K nn) K x1 x2 x3 R := hw
    have h4 := ih
    generalize wl_gathersPuts_4 K nn = K4 at hw h4
    unfold wb_gathersPuts_4 at hw
    refine m_iload_n hc 3 dX12_gathersPuts_4 rfl rfl ?_
    refine m_aload_n hc 0 dX12_gathersPuts_5 rfl rfl ?_
    refine r_geta hc hr 26 dX12_gathersPuts_6 lf_X12_71 (Nat.le_of_ble_eq_true rfl) rfl ?_
    refine r_alen hc hr (i := 18) (f := 26) (v := 531441) rfl rfl dX12_gathersPuts_9 ?_
    refine m_icmp_ge hc 125 dX12_gathersPuts_10 rfl (fun cq => ?_) (fun cq => ?_)
    · have hw := hw.1 cq
      refine m_aload_n hc 0 dX12_gathersPuts_125 rfl rfl ?_
      refine r_geta hc hr 2 dX12_gathersPuts_126 lf_X12_13 (Nat.le_of_ble_eq_true rfl) rfl ?_
      refine m_iload_n hc 1 dX12_gathersPuts_129 rfl rfl ?_
      refine m_iload_n hc 2 dX12_gathersPuts_130 rfl rfl ?_
      obtain ⟨hi, hw⟩ := hw
      refine r_iast hc hr (i := 0) (f := 2) rfl hi dX12_gathersPuts_131 ?_
      refine m_iconst hc 1 dX12_gathersPuts_132 (by decide) ?_
      exact r_zret hc hr dX12_gathersPuts_133 (by decide) hw
    · have hw := hw.2 cq
      refine m_aload_n hc 0 dX12_gathersPuts_13 rfl rfl ?_
      refine r_geta hc hr 26 dX12_gathersPuts_14 lf_X12_71 (Nat.le_of_ble_eq_true rfl) rfl ?_
      refine m_iload_n hc 3 dX12_gathersPuts_17 rfl rfl ?_
      obtain ⟨hi, hw⟩ := hw
      refine r_iald hc hr (i := 18) (f := 26) rfl hi dX12_gathersPuts_18 ?_
      refine m_if_ne hc 25 dX12_gathersPuts_19 rfl (fun cq => ?_) (fun cq => ?_)
      · have hw := hw.1 cq
        refine m_iload_n hc 3 dX12_gathersPuts_25 rfl rfl ?_
        refine m_sipush hc 6561 dX12_gathersPuts_26 (by decide) ?_
        refine m_idiv hc dX12_gathersPuts_29 (by decide) ?_
        refine m_istore hc [(4, .int (x3 / 6561)), (0, .ref G.2.2.1), (1, .int x1), (2, .int x2), (3, .int x3)] dX12_gathersPuts_30 (Nat.le_of_ble_eq_true rfl) rfl ?_
        refine m_iload_n hc 4 dX12_gathersPuts_32 rfl rfl ?_
        refine m_bipush hc 81 dX12_gathersPuts_33 (by decide) ?_
        refine m_idiv hc dX12_gathersPuts_35 (by decide) ?_
        refine m_bipush hc 81 dX12_gathersPuts_36 (by decide) ?_
        refine m_irem hc dX12_gathersPuts_38 (by decide) ?_
        refine m_istore hc [(5, .int (iRem (x3 / 81) 81)), (4, .int (x3 / 6561)), (0, .ref G.2.2.1), (1, .int x1), (2, .int x2), (3, .int x3)] dX12_gathersPuts_39 (Nat.le_of_ble_eq_true rfl) rfl ?_
        refine m_iload_n hc 5 dX12_gathersPuts_41 rfl rfl ?_
        refine m_bipush hc 81 dX12_gathersPuts_42 (by decide) ?_
        refine m_irem hc dX12_gathersPuts_44 (by decide) ?_
        refine m_istore hc [(6, .int (iRem x3 81)), (5, .int (iRem (x3 / 81) 81)), (4, .int (x3 / 6561)), (0, .ref G.2.2.1), (1, .int x1), (2, .int x2), (3, .int x3)] dX12_gathersPuts_45 (Nat.le_of_ble_eq_true rfl) rfl ?_
        refine m_iload_n hc 5 dX12_gathersPuts_47 rfl rfl ?_
        refine m_sipush hc 300 dX12_gathersPuts_48 (by decide) ?_
        refine m_icmp_eq hc 75 dX12_gathersPuts_51 rfl (fun cq => ?_) (fun cq => ?_)
        · have hw := hw.1 cq
          refine m_iconst hc 0 dX12_gathersPuts_75 (by decide) ?_
          exact r_zret hc hr dX12_gathersPuts_76 (by decide) hw
        · have hw := hw.2 cq
          refine m_iload hc 2 dX12_gathersPuts_54 rfl ?_
          refine m_bipush hc 40 dX12_gathersPuts_56 (by decide) ?_
          refine m_icmp_gt hc 75 dX12_gathersPuts_58 rfl (fun cq => ?_) (fun cq => ?_)
          · have hw := hw.1 cq
            refine m_iconst hc 0 dX12_gathersPuts_75 (by decide) ?_
            exact r_zret hc hr dX12_gathersPuts_76 (by decide) hw
          · have hw := hw.2 cq
            refine m_iload hc 1 dX12_gathersPuts_61 rfl ?_
            refine m_bipush hc 40 dX12_gathersPuts_63 (by decide) ?_
            refine m_icmp_gt hc 75 dX12_gathersPuts_65 rfl (fun cq => ?_) (fun cq => ?_)
            · have hw := hw.1 cq
              refine m_iconst hc 0 dX12_gathersPuts_75 (by decide) ?_
              exact r_zret hc hr dX12_gathersPuts_76 (by decide) hw
            · have hw := hw.2 cq
              refine m_iload hc 0 dX12_gathersPuts_68 rfl ?_
              refine m_bipush hc 40 dX12_gathersPuts_70 (by decide) ?_
              refine m_icmp_le hc 77 dX12_gathersPuts_72 rfl (fun cq => ?_) (fun cq => ?_)
              · have hw := hw.1 cq
                refine m_aload_n hc 3 dX12_gathersPuts_77 rfl rfl ?_
                refine r_geta hc hr 3 dX12_gathersPuts_78 lf_X12_17 (Nat.le_of_ble_eq_true rfl) rfl ?_
                refine m_sipush hc 300 dX12_gathersPuts_81 (by decide) ?_
                refine m_iload_n hc 4 dX12_gathersPuts_84 rfl rfl ?_
                refine m_imul hc dX12_gathersPuts_85 ?_
                refine m_iload_n hc 5 dX12_gathersPuts_86 rfl rfl ?_
                refine m_iadd hc dX12_gathersPuts_87 ?_
                refine m_iload hc 2 dX12_gathersPuts_88 rfl ?_
                refine m_iload hc 1 dX12_gathersPuts_90 rfl ?_
                refine m_iload hc 0 dX12_gathersPuts_92 rfl ?_
                refine r_callSi hc hr mt_keyOf lm_X12_144 (ok_keyOf hok hw) (Nat.le_of_ble_eq_true rfl) dX12_gathersPuts_94 rfl (rest := [.int ((300 * x1) + x2), .ref (G.2.2.2 3)]) rfl (Nat.le_of_ble_eq_true rfl) (fun r1 R1 hw => ?_)
                obtain ⟨hi, hw⟩ := hw
                refine r_iast hc hr (i := 1) (f := 3) rfl hi dX12_gathersPuts_97 ?_
                refine m_aload_n hc 3 dX12_gathersPuts_98 rfl rfl ?_
                refine r_geta hc hr 4 dX12_gathersPuts_99 lf_X12_20 (Nat.le_of_ble_eq_true rfl) rfl ?_
                refine m_sipush hc 300 dX12_gathersPuts_102 (by decide) ?_
                refine m_iload_n hc 4 dX12_gathersPuts_105 rfl rfl ?_
                refine m_imul hc dX12_gathersPuts_106 ?_
                refine m_iload_n hc 5 dX12_gathersPuts_107 rfl rfl ?_
                refine m_iadd hc dX12_gathersPuts_108 ?_
                refine m_aload_n hc 3 dX12_gathersPuts_109 rfl rfl ?_
                refine r_geta hc hr 26 dX12_gathersPuts_110 lf_X12_71 (Nat.le_of_ble_eq_true rfl) rfl ?_
                refine m_iload_n hc 6 dX12_gathersPuts_113 rfl rfl ?_
                obtain ⟨hi, hw⟩ := hw
                refine r_iald hc hr (i := 18) (f := 26) rfl hi dX12_gathersPuts_114 ?_
                obtain ⟨hi, hw⟩ := hw
                refine r_iast hc hr (i := 2) (f := 4) rfl hi dX12_gathersPuts_115 ?_
                refine m_iinc hc 5 (x2 + 1) [(2, .int (x2 + 1)), (6, .int (iRem x3 81)), (5, .int (iRem (x3 / 81) 81)), (4, .int (x3 / 6561)), (0, .ref G.2.2.1), (1, .int x1), (3, .int x3)] dX12_gathersPuts_116 rfl rfl (Nat.le_of_ble_eq_true rfl) rfl ?_
                refine m_iinc hc 6 (x3 + 1) [(3, .int (x3 + 1)), (2, .int (x2 + 1)), (6, .int (iRem x3 81)), (5, .int (iRem (x3 / 81) 81)), (4, .int (x3 / 6561)), (0, .ref G.2.2.1), (1, .int x1)] dX12_gathersPuts_119 rfl rfl (Nat.le_of_ble_eq_true rfl) rfl ?_
                refine m_goto hc 4 dX12_gathersPuts_122 rfl ?_
                refine m_sub [5, 6, 1, 0] rfl ?_
                exact h4 x1 (x2 + 1) (x3 + 1) (up (up R1 3 (Int32.toNatClampNeg ((300 * x1) + x2)) r1) 4 (Int32.toNatClampNeg ((300 * x1) + x2)) ((up R1 3 (Int32.toNatClampNeg ((300 * x1) + x2)) r1) 26 (Int32.toNatClampNeg x3))) hw
              · have hw := hw.2 cq
                refine m_iconst hc 0 dX12_gathersPuts_75 (by decide) ?_
                exact r_zret hc hr dX12_gathersPuts_76 (by decide) hw
      · have hw := hw.2 cq
        refine m_goto hc 119 dX12_gathersPuts_22 rfl ?_
        refine m_iinc hc 3 (x3 + 1) [(3, .int (x3 + 1)), (0, .ref G.2.2.1), (1, .int x1), (2, .int x2)] dX12_gathersPuts_119 rfl rfl (Nat.le_of_ble_eq_true rfl) rfl ?_
        refine m_goto hc 4 dX12_gathersPuts_122 rfl ?_
        refine m_sub [1, 2, 3, 0] rfl ?_
        exact h4 x1 x2 (x3 + 1) R hw
def wp_gathersPuts (x1 : Int32) (R : RS) (K : Int32 → RS → Prop) : Prop := ∃ nn : Nat, wl_gathersPuts_4 K nn x1 0 0 R
set_option maxHeartbeats 4000000 in
set_option maxRecDepth 100000 in
theorem ok_gathersPuts {G : RG} (hok : okG G) {x1 : Int32} {R : RS} {K : Int32 → RS → Prop} (hw : wp_gathersPuts x1 R K) : CF 1 yX12_gathersPuts cX12_gathersPuts 7 (some .boolean) [.ref G.2.2.1, .int x1] G R K := by
  refine CF.of (by decide +kernel) hok (Nat.le_of_ble_eq_true rfl) (fun X hc hr => ?_)
  show MR G X 7 R 0 [(0, .ref G.2.2.1), (1, .int x1)] []
  unfold wp_gathersPuts at hw
  refine m_iconst hc 0 dX12_gathersPuts_0 (by decide) ?_
  refine m_istore_n hc [(2, .int 0), (0, .ref G.2.2.1), (1, .int x1)] dX12_gathersPuts_1 rfl (Nat.le_of_ble_eq_true rfl) rfl ?_
  refine m_iconst hc 0 dX12_gathersPuts_2 (by decide) ?_
  refine m_istore_n hc [(3, .int 0), (2, .int 0), (0, .ref G.2.2.1), (1, .int x1)] dX12_gathersPuts_3 rfl (Nat.le_of_ble_eq_true rfl) rfl ?_
  refine m_sub [2, 3, 1, 0] rfl ?_
  obtain ⟨nn, hw⟩ := hw
  exact l_gathersPuts_4 hok hc hr nn x1 0 0 R hw
