def w_say_68 (K40 : Int32 → Int32 → RS → Prop) (K : Int32 → RS → Prop) (x1 x2 x3 : Int32) (R : RS) : Prop := wp_keyAt x1 x3 R (fun r1 R1 => wp_numAt x1 x3 R1 (fun r2 R2 => wp_writesTerm r1 r2 R2 (fun r3 R3 => K40 x1 (x2 + 1) R3)))
set_option maxHeartbeats 4000000 in
set_option maxRecDepth 100000 in
theorem b_say_68 {G : RG} {X : Fx} {K : Int32 → RS → Prop} (hok : okG G) (hc : Cx X RX12 cX12_say 4) (hr : Cr G 4 (some .int) K X) (K40 : Int32 → Int32 → RS → Prop) (h40 : ∀ (x1 x2 : Int32) (R : RS), K40 x1 x2 R → MR G X 4 R 40 [(0, .ref G.2.2.1), (1, .int x1), (2, .int x2)] []) : ∀ (x1 x2 x3 : Int32) (R : RS), w_say_68 K40 K x1 x2 x3 R → MR G X 4 R 68 [(0, .ref G.2.2.1), (1, .int x1), (2, .int x2), (3, .int x3)] [] := by
  intro x1 x2 x3 R hw
  unfold w_say_68 at hw
  refine m_aload_n hc 0 dX12_say_68 rfl rfl ?_
  refine m_aload_n hc 0 dX12_say_69 rfl rfl ?_
  refine m_iload_n hc 1 dX12_say_70 rfl rfl ?_
  refine m_iload_n hc 3 dX12_say_71 rfl rfl ?_
  refine r_callVi hc hr mt_keyAt rfl lm_X12_123 (ok_keyAt hok hw) (Nat.le_of_ble_eq_true rfl) dX12_say_72 rfl (rest := [.ref G.2.2.1]) rfl (Nat.le_of_ble_eq_true rfl) (fun r1 R1 hw => ?_)
  refine m_aload_n hc 0 dX12_say_75 rfl rfl ?_
  refine m_iload_n hc 1 dX12_say_76 rfl rfl ?_
  refine m_iload_n hc 3 dX12_say_77 rfl rfl ?_
  refine r_callVi hc hr mt_numAt rfl lm_X12_126 (ok_numAt hok hw) (Nat.le_of_ble_eq_true rfl) dX12_say_78 rfl (rest := [.int r1, .ref G.2.2.1]) rfl (Nat.le_of_ble_eq_true rfl) (fun r2 R2 hw => ?_)
  refine r_callVv hc hr mt_writesTerm rfl lm_X12_363 (ok_writesTerm hok hw) (Nat.le_of_ble_eq_true rfl) dX12_say_81 rfl (rest := []) rfl (Nat.le_of_ble_eq_true rfl) (fun r3 R3 hw => ?_)
  refine m_iinc hc 2 (x2 + 1) [(2, .int (x2 + 1)), (0, .ref G.2.2.1), (1, .int x1), (3, .int x3)] dX12_say_84 rfl rfl (Nat.le_of_ble_eq_true rfl) rfl ?_
  refine m_goto hc 40 dX12_say_87 rfl ?_
  refine m_sub [1, 2, 0] rfl ?_
  exact h40 x1 (x2 + 1) R3 hw
def wb_say_40 (K40 : Int32 → Int32 → RS → Prop) (K : Int32 → RS → Prop) (x1 x2 : Int32) (R : RS) : Prop := vp_in x1 56 ∧ ((R 2 (Int32.toNatClampNeg x1)) ≤ x2 → K (R 0 28) R) ∧ (¬ ((R 2 (Int32.toNatClampNeg x1)) ≤ x2) → wp_placeOf x1 0 x2 R (fun r1 R1 => (x2 ≤ 0 → w_say_68 K40 K x1 x2 r1 R1) ∧ (¬ (x2 ≤ 0) → wp_writes 43 R1 (fun r2 R2 => w_say_68 K40 K x1 x2 r1 R2))))
def wl_say_40 (K : Int32 → RS → Prop) : Nat → Int32 → Int32 → RS → Prop
  | 0 => fun _ _ _ => False
  | nn + 1 => wb_say_40 (wl_say_40 K nn) K
set_option maxHeartbeats 4000000 in
set_option maxRecDepth 100000 in
theorem l_say_40 {G : RG} {X : Fx} {K : Int32 → RS → Prop} (hok : okG G) (hc : Cx X RX12 cX12_say 4) (hr : Cr G 4 (some .int) K X) : ∀ (nn : Nat) (x1 x2 : Int32) (R : RS), wl_say_40 K nn x1 x2 R → MR G X 4 R 40 [(0, .ref G.2.2.1), (1, .int x1), (2, .int x2)] [] := by
  intro nn
  induction nn with
  | zero => intro x1 x2 R hw; exact False.elim hw
  | succ nn ih =>
    intro x1 x2 R hw
    have hw : wb_say_40 (wl_say_40 K nn) K x1 x2 R := hw
    have h40 := ih
    generalize wl_say_40 K nn = K40 at hw h40
    unfold wb_say_40 at hw
    refine m_iload_n hc 2 dX12_say_40 rfl rfl ?_
    refine m_aload_n hc 0 dX12_say_41 rfl rfl ?_
    refine r_geta hc hr 2 dX12_say_42 lf_X12_13 (Nat.le_of_ble_eq_true rfl) rfl ?_
    refine m_iload_n hc 1 dX12_say_45 rfl rfl ?_
    obtain ⟨hi, hw⟩ := hw
    refine r_iald hc hr (i := 0) (f := 2) rfl hi dX12_say_46 ?_
    refine m_icmp_ge hc 90 dX12_say_47 rfl (fun cq => ?_) (fun cq => ?_)
    · have hw := hw.1 cq
      refine m_aload_n hc 0 dX12_say_90 rfl rfl ?_
      refine r_geti hc hr 28 dX12_say_91 lf_X12_354 (Nat.le_of_ble_eq_true rfl) rfl ?_
      exact r_iret hc hr dX12_say_94 hw
    · have hw := hw.2 cq
      refine m_aload_n hc 0 dX12_say_50 rfl rfl ?_
      refine m_iload_n hc 1 dX12_say_51 rfl rfl ?_
      refine m_iconst hc 0 dX12_say_52 (by decide) ?_
      refine m_iload_n hc 2 dX12_say_53 rfl rfl ?_
      refine r_callVi hc hr mt_placeOf rfl lm_X12_342 (ok_placeOf hok hw) (Nat.le_of_ble_eq_true rfl) dX12_say_54 rfl (rest := []) rfl (Nat.le_of_ble_eq_true rfl) (fun r1 R1 hw => ?_)
      refine m_istore_n hc [(3, .int r1), (0, .ref G.2.2.1), (1, .int x1), (2, .int x2)] dX12_say_57 rfl (Nat.le_of_ble_eq_true rfl) rfl ?_
      refine m_iload_n hc 3 dX12_say_58 rfl rfl ?_
      refine m_if_le hc 68 dX12_say_59 rfl (fun cq => ?_) (fun cq => ?_)
      · have hw := hw.1 cq
        refine m_sub [1, 2, 3, 0] rfl ?_
        exact b_say_68 hok hc hr K40 h40 x1 x2 r1 R1 hw
      · have hw := hw.2 cq
        refine m_aload_n hc 1 dX12_say_62 rfl rfl ?_
        refine m_bipush hc 43 dX12_say_63 (by decide) ?_
        refine r_callVv hc hr mt_writes rfl lm_X12_360 (ok_writes hok hw) (Nat.le_of_ble_eq_true rfl) dX12_say_65 rfl (rest := []) rfl (Nat.le_of_ble_eq_true rfl) (fun r2 R2 hw => ?_)
        refine m_sub [1, 2, 3, 0] rfl ?_
        exact b_say_68 hok hc hr K40 h40 x1 x2 r1 R2 hw
def wp_say (x1 : Int32) (R : RS) (K : Int32 → RS → Prop) : Prop := wp_isPlace x1 (up R 0 0 0) (fun r1 R1 => (¬ r1 = 0 → vp_in x1 56 ∧ (¬ ((up R1 0 28 0) 2 (Int32.toNatClampNeg x1)) = 0 → ∃ nn : Nat, wl_say_40 K nn x1 0 (up R1 0 28 0)) ∧ (((up R1 0 28 0) 2 (Int32.toNatClampNeg x1)) = 0 → wp_writes 48 (up R1 0 28 0) (fun r2 R2 => ∃ nn : Nat, wl_say_40 K nn x1 0 R2))) ∧ (r1 = 0 → wp_fail 1 R1 (fun r3 R3 => K r3 R3)))
set_option maxHeartbeats 4000000 in
set_option maxRecDepth 100000 in
theorem ok_say {G : RG} (hok : okG G) {x1 : Int32} {R : RS} {K : Int32 → RS → Prop} (hw : wp_say x1 R K) : CF 4 yX12_say cX12_say 4 (some .int) [.ref G.2.2.1, .int x1] G R K := by
  refine CF.of (by decide +kernel) hok (Nat.le_of_ble_eq_true rfl) (fun X hc hr => ?_)
  show MR G X 4 R 0 [(0, .ref G.2.2.1), (1, .int x1)] []
  unfold wp_say at hw
  refine m_aload_n hc 0 dX12_say_0 rfl rfl ?_
  refine m_iconst hc 0 dX12_say_1 (by decide) ?_
  refine r_put hc hr 0 dX12_say_2 lf_X12_116 (Nat.le_of_ble_eq_true rfl) rfl rfl (by decide +kernel) ?_
  refine m_iload_n hc 1 dX12_say_5 rfl rfl ?_
  refine r_callSi hc hr mt_isPlace lm_X12_265 (ok_isPlace hok hw) (Nat.le_of_ble_eq_true rfl) dX12_say_6 rfl (rest := []) rfl (Nat.le_of_ble_eq_true rfl) (fun r1 R1 hw => ?_)
  refine m_if_ne hc 18 dX12_say_9 rfl (fun cq => ?_) (fun cq => ?_)
  · have hw := hw.1 cq
    refine m_aload_n hc 0 dX12_say_18 rfl rfl ?_
    refine m_iconst hc 0 dX12_say_19 (by decide) ?_
    refine r_put hc hr 28 dX12_say_20 lf_X12_354 (Nat.le_of_ble_eq_true rfl) rfl rfl (by decide +kernel) ?_
    refine m_aload_n hc 0 dX12_say_23 rfl rfl ?_
    refine r_geta hc hr 2 dX12_say_24 lf_X12_13 (Nat.le_of_ble_eq_true rfl) rfl ?_
    refine m_iload_n hc 1 dX12_say_27 rfl rfl ?_
    obtain ⟨hi, hw⟩ := hw
    refine r_iald hc hr (i := 0) (f := 2) rfl hi dX12_say_28 ?_
    refine m_if_ne hc 38 dX12_say_29 rfl (fun cq => ?_) (fun cq => ?_)
    · have hw := hw.1 cq
      refine m_iconst hc 0 dX12_say_38 (by decide) ?_
      refine m_istore_n hc [(2, .int 0), (0, .ref G.2.2.1), (1, .int x1)] dX12_say_39 rfl (Nat.le_of_ble_eq_true rfl) rfl ?_
      refine m_sub [1, 2, 0] rfl ?_
      obtain ⟨nn, hw⟩ := hw
      exact l_say_40 hok hc hr nn x1 0 (up R1 0 28 0) hw
    · have hw := hw.2 cq
      refine m_aload_n hc 0 dX12_say_32 rfl rfl ?_
      refine m_bipush hc 48 dX12_say_33 (by decide) ?_
      refine r_callVv hc hr mt_writes rfl lm_X12_360 (ok_writes hok hw) (Nat.le_of_ble_eq_true rfl) dX12_say_35 rfl (rest := []) rfl (Nat.le_of_ble_eq_true rfl) (fun r2 R2 hw => ?_)
      refine m_iconst hc 0 dX12_say_38 (by decide) ?_
      refine m_istore_n hc [(2, .int 0), (0, .ref G.2.2.1), (1, .int x1)] dX12_say_39 rfl (Nat.le_of_ble_eq_true rfl) rfl ?_
      refine m_sub [1, 2, 0] rfl ?_
      obtain ⟨nn, hw⟩ := hw
      exact l_say_40 hok hc hr nn x1 0 R2 hw
  · have hw := hw.2 cq
    refine m_aload_n hc 0 dX12_say_12 rfl rfl ?_
    refine m_iconst hc 1 dX12_say_13 (by decide) ?_
    refine r_callVi hc hr mt_fail rfl lm_X12_317 (ok_fail hok hw) (Nat.le_of_ble_eq_true rfl) dX12_say_14 rfl (rest := []) rfl (Nat.le_of_ble_eq_true rfl) (fun r3 R3 hw => ?_)
    exact r_iret hc hr dX12_say_17 hw
def wp_said (x1 : Int32) (R : RS) (K : Int32 → RS → Prop) : Prop := wp_isIn x1 0 (((up R 0 0 0) 0 28) - 1) (up R 0 0 0) (fun r1 R1 => (r1 = 0 → K (-1) R1) ∧ (¬ (r1 = 0) → vp_in x1 6000 ∧ K (R1 27 (Int32.toNatClampNeg x1)) R1))
set_option maxHeartbeats 4000000 in
set_option maxRecDepth 100000 in
theorem ok_said {G : RG} (hok : okG G) {x1 : Int32} {R : RS} {K : Int32 → RS → Prop} (hw : wp_said x1 R K) : CF 1 yX12_said cX12_said 2 (some .int) [.ref G.2.2.1, .int x1] G R K := by
  refine CF.of (by decide +kernel) hok (Nat.le_of_ble_eq_true rfl) (fun X hc hr => ?_)
  show MR G X 2 R 0 [(0, .ref G.2.2.1), (1, .int x1)] []
  unfold wp_said at hw
  refine m_aload_n hc 0 dX12_said_0 rfl rfl ?_
  refine m_iconst hc 0 dX12_said_1 (by decide) ?_
  refine r_put hc hr 0 dX12_said_2 lf_X12_116 (Nat.le_of_ble_eq_true rfl) rfl rfl (by decide +kernel) ?_
  refine m_iload_n hc 1 dX12_said_5 rfl rfl ?_
  refine m_iconst hc 0 dX12_said_6 (by decide) ?_
  refine m_aload_n hc 0 dX12_said_7 rfl rfl ?_
  refine r_geti hc hr 28 dX12_said_8 lf_X12_354 (Nat.le_of_ble_eq_true rfl) rfl ?_
  refine m_iconst hc 1 dX12_said_11 (by decide) ?_
  refine m_isub hc dX12_said_12 ?_
  refine r_callSi hc hr mt_isIn lm_X12_181 (ok_isIn hok hw) (Nat.le_of_ble_eq_true rfl) dX12_said_13 rfl (rest := []) rfl (Nat.le_of_ble_eq_true rfl) (fun r1 R1 hw => ?_)
  refine m_if_eq hc 28 dX12_said_16 rfl (fun cq => ?_) (fun cq => ?_)
  · have hw := hw.1 cq
    refine m_iconst hc (-1) dX12_said_28 (by decide) ?_
    exact r_iret hc hr dX12_said_29 hw
  · have hw := hw.2 cq
    refine m_aload_n hc 0 dX12_said_19 rfl rfl ?_
    refine r_geta hc hr 27 dX12_said_20 lf_X12_74 (Nat.le_of_ble_eq_true rfl) rfl ?_
    refine m_iload_n hc 1 dX12_said_23 rfl rfl ?_
    obtain ⟨hi, hw⟩ := hw
    refine r_iald hc hr (i := 19) (f := 27) rfl hi dX12_said_24 ?_
    refine m_goto hc 29 dX12_said_25 rfl ?_
    exact r_iret hc hr dX12_said_29 hw
def wp_count (x1 : Int32) (R : RS) (K : Int32 → RS → Prop) : Prop := (¬ x1 = 0 → (¬ x1 = 1 → (¬ x1 = 2 → (¬ x1 = 3 → wp_fail 1 (up R 0 0 0) (fun r1 R1 => K r1 R1)) ∧ (x1 = 3 → K ((up R 0 0 0) 0 13) (up R 0 0 0))) ∧ (x1 = 2 → K ((up R 0 0 0) 0 43) (up R 0 0 0))) ∧ (x1 = 1 → K ((up R 0 0 0) 0 37) (up R 0 0 0))) ∧ (x1 = 0 → K ((up R 0 0 0) 0 1) (up R 0 0 0))
set_option maxHeartbeats 4000000 in
set_option maxRecDepth 100000 in
theorem ok_count {G : RG} (hok : okG G) {x1 : Int32} {R : RS} {K : Int32 → RS → Prop} (hw : wp_count x1 R K) : CF 1 yX12_count cX12_count 2 (some .int) [.ref G.2.2.1, .int x1] G R K := by
  refine CF.of (by decide +kernel) hok (Nat.le_of_ble_eq_true rfl) (fun X hc hr => ?_)
  show MR G X 2 R 0 [(0, .ref G.2.2.1), (1, .int x1)] []
  unfold wp_count at hw
  refine m_aload_n hc 0 dX12_count_0 rfl rfl ?_
  refine m_iconst hc 0 dX12_count_1 (by decide) ?_
  refine r_put hc hr 0 dX12_count_2 lf_X12_116 (Nat.le_of_ble_eq_true rfl) rfl rfl (by decide +kernel) ?_
  refine m_iload_n hc 1 dX12_count_5 rfl rfl ?_
  refine m_if_ne hc 16 dX12_count_6 rfl (fun cq => ?_) (fun cq => ?_)
  · have hw := hw.1 cq
    refine m_iload_n hc 1 dX12_count_16 rfl rfl ?_
    refine m_iconst hc 1 dX12_count_17 (by decide) ?_
    refine m_icmp_ne hc 28 dX12_count_18 rfl (fun cq => ?_) (fun cq => ?_)
    · have hw := hw.1 cq
      refine m_iload_n hc 1 dX12_count_28 rfl rfl ?_
      refine m_iconst hc 2 dX12_count_29 (by decide) ?_
      refine m_icmp_ne hc 40 dX12_count_30 rfl (fun cq => ?_) (fun cq => ?_)
      · have hw := hw.1 cq
        refine m_iload_n hc 1 dX12_count_40 rfl rfl ?_
        refine m_iconst hc 3 dX12_count_41 (by decide) ?_
        refine m_icmp_ne hc 52 dX12_count_42 rfl (fun cq => ?_) (fun cq => ?_)
        · have hw := hw.1 cq
          refine m_aload_n hc 0 dX12_count_52 rfl rfl ?_
          refine m_iconst hc 1 dX12_count_53 (by decide) ?_
          refine r_callVi hc hr mt_fail rfl lm_X12_317 (ok_fail hok hw) (Nat.le_of_ble_eq_true rfl) dX12_count_54 rfl (rest := []) rfl (Nat.le_of_ble_eq_true rfl) (fun r1 R1 hw => ?_)
          exact r_iret hc hr dX12_count_57 hw
        · have hw := hw.2 cq
          refine m_aload_n hc 0 dX12_count_45 rfl rfl ?_
          refine r_geti hc hr 13 dX12_count_46 lf_X12_188 (Nat.le_of_ble_eq_true rfl) rfl ?_
          refine m_goto hc 57 dX12_count_49 rfl ?_
          exact r_iret hc hr dX12_count_57 hw
      · have hw := hw.2 cq
        refine m_aload_n hc 0 dX12_count_33 rfl rfl ?_
        refine r_geti hc hr 43 dX12_count_34 lf_X12_311 (Nat.le_of_ble_eq_true rfl) rfl ?_
        refine m_goto hc 57 dX12_count_37 rfl ?_
        exact r_iret hc hr dX12_count_57 hw
    · have hw := hw.2 cq
      refine m_aload_n hc 0 dX12_count_21 rfl rfl ?_
      refine r_geti hc hr 37 dX12_count_22 lf_X12_194 (Nat.le_of_ble_eq_true rfl) rfl ?_
      refine m_goto hc 57 dX12_count_25 rfl ?_
      exact r_iret hc hr dX12_count_57 hw
  · have hw := hw.2 cq
    refine m_aload_n hc 0 dX12_count_9 rfl rfl ?_
    refine r_geti hc hr 1 dX12_count_10 lf_X12_9 (Nat.le_of_ble_eq_true rfl) rfl ?_
    refine m_goto hc 57 dX12_count_13 rfl ?_
    exact r_iret hc hr dX12_count_57 hw
def w_atom_69 (K : Int32 → RS → Prop) (x1 s0 s1 s2 : Int32) (R : RS) : Prop := wp_gathers s2 s1 s0 1 R (fun r1 R1 => wp_gathered x1 R1 (fun r2 R2 => K 0 R2))
set_option maxHeartbeats 4000000 in
set_option maxRecDepth 100000 in
theorem b_atom_69 {G : RG} {X : Fx} {K : Int32 → RS → Prop} (hok : okG G) (hc : Cx X RX12 cX12_atom 5) (hr : Cr G 4 none K X) : ∀ (x1 s0 s1 s2 : Int32) (R : RS), w_atom_69 K x1 s0 s1 s2 R → MR G X 5 R 69 [(0, .ref G.2.2.1), (1, .int x1)] [.int s0, .int s1, .int s2, .ref G.2.2.1] := by
  intro x1 s0 s1 s2 R hw
  unfold w_atom_69 at hw
  refine m_iconst hc 1 dX12_atom_69 (by decide) ?_
  refine r_callVv hc hr mt_gathers rfl lm_X12_152 (ok_gathers hok hw) (Nat.le_of_ble_eq_true rfl) dX12_atom_70 rfl (rest := []) rfl (Nat.le_of_ble_eq_true rfl) (fun r1 R1 hw => ?_)
  refine m_aload_n hc 0 dX12_atom_73 rfl rfl ?_
  refine m_iload_n hc 1 dX12_atom_74 rfl rfl ?_
  refine r_callVi hc hr mt_gathered rfl lm_X12_160 (ok_gathered hok hw) (Nat.le_of_ble_eq_true rfl) dX12_atom_75 rfl (rest := []) rfl (Nat.le_of_ble_eq_true rfl) (fun r2 R2 hw => ?_)
  refine m_istore hc [(4, .int r2), (0, .ref G.2.2.1), (1, .int x1)] dX12_atom_78 (Nat.le_of_ble_eq_true rfl) rfl ?_
  refine m_goto hc 94 dX12_atom_80 rfl ?_
  exact r_vret hc hr dX12_atom_94 hw
def w_atom_59 (K : Int32 → RS → Prop) (x1 x3 s0 s1 : Int32) (R : RS) : Prop := (¬ x3 = 2 → w_atom_69 K x1 0 s0 s1 R) ∧ (x3 = 2 → w_atom_69 K x1 1 s0 s1 R)
set_option maxHeartbeats 4000000 in
set_option maxRecDepth 100000 in
theorem b_atom_59 {G : RG} {X : Fx} {K : Int32 → RS → Prop} (hok : okG G) (hc : Cx X RX12 cX12_atom 5) (hr : Cr G 4 none K X) : ∀ (x1 x3 s0 s1 : Int32) (R : RS), w_atom_59 K x1 x3 s0 s1 R → MR G X 5 R 59 [(0, .ref G.2.2.1), (1, .int x1), (3, .int x3)] [.int s0, .int s1, .ref G.2.2.1] := by
  intro x1 x3 s0 s1 R hw
  unfold w_atom_59 at hw
  refine m_iload_n hc 2 dX12_atom_59 rfl rfl ?_
  refine m_iconst hc 2 dX12_atom_60 (by decide) ?_
  refine m_icmp_ne hc 68 dX12_atom_61 rfl (fun cq => ?_) (fun cq => ?_)
  · have hw := hw.1 cq
    refine m_iconst hc 0 dX12_atom_68 (by decide) ?_
    refine m_sub [0, 1] rfl ?_
    exact b_atom_69 hok hc hr x1 0 s0 s1 R hw
  · have hw := hw.2 cq
    refine m_iconst hc 1 dX12_atom_64 (by decide) ?_
    refine m_goto hc 69 dX12_atom_65 rfl ?_
    refine m_sub [0, 1] rfl ?_
    exact b_atom_69 hok hc hr x1 1 s0 s1 R hw
def w_atom_49 (K : Int32 → RS → Prop) (x1 x3 s0 : Int32) (R : RS) : Prop := (¬ x3 = 1 → w_atom_59 K x1 x3 0 s0 R) ∧ (x3 = 1 → w_atom_59 K x1 x3 1 s0 R)
set_option maxHeartbeats 4000000 in
set_option maxRecDepth 100000 in
theorem b_atom_49 {G : RG} {X : Fx} {K : Int32 → RS → Prop} (hok : okG G) (hc : Cx X RX12 cX12_atom 5) (hr : Cr G 4 none K X) : ∀ (x1 x3 s0 : Int32) (R : RS), w_atom_49 K x1 x3 s0 R → MR G X 5 R 49 [(0, .ref G.2.2.1), (1, .int x1), (3, .int x3)] [.int s0, .ref G.2.2.1] := by
  intro x1 x3 s0 R hw
  unfold w_atom_49 at hw
  refine m_iload_n hc 2 dX12_atom_49 rfl rfl ?_
  refine m_iconst hc 1 dX12_atom_50 (by decide) ?_
  refine m_icmp_ne hc 58 dX12_atom_51 rfl (fun cq => ?_) (fun cq => ?_)
  · have hw := hw.1 cq
    refine m_iconst hc 0 dX12_atom_58 (by decide) ?_
    exact b_atom_59 hok hc hr x1 x3 0 s0 R hw
  · have hw := hw.2 cq
    refine m_iconst hc 1 dX12_atom_54 (by decide) ?_
    refine m_goto hc 59 dX12_atom_55 rfl ?_
    exact b_atom_59 hok hc hr x1 x3 1 s0 R hw
def wp_atom (x1 x2 : Int32) (R : RS) (K : Int32 → RS → Prop) : Prop := vp_in x2 46 ∧ ∀ v1 : Int32, v1 = (R 36 (Int32.toNatClampNeg x2)) → vp_in x2 46 ∧ (¬ (R 35 (Int32.toNatClampNeg x2)) = 2 → vp_in x2 46 ∧ (¬ (R 35 (Int32.toNatClampNeg x2)) = 1 → ¬ (R 0 1) = 0 ∧ (wp_number x1 (iRem v1 (R 0 1)) R (fun r2 R2 => K 0 R2))) ∧ ((R 35 (Int32.toNatClampNeg x2)) = 1 → (¬ v1 = 0 → w_atom_49 K x1 v1 0 R) ∧ (v1 = 0 → w_atom_49 K x1 v1 1 R))) ∧ ((R 35 (Int32.toNatClampNeg x2)) = 2 → wp_copy x1 (29 + v1) R (fun r3 R3 => K 0 R3))
set_option maxHeartbeats 4000000 in
set_option maxRecDepth 100000 in
theorem ok_atom {G : RG} (hok : okG G) {x1 : Int32} {x2 : Int32} {R : RS} {K : Int32 → RS → Prop} (hw : wp_atom x1 x2 R K) : CF 4 yX12_atom cX12_atom 5 none [.ref G.2.2.1, .int x1, .int x2] G R K := by
  refine CF.of (by decide +kernel) hok (Nat.le_of_ble_eq_true rfl) (fun X hc hr => ?_)
  show MR G X 5 R 0 [(0, .ref G.2.2.1), (1, .int x1), (2, .int x2)] []
  unfold wp_atom at hw
  refine m_aload_n hc 0 dX12_atom_0 rfl rfl ?_
  refine r_geta hc hr 36 dX12_atom_1 lf_X12_98 (Nat.le_of_ble_eq_true rfl) rfl ?_
  refine m_iload_n hc 2 dX12_atom_4 rfl rfl ?_
  obtain ⟨hi, hw⟩ := hw
  refine r_iald hc hr (i := 27) (f := 36) rfl hi dX12_atom_5 ?_
  refine m_topi (fun v1 e_v1 => ?_)
  have hw := hw v1 e_v1
  refine m_istore_n hc [(3, .int v1), (0, .ref G.2.2.1), (1, .int x1), (2, .int x2)] dX12_atom_6 rfl (Nat.le_of_ble_eq_true rfl) rfl ?_
  refine m_aload_n hc 1 dX12_atom_7 rfl rfl ?_
  refine r_geta hc hr 35 dX12_atom_8 lf_X12_95 (Nat.le_of_ble_eq_true rfl) rfl ?_
  refine m_iload_n hc 3 dX12_atom_11 rfl rfl ?_
  obtain ⟨hi, hw⟩ := hw
  refine r_iald hc hr (i := 26) (f := 35) rfl hi dX12_atom_12 ?_
  refine m_iconst hc 2 dX12_atom_13 (by decide) ?_
  refine m_icmp_ne hc 29 dX12_atom_14 rfl (fun cq => ?_) (fun cq => ?_)
  · have hw := hw.1 cq
    refine m_aload_n hc 1 dX12_atom_29 rfl rfl ?_
    refine r_geta hc hr 35 dX12_atom_30 lf_X12_95 (Nat.le_of_ble_eq_true rfl) rfl ?_
    refine m_iload_n hc 3 dX12_atom_33 rfl rfl ?_
    obtain ⟨hi, hw⟩ := hw
    refine r_iald hc hr (i := 26) (f := 35) rfl hi dX12_atom_34 ?_
    refine m_iconst hc 1 dX12_atom_35 (by decide) ?_
    refine m_icmp_ne hc 83 dX12_atom_36 rfl (fun cq => ?_) (fun cq => ?_)
    · have hw := hw.1 cq
      refine m_aload_n hc 1 dX12_atom_83 rfl rfl ?_
      refine m_iload_n hc 2 dX12_atom_84 rfl rfl ?_
      refine m_iload_n hc 0 dX12_atom_85 rfl rfl ?_
      refine m_aload_n hc 1 dX12_atom_86 rfl rfl ?_
      refine r_geti hc hr 1 dX12_atom_87 lf_X12_9 (Nat.le_of_ble_eq_true rfl) rfl ?_
      obtain ⟨hq, hw⟩ := hw
      refine m_irem hc dX12_atom_90 hq ?_
      refine r_callVv hc hr mt_number rfl lm_X12_171 (ok_number hok hw) (Nat.le_of_ble_eq_true rfl) dX12_atom_91 rfl (rest := []) rfl (Nat.le_of_ble_eq_true rfl) (fun r2 R2 hw => ?_)
      exact r_vret hc hr dX12_atom_94 hw
    · have hw := hw.2 cq
      refine m_aload_n hc 1 dX12_atom_39 rfl rfl ?_
      refine m_iload_n hc 0 dX12_atom_40 rfl rfl ?_
      refine m_if_ne hc 48 dX12_atom_41 rfl (fun cq => ?_) (fun cq => ?_)
      · have hw := hw.1 cq
        refine m_iconst hc 0 dX12_atom_48 (by decide) ?_
        refine m_sub [1, 2, 0] rfl ?_
        exact b_atom_49 hok hc hr x1 v1 0 R hw
      · have hw := hw.2 cq
        refine m_iconst hc 1 dX12_atom_44 (by decide) ?_
        refine m_goto hc 49 dX12_atom_45 rfl ?_
        refine m_sub [1, 2, 0] rfl ?_
        exact b_atom_49 hok hc hr x1 v1 1 R hw
  · have hw := hw.2 cq
    refine m_aload_n hc 1 dX12_atom_17 rfl rfl ?_
    refine m_iload_n hc 2 dX12_atom_18 rfl rfl ?_
    refine m_bipush hc 29 dX12_atom_19 (by decide) ?_
    refine m_iload_n hc 0 dX12_atom_21 rfl rfl ?_
    refine m_iadd hc dX12_atom_22 ?_
    refine r_callVv hc hr mt_copy rfl lm_X12_168 (ok_copy hok hw) (Nat.le_of_ble_eq_true rfl) dX12_atom_23 rfl (rest := []) rfl (Nat.le_of_ble_eq_true rfl) (fun r3 R3 hw => ?_)
    refine m_goto hc 94 dX12_atom_26 rfl ?_
    exact r_vret hc hr dX12_atom_94 hw
def w_makesStep_45 (K : Int32 → RS → Prop) (x1 x2 : Int32) (R : RS) : Prop := vp_in x1 23 ∧ ((R 34 (Int32.toNatClampNeg x1)) = 42 → wp_product x2 54 55 R (fun r1 R1 => (r1 = 0 ∨ r1 = 1) ∧ K r1 R1)) ∧ ((R 34 (Int32.toNatClampNeg x1)) = 43 → wp_sum x2 54 55 1 R (fun r2 R2 => (r2 = 0 ∨ r2 = 1) ∧ K r2 R2)) ∧ ((R 34 (Int32.toNatClampNeg x1)) = 45 → wp_sum x2 54 55 (-1) R (fun r3 R3 => (r3 = 0 ∨ r3 = 1) ∧ K r3 R3)) ∧ ((R 34 (Int32.toNatClampNeg x1)) = 94 → vp_in ((2 * x1) + 1) 46 ∧ wp_power x2 54 (R 36 (Int32.toNatClampNeg ((2 * x1) + 1))) R (fun r4 R4 => (r4 = 0 ∨ r4 = 1) ∧ K r4 R4)) ∧ (¬ (R 34 (Int32.toNatClampNeg x1)) = 42 ∧ ¬ (R 34 (Int32.toNatClampNeg x1)) = 43 ∧ ¬ (R 34 (Int32.toNatClampNeg x1)) = 45 ∧ ¬ (R 34 (Int32.toNatClampNeg x1)) = 94 → wp_copy x2 54 R (fun r5 R5 => K 1 R5))
set_option maxHeartbeats 4000000 in
set_option maxRecDepth 100000 in
theorem b_makesStep_45 {G : RG} {X : Fx} {K : Int32 → RS → Prop} (hok : okG G) (hc : Cx X RX12 cX12_makesStep 3) (hr : Cr G 5 (some .boolean) K X) : ∀ (x1 x2 : Int32) (R : RS), w_makesStep_45 K x1 x2 R → MR G X 3 R 45 [(0, .ref G.2.2.1), (1, .int x1), (2, .int x2)] [] := by
  intro x1 x2 R hw
  unfold w_makesStep_45 at hw
  refine m_aload_n hc 0 dX12_makesStep_45 rfl rfl ?_
  refine r_geta hc hr 34 dX12_makesStep_46 lf_X12_92 (Nat.le_of_ble_eq_true rfl) rfl ?_
  refine m_iload_n hc 1 dX12_makesStep_49 rfl rfl ?_
  obtain ⟨hi, hw⟩ := hw
  refine r_iald hc hr (i := 25) (f := 34) rfl hi dX12_makesStep_50 ?_
  by_cases q0 : (R 34 (Int32.toNatClampNeg x1)) = 42
  · have hw := hw.1 q0
    refine m_look hc (off := 63) 114 dX12_makesStep_51 (by decide +kernel) (by rw [q0]; rfl) rfl ?_
    refine m_aload_n hc 0 dX12_makesStep_114 rfl rfl ?_
    refine m_iload_n hc 2 dX12_makesStep_115 rfl rfl ?_
    refine m_bipush hc 54 dX12_makesStep_116 (by decide) ?_
    refine m_bipush hc 55 dX12_makesStep_118 (by decide) ?_
    refine r_callVi hc hr mt_product rfl lm_X12_174 (ok_product hok hw) (Nat.le_of_ble_eq_true rfl) dX12_makesStep_120 rfl (rest := []) rfl (Nat.le_of_ble_eq_true rfl) (fun r1 R1 hw => ?_)
    exact r_zret hc hr dX12_makesStep_123 hw.1 hw.2
  · skip
    by_cases q1 : (R 34 (Int32.toNatClampNeg x1)) = 43
    · have hw := hw.2.1 q1
      refine m_look hc (off := 41) 92 dX12_makesStep_51 (by decide +kernel) (by rw [q1]; rfl) rfl ?_
      refine m_aload_n hc 0 dX12_makesStep_92 rfl rfl ?_
      refine m_iload_n hc 2 dX12_makesStep_93 rfl rfl ?_
      refine m_bipush hc 54 dX12_makesStep_94 (by decide) ?_
      refine m_bipush hc 55 dX12_makesStep_96 (by decide) ?_
      refine m_iconst hc 1 dX12_makesStep_98 (by decide) ?_
      refine r_callVi hc hr mt_sum rfl lm_X12_281 (ok_sum hok hw) (Nat.le_of_ble_eq_true rfl) dX12_makesStep_99 rfl (rest := []) rfl (Nat.le_of_ble_eq_true rfl) (fun r2 R2 hw => ?_)
      exact r_zret hc hr dX12_makesStep_102 hw.1 hw.2
    · skip
      by_cases q2 : (R 34 (Int32.toNatClampNeg x1)) = 45
      · have hw := hw.2.2.1 q2
        refine m_look hc (off := 52) 103 dX12_makesStep_51 (by decide +kernel) (by rw [q2]; rfl) rfl ?_
        refine m_aload_n hc 0 dX12_makesStep_103 rfl rfl ?_
        refine m_iload_n hc 2 dX12_makesStep_104 rfl rfl ?_
        refine m_bipush hc 54 dX12_makesStep_105 (by decide) ?_
        refine m_bipush hc 55 dX12_makesStep_107 (by decide) ?_
        refine m_iconst hc (-1) dX12_makesStep_109 (by decide) ?_
        refine r_callVi hc hr mt_sum rfl lm_X12_281 (ok_sum hok hw) (Nat.le_of_ble_eq_true rfl) dX12_makesStep_110 rfl (rest := []) rfl (Nat.le_of_ble_eq_true rfl) (fun r3 R3 hw => ?_)
        exact r_zret hc hr dX12_makesStep_113 hw.1 hw.2
      · skip
        by_cases q3 : (R 34 (Int32.toNatClampNeg x1)) = 94
        · have hw := hw.2.2.2.1 q3
          refine m_look hc (off := 73) 124 dX12_makesStep_51 (by decide +kernel) (by rw [q3]; rfl) rfl ?_
          refine m_aload_n hc 0 dX12_makesStep_124 rfl rfl ?_
          refine m_iload_n hc 2 dX12_makesStep_125 rfl rfl ?_
          refine m_bipush hc 54 dX12_makesStep_126 (by decide) ?_
          refine m_aload_n hc 0 dX12_makesStep_128 rfl rfl ?_
          refine r_geta hc hr 36 dX12_makesStep_129 lf_X12_98 (Nat.le_of_ble_eq_true rfl) rfl ?_
          refine m_iconst hc 2 dX12_makesStep_132 (by decide) ?_
          refine m_iload_n hc 1 dX12_makesStep_133 rfl rfl ?_
          refine m_imul hc dX12_makesStep_134 ?_
          refine m_iconst hc 1 dX12_makesStep_135 (by decide) ?_
          refine m_iadd hc dX12_makesStep_136 ?_
          obtain ⟨hi, hw⟩ := hw
          refine r_iald hc hr (i := 27) (f := 36) rfl hi dX12_makesStep_137 ?_
          refine r_callVi hc hr mt_power rfl lm_X12_287 (ok_power hok hw) (Nat.le_of_ble_eq_true rfl) dX12_makesStep_138 rfl (rest := []) rfl (Nat.le_of_ble_eq_true rfl) (fun r4 R4 hw => ?_)
          exact r_zret hc hr dX12_makesStep_141 hw.1 hw.2
        · skip
          have hw := hw.2.2.2.2 ⟨q0, q1, q2, q3⟩
          refine m_look hc (off := 91) 142 dX12_makesStep_51 (by decide +kernel) (lk_no 42 q0 rfl (lk_no 43 q1 rfl (lk_no 45 q2 rfl (lk_no 94 q3 rfl (rfl))))) rfl ?_
          refine m_aload_n hc 0 dX12_makesStep_142 rfl rfl ?_
          refine m_iload_n hc 2 dX12_makesStep_143 rfl rfl ?_
          refine m_bipush hc 54 dX12_makesStep_144 (by decide) ?_
          refine r_callVv hc hr mt_copy rfl lm_X12_168 (ok_copy hok hw) (Nat.le_of_ble_eq_true rfl) dX12_makesStep_146 rfl (rest := []) rfl (Nat.le_of_ble_eq_true rfl) (fun r5 R5 hw => ?_)
          refine m_iconst hc 1 dX12_makesStep_149 (by decide) ?_
          exact r_zret hc hr dX12_makesStep_150 (by decide) hw
def wp_makesStep (x1 : Int32) (R : RS) (K : Int32 → RS → Prop) : Prop := wp_atom 54 (2 * x1) R (fun r1 R1 => vp_in x1 23 ∧ ((R1 34 (Int32.toNatClampNeg x1)) = 0 → w_makesStep_45 K x1 (29 + x1) R1) ∧ (¬ ((R1 34 (Int32.toNatClampNeg x1)) = 0) → vp_in x1 23 ∧ ((R1 34 (Int32.toNatClampNeg x1)) = 94 → w_makesStep_45 K x1 (29 + x1) R1) ∧ (¬ ((R1 34 (Int32.toNatClampNeg x1)) = 94) → wp_atom 55 ((2 * x1) + 1) R1 (fun r2 R2 => w_makesStep_45 K x1 (29 + x1) R2))))
set_option maxHeartbeats 4000000 in
set_option maxRecDepth 100000 in
theorem ok_makesStep {G : RG} (hok : okG G) {x1 : Int32} {R : RS} {K : Int32 → RS → Prop} (hw : wp_makesStep x1 R K) : CF 5 yX12_makesStep cX12_makesStep 3 (some .boolean) [.ref G.2.2.1, .int x1] G R K := by
  refine CF.of (by decide +kernel) hok (Nat.le_of_ble_eq_true rfl) (fun X hc hr => ?_)
  show MR G X 3 R 0 [(0, .ref G.2.2.1), (1, .int x1)] []
  unfold wp_makesStep at hw
  refine m_bipush hc 29 dX12_makesStep_0 (by decide) ?_
  refine m_iload_n hc 1 dX12_makesStep_2 rfl rfl ?_
  refine m_iadd hc dX12_makesStep_3 ?_
  refine m_istore_n hc [(2, .int (29 + x1)), (0, .ref G.2.2.1), (1, .int x1)] dX12_makesStep_4 rfl (Nat.le_of_ble_eq_true rfl) rfl ?_
  refine m_aload_n hc 1 dX12_makesStep_5 rfl rfl ?_
  refine m_bipush hc 54 dX12_makesStep_6 (by decide) ?_
  refine m_iconst hc 2 dX12_makesStep_8 (by decide) ?_
  refine m_iload_n hc 2 dX12_makesStep_9 rfl rfl ?_
  refine m_imul hc dX12_makesStep_10 ?_
  refine r_callVv hc hr mt_atom rfl lm_X12_366 (ok_atom hok hw) (Nat.le_of_ble_eq_true rfl) dX12_makesStep_11 rfl (rest := []) rfl (Nat.le_of_ble_eq_true rfl) (fun r1 R1 hw => ?_)
  refine m_aload_n hc 1 dX12_makesStep_14 rfl rfl ?_
  refine r_geta hc hr 34 dX12_makesStep_15 lf_X12_92 (Nat.le_of_ble_eq_true rfl) rfl ?_
  refine m_iload_n hc 2 dX12_makesStep_18 rfl rfl ?_
  obtain ⟨hi, hw⟩ := hw
  refine r_iald hc hr (i := 25) (f := 34) rfl hi dX12_makesStep_19 ?_
  refine m_if_eq hc 45 dX12_makesStep_20 rfl (fun cq => ?_) (fun cq => ?_)
  · have hw := hw.1 cq
    refine m_sub [1, 2, 0] rfl ?_
    exact b_makesStep_45 hok hc hr x1 (29 + x1) R1 hw
  · have hw := hw.2 cq
    refine m_aload_n hc 1 dX12_makesStep_23 rfl rfl ?_
    refine r_geta hc hr 34 dX12_makesStep_24 lf_X12_92 (Nat.le_of_ble_eq_true rfl) rfl ?_
    refine m_iload_n hc 2 dX12_makesStep_27 rfl rfl ?_
    obtain ⟨hi, hw⟩ := hw
    refine r_iald hc hr (i := 25) (f := 34) rfl hi dX12_makesStep_28 ?_
    refine m_bipush hc 94 dX12_makesStep_29 (by decide) ?_
    refine m_icmp_eq hc 45 dX12_makesStep_31 rfl (fun cq => ?_) (fun cq => ?_)
    · have hw := hw.1 cq
      refine m_sub [1, 2, 0] rfl ?_
      exact b_makesStep_45 hok hc hr x1 (29 + x1) R1 hw
    · have hw := hw.2 cq
      refine m_aload_n hc 1 dX12_makesStep_34 rfl rfl ?_
      refine m_bipush hc 55 dX12_makesStep_35 (by decide) ?_
      refine m_iconst hc 2 dX12_makesStep_37 (by decide) ?_
      refine m_iload_n hc 2 dX12_makesStep_38 rfl rfl ?_
      refine m_imul hc dX12_makesStep_39 ?_
      refine m_iconst hc 1 dX12_makesStep_40 (by decide) ?_
      refine m_iadd hc dX12_makesStep_41 ?_
      refine r_callVv hc hr mt_atom rfl lm_X12_366 (ok_atom hok hw) (Nat.le_of_ble_eq_true rfl) dX12_makesStep_42 rfl (rest := []) rfl (Nat.le_of_ble_eq_true rfl) (fun r2 R2 hw => ?_)
      refine m_sub [1, 2, 0] rfl ?_
      exact b_makesStep_45 hok hc hr x1 (29 + x1) R2 hw
def wb_takesProgram_62 (K62 : Int32 → RS → Prop) (K : Int32 → RS → Prop) (x1 : Int32) (R : RS) : Prop := ((2 * (R 0 37)) ≤ x1 → K 0 R) ∧ (¬ ((2 * (R 0 37)) ≤ x1) → vp_in x1 46 ∧ vp_in x1 46 ∧ vp_in x1 46 ∧ vp_in x1 46 ∧ K62 (x1 + 1) (up (up R 31 (Int32.toNatClampNeg x1) (R 35 (Int32.toNatClampNeg x1))) 32 (Int32.toNatClampNeg x1) ((up R 31 (Int32.toNatClampNeg x1) (R 35 (Int32.toNatClampNeg x1))) 36 (Int32.toNatClampNeg x1))))
def wl_takesProgram_62 (K : Int32 → RS → Prop) : Nat → Int32 → RS → Prop
  | 0 => fun _ _ => False
  | nn + 1 => wb_takesProgram_62 (wl_takesProgram_62 K nn) K
set_option maxHeartbeats 4000000 in
set_option maxRecDepth 100000 in
theorem l_takesProgram_62 {G : RG} {X : Fx} {K : Int32 → RS → Prop} (hok : okG G) (hc : Cx X RX12 cX12_takesProgram 2) (hr : Cr G 2 none K X) : ∀ (nn : Nat) (x1 : Int32) (R : RS), wl_takesProgram_62 K nn x1 R → MR G X 2 R 62 [(0, .ref G.2.2.1), (1, .int x1)] [] := by
  intro nn
  induction nn with
  | zero => intro x1 R hw; exact False.elim hw
  | succ nn ih =>
    intro x1 R hw
    have hw : wb_takesProgram_62 (wl_takesProgram_62 K nn) K x1 R := hw
    have h62 := ih
    generalize wl_takesProgram_62 K nn = K62 at hw h62
    unfold wb_takesProgram_62 at hw
    refine m_iload_n hc 1 dX12_takesProgram_62 rfl rfl ?_
    refine m_iconst hc 2 dX12_takesProgram_63 (by decide) ?_
    refine m_aload_n hc 0 dX12_takesProgram_64 rfl rfl ?_
    refine r_geti hc hr 37 dX12_takesProgram_65 lf_X12_194 (Nat.le_of_ble_eq_true rfl) rfl ?_
    refine m_imul hc dX12_takesProgram_68 ?_
    refine m_icmp_ge hc 102 dX12_takesProgram_69 rfl (fun cq => ?_) (fun cq => ?_)
    · have hw := hw.1 cq
      exact r_vret hc hr dX12_takesProgram_102 hw
    · have hw := hw.2 cq
      refine m_aload_n hc 0 dX12_takesProgram_72 rfl rfl ?_
      refine r_geta hc hr 31 dX12_takesProgram_73 lf_X12_83 (Nat.le_of_ble_eq_true rfl) rfl ?_
      refine m_iload_n hc 1 dX12_takesProgram_76 rfl rfl ?_
      refine m_aload_n hc 0 dX12_takesProgram_77 rfl rfl ?_
      refine r_geta hc hr 35 dX12_takesProgram_78 lf_X12_95 (Nat.le_of_ble_eq_true rfl) rfl ?_
      refine m_iload_n hc 1 dX12_takesProgram_81 rfl rfl ?_
      obtain ⟨hi, hw⟩ := hw
      refine r_iald hc hr (i := 26) (f := 35) rfl hi dX12_takesProgram_82 ?_
      obtain ⟨hi, hw⟩ := hw
      refine r_iast hc hr (i := 22) (f := 31) rfl hi dX12_takesProgram_83 ?_
      refine m_aload_n hc 0 dX12_takesProgram_84 rfl rfl ?_
      refine r_geta hc hr 32 dX12_takesProgram_85 lf_X12_86 (Nat.le_of_ble_eq_true rfl) rfl ?_
      refine m_iload_n hc 1 dX12_takesProgram_88 rfl rfl ?_
      refine m_aload_n hc 0 dX12_takesProgram_89 rfl rfl ?_
      refine r_geta hc hr 36 dX12_takesProgram_90 lf_X12_98 (Nat.le_of_ble_eq_true rfl) rfl ?_
      refine m_iload_n hc 1 dX12_takesProgram_93 rfl rfl ?_
      obtain ⟨hi, hw⟩ := hw
      refine r_iald hc hr (i := 27) (f := 36) rfl hi dX12_takesProgram_94 ?_
      obtain ⟨hi, hw⟩ := hw
      refine r_iast hc hr (i := 23) (f := 32) rfl hi dX12_takesProgram_95 ?_
      refine m_iinc hc 1 (x1 + 1) [(1, .int (x1 + 1)), (0, .ref G.2.2.1)] dX12_takesProgram_96 rfl rfl (Nat.le_of_ble_eq_true rfl) rfl ?_
      refine m_goto hc 62 dX12_takesProgram_99 rfl ?_
      refine m_sub [1, 0] rfl ?_
      exact h62 (x1 + 1) (up (up R 31 (Int32.toNatClampNeg x1) (R 35 (Int32.toNatClampNeg x1))) 32 (Int32.toNatClampNeg x1) ((up R 31 (Int32.toNatClampNeg x1) (R 35 (Int32.toNatClampNeg x1))) 36 (Int32.toNatClampNeg x1))) hw
def wb_takesProgram_10 (K10 : Int32 → RS → Prop) (K : Int32 → RS → Prop) (x1 : Int32) (R : RS) : Prop := ((R 0 37) ≤ x1 → ∃ nn : Nat, wl_takesProgram_62 K nn 0 R) ∧ (¬ ((R 0 37) ≤ x1) → vp_in x1 23 ∧ vp_in x1 23 ∧ vp_in x1 23 ∧ vp_in x1 23 ∧ wp_copy (6 + x1) (29 + x1) (up (up R 29 (Int32.toNatClampNeg x1) (R 33 (Int32.toNatClampNeg x1))) 30 (Int32.toNatClampNeg x1) ((up R 29 (Int32.toNatClampNeg x1) (R 33 (Int32.toNatClampNeg x1))) 34 (Int32.toNatClampNeg x1))) (fun r1 R1 => K10 (x1 + 1) R1))
def wl_takesProgram_10 (K : Int32 → RS → Prop) : Nat → Int32 → RS → Prop
  | 0 => fun _ _ => False
  | nn + 1 => wb_takesProgram_10 (wl_takesProgram_10 K nn) K
set_option maxHeartbeats 4000000 in
set_option maxRecDepth 100000 in
theorem l_takesProgram_10 {G : RG} {X : Fx} {K : Int32 → RS → Prop} (hok : okG G) (hc : Cx X RX12 cX12_takesProgram 2) (hr : Cr G 2 none K X) : ∀ (nn : Nat) (x1 : Int32) (R : RS), wl_takesProgram_10 K nn x1 R → MR G X 2 R 10 [(0, .ref G.2.2.1), (1, .int x1)] [] := by
  intro nn
  induction nn with
  | zero => intro x1 R hw; exact False.elim hw
  | succ nn ih =>
    intro x1 R hw
    have hw : wb_takesProgram_10 (wl_takesProgram_10 K nn) K x1 R := hw
    have h10 := ih
    generalize wl_takesProgram_10 K nn = K10 at hw h10
    unfold wb_takesProgram_10 at hw
    refine m_iload_n hc 1 dX12_takesProgram_10 rfl rfl ?_
    refine m_aload_n hc 0 dX12_takesProgram_11 rfl rfl ?_
    refine r_geti hc hr 37 dX12_takesProgram_12 lf_X12_194 (Nat.le_of_ble_eq_true rfl) rfl ?_
    refine m_icmp_ge hc 60 dX12_takesProgram_15 rfl (fun cq => ?_) (fun cq => ?_)
    · have hw := hw.1 cq
      refine m_iconst hc 0 dX12_takesProgram_60 (by decide) ?_
      refine m_istore_n hc [(1, .int 0), (0, .ref G.2.2.1)] dX12_takesProgram_61 rfl (Nat.le_of_ble_eq_true rfl) rfl ?_
      refine m_sub [1, 0] rfl ?_
      obtain ⟨nn, hw⟩ := hw
      exact l_takesProgram_62 hok hc hr nn 0 R hw
    · have hw := hw.2 cq
      refine m_aload_n hc 0 dX12_takesProgram_18 rfl rfl ?_
      refine r_geta hc hr 29 dX12_takesProgram_19 lf_X12_77 (Nat.le_of_ble_eq_true rfl) rfl ?_
      refine m_iload_n hc 1 dX12_takesProgram_22 rfl rfl ?_
      refine m_aload_n hc 0 dX12_takesProgram_23 rfl rfl ?_
      refine r_geta hc hr 33 dX12_takesProgram_24 lf_X12_89 (Nat.le_of_ble_eq_true rfl) rfl ?_
      refine m_iload_n hc 1 dX12_takesProgram_27 rfl rfl ?_
      obtain ⟨hi, hw⟩ := hw
      refine r_iald hc hr (i := 24) (f := 33) rfl hi dX12_takesProgram_28 ?_
      obtain ⟨hi, hw⟩ := hw
      refine r_iast hc hr (i := 20) (f := 29) rfl hi dX12_takesProgram_29 ?_
      refine m_aload_n hc 0 dX12_takesProgram_30 rfl rfl ?_
      refine r_geta hc hr 30 dX12_takesProgram_31 lf_X12_80 (Nat.le_of_ble_eq_true rfl) rfl ?_
      refine m_iload_n hc 1 dX12_takesProgram_34 rfl rfl ?_
      refine m_aload_n hc 0 dX12_takesProgram_35 rfl rfl ?_
      refine r_geta hc hr 34 dX12_takesProgram_36 lf_X12_92 (Nat.le_of_ble_eq_true rfl) rfl ?_
      refine m_iload_n hc 1 dX12_takesProgram_39 rfl rfl ?_
      obtain ⟨hi, hw⟩ := hw
      refine r_iald hc hr (i := 25) (f := 34) rfl hi dX12_takesProgram_40 ?_
      obtain ⟨hi, hw⟩ := hw
      refine r_iast hc hr (i := 21) (f := 30) rfl hi dX12_takesProgram_41 ?_
      refine m_aload_n hc 0 dX12_takesProgram_42 rfl rfl ?_
      refine m_bipush hc 6 dX12_takesProgram_43 (by decide) ?_
      refine m_iload_n hc 1 dX12_takesProgram_45 rfl rfl ?_
      refine m_iadd hc dX12_takesProgram_46 ?_
      refine m_bipush hc 29 dX12_takesProgram_47 (by decide) ?_
      refine m_iload_n hc 1 dX12_takesProgram_49 rfl rfl ?_
      refine m_iadd hc dX12_takesProgram_50 ?_
      refine r_callVv hc hr mt_copy rfl lm_X12_168 (ok_copy hok hw) (Nat.le_of_ble_eq_true rfl) dX12_takesProgram_51 rfl (rest := []) rfl (Nat.le_of_ble_eq_true rfl) (fun r1 R1 hw => ?_)
      refine m_iinc hc 1 (x1 + 1) [(1, .int (x1 + 1)), (0, .ref G.2.2.1)] dX12_takesProgram_54 rfl rfl (Nat.le_of_ble_eq_true rfl) rfl ?_
      refine m_goto hc 10 dX12_takesProgram_57 rfl ?_
      refine m_sub [1, 0] rfl ?_
      exact h10 (x1 + 1) R1 hw
def wp_takesProgram (R : RS) (K : Int32 → RS → Prop) : Prop := ∃ nn : Nat, wl_takesProgram_10 K nn 0 (up R 0 37 (R 0 38))
set_option maxHeartbeats 4000000 in
set_option maxRecDepth 100000 in
theorem ok_takesProgram {G : RG} (hok : okG G) {R : RS} {K : Int32 → RS → Prop} (hw : wp_takesProgram R K) : CF 2 yX12_takesProgram cX12_takesProgram 2 none [.ref G.2.2.1] G R K := by
  refine CF.of (by decide +kernel) hok (Nat.le_of_ble_eq_true rfl) (fun X hc hr => ?_)
  show MR G X 2 R 0 [(0, .ref G.2.2.1)] []
  unfold wp_takesProgram at hw
  refine m_aload_n hc 0 dX12_takesProgram_0 rfl rfl ?_
  refine m_aload_n hc 0 dX12_takesProgram_1 rfl rfl ?_
  refine r_geti hc hr 38 dX12_takesProgram_2 lf_X12_369 (Nat.le_of_ble_eq_true rfl) rfl ?_
  refine r_put hc hr 37 dX12_takesProgram_5 lf_X12_194 (Nat.le_of_ble_eq_true rfl) rfl rfl (by decide +kernel) ?_
  refine m_iconst hc 0 dX12_takesProgram_8 (by decide) ?_
  refine m_istore_n hc [(1, .int 0), (0, .ref G.2.2.1)] dX12_takesProgram_9 rfl (Nat.le_of_ble_eq_true rfl) rfl ?_
  refine m_sub [1, 0] rfl ?_
  obtain ⟨nn, hw⟩ := hw
  exact l_takesProgram_10 hok hc hr nn 0 (up R 0 37 (R 0 38)) hw
def wp_byteAt (x1 : Int32) (R : RS) (K : Int32 → RS → Prop) : Prop := ((R 0 44) ≤ x1 → K (-1) R) ∧ (¬ ((R 0 44) ≤ x1) → vp_in x1 200 ∧ K (R 42 (Int32.toNatClampNeg x1)) R)
set_option maxHeartbeats 4000000 in
set_option maxRecDepth 100000 in
theorem ok_byteAt {G : RG} (hok : okG G) {x1 : Int32} {R : RS} {K : Int32 → RS → Prop} (hw : wp_byteAt x1 R K) : CF 0 yX12_byteAt cX12_byteAt 2 (some .int) [.ref G.2.2.1, .int x1] G R K := by
  refine CF.of (by decide +kernel) hok (Nat.le_of_ble_eq_true rfl) (fun X hc hr => ?_)
  show MR G X 2 R 0 [(0, .ref G.2.2.1), (1, .int x1)] []
  unfold wp_byteAt at hw
  refine m_iload_n hc 1 dX12_byteAt_0 rfl rfl ?_
  refine m_aload_n hc 0 dX12_byteAt_1 rfl rfl ?_
  refine r_geti hc hr 44 dX12_byteAt_2 lf_X12_416 (Nat.le_of_ble_eq_true rfl) rfl ?_
  refine m_icmp_ge hc 17 dX12_byteAt_5 rfl (fun cq => ?_) (fun cq => ?_)
  · have hw := hw.1 cq
    refine m_iconst hc (-1) dX12_byteAt_17 (by decide) ?_
    exact r_iret hc hr dX12_byteAt_18 hw
  · have hw := hw.2 cq
    refine m_aload_n hc 0 dX12_byteAt_8 rfl rfl ?_
    refine r_geta hc hr 42 dX12_byteAt_9 lf_X12_110 (Nat.le_of_ble_eq_true rfl) rfl ?_
    refine m_iload_n hc 1 dX12_byteAt_12 rfl rfl ?_
    obtain ⟨hi, hw⟩ := hw
    refine r_iald hc hr (i := 31) (f := 42) rfl hi dX12_byteAt_13 ?_
    refine m_goto hc 18 dX12_byteAt_14 rfl ?_
    exact r_iret hc hr dX12_byteAt_18 hw
def wp_isFigure (x0 : Int32) (R : RS) (K : Int32 → RS → Prop) : Prop := (x0 < 48 → K 0 R) ∧ (¬ (x0 < 48) → (57 < x0 → K 0 R) ∧ (¬ (57 < x0) → K 1 R))
set_option maxHeartbeats 4000000 in
set_option maxRecDepth 100000 in
theorem ok_isFigure {G : RG} (hok : okG G) {x0 : Int32} {R : RS} {K : Int32 → RS → Prop} (hw : wp_isFigure x0 R K) : CF 0 yX12_isFigure cX12_isFigure 1 (some .boolean) [.int x0] G R K := by
  refine CF.of (by decide +kernel) hok (Nat.le_of_ble_eq_true rfl) (fun X hc hr => ?_)
  show MR G X 1 R 0 [(0, .int x0)] []
  unfold wp_isFigure at hw
  refine m_iload_n hc 0 dX12_isFigure_0 rfl rfl ?_
  refine m_bipush hc 48 dX12_isFigure_1 (by decide) ?_
  refine m_icmp_lt hc 16 dX12_isFigure_3 rfl (fun cq => ?_) (fun cq => ?_)
  · have hw := hw.1 cq
    refine m_iconst hc 0 dX12_isFigure_16 (by decide) ?_
    exact r_zret hc hr dX12_isFigure_17 (by decide) hw
  · have hw := hw.2 cq
    refine m_iload_n hc 0 dX12_isFigure_6 rfl rfl ?_
    refine m_bipush hc 57 dX12_isFigure_7 (by decide) ?_
    refine m_icmp_gt hc 16 dX12_isFigure_9 rfl (fun cq => ?_) (fun cq => ?_)
    · have hw := hw.1 cq
      refine m_iconst hc 0 dX12_isFigure_16 (by decide) ?_
      exact r_zret hc hr dX12_isFigure_17 (by decide) hw
    · have hw := hw.2 cq
      refine m_iconst hc 1 dX12_isFigure_12 (by decide) ?_
      refine m_goto hc 17 dX12_isFigure_13 rfl ?_
      exact r_zret hc hr dX12_isFigure_17 (by decide) hw
def wb_next_76 (K76 : RS → Prop) (K : Int32 → RS → Prop) (R : RS) : Prop := wp_byteAt (R 0 45) R (fun r1 R1 => wp_isFigure r1 R1 (fun r2 R2 => (r2 = 0 → K 0 (up (up R2 0 46 2) 0 48 ((up R2 0 46 2) 0 45))) ∧ (¬ (r2 = 0) → K76 (up R2 0 45 ((R2 0 45) + 1)))))
def wl_next_76 (K : Int32 → RS → Prop) : Nat → RS → Prop
  | 0 => fun _ => False
  | nn + 1 => wb_next_76 (wl_next_76 K nn) K
set_option maxHeartbeats 4000000 in
set_option maxRecDepth 100000 in
theorem l_next_76 {G : RG} {X : Fx} {K : Int32 → RS → Prop} (hok : okG G) (hc : Cx X RX12 cX12_next 2) (hr : Cr G 1 none K X) : ∀ (nn : Nat) (R : RS), wl_next_76 K nn R → MR G X 2 R 76 [(0, .ref G.2.2.1)] [] := by
  intro nn
  induction nn with
  | zero => intro R hw; exact False.elim hw
  | succ nn ih =>
    intro R hw
    have hw : wb_next_76 (wl_next_76 K nn) K R := hw
    have h76 := ih
    generalize wl_next_76 K nn = K76 at hw h76
    unfold wb_next_76 at hw
    refine m_aload_n hc 0 dX12_next_76 rfl rfl ?_
    refine m_aload_n hc 0 dX12_next_77 rfl rfl ?_
    refine r_geti hc hr 45 dX12_next_78 lf_X12_419 (Nat.le_of_ble_eq_true rfl) rfl ?_
    refine r_callVi hc hr mt_byteAt rfl lm_X12_422 (ok_byteAt hok hw) (Nat.le_of_ble_eq_true rfl) dX12_next_81 rfl (rest := []) rfl (Nat.le_of_ble_eq_true rfl) (fun r1 R1 hw => ?_)
    refine r_callSi hc hr mt_isFigure lm_X12_431 (ok_isFigure hok hw) (Nat.le_of_ble_eq_true rfl) dX12_next_84 rfl (rest := []) rfl (Nat.le_of_ble_eq_true rfl) (fun r2 R2 hw => ?_)
    refine m_if_eq hc 103 dX12_next_87 rfl (fun cq => ?_) (fun cq => ?_)
    · have hw := hw.1 cq
      refine m_aload_n hc 0 dX12_next_103 rfl rfl ?_
      refine m_iconst hc 2 dX12_next_104 (by decide) ?_
      refine r_put hc hr 46 dX12_next_105 lf_X12_428 (Nat.le_of_ble_eq_true rfl) rfl rfl (by decide +kernel) ?_
      refine m_goto hc 142 dX12_next_108 rfl ?_
      refine m_aload_n hc 0 dX12_next_142 rfl rfl ?_
      refine m_aload_n hc 0 dX12_next_143 rfl rfl ?_
      refine r_geti hc hr 45 dX12_next_144 lf_X12_419 (Nat.le_of_ble_eq_true rfl) rfl ?_
      refine r_put hc hr 48 dX12_next_147 lf_X12_434 (Nat.le_of_ble_eq_true rfl) rfl rfl (by decide +kernel) ?_
      exact r_vret hc hr dX12_next_150 hw
    · have hw := hw.2 cq
      refine m_aload_n hc 0 dX12_next_90 rfl rfl ?_
      refine m_dup hc dX12_next_91 rfl ?_
      refine r_geti hc hr 45 dX12_next_92 lf_X12_419 (Nat.le_of_ble_eq_true rfl) rfl ?_
      refine m_iconst hc 1 dX12_next_95 (by decide) ?_
      refine m_iadd hc dX12_next_96 ?_
      refine r_put hc hr 45 dX12_next_97 lf_X12_419 (Nat.le_of_ble_eq_true rfl) rfl rfl (by decide +kernel) ?_
      refine m_goto hc 76 dX12_next_100 rfl ?_
      exact h76 (up R2 0 45 ((R2 0 45) + 1)) hw
def w_next_26 (K0 : RS → Prop) (K : Int32 → RS → Prop) (R : RS) : Prop := K0 (up R 0 45 ((R 0 45) + 1))
set_option maxHeartbeats 4000000 in
set_option maxRecDepth 100000 in
theorem b_next_26 {G : RG} {X : Fx} {K : Int32 → RS → Prop} (hok : okG G) (hc : Cx X RX12 cX12_next 2) (hr : Cr G 1 none K X) (K0 : RS → Prop) (h0 : ∀ (R : RS), K0 R → MR G X 2 R 0 [(0, .ref G.2.2.1)] []) : ∀ (R : RS), w_next_26 K0 K R → MR G X 2 R 26 [(0, .ref G.2.2.1)] [] := by
  intro R hw
  unfold w_next_26 at hw
  refine m_aload_n hc 0 dX12_next_26 rfl rfl ?_
  refine m_dup hc dX12_next_27 rfl ?_
  refine r_geti hc hr 45 dX12_next_28 lf_X12_419 (Nat.le_of_ble_eq_true rfl) rfl ?_
  refine m_iconst hc 1 dX12_next_31 (by decide) ?_
  refine m_iadd hc dX12_next_32 ?_
  refine r_put hc hr 45 dX12_next_33 lf_X12_419 (Nat.le_of_ble_eq_true rfl) rfl rfl (by decide +kernel) ?_
  refine m_goto hc 0 dX12_next_36 rfl ?_
  exact h0 (up R 0 45 ((R 0 45) + 1)) hw
def wb_next_0 (K0 : RS → Prop) (K : Int32 → RS → Prop) (R : RS) : Prop := wp_byteAt (R 0 45) R (fun r1 R1 => (r1 = 32 → w_next_26 K0 K R1) ∧ (¬ (r1 = 32) → wp_byteAt (R1 0 45) R1 (fun r2 R2 => (¬ r2 = 10 → wp_byteAt ((up R2 0 47 (R2 0 45)) 0 45) (up R2 0 47 (R2 0 45)) (fun r3 R3 => (¬ r3 = (-1) → wp_isFigure r3 R3 (fun r4 R4 => (r4 = 0 → (r3 < 97 → K 0 (up (up (up R4 0 45 ((R4 0 45) + 1)) 0 46 3) 0 48 ((up (up R4 0 45 ((R4 0 45) + 1)) 0 46 3) 0 45))) ∧ (¬ (r3 < 97) → (122 < r3 → K 0 (up (up (up R4 0 45 ((R4 0 45) + 1)) 0 46 3) 0 48 ((up (up R4 0 45 ((R4 0 45) + 1)) 0 46 3) 0 45))) ∧ (¬ (122 < r3) → K 0 (up (up (up R4 0 45 ((R4 0 45) + 1)) 0 46 1) 0 48 ((up (up R4 0 45 ((R4 0 45) + 1)) 0 46 1) 0 45))))) ∧ (¬ (r4 = 0) → ∃ nn : Nat, wl_next_76 K nn R4))) ∧ (r3 = (-1) → K 0 (up (up R3 0 46 0) 0 48 ((up R3 0 46 0) 0 45))))) ∧ (r2 = 10 → w_next_26 K0 K R2))))
def wl_next_0 (K : Int32 → RS → Prop) : Nat → RS → Prop
  | 0 => fun _ => False
  | nn + 1 => wb_next_0 (wl_next_0 K nn) K
set_option maxHeartbeats 4000000 in
set_option maxRecDepth 100000 in
theorem l_next_0 {G : RG} {X : Fx} {K : Int32 → RS → Prop} (hok : okG G) (hc : Cx X RX12 cX12_next 2) (hr : Cr G 1 none K X) : ∀ (nn : Nat) (R : RS), wl_next_0 K nn R → MR G X 2 R 0 [(0, .ref G.2.2.1)] [] := by
  intro nn
  induction nn with
  | zero => intro R hw; exact False.elim hw
  | succ nn ih =>
    intro R hw
    have hw : wb_next_0 (wl_next_0 K nn) K R := hw
    have h0 := ih
    generalize wl_next_0 K nn = K0 at hw h0
    unfold wb_next_0 at hw
    refine m_aload_n hc 0 dX12_next_0 rfl rfl ?_
    refine m_aload_n hc 0 dX12_next_1 rfl rfl ?_
    refine r_geti hc hr 45 dX12_next_2 lf_X12_419 (Nat.le_of_ble_eq_true rfl) rfl ?_
    refine r_callVi hc hr mt_byteAt rfl lm_X12_422 (ok_byteAt hok hw) (Nat.le_of_ble_eq_true rfl) dX12_next_5 rfl (rest := []) rfl (Nat.le_of_ble_eq_true rfl) (fun r1 R1 hw => ?_)
    refine m_bipush hc 32 dX12_next_8 (by decide) ?_
    refine m_icmp_eq hc 26 dX12_next_10 rfl (fun cq => ?_) (fun cq => ?_)
    · have hw := hw.1 cq
      exact b_next_26 hok hc hr K0 h0 R1 hw
    · have hw := hw.2 cq
      refine m_aload_n hc 0 dX12_next_13 rfl rfl ?_
      refine m_aload_n hc 0 dX12_next_14 rfl rfl ?_
      refine r_geti hc hr 45 dX12_next_15 lf_X12_419 (Nat.le_of_ble_eq_true rfl) rfl ?_
      refine r_callVi hc hr mt_byteAt rfl lm_X12_422 (ok_byteAt hok hw) (Nat.le_of_ble_eq_true rfl) dX12_next_18 rfl (rest := []) rfl (Nat.le_of_ble_eq_true rfl) (fun r2 R2 hw => ?_)
      refine m_bipush hc 10 dX12_next_21 (by decide) ?_
      refine m_icmp_ne hc 39 dX12_next_23 rfl (fun cq => ?_) (fun cq => ?_)
      · have hw := hw.1 cq
        refine m_aload_n hc 0 dX12_next_39 rfl rfl ?_
        refine m_aload_n hc 0 dX12_next_40 rfl rfl ?_
        refine r_geti hc hr 45 dX12_next_41 lf_X12_419 (Nat.le_of_ble_eq_true rfl) rfl ?_
        refine r_put hc hr 47 dX12_next_44 lf_X12_425 (Nat.le_of_ble_eq_true rfl) rfl rfl (by decide +kernel) ?_
        refine m_aload_n hc 0 dX12_next_47 rfl rfl ?_
        refine m_aload_n hc 0 dX12_next_48 rfl rfl ?_
        refine r_geti hc hr 45 dX12_next_49 lf_X12_419 (Nat.le_of_ble_eq_true rfl) rfl ?_
        refine r_callVi hc hr mt_byteAt rfl lm_X12_422 (ok_byteAt hok hw) (Nat.le_of_ble_eq_true rfl) dX12_next_52 rfl (rest := []) rfl (Nat.le_of_ble_eq_true rfl) (fun r3 R3 hw => ?_)
        refine m_istore_n hc [(1, .int r3), (0, .ref G.2.2.1)] dX12_next_55 rfl (Nat.le_of_ble_eq_true rfl) rfl ?_
        refine m_iload_n hc 0 dX12_next_56 rfl rfl ?_
        refine m_iconst hc (-1) dX12_next_57 (by decide) ?_
        refine m_icmp_ne hc 69 dX12_next_58 rfl (fun cq => ?_) (fun cq => ?_)
        · have hw := hw.1 cq
          refine m_iload_n hc 0 dX12_next_69 rfl rfl ?_
          refine r_callSi hc hr mt_isFigure lm_X12_431 (ok_isFigure hok hw) (Nat.le_of_ble_eq_true rfl) dX12_next_70 rfl (rest := []) rfl (Nat.le_of_ble_eq_true rfl) (fun r4 R4 hw => ?_)
          refine m_if_eq hc 111 dX12_next_73 rfl (fun cq => ?_) (fun cq => ?_)
          · have hw := hw.1 cq
            refine m_aload_n hc 1 dX12_next_111 rfl rfl ?_
            refine m_dup hc dX12_next_112 rfl ?_
            refine r_geti hc hr 45 dX12_next_113 lf_X12_419 (Nat.le_of_ble_eq_true rfl) rfl ?_
            refine m_iconst hc 1 dX12_next_116 (by decide) ?_
            refine m_iadd hc dX12_next_117 ?_
            refine r_put hc hr 45 dX12_next_118 lf_X12_419 (Nat.le_of_ble_eq_true rfl) rfl rfl (by decide +kernel) ?_
            refine m_aload_n hc 1 dX12_next_121 rfl rfl ?_
            refine m_iload_n hc 0 dX12_next_122 rfl rfl ?_
            refine m_bipush hc 97 dX12_next_123 (by decide) ?_
            refine m_icmp_lt hc 138 dX12_next_125 rfl (fun cq => ?_) (fun cq => ?_)
            · have hw := hw.1 cq
              refine m_iconst hc 3 dX12_next_138 (by decide) ?_
              refine r_put hc hr 46 dX12_next_139 lf_X12_428 (Nat.le_of_ble_eq_true rfl) rfl rfl (by decide +kernel) ?_
              refine m_aload_n hc 1 dX12_next_142 rfl rfl ?_
              refine m_aload_n hc 1 dX12_next_143 rfl rfl ?_
              refine r_geti hc hr 45 dX12_next_144 lf_X12_419 (Nat.le_of_ble_eq_true rfl) rfl ?_
              refine r_put hc hr 48 dX12_next_147 lf_X12_434 (Nat.le_of_ble_eq_true rfl) rfl rfl (by decide +kernel) ?_
              exact r_vret hc hr dX12_next_150 hw
            · have hw := hw.2 cq
              refine m_iload_n hc 0 dX12_next_128 rfl rfl ?_
              refine m_bipush hc 122 dX12_next_129 (by decide) ?_
              refine m_icmp_gt hc 138 dX12_next_131 rfl (fun cq => ?_) (fun cq => ?_)
              · have hw := hw.1 cq
                refine m_iconst hc 3 dX12_next_138 (by decide) ?_
                refine r_put hc hr 46 dX12_next_139 lf_X12_428 (Nat.le_of_ble_eq_true rfl) rfl rfl (by decide +kernel) ?_
                refine m_aload_n hc 1 dX12_next_142 rfl rfl ?_
                refine m_aload_n hc 1 dX12_next_143 rfl rfl ?_
                refine r_geti hc hr 45 dX12_next_144 lf_X12_419 (Nat.le_of_ble_eq_true rfl) rfl ?_
                refine r_put hc hr 48 dX12_next_147 lf_X12_434 (Nat.le_of_ble_eq_true rfl) rfl rfl (by decide +kernel) ?_
                exact r_vret hc hr dX12_next_150 hw
              · have hw := hw.2 cq
                refine m_iconst hc 1 dX12_next_134 (by decide) ?_
                refine m_goto hc 139 dX12_next_135 rfl ?_
                refine r_put hc hr 46 dX12_next_139 lf_X12_428 (Nat.le_of_ble_eq_true rfl) rfl rfl (by decide +kernel) ?_
                refine m_aload_n hc 1 dX12_next_142 rfl rfl ?_
                refine m_aload_n hc 1 dX12_next_143 rfl rfl ?_
                refine r_geti hc hr 45 dX12_next_144 lf_X12_419 (Nat.le_of_ble_eq_true rfl) rfl ?_
                refine r_put hc hr 48 dX12_next_147 lf_X12_434 (Nat.le_of_ble_eq_true rfl) rfl rfl (by decide +kernel) ?_
                exact r_vret hc hr dX12_next_150 hw
          · have hw := hw.2 cq
            refine m_sub [1] rfl ?_
            obtain ⟨nn, hw⟩ := hw
            exact l_next_76 hok hc hr nn R4 hw
        · have hw := hw.2 cq
          refine m_aload_n hc 1 dX12_next_61 rfl rfl ?_
          refine m_iconst hc 0 dX12_next_62 (by decide) ?_
          refine r_put hc hr 46 dX12_next_63 lf_X12_428 (Nat.le_of_ble_eq_true rfl) rfl rfl (by decide +kernel) ?_
          refine m_goto hc 142 dX12_next_66 rfl ?_
          refine m_aload_n hc 1 dX12_next_142 rfl rfl ?_
          refine m_aload_n hc 1 dX12_next_143 rfl rfl ?_
          refine r_geti hc hr 45 dX12_next_144 lf_X12_419 (Nat.le_of_ble_eq_true rfl) rfl ?_
          refine r_put hc hr 48 dX12_next_147 lf_X12_434 (Nat.le_of_ble_eq_true rfl) rfl rfl (by decide +kernel) ?_
          exact r_vret hc hr dX12_next_150 hw
      · have hw := hw.2 cq
        exact b_next_26 hok hc hr K0 h0 R2 hw
def wp_next (R : RS) (K : Int32 → RS → Prop) : Prop := ∃ nn : Nat, wl_next_0 K nn R
set_option maxHeartbeats 4000000 in
set_option maxRecDepth 100000 in
theorem ok_next {G : RG} (hok : okG G) {R : RS} {K : Int32 → RS → Prop} (hw : wp_next R K) : CF 1 yX12_next cX12_next 2 none [.ref G.2.2.1] G R K := by
  refine CF.of (by decide +kernel) hok (Nat.le_of_ble_eq_true rfl) (fun X hc hr => ?_)
  show MR G X 2 R 0 [(0, .ref G.2.2.1)] []
  unfold wp_next at hw
  obtain ⟨nn, hw⟩ := hw
  exact l_next_0 hok hc hr nn R hw
def wp_opens (x1 : Int32) (R : RS) (K : Int32 → RS → Prop) : Prop := wp_next (up (up (up (up R 0 44 x1) 0 45 0) 0 49 0) 0 38 0) (fun r1 R1 => K 0 R1)
set_option maxHeartbeats 4000000 in
set_option maxRecDepth 100000 in
theorem ok_opens {G : RG} (hok : okG G) {x1 : Int32} {R : RS} {K : Int32 → RS → Prop} (hw : wp_opens x1 R K) : CF 2 yX12_opens cX12_opens 2 none [.ref G.2.2.1, .int x1] G R K := by
  refine CF.of (by decide +kernel) hok (Nat.le_of_ble_eq_true rfl) (fun X hc hr => ?_)
  show MR G X 2 R 0 [(0, .ref G.2.2.1), (1, .int x1)] []
  unfold wp_opens at hw
  refine m_aload_n hc 0 dX12_opens_0 rfl rfl ?_
  refine m_iload_n hc 1 dX12_opens_1 rfl rfl ?_
  refine r_put hc hr 44 dX12_opens_2 lf_X12_416 (Nat.le_of_ble_eq_true rfl) rfl rfl (by decide +kernel) ?_
  refine m_aload_n hc 0 dX12_opens_5 rfl rfl ?_
  refine m_iconst hc 0 dX12_opens_6 (by decide) ?_
  refine r_put hc hr 45 dX12_opens_7 lf_X12_419 (Nat.le_of_ble_eq_true rfl) rfl rfl (by decide +kernel) ?_
  refine m_aload_n hc 0 dX12_opens_10 rfl rfl ?_
  refine m_iconst hc 0 dX12_opens_11 (by decide) ?_
  refine r_put hc hr 49 dX12_opens_12 lf_X12_378 (Nat.le_of_ble_eq_true rfl) rfl rfl (by decide +kernel) ?_
  refine m_aload_n hc 0 dX12_opens_15 rfl rfl ?_
  refine m_iconst hc 0 dX12_opens_16 (by decide) ?_
  refine r_put hc hr 38 dX12_opens_17 lf_X12_369 (Nat.le_of_ble_eq_true rfl) rfl rfl (by decide +kernel) ?_
  refine m_aload_n hc 0 dX12_opens_20 rfl rfl ?_
  refine r_callVv hc hr mt_next rfl lm_X12_437 (ok_next hok hw) (Nat.le_of_ble_eq_true rfl) dX12_opens_21 rfl (rest := []) rfl (Nat.le_of_ble_eq_true rfl) (fun r1 R1 hw => ?_)
  exact r_vret hc hr dX12_opens_24 hw
def wp_isSign (x1 : Int32) (R : RS) (K : Int32 → RS → Prop) : Prop := (¬ (R 0 49) = 0 → K 0 R) ∧ ((R 0 49) = 0 → (¬ (R 0 46) = 3 → K 0 R) ∧ ((R 0 46) = 3 → vp_in (R 0 47) 200 ∧ (¬ (R 42 (Int32.toNatClampNeg (R 0 47))) = x1 → K 0 R) ∧ ((R 42 (Int32.toNatClampNeg (R 0 47))) = x1 → K 1 R)))
set_option maxHeartbeats 4000000 in
set_option maxRecDepth 100000 in
theorem ok_isSign {G : RG} (hok : okG G) {x1 : Int32} {R : RS} {K : Int32 → RS → Prop} (hw : wp_isSign x1 R K) : CF 0 yX12_isSign cX12_isSign 2 (some .boolean) [.ref G.2.2.1, .int x1] G R K := by
  refine CF.of (by decide +kernel) hok (Nat.le_of_ble_eq_true rfl) (fun X hc hr => ?_)
  show MR G X 2 R 0 [(0, .ref G.2.2.1), (1, .int x1)] []
  unfold wp_isSign at hw
  refine m_aload_n hc 0 dX12_isSign_0 rfl rfl ?_
  refine r_geti hc hr 49 dX12_isSign_1 lf_X12_378 (Nat.le_of_ble_eq_true rfl) rfl ?_
  refine m_if_ne hc 32 dX12_isSign_4 rfl (fun cq => ?_) (fun cq => ?_)
  · have hw := hw.1 cq
    refine m_iconst hc 0 dX12_isSign_32 (by decide) ?_
    exact r_zret hc hr dX12_isSign_33 (by decide) hw
  · have hw := hw.2 cq
    refine m_aload_n hc 0 dX12_isSign_7 rfl rfl ?_
    refine r_geti hc hr 46 dX12_isSign_8 lf_X12_428 (Nat.le_of_ble_eq_true rfl) rfl ?_
    refine m_iconst hc 3 dX12_isSign_11 (by decide) ?_
    refine m_icmp_ne hc 32 dX12_isSign_12 rfl (fun cq => ?_) (fun cq => ?_)
    · have hw := hw.1 cq
      refine m_iconst hc 0 dX12_isSign_32 (by decide) ?_
      exact r_zret hc hr dX12_isSign_33 (by decide) hw
    · have hw := hw.2 cq
      refine m_aload_n hc 0 dX12_isSign_15 rfl rfl ?_
      refine r_geta hc hr 42 dX12_isSign_16 lf_X12_110 (Nat.le_of_ble_eq_true rfl) rfl ?_
      refine m_aload_n hc 0 dX12_isSign_19 rfl rfl ?_
      refine r_geti hc hr 47 dX12_isSign_20 lf_X12_425 (Nat.le_of_ble_eq_true rfl) rfl ?_
      obtain ⟨hi, hw⟩ := hw
      refine r_iald hc hr (i := 31) (f := 42) rfl hi dX12_isSign_23 ?_
      refine m_iload_n hc 1 dX12_isSign_24 rfl rfl ?_
      refine m_icmp_ne hc 32 dX12_isSign_25 rfl (fun cq => ?_) (fun cq => ?_)
      · have hw := hw.1 cq
        refine m_iconst hc 0 dX12_isSign_32 (by decide) ?_
        exact r_zret hc hr dX12_isSign_33 (by decide) hw
      · have hw := hw.2 cq
        refine m_iconst hc 1 dX12_isSign_28 (by decide) ?_
        refine m_goto hc 33 dX12_isSign_29 rfl ?_
        exact r_zret hc hr dX12_isSign_33 (by decide) hw
def wp_pass (R : RS) (K : Int32 → RS → Prop) : Prop := (¬ (R 0 49) = 0 → K 0 R) ∧ ((R 0 49) = 0 → wp_next R (fun r1 R1 => K 0 R1))
set_option maxHeartbeats 4000000 in
set_option maxRecDepth 100000 in
theorem ok_pass {G : RG} (hok : okG G) {R : RS} {K : Int32 → RS → Prop} (hw : wp_pass R K) : CF 2 yX12_pass cX12_pass 1 none [.ref G.2.2.1] G R K := by
  refine CF.of (by decide +kernel) hok (Nat.le_of_ble_eq_true rfl) (fun X hc hr => ?_)
  show MR G X 1 R 0 [(0, .ref G.2.2.1)] []
  unfold wp_pass at hw
  refine m_aload_n hc 0 dX12_pass_0 rfl rfl ?_
  refine r_geti hc hr 49 dX12_pass_1 lf_X12_378 (Nat.le_of_ble_eq_true rfl) rfl ?_
  refine m_if_ne hc 11 dX12_pass_4 rfl (fun cq => ?_) (fun cq => ?_)
  · have hw := hw.1 cq
    exact r_vret hc hr dX12_pass_11 hw
  · have hw := hw.2 cq
    refine m_aload_n hc 0 dX12_pass_7 rfl rfl ?_
    refine r_callVv hc hr mt_next rfl lm_X12_437 (ok_next hok hw) (Nat.le_of_ble_eq_true rfl) dX12_pass_8 rfl (rest := []) rfl (Nat.le_of_ble_eq_true rfl) (fun r1 R1 hw => ?_)
    exact r_vret hc hr dX12_pass_11 hw
def wb_named_2 (K2 : Int32 → Int32 → RS → Prop) (K : Int32 → RS → Prop) (x1 x2 : Int32) (R : RS) : Prop := ((R 0 38) ≤ x2 → K (-1) R) ∧ (¬ ((R 0 38) ≤ x2) → vp_in x2 23 ∧ (¬ (R 33 (Int32.toNatClampNeg x2)) = x1 → K2 x1 (x2 + 1) R) ∧ ((R 33 (Int32.toNatClampNeg x2)) = x1 → K x2 R))
def wl_named_2 (K : Int32 → RS → Prop) : Nat → Int32 → Int32 → RS → Prop
  | 0 => fun _ _ _ => False
  | nn + 1 => wb_named_2 (wl_named_2 K nn) K
set_option maxHeartbeats 4000000 in
set_option maxRecDepth 100000 in
theorem l_named_2 {G : RG} {X : Fx} {K : Int32 → RS → Prop} (hok : okG G) (hc : Cx X RX12 cX12_named 3) (hr : Cr G 0 (some .int) K X) : ∀ (nn : Nat) (x1 x2 : Int32) (R : RS), wl_named_2 K nn x1 x2 R → MR G X 3 R 2 [(0, .ref G.2.2.1), (1, .int x1), (2, .int x2)] [] := by
  intro nn
  induction nn with
  | zero => intro x1 x2 R hw; exact False.elim hw
  | succ nn ih =>
    intro x1 x2 R hw
    have hw : wb_named_2 (wl_named_2 K nn) K x1 x2 R := hw
    have h2 := ih
    generalize wl_named_2 K nn = K2 at hw h2
    unfold wb_named_2 at hw
    refine m_iload_n hc 2 dX12_named_2 rfl rfl ?_
    refine m_aload_n hc 0 dX12_named_3 rfl rfl ?_
    refine r_geti hc hr 38 dX12_named_4 lf_X12_369 (Nat.le_of_ble_eq_true rfl) rfl ?_
    refine m_icmp_ge hc 28 dX12_named_7 rfl (fun cq => ?_) (fun cq => ?_)
    · have hw := hw.1 cq
      refine m_iconst hc (-1) dX12_named_28 (by decide) ?_
      exact r_iret hc hr dX12_named_29 hw
    · have hw := hw.2 cq
      refine m_aload_n hc 0 dX12_named_10 rfl rfl ?_
      refine r_geta hc hr 33 dX12_named_11 lf_X12_89 (Nat.le_of_ble_eq_true rfl) rfl ?_
      refine m_iload_n hc 2 dX12_named_14 rfl rfl ?_
      obtain ⟨hi, hw⟩ := hw
      refine r_iald hc hr (i := 24) (f := 33) rfl hi dX12_named_15 ?_
      refine m_iload_n hc 1 dX12_named_16 rfl rfl ?_
      refine m_icmp_ne hc 22 dX12_named_17 rfl (fun cq => ?_) (fun cq => ?_)
      · have hw := hw.1 cq
        refine m_iinc hc 2 (x2 + 1) [(2, .int (x2 + 1)), (0, .ref G.2.2.1), (1, .int x1)] dX12_named_22 rfl rfl (Nat.le_of_ble_eq_true rfl) rfl ?_
        refine m_goto hc 2 dX12_named_25 rfl ?_
        refine m_sub [1, 2, 0] rfl ?_
        exact h2 x1 (x2 + 1) R hw
      · have hw := hw.2 cq
        refine m_iload_n hc 2 dX12_named_20 rfl rfl ?_
        exact r_iret hc hr dX12_named_21 hw
def wp_named (x1 : Int32) (R : RS) (K : Int32 → RS → Prop) : Prop := ∃ nn : Nat, wl_named_2 K nn x1 0 R
set_option maxHeartbeats 4000000 in
set_option maxRecDepth 100000 in
theorem ok_named {G : RG} (hok : okG G) {x1 : Int32} {R : RS} {K : Int32 → RS → Prop} (hw : wp_named x1 R K) : CF 0 yX12_named cX12_named 3 (some .int) [.ref G.2.2.1, .int x1] G R K := by
  refine CF.of (by decide +kernel) hok (Nat.le_of_ble_eq_true rfl) (fun X hc hr => ?_)
  show MR G X 3 R 0 [(0, .ref G.2.2.1), (1, .int x1)] []
  unfold wp_named at hw
  refine m_iconst hc 0 dX12_named_0 (by decide) ?_
  refine m_istore_n hc [(2, .int 0), (0, .ref G.2.2.1), (1, .int x1)] dX12_named_1 rfl (Nat.le_of_ble_eq_true rfl) rfl ?_
  refine m_sub [1, 2, 0] rfl ?_
  obtain ⟨nn, hw⟩ := hw
  exact l_named_2 hok hc hr nn x1 0 R hw
def wp_wrong (x1 : Int32) (R : RS) (K : Int32 → RS → Prop) : Prop := ((R 0 49) = 0 → K 0 (up (up R 0 49 x1) 0 50 ((up R 0 49 x1) 0 47))) ∧ (¬ ((R 0 49) = 0) → K 0 R)
set_option maxHeartbeats 4000000 in
set_option maxRecDepth 100000 in
theorem ok_wrong {G : RG} (hok : okG G) {x1 : Int32} {R : RS} {K : Int32 → RS → Prop} (hw : wp_wrong x1 R K) : CF 0 yX12_wrong cX12_wrong 2 none [.ref G.2.2.1, .int x1] G R K := by
  refine CF.of (by decide +kernel) hok (Nat.le_of_ble_eq_true rfl) (fun X hc hr => ?_)
  show MR G X 2 R 0 [(0, .ref G.2.2.1), (1, .int x1)] []
  unfold wp_wrong at hw
  refine m_aload_n hc 0 dX12_wrong_0 rfl rfl ?_
  refine r_geti hc hr 49 dX12_wrong_1 lf_X12_378 (Nat.le_of_ble_eq_true rfl) rfl ?_
  refine m_if_eq hc 8 dX12_wrong_4 rfl (fun cq => ?_) (fun cq => ?_)
  · have hw := hw.1 cq
    refine m_aload_n hc 0 dX12_wrong_8 rfl rfl ?_
    refine m_iload_n hc 1 dX12_wrong_9 rfl rfl ?_
    refine r_put hc hr 49 dX12_wrong_10 lf_X12_378 (Nat.le_of_ble_eq_true rfl) rfl rfl (by decide +kernel) ?_
    refine m_aload_n hc 0 dX12_wrong_13 rfl rfl ?_
    refine m_aload_n hc 0 dX12_wrong_14 rfl rfl ?_
    refine r_geti hc hr 47 dX12_wrong_15 lf_X12_425 (Nat.le_of_ble_eq_true rfl) rfl ?_
    refine r_put hc hr 50 dX12_wrong_18 lf_X12_381 (Nat.le_of_ble_eq_true rfl) rfl rfl (by decide +kernel) ?_
    exact r_vret hc hr dX12_wrong_21 hw
  · have hw := hw.2 cq
    exact r_vret hc hr dX12_wrong_7 hw
def w_readNumber_79 (K : Int32 → RS → Prop) (x2 : Int32) (R : RS) : Prop := wp_pass R (fun r1 R1 => K x2 R1)
set_option maxHeartbeats 4000000 in
set_option maxRecDepth 100000 in
theorem b_readNumber_79 {G : RG} {X : Fx} {K : Int32 → RS → Prop} (hok : okG G) (hc : Cx X RX12 cX12_readNumber 4) (hr : Cr G 3 (some .int) K X) : ∀ (x2 : Int32) (R : RS), w_readNumber_79 K x2 R → MR G X 4 R 79 [(0, .ref G.2.2.1), (2, .int x2)] [] := by
  intro x2 R hw
  unfold w_readNumber_79 at hw
  refine m_aload_n hc 0 dX12_readNumber_79 rfl rfl ?_
  refine r_callVv hc hr mt_pass rfl lm_X12_443 (ok_pass hok hw) (Nat.le_of_ble_eq_true rfl) dX12_readNumber_80 rfl (rest := []) rfl (Nat.le_of_ble_eq_true rfl) (fun r1 R1 hw => ?_)
  refine m_iload_n hc 1 dX12_readNumber_83 rfl rfl ?_
  exact r_iret hc hr dX12_readNumber_84 hw
def w_readNumber_69 (K : Int32 → RS → Prop) (x1 x2 : Int32) (R : RS) : Prop := (x2 ≤ x1 → w_readNumber_79 K x2 R) ∧ (¬ (x2 ≤ x1) → wp_wrong 2 R (fun r1 R1 => w_readNumber_79 K x2 R1))
set_option maxHeartbeats 4000000 in
set_option maxRecDepth 100000 in
theorem b_readNumber_69 {G : RG} {X : Fx} {K : Int32 → RS → Prop} (hok : okG G) (hc : Cx X RX12 cX12_readNumber 4) (hr : Cr G 3 (some .int) K X) : ∀ (x1 x2 : Int32) (R : RS), w_readNumber_69 K x1 x2 R → MR G X 4 R 69 [(0, .ref G.2.2.1), (1, .int x1), (2, .int x2)] [] := by
  intro x1 x2 R hw
  unfold w_readNumber_69 at hw
  refine m_iload_n hc 2 dX12_readNumber_69 rfl rfl ?_
  refine m_iload_n hc 1 dX12_readNumber_70 rfl rfl ?_
  refine m_icmp_le hc 79 dX12_readNumber_71 rfl (fun cq => ?_) (fun cq => ?_)
  · have hw := hw.1 cq
    refine m_sub [0, 2] rfl ?_
    exact b_readNumber_79 hok hc hr x2 R hw
  · have hw := hw.2 cq
    refine m_aload_n hc 0 dX12_readNumber_74 rfl rfl ?_
    refine m_iconst hc 2 dX12_readNumber_75 (by decide) ?_
    refine r_callVv hc hr mt_wrong rfl lm_X12_440 (ok_wrong hok hw) (Nat.le_of_ble_eq_true rfl) dX12_readNumber_76 rfl (rest := []) rfl (Nat.le_of_ble_eq_true rfl) (fun r1 R1 hw => ?_)
    refine m_sub [0, 2] rfl ?_
    exact b_readNumber_79 hok hc hr x2 R1 hw
def wb_readNumber_27 (K27 : Int32 → Int32 → Int32 → RS → Prop) (K : Int32 → RS → Prop) (x1 x2 x3 : Int32) (R : RS) : Prop := (¬ (R 0 49) = 0 → w_readNumber_69 K x1 x2 R) ∧ ((R 0 49) = 0 → ((R 0 48) ≤ x3 → w_readNumber_69 K x1 x2 R) ∧ (¬ ((R 0 48) ≤ x3) → vp_in x3 200 ∧ ∀ v1 : Int32, v1 = (if ((10 * x2) + (R 42 (Int32.toNatClampNeg x3))) - 48 < 1000 then ((10 * x2) + (R 42 (Int32.toNatClampNeg x3))) - 48 else 1000) → K27 x1 v1 (x3 + 1) R))
def wl_readNumber_27 (K : Int32 → RS → Prop) : Nat → Int32 → Int32 → Int32 → RS → Prop
  | 0 => fun _ _ _ _ => False
  | nn + 1 => wb_readNumber_27 (wl_readNumber_27 K nn) K
set_option maxHeartbeats 4000000 in
set_option maxRecDepth 100000 in
theorem l_readNumber_27 {G : RG} {X : Fx} {K : Int32 → RS → Prop} (hok : okG G) (hc : Cx X RX12 cX12_readNumber 4) (hr : Cr G 3 (some .int) K X) : ∀ (nn : Nat) (x1 x2 x3 : Int32) (R : RS), wl_readNumber_27 K nn x1 x2 x3 R → MR G X 4 R 27 [(0, .ref G.2.2.1), (1, .int x1), (2, .int x2), (3, .int x3)] [] := by
  intro nn
  induction nn with
  | zero => intro x1 x2 x3 R hw; exact False.elim hw
  | succ nn ih =>
    intro x1 x2 x3 R hw
    have hw : wb_readNumber_27 (wl_readNumber_27 K nn) K x1 x2 x3 R := hw
    have h27 := ih
    generalize wl_readNumber_27 K nn = K27 at hw h27
    unfold wb_readNumber_27 at hw
    refine m_aload_n hc 0 dX12_readNumber_27 rfl rfl ?_
    refine r_geti hc hr 49 dX12_readNumber_28 lf_X12_378 (Nat.le_of_ble_eq_true rfl) rfl ?_
    refine m_if_ne hc 69 dX12_readNumber_31 rfl (fun cq => ?_) (fun cq => ?_)
    · have hw := hw.1 cq
      refine m_sub [0, 1, 2] rfl ?_
      exact b_readNumber_69 hok hc hr x1 x2 R hw
    · have hw := hw.2 cq
      refine m_iload_n hc 3 dX12_readNumber_34 rfl rfl ?_
      refine m_aload_n hc 0 dX12_readNumber_35 rfl rfl ?_
      refine r_geti hc hr 48 dX12_readNumber_36 lf_X12_434 (Nat.le_of_ble_eq_true rfl) rfl ?_
      refine m_icmp_ge hc 69 dX12_readNumber_39 rfl (fun cq => ?_) (fun cq => ?_)
      · have hw := hw.1 cq
        refine m_sub [0, 1, 2] rfl ?_
        exact b_readNumber_69 hok hc hr x1 x2 R hw
      · have hw := hw.2 cq
        refine m_sipush hc 1000 dX12_readNumber_42 (by decide) ?_
        refine m_bipush hc 10 dX12_readNumber_45 (by decide) ?_
        refine m_iload_n hc 2 dX12_readNumber_47 rfl rfl ?_
        refine m_imul hc dX12_readNumber_48 ?_
        refine m_aload_n hc 0 dX12_readNumber_49 rfl rfl ?_
        refine r_geta hc hr 42 dX12_readNumber_50 lf_X12_110 (Nat.le_of_ble_eq_true rfl) rfl ?_
        refine m_iload_n hc 3 dX12_readNumber_53 rfl rfl ?_
        obtain ⟨hi, hw⟩ := hw
        refine r_iald hc hr (i := 31) (f := 42) rfl hi dX12_readNumber_54 ?_
        refine m_iadd hc dX12_readNumber_55 ?_
        refine m_bipush hc 48 dX12_readNumber_56 (by decide) ?_
        refine m_isub hc dX12_readNumber_58 ?_
        refine m_mmin hc dX12_readNumber_59 lm_X12_336 lM_min (r_room hr) (Nat.le_of_ble_eq_true rfl) ?_
        refine m_topi (fun v1 e_v1 => ?_)
        have hw := hw v1 e_v1
        refine m_istore_n hc [(2, .int v1), (0, .ref G.2.2.1), (1, .int x1), (3, .int x3)] dX12_readNumber_62 rfl (Nat.le_of_ble_eq_true rfl) rfl ?_
        refine m_iinc hc 3 (x3 + 1) [(3, .int (x3 + 1)), (2, .int v1), (0, .ref G.2.2.1), (1, .int x1)] dX12_readNumber_63 rfl rfl (Nat.le_of_ble_eq_true rfl) rfl ?_
        refine m_goto hc 27 dX12_readNumber_66 rfl ?_
        refine m_sub [2, 3, 1, 0] rfl ?_
        exact h27 x1 v1 (x3 + 1) R hw
def w_readNumber_20 (K : Int32 → RS → Prop) (x1 : Int32) (R : RS) : Prop := ∃ nn : Nat, wl_readNumber_27 K nn x1 0 (R 0 47) R
set_option maxHeartbeats 4000000 in
set_option maxRecDepth 100000 in
theorem b_readNumber_20 {G : RG} {X : Fx} {K : Int32 → RS → Prop} (hok : okG G) (hc : Cx X RX12 cX12_readNumber 4) (hr : Cr G 3 (some .int) K X) : ∀ (x1 : Int32) (R : RS), w_readNumber_20 K x1 R → MR G X 4 R 20 [(0, .ref G.2.2.1), (1, .int x1)] [] := by
  intro x1 R hw
  unfold w_readNumber_20 at hw
  refine m_iconst hc 0 dX12_readNumber_20 (by decide) ?_
  refine m_istore_n hc [(2, .int 0), (0, .ref G.2.2.1), (1, .int x1)] dX12_readNumber_21 rfl (Nat.le_of_ble_eq_true rfl) rfl ?_
  refine m_aload_n hc 1 dX12_readNumber_22 rfl rfl ?_
  refine r_geti hc hr 47 dX12_readNumber_23 lf_X12_425 (Nat.le_of_ble_eq_true rfl) rfl ?_
  refine m_istore_n hc [(3, .int (R 0 47)), (2, .int 0), (0, .ref G.2.2.1), (1, .int x1)] dX12_readNumber_26 rfl (Nat.le_of_ble_eq_true rfl) rfl ?_
  refine m_sub [2, 3, 1, 0] rfl ?_
  obtain ⟨nn, hw⟩ := hw
  exact l_readNumber_27 hok hc hr nn x1 0 (R 0 47) R hw
def wp_readNumber (x1 : Int32) (R : RS) (K : Int32 → RS → Prop) : Prop := (¬ (R 0 49) = 0 → w_readNumber_20 K x1 R) ∧ ((R 0 49) = 0 → ((R 0 46) = 2 → w_readNumber_20 K x1 R) ∧ (¬ ((R 0 46) = 2) → wp_wrong 1 R (fun r1 R1 => w_readNumber_20 K x1 R1)))
set_option maxHeartbeats 4000000 in
set_option maxRecDepth 100000 in
theorem ok_readNumber {G : RG} (hok : okG G) {x1 : Int32} {R : RS} {K : Int32 → RS → Prop} (hw : wp_readNumber x1 R K) : CF 3 yX12_readNumber cX12_readNumber 4 (some .int) [.ref G.2.2.1, .int x1] G R K := by
  refine CF.of (by decide +kernel) hok (Nat.le_of_ble_eq_true rfl) (fun X hc hr => ?_)
  show MR G X 4 R 0 [(0, .ref G.2.2.1), (1, .int x1)] []
  unfold wp_readNumber at hw
  refine m_aload_n hc 0 dX12_readNumber_0 rfl rfl ?_
  refine r_geti hc hr 49 dX12_readNumber_1 lf_X12_378 (Nat.le_of_ble_eq_true rfl) rfl ?_
  refine m_if_ne hc 20 dX12_readNumber_4 rfl (fun cq => ?_) (fun cq => ?_)
  · have hw := hw.1 cq
    exact b_readNumber_20 hok hc hr x1 R hw
  · have hw := hw.2 cq
    refine m_aload_n hc 0 dX12_readNumber_7 rfl rfl ?_
    refine r_geti hc hr 46 dX12_readNumber_8 lf_X12_428 (Nat.le_of_ble_eq_true rfl) rfl ?_
    refine m_iconst hc 2 dX12_readNumber_11 (by decide) ?_
    refine m_icmp_eq hc 20 dX12_readNumber_12 rfl (fun cq => ?_) (fun cq => ?_)
    · have hw := hw.1 cq
      exact b_readNumber_20 hok hc hr x1 R hw
    · have hw := hw.2 cq
      refine m_aload_n hc 0 dX12_readNumber_15 rfl rfl ?_
      refine m_iconst hc 1 dX12_readNumber_16 (by decide) ?_
      refine r_callVv hc hr mt_wrong rfl lm_X12_440 (ok_wrong hok hw) (Nat.le_of_ble_eq_true rfl) dX12_readNumber_17 rfl (rest := []) rfl (Nat.le_of_ble_eq_true rfl) (fun r1 R1 hw => ?_)
      exact b_readNumber_20 hok hc hr x1 R1 hw
