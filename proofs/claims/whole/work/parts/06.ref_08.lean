def w_readAtom_119 (K : Int32 → RS → Prop) (R : RS) : Prop := wp_pass R (fun r1 R1 => K 0 R1)
set_option maxHeartbeats 4000000 in
set_option maxRecDepth 100000 in
theorem b_readAtom_119 {G : RG} {X : Fx} {K : Int32 → RS → Prop} (hok : okG G) (hc : Cx X RX12 cX12_readAtom 3) (hr : Cr G 4 none K X) : ∀ (R : RS), w_readAtom_119 K R → MR G X 3 R 119 [(0, .ref G.2.2.1)] [] := by
  intro R hw
  unfold w_readAtom_119 at hw
  refine m_aload_n hc 0 dX12_readAtom_119 rfl rfl ?_
  refine r_callVv hc hr mt_pass rfl lm_X12_443 (ok_pass hok hw) (Nat.le_of_ble_eq_true rfl) dX12_readAtom_120 rfl (rest := []) rfl (Nat.le_of_ble_eq_true rfl) (fun r1 R1 hw => ?_)
  exact r_vret hc hr dX12_readAtom_123 hw
def w_readAtom_103 (K : Int32 → RS → Prop) (x1 s0 s1 : Int32) (R : RS) : Prop := vp_in s1 46 ∧ vp_in x1 46 ∧ (¬ ((up R 36 (Int32.toNatClampNeg s1) s0) 36 (Int32.toNatClampNeg x1)) = (-1) → w_readAtom_119 K (up R 36 (Int32.toNatClampNeg s1) s0)) ∧ (((up R 36 (Int32.toNatClampNeg s1) s0) 36 (Int32.toNatClampNeg x1)) = (-1) → wp_wrong 3 (up R 36 (Int32.toNatClampNeg s1) s0) (fun r1 R1 => w_readAtom_119 K R1))
set_option maxHeartbeats 4000000 in
set_option maxRecDepth 100000 in
theorem b_readAtom_103 {G : RG} {X : Fx} {K : Int32 → RS → Prop} (hok : okG G) (hc : Cx X RX12 cX12_readAtom 3) (hr : Cr G 4 none K X) : ∀ (x1 s0 s1 : Int32) (R : RS), w_readAtom_103 K x1 s0 s1 R → MR G X 3 R 103 [(0, .ref G.2.2.1), (1, .int x1)] [.int s0, .int s1, .ref (G.2.2.2 36)] := by
  intro x1 s0 s1 R hw
  unfold w_readAtom_103 at hw
  obtain ⟨hi, hw⟩ := hw
  refine r_iast hc hr (i := 27) (f := 36) rfl hi dX12_readAtom_103 ?_
  refine m_aload_n hc 0 dX12_readAtom_104 rfl rfl ?_
  refine r_geta hc hr 36 dX12_readAtom_105 lf_X12_98 (Nat.le_of_ble_eq_true rfl) rfl ?_
  refine m_iload_n hc 1 dX12_readAtom_108 rfl rfl ?_
  obtain ⟨hi, hw⟩ := hw
  refine r_iald hc hr (i := 27) (f := 36) rfl hi dX12_readAtom_109 ?_
  refine m_iconst hc (-1) dX12_readAtom_110 (by decide) ?_
  refine m_icmp_ne hc 119 dX12_readAtom_111 rfl (fun cq => ?_) (fun cq => ?_)
  · have hw := hw.1 cq
    refine m_sub [0] rfl ?_
    exact b_readAtom_119 hok hc hr (up R 36 (Int32.toNatClampNeg s1) s0) hw
  · have hw := hw.2 cq
    refine m_aload_n hc 0 dX12_readAtom_114 rfl rfl ?_
    refine m_iconst hc 3 dX12_readAtom_115 (by decide) ?_
    refine r_callVv hc hr mt_wrong rfl lm_X12_440 (ok_wrong hok hw) (Nat.le_of_ble_eq_true rfl) dX12_readAtom_116 rfl (rest := []) rfl (Nat.le_of_ble_eq_true rfl) (fun r1 R1 hw => ?_)
    refine m_sub [0] rfl ?_
    exact b_readAtom_119 hok hc hr R1 hw
def w_readAtom_76 (K : Int32 → RS → Prop) (x1 x2 s0 s1 : Int32) (R : RS) : Prop := vp_in s1 46 ∧ (x2 < 120 → wp_named (x2 - 96) (up R 35 (Int32.toNatClampNeg s1) s0) (fun r1 R1 => w_readAtom_103 K x1 r1 x1 R1)) ∧ (¬ (x2 < 120) → w_readAtom_103 K x1 (x2 - 120) x1 (up R 35 (Int32.toNatClampNeg s1) s0))
set_option maxHeartbeats 4000000 in
set_option maxRecDepth 100000 in
theorem b_readAtom_76 {G : RG} {X : Fx} {K : Int32 → RS → Prop} (hok : okG G) (hc : Cx X RX12 cX12_readAtom 3) (hr : Cr G 4 none K X) : ∀ (x1 x2 s0 s1 : Int32) (R : RS), w_readAtom_76 K x1 x2 s0 s1 R → MR G X 3 R 76 [(0, .ref G.2.2.1), (1, .int x1), (2, .int x2)] [.int s0, .int s1, .ref (G.2.2.2 35)] := by
  intro x1 x2 s0 s1 R hw
  unfold w_readAtom_76 at hw
  obtain ⟨hi, hw⟩ := hw
  refine r_iast hc hr (i := 26) (f := 35) rfl hi dX12_readAtom_76 ?_
  refine m_aload_n hc 0 dX12_readAtom_77 rfl rfl ?_
  refine r_geta hc hr 36 dX12_readAtom_78 lf_X12_98 (Nat.le_of_ble_eq_true rfl) rfl ?_
  refine m_iload_n hc 1 dX12_readAtom_81 rfl rfl ?_
  refine m_iload_n hc 2 dX12_readAtom_82 rfl rfl ?_
  refine m_bipush hc 120 dX12_readAtom_83 (by decide) ?_
  refine m_icmp_lt hc 95 dX12_readAtom_85 rfl (fun cq => ?_) (fun cq => ?_)
  · have hw := hw.1 cq
    refine m_aload_n hc 0 dX12_readAtom_95 rfl rfl ?_
    refine m_iload_n hc 2 dX12_readAtom_96 rfl rfl ?_
    refine m_bipush hc 96 dX12_readAtom_97 (by decide) ?_
    refine m_isub hc dX12_readAtom_99 ?_
    refine r_callVi hc hr mt_named rfl lm_X12_449 (ok_named hok hw) (Nat.le_of_ble_eq_true rfl) dX12_readAtom_100 rfl (rest := [.int x1, .ref (G.2.2.2 36)]) rfl (Nat.le_of_ble_eq_true rfl) (fun r1 R1 hw => ?_)
    refine m_sub [0, 1] rfl ?_
    exact b_readAtom_103 hok hc hr x1 r1 x1 R1 hw
  · have hw := hw.2 cq
    refine m_iload_n hc 2 dX12_readAtom_88 rfl rfl ?_
    refine m_bipush hc 120 dX12_readAtom_89 (by decide) ?_
    refine m_isub hc dX12_readAtom_91 ?_
    refine m_goto hc 103 dX12_readAtom_92 rfl ?_
    refine m_sub [0, 1] rfl ?_
    exact b_readAtom_103 hok hc hr x1 (x2 - 120) x1 (up R 35 (Int32.toNatClampNeg s1) s0) hw
def wp_readAtom (x1 : Int32) (R : RS) (K : Int32 → RS → Prop) : Prop := ((R 0 49) = 0 → (¬ (R 0 46) = 2 → ((R 0 46) = 1 → vp_in (R 0 47) 200 ∧ ∀ v1 : Int32, v1 = (R 42 (Int32.toNatClampNeg (R 0 47))) → (v1 < 120 → w_readAtom_76 K x1 v1 2 x1 R) ∧ (¬ (v1 < 120) → w_readAtom_76 K x1 v1 1 x1 R)) ∧ (¬ ((R 0 46) = 1) → wp_wrong 1 R (fun r2 R2 => K 0 R2))) ∧ ((R 0 46) = 2 → vp_in x1 46 ∧ wp_readNumber 99 (up R 35 (Int32.toNatClampNeg x1) 0) (fun r3 R3 => vp_in x1 46 ∧ K 0 (up R3 36 (Int32.toNatClampNeg x1) r3)))) ∧ (¬ ((R 0 49) = 0) → K 0 R)
set_option maxHeartbeats 4000000 in
set_option maxRecDepth 100000 in
theorem ok_readAtom {G : RG} (hok : okG G) {x1 : Int32} {R : RS} {K : Int32 → RS → Prop} (hw : wp_readAtom x1 R K) : CF 4 yX12_readAtom cX12_readAtom 3 none [.ref G.2.2.1, .int x1] G R K := by
  refine CF.of (by decide +kernel) hok (Nat.le_of_ble_eq_true rfl) (fun X hc hr => ?_)
  show MR G X 3 R 0 [(0, .ref G.2.2.1), (1, .int x1)] []
  unfold wp_readAtom at hw
  refine m_aload_n hc 0 dX12_readAtom_0 rfl rfl ?_
  refine r_geti hc hr 49 dX12_readAtom_1 lf_X12_378 (Nat.le_of_ble_eq_true rfl) rfl ?_
  refine m_if_eq hc 8 dX12_readAtom_4 rfl (fun cq => ?_) (fun cq => ?_)
  · have hw := hw.1 cq
    refine m_aload_n hc 0 dX12_readAtom_8 rfl rfl ?_
    refine r_geti hc hr 46 dX12_readAtom_9 lf_X12_428 (Nat.le_of_ble_eq_true rfl) rfl ?_
    refine m_iconst hc 2 dX12_readAtom_12 (by decide) ?_
    refine m_icmp_ne hc 36 dX12_readAtom_13 rfl (fun cq => ?_) (fun cq => ?_)
    · have hw := hw.1 cq
      refine m_aload_n hc 0 dX12_readAtom_36 rfl rfl ?_
      refine r_geti hc hr 46 dX12_readAtom_37 lf_X12_428 (Nat.le_of_ble_eq_true rfl) rfl ?_
      refine m_iconst hc 1 dX12_readAtom_40 (by decide) ?_
      refine m_icmp_eq hc 50 dX12_readAtom_41 rfl (fun cq => ?_) (fun cq => ?_)
      · have hw := hw.1 cq
        refine m_aload_n hc 0 dX12_readAtom_50 rfl rfl ?_
        refine r_geta hc hr 42 dX12_readAtom_51 lf_X12_110 (Nat.le_of_ble_eq_true rfl) rfl ?_
        refine m_aload_n hc 0 dX12_readAtom_54 rfl rfl ?_
        refine r_geti hc hr 47 dX12_readAtom_55 lf_X12_425 (Nat.le_of_ble_eq_true rfl) rfl ?_
        obtain ⟨hi, hw⟩ := hw
        refine r_iald hc hr (i := 31) (f := 42) rfl hi dX12_readAtom_58 ?_
        refine m_topi (fun v1 e_v1 => ?_)
        have hw := hw v1 e_v1
        refine m_istore_n hc [(2, .int v1), (0, .ref G.2.2.1), (1, .int x1)] dX12_readAtom_59 rfl (Nat.le_of_ble_eq_true rfl) rfl ?_
        refine m_aload_n hc 1 dX12_readAtom_60 rfl rfl ?_
        refine r_geta hc hr 35 dX12_readAtom_61 lf_X12_95 (Nat.le_of_ble_eq_true rfl) rfl ?_
        refine m_iload_n hc 2 dX12_readAtom_64 rfl rfl ?_
        refine m_iload_n hc 0 dX12_readAtom_65 rfl rfl ?_
        refine m_bipush hc 120 dX12_readAtom_66 (by decide) ?_
        refine m_icmp_lt hc 75 dX12_readAtom_68 rfl (fun cq => ?_) (fun cq => ?_)
        · have hw := hw.1 cq
          refine m_iconst hc 2 dX12_readAtom_75 (by decide) ?_
          refine m_sub [1, 2, 0] rfl ?_
          exact b_readAtom_76 hok hc hr x1 v1 2 x1 R hw
        · have hw := hw.2 cq
          refine m_iconst hc 1 dX12_readAtom_71 (by decide) ?_
          refine m_goto hc 76 dX12_readAtom_72 rfl ?_
          refine m_sub [1, 2, 0] rfl ?_
          exact b_readAtom_76 hok hc hr x1 v1 1 x1 R hw
      · have hw := hw.2 cq
        refine m_aload_n hc 0 dX12_readAtom_44 rfl rfl ?_
        refine m_iconst hc 1 dX12_readAtom_45 (by decide) ?_
        refine r_callVv hc hr mt_wrong rfl lm_X12_440 (ok_wrong hok hw) (Nat.le_of_ble_eq_true rfl) dX12_readAtom_46 rfl (rest := []) rfl (Nat.le_of_ble_eq_true rfl) (fun r2 R2 hw => ?_)
        exact r_vret hc hr dX12_readAtom_49 hw
    · have hw := hw.2 cq
      refine m_aload_n hc 0 dX12_readAtom_16 rfl rfl ?_
      refine r_geta hc hr 35 dX12_readAtom_17 lf_X12_95 (Nat.le_of_ble_eq_true rfl) rfl ?_
      refine m_iload_n hc 1 dX12_readAtom_20 rfl rfl ?_
      refine m_iconst hc 0 dX12_readAtom_21 (by decide) ?_
      obtain ⟨hi, hw⟩ := hw
      refine r_iast hc hr (i := 26) (f := 35) rfl hi dX12_readAtom_22 ?_
      refine m_aload_n hc 0 dX12_readAtom_23 rfl rfl ?_
      refine r_geta hc hr 36 dX12_readAtom_24 lf_X12_98 (Nat.le_of_ble_eq_true rfl) rfl ?_
      refine m_iload_n hc 1 dX12_readAtom_27 rfl rfl ?_
      refine m_aload_n hc 0 dX12_readAtom_28 rfl rfl ?_
      refine m_bipush hc 99 dX12_readAtom_29 (by decide) ?_
      refine r_callVi hc hr mt_readNumber rfl lm_X12_446 (ok_readNumber hok hw) (Nat.le_of_ble_eq_true rfl) dX12_readAtom_31 rfl (rest := [.int x1, .ref (G.2.2.2 36)]) rfl (Nat.le_of_ble_eq_true rfl) (fun r3 R3 hw => ?_)
      obtain ⟨hi, hw⟩ := hw
      refine r_iast hc hr (i := 27) (f := 36) rfl hi dX12_readAtom_34 ?_
      exact r_vret hc hr dX12_readAtom_35 hw
  · have hw := hw.2 cq
    exact r_vret hc hr dX12_readAtom_7 hw
def w_readStep_230 (K : Int32 → RS → Prop) (x1 x2 : Int32) (R : RS) : Prop := vp_in x2 23 ∧ K 0 (up (up R 33 (Int32.toNatClampNeg x2) x1) 0 38 (((up R 33 (Int32.toNatClampNeg x2) x1) 0 38) + 1))
set_option maxHeartbeats 4000000 in
set_option maxRecDepth 100000 in
theorem b_readStep_230 {G : RG} {X : Fx} {K : Int32 → RS → Prop} (hok : okG G) (hc : Cx X RX12 cX12_readStep 3) (hr : Cr G 5 none K X) : ∀ (x1 x2 : Int32) (R : RS), w_readStep_230 K x1 x2 R → MR G X 3 R 230 [(0, .ref G.2.2.1), (1, .int x1), (2, .int x2)] [] := by
  intro x1 x2 R hw
  unfold w_readStep_230 at hw
  refine m_aload_n hc 0 dX12_readStep_230 rfl rfl ?_
  refine r_geta hc hr 33 dX12_readStep_231 lf_X12_89 (Nat.le_of_ble_eq_true rfl) rfl ?_
  refine m_iload_n hc 2 dX12_readStep_234 rfl rfl ?_
  refine m_iload_n hc 1 dX12_readStep_235 rfl rfl ?_
  obtain ⟨hi, hw⟩ := hw
  refine r_iast hc hr (i := 24) (f := 33) rfl hi dX12_readStep_236 ?_
  refine m_aload_n hc 0 dX12_readStep_237 rfl rfl ?_
  refine m_dup hc dX12_readStep_238 rfl ?_
  refine r_geti hc hr 38 dX12_readStep_239 lf_X12_369 (Nat.le_of_ble_eq_true rfl) rfl ?_
  refine m_iconst hc 1 dX12_readStep_242 (by decide) ?_
  refine m_iadd hc dX12_readStep_243 ?_
  refine r_put hc hr 38 dX12_readStep_244 lf_X12_369 (Nat.le_of_ble_eq_true rfl) rfl rfl (by decide +kernel) ?_
  exact r_vret hc hr dX12_readStep_247 hw
def w_readStep_182 (K : Int32 → RS → Prop) (x1 x2 : Int32) (R : RS) : Prop := vp_in x2 23 ∧ (¬ (R 34 (Int32.toNatClampNeg x2)) = 94 → vp_in x2 23 ∧ ((R 34 (Int32.toNatClampNeg x2)) = 0 → w_readStep_230 K x1 x2 R) ∧ (¬ ((R 34 (Int32.toNatClampNeg x2)) = 0) → wp_readAtom ((2 * x2) + 1) R (fun r1 R1 => w_readStep_230 K x1 x2 R1))) ∧ ((R 34 (Int32.toNatClampNeg x2)) = 94 → wp_readNumber 9 R (fun r2 R2 => vp_in ((2 * x2) + 1) 46 ∧ w_readStep_230 K x1 x2 (up R2 36 (Int32.toNatClampNeg ((2 * x2) + 1)) r2)))
set_option maxHeartbeats 4000000 in
set_option maxRecDepth 100000 in
theorem b_readStep_182 {G : RG} {X : Fx} {K : Int32 → RS → Prop} (hok : okG G) (hc : Cx X RX12 cX12_readStep 3) (hr : Cr G 5 none K X) : ∀ (x1 x2 : Int32) (R : RS), w_readStep_182 K x1 x2 R → MR G X 3 R 182 [(0, .ref G.2.2.1), (1, .int x1), (2, .int x2)] [] := by
  intro x1 x2 R hw
  unfold w_readStep_182 at hw
  refine m_aload_n hc 0 dX12_readStep_182 rfl rfl ?_
  refine r_geta hc hr 34 dX12_readStep_183 lf_X12_92 (Nat.le_of_ble_eq_true rfl) rfl ?_
  refine m_iload_n hc 2 dX12_readStep_186 rfl rfl ?_
  obtain ⟨hi, hw⟩ := hw
  refine r_iald hc hr (i := 25) (f := 34) rfl hi dX12_readStep_187 ?_
  refine m_bipush hc 94 dX12_readStep_188 (by decide) ?_
  refine m_icmp_ne hc 212 dX12_readStep_190 rfl (fun cq => ?_) (fun cq => ?_)
  · have hw := hw.1 cq
    refine m_aload_n hc 0 dX12_readStep_212 rfl rfl ?_
    refine r_geta hc hr 34 dX12_readStep_213 lf_X12_92 (Nat.le_of_ble_eq_true rfl) rfl ?_
    refine m_iload_n hc 2 dX12_readStep_216 rfl rfl ?_
    obtain ⟨hi, hw⟩ := hw
    refine r_iald hc hr (i := 25) (f := 34) rfl hi dX12_readStep_217 ?_
    refine m_if_eq hc 230 dX12_readStep_218 rfl (fun cq => ?_) (fun cq => ?_)
    · have hw := hw.1 cq
      exact b_readStep_230 hok hc hr x1 x2 R hw
    · have hw := hw.2 cq
      refine m_aload_n hc 0 dX12_readStep_221 rfl rfl ?_
      refine m_iconst hc 2 dX12_readStep_222 (by decide) ?_
      refine m_iload_n hc 2 dX12_readStep_223 rfl rfl ?_
      refine m_imul hc dX12_readStep_224 ?_
      refine m_iconst hc 1 dX12_readStep_225 (by decide) ?_
      refine m_iadd hc dX12_readStep_226 ?_
      refine r_callVv hc hr mt_readAtom rfl lm_X12_455 (ok_readAtom hok hw) (Nat.le_of_ble_eq_true rfl) dX12_readStep_227 rfl (rest := []) rfl (Nat.le_of_ble_eq_true rfl) (fun r1 R1 hw => ?_)
      exact b_readStep_230 hok hc hr x1 x2 R1 hw
  · have hw := hw.2 cq
    refine m_aload_n hc 0 dX12_readStep_193 rfl rfl ?_
    refine r_geta hc hr 36 dX12_readStep_194 lf_X12_98 (Nat.le_of_ble_eq_true rfl) rfl ?_
    refine m_iconst hc 2 dX12_readStep_197 (by decide) ?_
    refine m_iload_n hc 2 dX12_readStep_198 rfl rfl ?_
    refine m_imul hc dX12_readStep_199 ?_
    refine m_iconst hc 1 dX12_readStep_200 (by decide) ?_
    refine m_iadd hc dX12_readStep_201 ?_
    refine m_aload_n hc 0 dX12_readStep_202 rfl rfl ?_
    refine m_bipush hc 9 dX12_readStep_203 (by decide) ?_
    refine r_callVi hc hr mt_readNumber rfl lm_X12_446 (ok_readNumber hok hw) (Nat.le_of_ble_eq_true rfl) dX12_readStep_205 rfl (rest := [.int ((2 * x2) + 1), .ref (G.2.2.2 36)]) rfl (Nat.le_of_ble_eq_true rfl) (fun r2 R2 hw => ?_)
    obtain ⟨hi, hw⟩ := hw
    refine r_iast hc hr (i := 27) (f := 36) rfl hi dX12_readStep_208 ?_
    refine m_goto hc 230 dX12_readStep_209 rfl ?_
    exact b_readStep_230 hok hc hr x1 x2 (up R2 36 (Int32.toNatClampNeg ((2 * x2) + 1)) r2) hw
def w_readStep_168 (K : Int32 → RS → Prop) (x1 x2 s0 s1 : Int32) (R : RS) : Prop := vp_in s1 23 ∧ vp_in x2 23 ∧ (((up R 34 (Int32.toNatClampNeg s1) s0) 34 (Int32.toNatClampNeg x2)) = 0 → w_readStep_182 K x1 x2 (up R 34 (Int32.toNatClampNeg s1) s0)) ∧ (¬ (((up R 34 (Int32.toNatClampNeg s1) s0) 34 (Int32.toNatClampNeg x2)) = 0) → wp_pass (up R 34 (Int32.toNatClampNeg s1) s0) (fun r1 R1 => w_readStep_182 K x1 x2 R1))
set_option maxHeartbeats 4000000 in
set_option maxRecDepth 100000 in
theorem b_readStep_168 {G : RG} {X : Fx} {K : Int32 → RS → Prop} (hok : okG G) (hc : Cx X RX12 cX12_readStep 3) (hr : Cr G 5 none K X) : ∀ (x1 x2 s0 s1 : Int32) (R : RS), w_readStep_168 K x1 x2 s0 s1 R → MR G X 3 R 168 [(0, .ref G.2.2.1), (1, .int x1), (2, .int x2)] [.int s0, .int s1, .ref (G.2.2.2 34)] := by
  intro x1 x2 s0 s1 R hw
  unfold w_readStep_168 at hw
  obtain ⟨hi, hw⟩ := hw
  refine r_iast hc hr (i := 25) (f := 34) rfl hi dX12_readStep_168 ?_
  refine m_aload_n hc 0 dX12_readStep_169 rfl rfl ?_
  refine r_geta hc hr 34 dX12_readStep_170 lf_X12_92 (Nat.le_of_ble_eq_true rfl) rfl ?_
  refine m_iload_n hc 2 dX12_readStep_173 rfl rfl ?_
  obtain ⟨hi, hw⟩ := hw
  refine r_iald hc hr (i := 25) (f := 34) rfl hi dX12_readStep_174 ?_
  refine m_if_eq hc 182 dX12_readStep_175 rfl (fun cq => ?_) (fun cq => ?_)
  · have hw := hw.1 cq
    exact b_readStep_182 hok hc hr x1 x2 (up R 34 (Int32.toNatClampNeg s1) s0) hw
  · have hw := hw.2 cq
    refine m_aload_n hc 0 dX12_readStep_178 rfl rfl ?_
    refine r_callVv hc hr mt_pass rfl lm_X12_443 (ok_pass hok hw) (Nat.le_of_ble_eq_true rfl) dX12_readStep_179 rfl (rest := []) rfl (Nat.le_of_ble_eq_true rfl) (fun r1 R1 hw => ?_)
    exact b_readStep_182 hok hc hr x1 x2 R1 hw
def w_readStep_82 (K : Int32 → RS → Prop) (x1 : Int32) (R : RS) : Prop := wp_pass R (fun r1 R1 => ((R1 0 49) = 0 → wp_readAtom (2 * (R1 0 38)) R1 (fun r2 R2 => wp_isSign 43 R2 (fun r3 R3 => (r3 = 0 → wp_isSign 45 R3 (fun r4 R4 => (r4 = 0 → wp_isSign 42 R4 (fun r5 R5 => (r5 = 0 → wp_isSign 94 R5 (fun r6 R6 => (r6 = 0 → w_readStep_168 K x1 (R1 0 38) 0 (R1 0 38) R6) ∧ (¬ (r6 = 0) → w_readStep_168 K x1 (R1 0 38) 94 (R1 0 38) R6))) ∧ (¬ (r5 = 0) → w_readStep_168 K x1 (R1 0 38) 42 (R1 0 38) R5))) ∧ (¬ (r4 = 0) → w_readStep_168 K x1 (R1 0 38) 45 (R1 0 38) R4))) ∧ (¬ (r3 = 0) → w_readStep_168 K x1 (R1 0 38) 43 (R1 0 38) R3)))) ∧ (¬ ((R1 0 49) = 0) → K 0 R1))
set_option maxHeartbeats 4000000 in
set_option maxRecDepth 100000 in
theorem b_readStep_82 {G : RG} {X : Fx} {K : Int32 → RS → Prop} (hok : okG G) (hc : Cx X RX12 cX12_readStep 3) (hr : Cr G 5 none K X) : ∀ (x1 : Int32) (R : RS), w_readStep_82 K x1 R → MR G X 3 R 82 [(0, .ref G.2.2.1), (1, .int x1)] [] := by
  intro x1 R hw
  unfold w_readStep_82 at hw
  refine m_aload_n hc 0 dX12_readStep_82 rfl rfl ?_
  refine r_callVv hc hr mt_pass rfl lm_X12_443 (ok_pass hok hw) (Nat.le_of_ble_eq_true rfl) dX12_readStep_83 rfl (rest := []) rfl (Nat.le_of_ble_eq_true rfl) (fun r1 R1 hw => ?_)
  refine m_aload_n hc 0 dX12_readStep_86 rfl rfl ?_
  refine r_geti hc hr 38 dX12_readStep_87 lf_X12_369 (Nat.le_of_ble_eq_true rfl) rfl ?_
  refine m_istore_n hc [(2, .int (R1 0 38)), (0, .ref G.2.2.1), (1, .int x1)] dX12_readStep_90 rfl (Nat.le_of_ble_eq_true rfl) rfl ?_
  refine m_aload_n hc 1 dX12_readStep_91 rfl rfl ?_
  refine r_geti hc hr 49 dX12_readStep_92 lf_X12_378 (Nat.le_of_ble_eq_true rfl) rfl ?_
  refine m_if_eq hc 99 dX12_readStep_95 rfl (fun cq => ?_) (fun cq => ?_)
  · have hw := hw.1 cq
    refine m_aload_n hc 1 dX12_readStep_99 rfl rfl ?_
    refine m_iconst hc 2 dX12_readStep_100 (by decide) ?_
    refine m_iload_n hc 0 dX12_readStep_101 rfl rfl ?_
    refine m_imul hc dX12_readStep_102 ?_
    refine r_callVv hc hr mt_readAtom rfl lm_X12_455 (ok_readAtom hok hw) (Nat.le_of_ble_eq_true rfl) dX12_readStep_103 rfl (rest := []) rfl (Nat.le_of_ble_eq_true rfl) (fun r2 R2 hw => ?_)
    refine m_aload_n hc 1 dX12_readStep_106 rfl rfl ?_
    refine r_geta hc hr 34 dX12_readStep_107 lf_X12_92 (Nat.le_of_ble_eq_true rfl) rfl ?_
    refine m_iload_n hc 0 dX12_readStep_110 rfl rfl ?_
    refine m_aload_n hc 1 dX12_readStep_111 rfl rfl ?_
    refine m_bipush hc 43 dX12_readStep_112 (by decide) ?_
    refine r_callVi hc hr mt_isSign rfl lm_X12_452 (ok_isSign hok hw) (Nat.le_of_ble_eq_true rfl) dX12_readStep_114 rfl (rest := [.int (R1 0 38), .ref (G.2.2.2 34)]) rfl (Nat.le_of_ble_eq_true rfl) (fun r3 R3 hw => ?_)
    refine m_if_eq hc 125 dX12_readStep_117 rfl (fun cq => ?_) (fun cq => ?_)
    · have hw := hw.1 cq
      refine m_aload_n hc 1 dX12_readStep_125 rfl rfl ?_
      refine m_bipush hc 45 dX12_readStep_126 (by decide) ?_
      refine r_callVi hc hr mt_isSign rfl lm_X12_452 (ok_isSign hok hw) (Nat.le_of_ble_eq_true rfl) dX12_readStep_128 rfl (rest := [.int (R1 0 38), .ref (G.2.2.2 34)]) rfl (Nat.le_of_ble_eq_true rfl) (fun r4 R4 hw => ?_)
      refine m_if_eq hc 139 dX12_readStep_131 rfl (fun cq => ?_) (fun cq => ?_)
      · have hw := hw.1 cq
        refine m_aload_n hc 1 dX12_readStep_139 rfl rfl ?_
        refine m_bipush hc 42 dX12_readStep_140 (by decide) ?_
        refine r_callVi hc hr mt_isSign rfl lm_X12_452 (ok_isSign hok hw) (Nat.le_of_ble_eq_true rfl) dX12_readStep_142 rfl (rest := [.int (R1 0 38), .ref (G.2.2.2 34)]) rfl (Nat.le_of_ble_eq_true rfl) (fun r5 R5 hw => ?_)
        refine m_if_eq hc 153 dX12_readStep_145 rfl (fun cq => ?_) (fun cq => ?_)
        · have hw := hw.1 cq
          refine m_aload_n hc 1 dX12_readStep_153 rfl rfl ?_
          refine m_bipush hc 94 dX12_readStep_154 (by decide) ?_
          refine r_callVi hc hr mt_isSign rfl lm_X12_452 (ok_isSign hok hw) (Nat.le_of_ble_eq_true rfl) dX12_readStep_156 rfl (rest := [.int (R1 0 38), .ref (G.2.2.2 34)]) rfl (Nat.le_of_ble_eq_true rfl) (fun r6 R6 hw => ?_)
          refine m_if_eq hc 167 dX12_readStep_159 rfl (fun cq => ?_) (fun cq => ?_)
          · have hw := hw.1 cq
            refine m_iconst hc 0 dX12_readStep_167 (by decide) ?_
            refine m_sub [1, 2, 0] rfl ?_
            exact b_readStep_168 hok hc hr x1 (R1 0 38) 0 (R1 0 38) R6 hw
          · have hw := hw.2 cq
            refine m_bipush hc 94 dX12_readStep_162 (by decide) ?_
            refine m_goto hc 168 dX12_readStep_164 rfl ?_
            refine m_sub [1, 2, 0] rfl ?_
            exact b_readStep_168 hok hc hr x1 (R1 0 38) 94 (R1 0 38) R6 hw
        · have hw := hw.2 cq
          refine m_bipush hc 42 dX12_readStep_148 (by decide) ?_
          refine m_goto hc 168 dX12_readStep_150 rfl ?_
          refine m_sub [1, 2, 0] rfl ?_
          exact b_readStep_168 hok hc hr x1 (R1 0 38) 42 (R1 0 38) R5 hw
      · have hw := hw.2 cq
        refine m_bipush hc 45 dX12_readStep_134 (by decide) ?_
        refine m_goto hc 168 dX12_readStep_136 rfl ?_
        refine m_sub [1, 2, 0] rfl ?_
        exact b_readStep_168 hok hc hr x1 (R1 0 38) 45 (R1 0 38) R4 hw
    · have hw := hw.2 cq
      refine m_bipush hc 43 dX12_readStep_120 (by decide) ?_
      refine m_goto hc 168 dX12_readStep_122 rfl ?_
      refine m_sub [1, 2, 0] rfl ?_
      exact b_readStep_168 hok hc hr x1 (R1 0 38) 43 (R1 0 38) R3 hw
  · have hw := hw.2 cq
    exact r_vret hc hr dX12_readStep_98 hw
def w_readStep_64 (K : Int32 → RS → Prop) (x1 : Int32) (R : RS) : Prop := wp_pass R (fun r1 R1 => wp_isSign 61 R1 (fun r2 R2 => (¬ r2 = 0 → w_readStep_82 K x1 R2) ∧ (r2 = 0 → wp_wrong 1 R2 (fun r3 R3 => w_readStep_82 K x1 R3))))
set_option maxHeartbeats 4000000 in
set_option maxRecDepth 100000 in
theorem b_readStep_64 {G : RG} {X : Fx} {K : Int32 → RS → Prop} (hok : okG G) (hc : Cx X RX12 cX12_readStep 3) (hr : Cr G 5 none K X) : ∀ (x1 : Int32) (R : RS), w_readStep_64 K x1 R → MR G X 3 R 64 [(0, .ref G.2.2.1), (1, .int x1)] [] := by
  intro x1 R hw
  unfold w_readStep_64 at hw
  refine m_aload_n hc 0 dX12_readStep_64 rfl rfl ?_
  refine r_callVv hc hr mt_pass rfl lm_X12_443 (ok_pass hok hw) (Nat.le_of_ble_eq_true rfl) dX12_readStep_65 rfl (rest := []) rfl (Nat.le_of_ble_eq_true rfl) (fun r1 R1 hw => ?_)
  refine m_aload_n hc 0 dX12_readStep_68 rfl rfl ?_
  refine m_bipush hc 61 dX12_readStep_69 (by decide) ?_
  refine r_callVi hc hr mt_isSign rfl lm_X12_452 (ok_isSign hok hw) (Nat.le_of_ble_eq_true rfl) dX12_readStep_71 rfl (rest := []) rfl (Nat.le_of_ble_eq_true rfl) (fun r2 R2 hw => ?_)
  refine m_if_ne hc 82 dX12_readStep_74 rfl (fun cq => ?_) (fun cq => ?_)
  · have hw := hw.1 cq
    exact b_readStep_82 hok hc hr x1 R2 hw
  · have hw := hw.2 cq
    refine m_aload_n hc 0 dX12_readStep_77 rfl rfl ?_
    refine m_iconst hc 1 dX12_readStep_78 (by decide) ?_
    refine r_callVv hc hr mt_wrong rfl lm_X12_440 (ok_wrong hok hw) (Nat.le_of_ble_eq_true rfl) dX12_readStep_79 rfl (rest := []) rfl (Nat.le_of_ble_eq_true rfl) (fun r3 R3 hw => ?_)
    exact b_readStep_82 hok hc hr x1 R3 hw
def w_readStep_42 (K : Int32 → RS → Prop) (x1 : Int32) (R : RS) : Prop := wp_wrong 1 R (fun r1 R1 => w_readStep_64 K x1 R1)
set_option maxHeartbeats 4000000 in
set_option maxRecDepth 100000 in
theorem b_readStep_42 {G : RG} {X : Fx} {K : Int32 → RS → Prop} (hok : okG G) (hc : Cx X RX12 cX12_readStep 3) (hr : Cr G 5 none K X) : ∀ (x1 : Int32) (R : RS), w_readStep_42 K x1 R → MR G X 3 R 42 [(0, .ref G.2.2.1), (1, .int x1)] [] := by
  intro x1 R hw
  unfold w_readStep_42 at hw
  refine m_aload_n hc 0 dX12_readStep_42 rfl rfl ?_
  refine m_iconst hc 1 dX12_readStep_43 (by decide) ?_
  refine r_callVv hc hr mt_wrong rfl lm_X12_440 (ok_wrong hok hw) (Nat.le_of_ble_eq_true rfl) dX12_readStep_44 rfl (rest := []) rfl (Nat.le_of_ble_eq_true rfl) (fun r1 R1 hw => ?_)
  refine m_goto hc 64 dX12_readStep_47 rfl ?_
  exact b_readStep_64 hok hc hr x1 R1 hw
def w_readStep_31 (K : Int32 → RS → Prop) (s0 : Int32) (R : RS) : Prop := (s0 = 0 → w_readStep_42 K s0 R) ∧ (¬ (s0 = 0) → (s0 ≤ 23 → wp_named s0 R (fun r1 R1 => (r1 = (-1) → w_readStep_64 K s0 R1) ∧ (¬ (r1 = (-1)) → wp_wrong 3 R1 (fun r2 R2 => w_readStep_64 K s0 R2)))) ∧ (¬ (s0 ≤ 23) → w_readStep_42 K s0 R))
set_option maxHeartbeats 4000000 in
set_option maxRecDepth 100000 in
theorem b_readStep_31 {G : RG} {X : Fx} {K : Int32 → RS → Prop} (hok : okG G) (hc : Cx X RX12 cX12_readStep 3) (hr : Cr G 5 none K X) : ∀ (s0 : Int32) (R : RS), w_readStep_31 K s0 R → MR G X 3 R 31 [(0, .ref G.2.2.1)] [.int s0] := by
  intro s0 R hw
  unfold w_readStep_31 at hw
  refine m_istore_n hc [(1, .int s0), (0, .ref G.2.2.1)] dX12_readStep_31 rfl (Nat.le_of_ble_eq_true rfl) rfl ?_
  refine m_iload_n hc 0 dX12_readStep_32 rfl rfl ?_
  refine m_if_eq hc 42 dX12_readStep_33 rfl (fun cq => ?_) (fun cq => ?_)
  · have hw := hw.1 cq
    refine m_sub [1, 0] rfl ?_
    exact b_readStep_42 hok hc hr s0 R hw
  · have hw := hw.2 cq
    refine m_iload_n hc 0 dX12_readStep_36 rfl rfl ?_
    refine m_bipush hc 23 dX12_readStep_37 (by decide) ?_
    refine m_icmp_le hc 50 dX12_readStep_39 rfl (fun cq => ?_) (fun cq => ?_)
    · have hw := hw.1 cq
      refine m_aload_n hc 1 dX12_readStep_50 rfl rfl ?_
      refine m_iload_n hc 0 dX12_readStep_51 rfl rfl ?_
      refine r_callVi hc hr mt_named rfl lm_X12_449 (ok_named hok hw) (Nat.le_of_ble_eq_true rfl) dX12_readStep_52 rfl (rest := []) rfl (Nat.le_of_ble_eq_true rfl) (fun r1 R1 hw => ?_)
      refine m_iconst hc (-1) dX12_readStep_55 (by decide) ?_
      refine m_icmp_eq hc 64 dX12_readStep_56 rfl (fun cq => ?_) (fun cq => ?_)
      · have hw := hw.1 cq
        refine m_sub [1, 0] rfl ?_
        exact b_readStep_64 hok hc hr s0 R1 hw
      · have hw := hw.2 cq
        refine m_aload_n hc 1 dX12_readStep_59 rfl rfl ?_
        refine m_iconst hc 3 dX12_readStep_60 (by decide) ?_
        refine r_callVv hc hr mt_wrong rfl lm_X12_440 (ok_wrong hok hw) (Nat.le_of_ble_eq_true rfl) dX12_readStep_61 rfl (rest := []) rfl (Nat.le_of_ble_eq_true rfl) (fun r2 R2 hw => ?_)
        refine m_sub [1, 0] rfl ?_
        exact b_readStep_64 hok hc hr s0 R2 hw
    · have hw := hw.2 cq
      refine m_sub [1, 0] rfl ?_
      exact b_readStep_42 hok hc hr s0 R hw
def wp_readStep (R : RS) (K : Int32 → RS → Prop) : Prop := (¬ (R 0 49) = 0 → w_readStep_31 K 0 R) ∧ ((R 0 49) = 0 → (¬ (R 0 46) = 1 → w_readStep_31 K 0 R) ∧ ((R 0 46) = 1 → vp_in (R 0 47) 200 ∧ w_readStep_31 K ((R 42 (Int32.toNatClampNeg (R 0 47))) - 96) R))
set_option maxHeartbeats 4000000 in
set_option maxRecDepth 100000 in
theorem ok_readStep {G : RG} (hok : okG G) {R : RS} {K : Int32 → RS → Prop} (hw : wp_readStep R K) : CF 5 yX12_readStep cX12_readStep 3 none [.ref G.2.2.1] G R K := by
  refine CF.of (by decide +kernel) hok (Nat.le_of_ble_eq_true rfl) (fun X hc hr => ?_)
  show MR G X 3 R 0 [(0, .ref G.2.2.1)] []
  unfold wp_readStep at hw
  refine m_aload_n hc 0 dX12_readStep_0 rfl rfl ?_
  refine r_geti hc hr 49 dX12_readStep_1 lf_X12_378 (Nat.le_of_ble_eq_true rfl) rfl ?_
  refine m_if_ne hc 30 dX12_readStep_4 rfl (fun cq => ?_) (fun cq => ?_)
  · have hw := hw.1 cq
    refine m_iconst hc 0 dX12_readStep_30 (by decide) ?_
    exact b_readStep_31 hok hc hr 0 R hw
  · have hw := hw.2 cq
    refine m_aload_n hc 0 dX12_readStep_7 rfl rfl ?_
    refine r_geti hc hr 46 dX12_readStep_8 lf_X12_428 (Nat.le_of_ble_eq_true rfl) rfl ?_
    refine m_iconst hc 1 dX12_readStep_11 (by decide) ?_
    refine m_icmp_ne hc 30 dX12_readStep_12 rfl (fun cq => ?_) (fun cq => ?_)
    · have hw := hw.1 cq
      refine m_iconst hc 0 dX12_readStep_30 (by decide) ?_
      exact b_readStep_31 hok hc hr 0 R hw
    · have hw := hw.2 cq
      refine m_aload_n hc 0 dX12_readStep_15 rfl rfl ?_
      refine r_geta hc hr 42 dX12_readStep_16 lf_X12_110 (Nat.le_of_ble_eq_true rfl) rfl ?_
      refine m_aload_n hc 0 dX12_readStep_19 rfl rfl ?_
      refine r_geti hc hr 47 dX12_readStep_20 lf_X12_425 (Nat.le_of_ble_eq_true rfl) rfl ?_
      obtain ⟨hi, hw⟩ := hw
      refine r_iald hc hr (i := 31) (f := 42) rfl hi dX12_readStep_23 ?_
      refine m_bipush hc 96 dX12_readStep_24 (by decide) ?_
      refine m_isub hc dX12_readStep_26 ?_
      refine m_goto hc 31 dX12_readStep_27 rfl ?_
      exact b_readStep_31 hok hc hr ((R 42 (Int32.toNatClampNeg (R 0 47))) - 96) R hw
def w_readProgram_52 (K : Int32 → RS → Prop) (R : RS) : Prop := (¬ (R 0 49) = 0 → K 0 R) ∧ ((R 0 49) = 0 → ((R 0 46) = 0 → K 0 R) ∧ (¬ ((R 0 46) = 0) → wp_wrong 1 R (fun r1 R1 => K 0 R1)))
set_option maxHeartbeats 4000000 in
set_option maxRecDepth 100000 in
theorem b_readProgram_52 {G : RG} {X : Fx} {K : Int32 → RS → Prop} (hok : okG G) (hc : Cx X RX12 cX12_readProgram 2) (hr : Cr G 6 none K X) : ∀ (R : RS), w_readProgram_52 K R → MR G X 2 R 52 [(0, .ref G.2.2.1)] [] := by
  intro R hw
  unfold w_readProgram_52 at hw
  refine m_aload_n hc 0 dX12_readProgram_52 rfl rfl ?_
  refine r_geti hc hr 49 dX12_readProgram_53 lf_X12_378 (Nat.le_of_ble_eq_true rfl) rfl ?_
  refine m_if_ne hc 71 dX12_readProgram_56 rfl (fun cq => ?_) (fun cq => ?_)
  · have hw := hw.1 cq
    exact r_vret hc hr dX12_readProgram_71 hw
  · have hw := hw.2 cq
    refine m_aload_n hc 0 dX12_readProgram_59 rfl rfl ?_
    refine r_geti hc hr 46 dX12_readProgram_60 lf_X12_428 (Nat.le_of_ble_eq_true rfl) rfl ?_
    refine m_if_eq hc 71 dX12_readProgram_63 rfl (fun cq => ?_) (fun cq => ?_)
    · have hw := hw.1 cq
      exact r_vret hc hr dX12_readProgram_71 hw
    · have hw := hw.2 cq
      refine m_aload_n hc 0 dX12_readProgram_66 rfl rfl ?_
      refine m_iconst hc 1 dX12_readProgram_67 (by decide) ?_
      refine r_callVv hc hr mt_wrong rfl lm_X12_440 (ok_wrong hok hw) (Nat.le_of_ble_eq_true rfl) dX12_readProgram_68 rfl (rest := []) rfl (Nat.le_of_ble_eq_true rfl) (fun r1 R1 hw => ?_)
      exact r_vret hc hr dX12_readProgram_71 hw
def w_readProgram_32 (K2 : Int32 → RS → Prop) (K : Int32 → RS → Prop) (x1 : Int32) (R : RS) : Prop := (x1 = 0 → K2 0 R) ∧ (¬ (x1 = 0) → ((R 0 46) = 0 → K2 0 R) ∧ (¬ ((R 0 46) = 0) → K2 1 R))
set_option maxHeartbeats 4000000 in
set_option maxRecDepth 100000 in
theorem b_readProgram_32 {G : RG} {X : Fx} {K : Int32 → RS → Prop} (hok : okG G) (hc : Cx X RX12 cX12_readProgram 2) (hr : Cr G 6 none K X) (K2 : Int32 → RS → Prop) (h2 : ∀ (x1 : Int32) (R : RS), K2 x1 R → MR G X 2 R 2 [(0, .ref G.2.2.1), (1, .int x1)] []) : ∀ (x1 : Int32) (R : RS), w_readProgram_32 K2 K x1 R → MR G X 2 R 32 [(0, .ref G.2.2.1), (1, .int x1)] [] := by
  intro x1 R hw
  unfold w_readProgram_32 at hw
  refine m_iload_n hc 1 dX12_readProgram_32 rfl rfl ?_
  refine m_if_eq hc 47 dX12_readProgram_33 rfl (fun cq => ?_) (fun cq => ?_)
  · have hw := hw.1 cq
    refine m_iconst hc 0 dX12_readProgram_47 (by decide) ?_
    refine m_istore_n hc [(1, .int 0), (0, .ref G.2.2.1)] dX12_readProgram_48 rfl (Nat.le_of_ble_eq_true rfl) rfl ?_
    refine m_goto hc 2 dX12_readProgram_49 rfl ?_
    refine m_sub [1, 0] rfl ?_
    exact h2 0 R hw
  · have hw := hw.2 cq
    refine m_aload_n hc 0 dX12_readProgram_36 rfl rfl ?_
    refine r_geti hc hr 46 dX12_readProgram_37 lf_X12_428 (Nat.le_of_ble_eq_true rfl) rfl ?_
    refine m_if_eq hc 47 dX12_readProgram_40 rfl (fun cq => ?_) (fun cq => ?_)
    · have hw := hw.1 cq
      refine m_iconst hc 0 dX12_readProgram_47 (by decide) ?_
      refine m_istore_n hc [(1, .int 0), (0, .ref G.2.2.1)] dX12_readProgram_48 rfl (Nat.le_of_ble_eq_true rfl) rfl ?_
      refine m_goto hc 2 dX12_readProgram_49 rfl ?_
      refine m_sub [1, 0] rfl ?_
      exact h2 0 R hw
    · have hw := hw.2 cq
      refine m_iconst hc 1 dX12_readProgram_43 (by decide) ?_
      refine m_goto hc 48 dX12_readProgram_44 rfl ?_
      refine m_istore_n hc [(1, .int 1), (0, .ref G.2.2.1)] dX12_readProgram_48 rfl (Nat.le_of_ble_eq_true rfl) rfl ?_
      refine m_goto hc 2 dX12_readProgram_49 rfl ?_
      refine m_sub [1, 0] rfl ?_
      exact h2 1 R hw
def wb_readProgram_2 (K2 : Int32 → RS → Prop) (K : Int32 → RS → Prop) (x1 : Int32) (R : RS) : Prop := (x1 = 0 → w_readProgram_52 K R) ∧ (¬ (x1 = 0) → (¬ (R 0 49) = 0 → w_readProgram_52 K R) ∧ ((R 0 49) = 0 → wp_readStep R (fun r1 R1 => wp_isSign 59 R1 (fun r2 R2 => (r2 = 0 → w_readProgram_32 K2 K r2 R2) ∧ (¬ (r2 = 0) → wp_pass R2 (fun r3 R3 => w_readProgram_32 K2 K r2 R3))))))
def wl_readProgram_2 (K : Int32 → RS → Prop) : Nat → Int32 → RS → Prop
  | 0 => fun _ _ => False
  | nn + 1 => wb_readProgram_2 (wl_readProgram_2 K nn) K
set_option maxHeartbeats 4000000 in
set_option maxRecDepth 100000 in
theorem l_readProgram_2 {G : RG} {X : Fx} {K : Int32 → RS → Prop} (hok : okG G) (hc : Cx X RX12 cX12_readProgram 2) (hr : Cr G 6 none K X) : ∀ (nn : Nat) (x1 : Int32) (R : RS), wl_readProgram_2 K nn x1 R → MR G X 2 R 2 [(0, .ref G.2.2.1), (1, .int x1)] [] := by
  intro nn
  induction nn with
  | zero => intro x1 R hw; exact False.elim hw
  | succ nn ih =>
    intro x1 R hw
    have hw : wb_readProgram_2 (wl_readProgram_2 K nn) K x1 R := hw
    have h2 := ih
    generalize wl_readProgram_2 K nn = K2 at hw h2
    unfold wb_readProgram_2 at hw
    refine m_iload_n hc 1 dX12_readProgram_2 rfl rfl ?_
    refine m_if_eq hc 52 dX12_readProgram_3 rfl (fun cq => ?_) (fun cq => ?_)
    · have hw := hw.1 cq
      refine m_sub [0] rfl ?_
      exact b_readProgram_52 hok hc hr R hw
    · have hw := hw.2 cq
      refine m_aload_n hc 0 dX12_readProgram_6 rfl rfl ?_
      refine r_geti hc hr 49 dX12_readProgram_7 lf_X12_378 (Nat.le_of_ble_eq_true rfl) rfl ?_
      refine m_if_ne hc 52 dX12_readProgram_10 rfl (fun cq => ?_) (fun cq => ?_)
      · have hw := hw.1 cq
        refine m_sub [0] rfl ?_
        exact b_readProgram_52 hok hc hr R hw
      · have hw := hw.2 cq
        refine m_aload_n hc 0 dX12_readProgram_13 rfl rfl ?_
        refine r_callVv hc hr mt_readStep rfl lm_X12_458 (ok_readStep hok hw) (Nat.le_of_ble_eq_true rfl) dX12_readProgram_14 rfl (rest := []) rfl (Nat.le_of_ble_eq_true rfl) (fun r1 R1 hw => ?_)
        refine m_aload_n hc 0 dX12_readProgram_17 rfl rfl ?_
        refine m_bipush hc 59 dX12_readProgram_18 (by decide) ?_
        refine r_callVi hc hr mt_isSign rfl lm_X12_452 (ok_isSign hok hw) (Nat.le_of_ble_eq_true rfl) dX12_readProgram_20 rfl (rest := []) rfl (Nat.le_of_ble_eq_true rfl) (fun r2 R2 hw => ?_)
        refine m_istore_n hc [(1, .int r2), (0, .ref G.2.2.1)] dX12_readProgram_23 rfl (Nat.le_of_ble_eq_true rfl) rfl ?_
        refine m_iload_n hc 0 dX12_readProgram_24 rfl rfl ?_
        refine m_if_eq hc 32 dX12_readProgram_25 rfl (fun cq => ?_) (fun cq => ?_)
        · have hw := hw.1 cq
          refine m_sub [1, 0] rfl ?_
          exact b_readProgram_32 hok hc hr K2 h2 r2 R2 hw
        · have hw := hw.2 cq
          refine m_aload_n hc 1 dX12_readProgram_28 rfl rfl ?_
          refine r_callVv hc hr mt_pass rfl lm_X12_443 (ok_pass hok hw) (Nat.le_of_ble_eq_true rfl) dX12_readProgram_29 rfl (rest := []) rfl (Nat.le_of_ble_eq_true rfl) (fun r3 R3 hw => ?_)
          refine m_sub [1, 0] rfl ?_
          exact b_readProgram_32 hok hc hr K2 h2 r2 R3 hw
def wp_readProgram (R : RS) (K : Int32 → RS → Prop) : Prop := ∃ nn : Nat, wl_readProgram_2 K nn 1 R
set_option maxHeartbeats 4000000 in
set_option maxRecDepth 100000 in
theorem ok_readProgram {G : RG} (hok : okG G) {R : RS} {K : Int32 → RS → Prop} (hw : wp_readProgram R K) : CF 6 yX12_readProgram cX12_readProgram 2 none [.ref G.2.2.1] G R K := by
  refine CF.of (by decide +kernel) hok (Nat.le_of_ble_eq_true rfl) (fun X hc hr => ?_)
  show MR G X 2 R 0 [(0, .ref G.2.2.1)] []
  unfold wp_readProgram at hw
  refine m_iconst hc 1 dX12_readProgram_0 (by decide) ?_
  refine m_istore_n hc [(1, .int 1), (0, .ref G.2.2.1)] dX12_readProgram_1 rfl (Nat.le_of_ble_eq_true rfl) rfl ?_
  refine m_sub [1, 0] rfl ?_
  obtain ⟨nn, hw⟩ := hw
  exact l_readProgram_2 hok hc hr nn 1 R hw
def wb_tell_80 (K80 : Int32 → Int32 → RS → Prop) (K : Int32 → RS → Prop) (x1 x3 : Int32) (R : RS) : Prop := ((R 0 38) ≤ x3 → wp_takesProgram R (fun r1 R1 => wp_become x1 ((6 + (R1 0 37)) - 1) R1 (fun r2 R2 => K r2 R2))) ∧ (¬ ((R 0 38) ≤ x3) → wp_makesStep x3 R (fun r3 R3 => (¬ r3 = 0 → K80 x1 (x3 + 1) R3) ∧ (r3 = 0 → K (-2) R3)))
def wl_tell_80 (K : Int32 → RS → Prop) : Nat → Int32 → Int32 → RS → Prop
  | 0 => fun _ _ _ => False
  | nn + 1 => wb_tell_80 (wl_tell_80 K nn) K
set_option maxHeartbeats 4000000 in
set_option maxRecDepth 100000 in
theorem l_tell_80 {G : RG} {X : Fx} {K : Int32 → RS → Prop} (hok : okG G) (hc : Cx X RX12 cX12_tell 4) (hr : Cr G 7 (some .int) K X) : ∀ (nn : Nat) (x1 x3 : Int32) (R : RS), wl_tell_80 K nn x1 x3 R → MR G X 4 R 80 [(0, .ref G.2.2.1), (1, .int x1), (3, .int x3)] [] := by
  intro nn
  induction nn with
  | zero => intro x1 x3 R hw; exact False.elim hw
  | succ nn ih =>
    intro x1 x3 R hw
    have hw : wb_tell_80 (wl_tell_80 K nn) K x1 x3 R := hw
    have h80 := ih
    generalize wl_tell_80 K nn = K80 at hw h80
    unfold wb_tell_80 at hw
    refine m_iload_n hc 2 dX12_tell_80 rfl rfl ?_
    refine m_aload_n hc 0 dX12_tell_81 rfl rfl ?_
    refine r_geti hc hr 38 dX12_tell_82 lf_X12_369 (Nat.le_of_ble_eq_true rfl) rfl ?_
    refine m_icmp_ge hc 105 dX12_tell_85 rfl (fun cq => ?_) (fun cq => ?_)
    · have hw := hw.1 cq
      refine m_aload_n hc 0 dX12_tell_105 rfl rfl ?_
      refine r_callVv hc hr mt_takesProgram rfl lm_X12_387 (ok_takesProgram hok hw) (Nat.le_of_ble_eq_true rfl) dX12_tell_106 rfl (rest := []) rfl (Nat.le_of_ble_eq_true rfl) (fun r1 R1 hw => ?_)
      refine m_aload_n hc 0 dX12_tell_109 rfl rfl ?_
      refine m_iload_n hc 1 dX12_tell_110 rfl rfl ?_
      refine m_bipush hc 6 dX12_tell_111 (by decide) ?_
      refine m_aload_n hc 0 dX12_tell_113 rfl rfl ?_
      refine r_geti hc hr 37 dX12_tell_114 lf_X12_194 (Nat.le_of_ble_eq_true rfl) rfl ?_
      refine m_iadd hc dX12_tell_117 ?_
      refine m_iconst hc 1 dX12_tell_118 (by decide) ?_
      refine m_isub hc dX12_tell_119 ?_
      refine r_callVi hc hr mt_become rfl lm_X12_275 (ok_become hok hw) (Nat.le_of_ble_eq_true rfl) dX12_tell_120 rfl (rest := []) rfl (Nat.le_of_ble_eq_true rfl) (fun r2 R2 hw => ?_)
      exact r_iret hc hr dX12_tell_123 hw
    · have hw := hw.2 cq
      refine m_aload_n hc 0 dX12_tell_88 rfl rfl ?_
      refine m_iload_n hc 2 dX12_tell_89 rfl rfl ?_
      refine r_callVi hc hr mt_makesStep rfl lm_X12_384 (ok_makesStep hok hw) (Nat.le_of_ble_eq_true rfl) dX12_tell_90 rfl (rest := []) rfl (Nat.le_of_ble_eq_true rfl) (fun r3 R3 hw => ?_)
      refine m_if_ne hc 99 dX12_tell_93 rfl (fun cq => ?_) (fun cq => ?_)
      · have hw := hw.1 cq
        refine m_iinc hc 2 (x3 + 1) [(3, .int (x3 + 1)), (0, .ref G.2.2.1), (1, .int x1)] dX12_tell_99 rfl rfl (Nat.le_of_ble_eq_true rfl) rfl ?_
        refine m_goto hc 80 dX12_tell_102 rfl ?_
        refine m_sub [1, 2, 0] rfl ?_
        exact h80 x1 (x3 + 1) R3 hw
      · have hw := hw.2 cq
        refine m_bipush hc (-2) dX12_tell_96 (by decide) ?_
        exact r_iret hc hr dX12_tell_98 hw
def w_tell_60 (K : Int32 → RS → Prop) (x1 s0 : Int32) (R : RS) : Prop := (((up R 0 51 s0) 0 49) = 0 → ∃ nn : Nat, wl_tell_80 K nn x1 0 (up R 0 51 s0)) ∧ (¬ (((up R 0 51 s0) 0 49) = 0) → K ((-10) - ((up R 0 51 s0) 0 49)) (up R 0 51 s0))
set_option maxHeartbeats 4000000 in
set_option maxRecDepth 100000 in
theorem b_tell_60 {G : RG} {X : Fx} {K : Int32 → RS → Prop} (hok : okG G) (hc : Cx X RX12 cX12_tell 4) (hr : Cr G 7 (some .int) K X) : ∀ (x1 s0 : Int32) (R : RS), w_tell_60 K x1 s0 R → MR G X 4 R 60 [(0, .ref G.2.2.1), (1, .int x1)] [.int s0, .ref G.2.2.1] := by
  intro x1 s0 R hw
  unfold w_tell_60 at hw
  refine r_put hc hr 51 dX12_tell_60 lf_X12_113 (Nat.le_of_ble_eq_true rfl) rfl rfl (by decide +kernel) ?_
  refine m_aload_n hc 0 dX12_tell_63 rfl rfl ?_
  refine r_geti hc hr 49 dX12_tell_64 lf_X12_378 (Nat.le_of_ble_eq_true rfl) rfl ?_
  refine m_if_eq hc 78 dX12_tell_67 rfl (fun cq => ?_) (fun cq => ?_)
  · have hw := hw.1 cq
    refine m_iconst hc 0 dX12_tell_78 (by decide) ?_
    refine m_istore_n hc [(3, .int 0), (0, .ref G.2.2.1), (1, .int x1)] dX12_tell_79 rfl (Nat.le_of_ble_eq_true rfl) rfl ?_
    refine m_sub [1, 2, 0] rfl ?_
    obtain ⟨nn, hw⟩ := hw
    exact l_tell_80 hok hc hr nn x1 0 (up R 0 51 s0) hw
  · have hw := hw.2 cq
    refine m_bipush hc (-10) dX12_tell_70 (by decide) ?_
    refine m_aload_n hc 0 dX12_tell_72 rfl rfl ?_
    refine r_geti hc hr 49 dX12_tell_73 lf_X12_378 (Nat.le_of_ble_eq_true rfl) rfl ?_
    refine m_isub hc dX12_tell_76 ?_
    exact r_iret hc hr dX12_tell_77 hw
def w_tell_24 (K : Int32 → RS → Prop) (R : RS) : Prop := wp_fail 1 R (fun r1 R1 => K r1 R1)
set_option maxHeartbeats 4000000 in
set_option maxRecDepth 100000 in
theorem b_tell_24 {G : RG} {X : Fx} {K : Int32 → RS → Prop} (hok : okG G) (hc : Cx X RX12 cX12_tell 4) (hr : Cr G 7 (some .int) K X) : ∀ (R : RS), w_tell_24 K R → MR G X 4 R 24 [(0, .ref G.2.2.1)] [] := by
  intro R hw
  unfold w_tell_24 at hw
  refine m_aload_n hc 0 dX12_tell_24 rfl rfl ?_
  refine m_iconst hc 1 dX12_tell_25 (by decide) ?_
  refine r_callVi hc hr mt_fail rfl lm_X12_317 (ok_fail hok hw) (Nat.le_of_ble_eq_true rfl) dX12_tell_26 rfl (rest := []) rfl (Nat.le_of_ble_eq_true rfl) (fun r1 R1 hw => ?_)
  exact r_iret hc hr dX12_tell_29 hw
def wp_tell (x1 x2 : Int32) (R : RS) (K : Int32 → RS → Prop) : Prop := wp_isPlace x1 (up R 0 0 0) (fun r1 R1 => (r1 = 0 → w_tell_24 K R1) ∧ (¬ (r1 = 0) → (x2 < 0 → w_tell_24 K R1) ∧ (¬ (x2 < 0) → (x2 ≤ (R1 0 43) → wp_opens x2 R1 (fun r2 R2 => wp_readProgram R2 (fun r3 R3 => (¬ ((up R3 0 43 0) 0 49) = 0 → w_tell_60 K x1 ((up R3 0 43 0) 0 50) (up R3 0 43 0)) ∧ (((up R3 0 43 0) 0 49) = 0 → w_tell_60 K x1 (-1) (up R3 0 43 0))))) ∧ (¬ (x2 ≤ (R1 0 43)) → w_tell_24 K R1))))
set_option maxHeartbeats 4000000 in
set_option maxRecDepth 100000 in
theorem ok_tell {G : RG} (hok : okG G) {x1 : Int32} {x2 : Int32} {R : RS} {K : Int32 → RS → Prop} (hw : wp_tell x1 x2 R K) : CF 7 yX12_tell cX12_tell 4 (some .int) [.ref G.2.2.1, .int x1, .int x2] G R K := by
  refine CF.of (by decide +kernel) hok (Nat.le_of_ble_eq_true rfl) (fun X hc hr => ?_)
  show MR G X 4 R 0 [(0, .ref G.2.2.1), (1, .int x1), (2, .int x2)] []
  unfold wp_tell at hw
  refine m_aload_n hc 0 dX12_tell_0 rfl rfl ?_
  refine m_iconst hc 0 dX12_tell_1 (by decide) ?_
  refine r_put hc hr 0 dX12_tell_2 lf_X12_116 (Nat.le_of_ble_eq_true rfl) rfl rfl (by decide +kernel) ?_
  refine m_iload_n hc 1 dX12_tell_5 rfl rfl ?_
  refine r_callSi hc hr mt_isPlace lm_X12_265 (ok_isPlace hok hw) (Nat.le_of_ble_eq_true rfl) dX12_tell_6 rfl (rest := []) rfl (Nat.le_of_ble_eq_true rfl) (fun r1 R1 hw => ?_)
  refine m_if_eq hc 24 dX12_tell_9 rfl (fun cq => ?_) (fun cq => ?_)
  · have hw := hw.1 cq
    refine m_sub [0] rfl ?_
    exact b_tell_24 hok hc hr R1 hw
  · have hw := hw.2 cq
    refine m_iload_n hc 2 dX12_tell_12 rfl rfl ?_
    refine m_if_lt hc 24 dX12_tell_13 rfl (fun cq => ?_) (fun cq => ?_)
    · have hw := hw.1 cq
      refine m_sub [0] rfl ?_
      exact b_tell_24 hok hc hr R1 hw
    · have hw := hw.2 cq
      refine m_iload_n hc 2 dX12_tell_16 rfl rfl ?_
      refine m_aload_n hc 0 dX12_tell_17 rfl rfl ?_
      refine r_geti hc hr 43 dX12_tell_18 lf_X12_311 (Nat.le_of_ble_eq_true rfl) rfl ?_
      refine m_icmp_le hc 30 dX12_tell_21 rfl (fun cq => ?_) (fun cq => ?_)
      · have hw := hw.1 cq
        refine m_aload_n hc 0 dX12_tell_30 rfl rfl ?_
        refine m_iload_n hc 2 dX12_tell_31 rfl rfl ?_
        refine r_callVv hc hr mt_opens rfl lm_X12_372 (ok_opens hok hw) (Nat.le_of_ble_eq_true rfl) dX12_tell_32 rfl (rest := []) rfl (Nat.le_of_ble_eq_true rfl) (fun r2 R2 hw => ?_)
        refine m_aload_n hc 0 dX12_tell_35 rfl rfl ?_
        refine r_callVv hc hr mt_readProgram rfl lm_X12_375 (ok_readProgram hok hw) (Nat.le_of_ble_eq_true rfl) dX12_tell_36 rfl (rest := []) rfl (Nat.le_of_ble_eq_true rfl) (fun r3 R3 hw => ?_)
        refine m_aload_n hc 0 dX12_tell_39 rfl rfl ?_
        refine m_iconst hc 0 dX12_tell_40 (by decide) ?_
        refine r_put hc hr 43 dX12_tell_41 lf_X12_311 (Nat.le_of_ble_eq_true rfl) rfl rfl (by decide +kernel) ?_
        refine m_aload_n hc 0 dX12_tell_44 rfl rfl ?_
        refine m_aload_n hc 0 dX12_tell_45 rfl rfl ?_
        refine r_geti hc hr 49 dX12_tell_46 lf_X12_378 (Nat.le_of_ble_eq_true rfl) rfl ?_
        refine m_if_ne hc 56 dX12_tell_49 rfl (fun cq => ?_) (fun cq => ?_)
        · have hw := hw.1 cq
          refine m_aload_n hc 0 dX12_tell_56 rfl rfl ?_
          refine r_geti hc hr 50 dX12_tell_57 lf_X12_381 (Nat.le_of_ble_eq_true rfl) rfl ?_
          refine m_sub [0, 1] rfl ?_
          exact b_tell_60 hok hc hr x1 ((up R3 0 43 0) 0 50) (up R3 0 43 0) hw
        · have hw := hw.2 cq
          refine m_iconst hc (-1) dX12_tell_52 (by decide) ?_
          refine m_goto hc 60 dX12_tell_53 rfl ?_
          refine m_sub [0, 1] rfl ?_
          exact b_tell_60 hok hc hr x1 (-1) (up R3 0 43 0) hw
      · have hw := hw.2 cq
        refine m_sub [0] rfl ?_
        exact b_tell_24 hok hc hr R1 hw
def wp_isName (x1 : Int32) (R : RS) (K : Int32 → RS → Prop) : Prop := vp_in x1 46 ∧ (¬ (R 31 (Int32.toNatClampNeg x1)) = 2 → K 0 R) ∧ ((R 31 (Int32.toNatClampNeg x1)) = 2 → ((iRem x1 2) = 0 → K 1 R) ∧ (¬ ((iRem x1 2) = 0) → vp_in (x1 / 2) 23 ∧ ((R 30 (Int32.toNatClampNeg (x1 / 2))) = 0 → K 0 R) ∧ (¬ ((R 30 (Int32.toNatClampNeg (x1 / 2))) = 0) → vp_in (x1 / 2) 23 ∧ ((R 30 (Int32.toNatClampNeg (x1 / 2))) = 94 → K 0 R) ∧ (¬ ((R 30 (Int32.toNatClampNeg (x1 / 2))) = 94) → K 1 R))))
set_option maxHeartbeats 4000000 in
set_option maxRecDepth 100000 in
theorem ok_isName {G : RG} (hok : okG G) {x1 : Int32} {R : RS} {K : Int32 → RS → Prop} (hw : wp_isName x1 R K) : CF 0 yX12_isName cX12_isName 2 (some .boolean) [.ref G.2.2.1, .int x1] G R K := by
  refine CF.of (by decide +kernel) hok (Nat.le_of_ble_eq_true rfl) (fun X hc hr => ?_)
  show MR G X 2 R 0 [(0, .ref G.2.2.1), (1, .int x1)] []
  unfold wp_isName at hw
  refine m_aload_n hc 0 dX12_isName_0 rfl rfl ?_
  refine r_geta hc hr 31 dX12_isName_1 lf_X12_83 (Nat.le_of_ble_eq_true rfl) rfl ?_
  refine m_iload_n hc 1 dX12_isName_4 rfl rfl ?_
  obtain ⟨hi, hw⟩ := hw
  refine r_iald hc hr (i := 22) (f := 31) rfl hi dX12_isName_5 ?_
  refine m_iconst hc 2 dX12_isName_6 (by decide) ?_
  refine m_icmp_ne hc 44 dX12_isName_7 rfl (fun cq => ?_) (fun cq => ?_)
  · have hw := hw.1 cq
    refine m_iconst hc 0 dX12_isName_44 (by decide) ?_
    exact r_zret hc hr dX12_isName_45 (by decide) hw
  · have hw := hw.2 cq
    refine m_iload_n hc 1 dX12_isName_10 rfl rfl ?_
    refine m_iconst hc 2 dX12_isName_11 (by decide) ?_
    refine m_irem hc dX12_isName_12 (by decide) ?_
    refine m_if_eq hc 40 dX12_isName_13 rfl (fun cq => ?_) (fun cq => ?_)
    · have hw := hw.1 cq
      refine m_iconst hc 1 dX12_isName_40 (by decide) ?_
      refine m_goto hc 45 dX12_isName_41 rfl ?_
      exact r_zret hc hr dX12_isName_45 (by decide) hw
    · have hw := hw.2 cq
      refine m_aload_n hc 0 dX12_isName_16 rfl rfl ?_
      refine r_geta hc hr 30 dX12_isName_17 lf_X12_80 (Nat.le_of_ble_eq_true rfl) rfl ?_
      refine m_iload_n hc 1 dX12_isName_20 rfl rfl ?_
      refine m_iconst hc 2 dX12_isName_21 (by decide) ?_
      refine m_idiv hc dX12_isName_22 (by decide) ?_
      obtain ⟨hi, hw⟩ := hw
      refine r_iald hc hr (i := 21) (f := 30) rfl hi dX12_isName_23 ?_
      refine m_if_eq hc 44 dX12_isName_24 rfl (fun cq => ?_) (fun cq => ?_)
      · have hw := hw.1 cq
        refine m_iconst hc 0 dX12_isName_44 (by decide) ?_
        exact r_zret hc hr dX12_isName_45 (by decide) hw
      · have hw := hw.2 cq
        refine m_aload_n hc 0 dX12_isName_27 rfl rfl ?_
        refine r_geta hc hr 30 dX12_isName_28 lf_X12_80 (Nat.le_of_ble_eq_true rfl) rfl ?_
        refine m_iload_n hc 1 dX12_isName_31 rfl rfl ?_
        refine m_iconst hc 2 dX12_isName_32 (by decide) ?_
        refine m_idiv hc dX12_isName_33 (by decide) ?_
        obtain ⟨hi, hw⟩ := hw
        refine r_iald hc hr (i := 21) (f := 30) rfl hi dX12_isName_34 ?_
        refine m_bipush hc 94 dX12_isName_35 (by decide) ?_
        refine m_icmp_eq hc 44 dX12_isName_37 rfl (fun cq => ?_) (fun cq => ?_)
        · have hw := hw.1 cq
          refine m_iconst hc 0 dX12_isName_44 (by decide) ?_
          exact r_zret hc hr dX12_isName_45 (by decide) hw
        · have hw := hw.2 cq
          refine m_iconst hc 1 dX12_isName_40 (by decide) ?_
          refine m_goto hc 45 dX12_isName_41 rfl ?_
          exact r_zret hc hr dX12_isName_45 (by decide) hw
def w_has_22 (K : Int32 → RS → Prop) (x1 x2 : Int32) (R : RS) : Prop := wp_isName ((2 * x1) + 1) R (fun r1 R1 => (r1 = 0 → K 0 R1) ∧ (¬ (r1 = 0) → vp_in ((2 * x1) + 1) 46 ∧ (¬ (R1 32 (Int32.toNatClampNeg ((2 * x1) + 1))) = x2 → K 0 R1) ∧ ((R1 32 (Int32.toNatClampNeg ((2 * x1) + 1))) = x2 → K 1 R1)))
set_option maxHeartbeats 4000000 in
set_option maxRecDepth 100000 in
theorem b_has_22 {G : RG} {X : Fx} {K : Int32 → RS → Prop} (hok : okG G) (hc : Cx X RX12 cX12_has 3) (hr : Cr G 1 (some .boolean) K X) : ∀ (x1 x2 : Int32) (R : RS), w_has_22 K x1 x2 R → MR G X 3 R 22 [(0, .ref G.2.2.1), (1, .int x1), (2, .int x2)] [] := by
  intro x1 x2 R hw
  unfold w_has_22 at hw
  refine m_aload_n hc 0 dX12_has_22 rfl rfl ?_
  refine m_iconst hc 2 dX12_has_23 (by decide) ?_
  refine m_iload_n hc 1 dX12_has_24 rfl rfl ?_
  refine m_imul hc dX12_has_25 ?_
  refine m_iconst hc 1 dX12_has_26 (by decide) ?_
  refine m_iadd hc dX12_has_27 ?_
  refine r_callVi hc hr mt_isName rfl lm_X12_390 (ok_isName hok hw) (Nat.le_of_ble_eq_true rfl) dX12_has_28 rfl (rest := []) rfl (Nat.le_of_ble_eq_true rfl) (fun r1 R1 hw => ?_)
  refine m_if_eq hc 52 dX12_has_31 rfl (fun cq => ?_) (fun cq => ?_)
  · have hw := hw.1 cq
    refine m_iconst hc 0 dX12_has_52 (by decide) ?_
    exact r_zret hc hr dX12_has_53 (by decide) hw
  · have hw := hw.2 cq
    refine m_aload_n hc 0 dX12_has_34 rfl rfl ?_
    refine r_geta hc hr 32 dX12_has_35 lf_X12_86 (Nat.le_of_ble_eq_true rfl) rfl ?_
    refine m_iconst hc 2 dX12_has_38 (by decide) ?_
    refine m_iload_n hc 1 dX12_has_39 rfl rfl ?_
    refine m_imul hc dX12_has_40 ?_
    refine m_iconst hc 1 dX12_has_41 (by decide) ?_
    refine m_iadd hc dX12_has_42 ?_
    obtain ⟨hi, hw⟩ := hw
    refine r_iald hc hr (i := 23) (f := 32) rfl hi dX12_has_43 ?_
    refine m_iload_n hc 2 dX12_has_44 rfl rfl ?_
    refine m_icmp_ne hc 52 dX12_has_45 rfl (fun cq => ?_) (fun cq => ?_)
    · have hw := hw.1 cq
      refine m_iconst hc 0 dX12_has_52 (by decide) ?_
      exact r_zret hc hr dX12_has_53 (by decide) hw
    · have hw := hw.2 cq
      refine m_iconst hc 1 dX12_has_48 (by decide) ?_
      refine m_goto hc 53 dX12_has_49 rfl ?_
      exact r_zret hc hr dX12_has_53 (by decide) hw
def wp_has (x1 x2 : Int32) (R : RS) (K : Int32 → RS → Prop) : Prop := wp_isName (2 * x1) R (fun r1 R1 => (r1 = 0 → w_has_22 K x1 x2 R1) ∧ (¬ (r1 = 0) → vp_in (2 * x1) 46 ∧ ((R1 32 (Int32.toNatClampNeg (2 * x1))) = x2 → K 1 R1) ∧ (¬ ((R1 32 (Int32.toNatClampNeg (2 * x1))) = x2) → w_has_22 K x1 x2 R1)))
set_option maxHeartbeats 4000000 in
set_option maxRecDepth 100000 in
theorem ok_has {G : RG} (hok : okG G) {x1 : Int32} {x2 : Int32} {R : RS} {K : Int32 → RS → Prop} (hw : wp_has x1 x2 R K) : CF 1 yX12_has cX12_has 3 (some .boolean) [.ref G.2.2.1, .int x1, .int x2] G R K := by
  refine CF.of (by decide +kernel) hok (Nat.le_of_ble_eq_true rfl) (fun X hc hr => ?_)
  show MR G X 3 R 0 [(0, .ref G.2.2.1), (1, .int x1), (2, .int x2)] []
  unfold wp_has at hw
  refine m_aload_n hc 0 dX12_has_0 rfl rfl ?_
  refine m_iconst hc 2 dX12_has_1 (by decide) ?_
  refine m_iload_n hc 1 dX12_has_2 rfl rfl ?_
  refine m_imul hc dX12_has_3 ?_
  refine r_callVi hc hr mt_isName rfl lm_X12_390 (ok_isName hok hw) (Nat.le_of_ble_eq_true rfl) dX12_has_4 rfl (rest := []) rfl (Nat.le_of_ble_eq_true rfl) (fun r1 R1 hw => ?_)
  refine m_if_eq hc 22 dX12_has_7 rfl (fun cq => ?_) (fun cq => ?_)
  · have hw := hw.1 cq
    exact b_has_22 hok hc hr x1 x2 R1 hw
  · have hw := hw.2 cq
    refine m_aload_n hc 0 dX12_has_10 rfl rfl ?_
    refine r_geta hc hr 32 dX12_has_11 lf_X12_86 (Nat.le_of_ble_eq_true rfl) rfl ?_
    refine m_iconst hc 2 dX12_has_14 (by decide) ?_
    refine m_iload_n hc 1 dX12_has_15 rfl rfl ?_
    refine m_imul hc dX12_has_16 ?_
    obtain ⟨hi, hw⟩ := hw
    refine r_iald hc hr (i := 23) (f := 32) rfl hi dX12_has_17 ?_
    refine m_iload_n hc 2 dX12_has_18 rfl rfl ?_
    refine m_icmp_eq hc 48 dX12_has_19 rfl (fun cq => ?_) (fun cq => ?_)
    · have hw := hw.1 cq
      refine m_iconst hc 1 dX12_has_48 (by decide) ?_
      refine m_goto hc 53 dX12_has_49 rfl ?_
      exact r_zret hc hr dX12_has_53 (by decide) hw
    · have hw := hw.2 cq
      exact b_has_22 hok hc hr x1 x2 R1 hw
def wp_boundOfAtom (x1 : Int32) (R : RS) (K : Int32 → RS → Prop) : Prop := vp_in x1 46 ∧ (¬ (R 31 (Int32.toNatClampNeg x1)) = 0 → vp_in x1 46 ∧ (¬ (R 31 (Int32.toNatClampNeg x1)) = 1 → vp_in x1 46 ∧ vp_in (R 32 (Int32.toNatClampNeg x1)) 23 ∧ K (R 39 (Int32.toNatClampNeg (R 32 (Int32.toNatClampNeg x1)))) R) ∧ ((R 31 (Int32.toNatClampNeg x1)) = 1 → K 1 R)) ∧ ((R 31 (Int32.toNatClampNeg x1)) = 0 → K 0 R)
set_option maxHeartbeats 4000000 in
set_option maxRecDepth 100000 in
theorem ok_boundOfAtom {G : RG} (hok : okG G) {x1 : Int32} {R : RS} {K : Int32 → RS → Prop} (hw : wp_boundOfAtom x1 R K) : CF 0 yX12_boundOfAtom cX12_boundOfAtom 2 (some .int) [.ref G.2.2.1, .int x1] G R K := by
  refine CF.of (by decide +kernel) hok (Nat.le_of_ble_eq_true rfl) (fun X hc hr => ?_)
  show MR G X 2 R 0 [(0, .ref G.2.2.1), (1, .int x1)] []
  unfold wp_boundOfAtom at hw
  refine m_aload_n hc 0 dX12_boundOfAtom_0 rfl rfl ?_
  refine r_geta hc hr 31 dX12_boundOfAtom_1 lf_X12_83 (Nat.le_of_ble_eq_true rfl) rfl ?_
  refine m_iload_n hc 1 dX12_boundOfAtom_4 rfl rfl ?_
  obtain ⟨hi, hw⟩ := hw
  refine r_iald hc hr (i := 22) (f := 31) rfl hi dX12_boundOfAtom_5 ?_
  refine m_if_ne hc 13 dX12_boundOfAtom_6 rfl (fun cq => ?_) (fun cq => ?_)
  · have hw := hw.1 cq
    refine m_aload_n hc 0 dX12_boundOfAtom_13 rfl rfl ?_
    refine r_geta hc hr 31 dX12_boundOfAtom_14 lf_X12_83 (Nat.le_of_ble_eq_true rfl) rfl ?_
    refine m_iload_n hc 1 dX12_boundOfAtom_17 rfl rfl ?_
    obtain ⟨hi, hw⟩ := hw
    refine r_iald hc hr (i := 22) (f := 31) rfl hi dX12_boundOfAtom_18 ?_
    refine m_iconst hc 1 dX12_boundOfAtom_19 (by decide) ?_
    refine m_icmp_ne hc 27 dX12_boundOfAtom_20 rfl (fun cq => ?_) (fun cq => ?_)
    · have hw := hw.1 cq
      refine m_aload_n hc 0 dX12_boundOfAtom_27 rfl rfl ?_
      refine r_geta hc hr 39 dX12_boundOfAtom_28 lf_X12_101 (Nat.le_of_ble_eq_true rfl) rfl ?_
      refine m_aload_n hc 0 dX12_boundOfAtom_31 rfl rfl ?_
      refine r_geta hc hr 32 dX12_boundOfAtom_32 lf_X12_86 (Nat.le_of_ble_eq_true rfl) rfl ?_
      refine m_iload_n hc 1 dX12_boundOfAtom_35 rfl rfl ?_
      obtain ⟨hi, hw⟩ := hw
      refine r_iald hc hr (i := 23) (f := 32) rfl hi dX12_boundOfAtom_36 ?_
      obtain ⟨hi, hw⟩ := hw
      refine r_iald hc hr (i := 28) (f := 39) rfl hi dX12_boundOfAtom_37 ?_
      exact r_iret hc hr dX12_boundOfAtom_38 hw
    · have hw := hw.2 cq
      refine m_iconst hc 1 dX12_boundOfAtom_23 (by decide) ?_
      refine m_goto hc 38 dX12_boundOfAtom_24 rfl ?_
      exact r_iret hc hr dX12_boundOfAtom_38 hw
  · have hw := hw.2 cq
    refine m_iconst hc 0 dX12_boundOfAtom_9 (by decide) ?_
    refine m_goto hc 38 dX12_boundOfAtom_10 rfl ?_
    exact r_iret hc hr dX12_boundOfAtom_38 hw
def w_boundOf_100 (K2 : Int32 → Int32 → RS → Prop) (K : Int32 → RS → Prop) (x1 x2 s0 : Int32) (R : RS) : Prop := vp_in x2 23 ∧ K2 x1 (x2 + 1) (up R 39 (Int32.toNatClampNeg x2) (if s0 < 999999 then s0 else 999999))
set_option maxHeartbeats 4000000 in
set_option maxRecDepth 100000 in
theorem b_boundOf_100 {G : RG} {X : Fx} {K : Int32 → RS → Prop} (hok : okG G) (hc : Cx X RX12 cX12_boundOf 6) (hr : Cr G 1 (some .int) K X) (K2 : Int32 → Int32 → RS → Prop) (h2 : ∀ (x1 x2 : Int32) (R : RS), K2 x1 x2 R → MR G X 6 R 2 [(0, .ref G.2.2.1), (1, .int x1), (2, .int x2)] []) : ∀ (x1 x2 s0 : Int32) (R : RS), w_boundOf_100 K2 K x1 x2 s0 R → MR G X 6 R 100 [(0, .ref G.2.2.1), (1, .int x1), (2, .int x2)] [.int s0] := by
  intro x1 x2 s0 R hw
  unfold w_boundOf_100 at hw
  refine m_istore hc [(5, .int s0), (0, .ref G.2.2.1), (1, .int x1), (2, .int x2)] dX12_boundOf_100 (Nat.le_of_ble_eq_true rfl) rfl ?_
  refine m_aload_n hc 1 dX12_boundOf_102 rfl rfl ?_
  refine r_geta hc hr 39 dX12_boundOf_103 lf_X12_101 (Nat.le_of_ble_eq_true rfl) rfl ?_
  refine m_iload_n hc 3 dX12_boundOf_106 rfl rfl ?_
  refine m_ldc_w hc dX12_boundOf_107 lc_X12_396 ?_
  refine m_iload hc 0 dX12_boundOf_110 rfl ?_
  refine m_mmin hc dX12_boundOf_112 lm_X12_336 lM_min (r_room hr) (Nat.le_of_ble_eq_true rfl) ?_
  obtain ⟨hi, hw⟩ := hw
  refine r_iast hc hr (i := 28) (f := 39) rfl hi dX12_boundOf_115 ?_
  refine m_iinc hc 3 (x2 + 1) [(2, .int (x2 + 1)), (5, .int s0), (0, .ref G.2.2.1), (1, .int x1)] dX12_boundOf_116 rfl rfl (Nat.le_of_ble_eq_true rfl) rfl ?_
  refine m_goto hc 2 dX12_boundOf_119 rfl ?_
  refine m_sub [2, 3, 0] rfl ?_
  exact h2 x1 (x2 + 1) (up R 39 (Int32.toNatClampNeg x2) (if s0 < 999999 then s0 else 999999)) hw
def w_boundOf_48 (K2 : Int32 → Int32 → RS → Prop) (K : Int32 → RS → Prop) (x1 x2 x3 s0 : Int32) (R : RS) : Prop := vp_in x2 23 ∧ (¬ (R 30 (Int32.toNatClampNeg x2)) = 94 → vp_in x2 23 ∧ (¬ (R 30 (Int32.toNatClampNeg x2)) = 42 → w_boundOf_100 K2 K x1 x2 (if x3 < s0 then s0 else x3) R) ∧ ((R 30 (Int32.toNatClampNeg x2)) = 42 → w_boundOf_100 K2 K x1 x2 (x3 + s0) R)) ∧ ((R 30 (Int32.toNatClampNeg x2)) = 94 → vp_in ((2 * x2) + 1) 46 ∧ w_boundOf_100 K2 K x1 x2 (x3 * (R 32 (Int32.toNatClampNeg ((2 * x2) + 1)))) R)
set_option maxHeartbeats 4000000 in
set_option maxRecDepth 100000 in
theorem b_boundOf_48 {G : RG} {X : Fx} {K : Int32 → RS → Prop} (hok : okG G) (hc : Cx X RX12 cX12_boundOf 6) (hr : Cr G 1 (some .int) K X) (K2 : Int32 → Int32 → RS → Prop) (h2 : ∀ (x1 x2 : Int32) (R : RS), K2 x1 x2 R → MR G X 6 R 2 [(0, .ref G.2.2.1), (1, .int x1), (2, .int x2)] []) : ∀ (x1 x2 x3 s0 : Int32) (R : RS), w_boundOf_48 K2 K x1 x2 x3 s0 R → MR G X 6 R 48 [(0, .ref G.2.2.1), (1, .int x1), (2, .int x2), (3, .int x3)] [.int s0] := by
  intro x1 x2 x3 s0 R hw
  unfold w_boundOf_48 at hw
  refine m_istore hc [(4, .int s0), (0, .ref G.2.2.1), (1, .int x1), (2, .int x2), (3, .int x3)] dX12_boundOf_48 (Nat.le_of_ble_eq_true rfl) rfl ?_
  refine m_aload_n hc 1 dX12_boundOf_50 rfl rfl ?_
  refine r_geta hc hr 30 dX12_boundOf_51 lf_X12_80 (Nat.le_of_ble_eq_true rfl) rfl ?_
  refine m_iload_n hc 3 dX12_boundOf_54 rfl rfl ?_
  obtain ⟨hi, hw⟩ := hw
  refine r_iald hc hr (i := 21) (f := 30) rfl hi dX12_boundOf_55 ?_
  refine m_bipush hc 94 dX12_boundOf_56 (by decide) ?_
  refine m_icmp_ne hc 76 dX12_boundOf_58 rfl (fun cq => ?_) (fun cq => ?_)
  · have hw := hw.1 cq
    refine m_aload_n hc 1 dX12_boundOf_76 rfl rfl ?_
    refine r_geta hc hr 30 dX12_boundOf_77 lf_X12_80 (Nat.le_of_ble_eq_true rfl) rfl ?_
    refine m_iload_n hc 3 dX12_boundOf_80 rfl rfl ?_
    obtain ⟨hi, hw⟩ := hw
    refine r_iald hc hr (i := 21) (f := 30) rfl hi dX12_boundOf_81 ?_
    refine m_bipush hc 42 dX12_boundOf_82 (by decide) ?_
    refine m_icmp_ne hc 94 dX12_boundOf_84 rfl (fun cq => ?_) (fun cq => ?_)
    · have hw := hw.1 cq
      refine m_iload_n hc 4 dX12_boundOf_94 rfl rfl ?_
      refine m_iload hc 0 dX12_boundOf_95 rfl ?_
      refine m_mmax hc dX12_boundOf_97 lm_X12_133 lM_max (r_room hr) (Nat.le_of_ble_eq_true rfl) ?_
      refine m_sub [1, 2, 3] rfl ?_
      exact b_boundOf_100 hok hc hr K2 h2 x1 x2 (if x3 < s0 then s0 else x3) R hw
    · have hw := hw.2 cq
      refine m_iload_n hc 4 dX12_boundOf_87 rfl rfl ?_
      refine m_iload hc 0 dX12_boundOf_88 rfl ?_
      refine m_iadd hc dX12_boundOf_90 ?_
      refine m_goto hc 100 dX12_boundOf_91 rfl ?_
      refine m_sub [1, 2, 3] rfl ?_
      exact b_boundOf_100 hok hc hr K2 h2 x1 x2 (x3 + s0) R hw
  · have hw := hw.2 cq
    refine m_iload_n hc 4 dX12_boundOf_61 rfl rfl ?_
    refine m_aload_n hc 1 dX12_boundOf_62 rfl rfl ?_
    refine r_geta hc hr 32 dX12_boundOf_63 lf_X12_86 (Nat.le_of_ble_eq_true rfl) rfl ?_
    refine m_iconst hc 2 dX12_boundOf_66 (by decide) ?_
    refine m_iload_n hc 3 dX12_boundOf_67 rfl rfl ?_
    refine m_imul hc dX12_boundOf_68 ?_
    refine m_iconst hc 1 dX12_boundOf_69 (by decide) ?_
    refine m_iadd hc dX12_boundOf_70 ?_
    obtain ⟨hi, hw⟩ := hw
    refine r_iald hc hr (i := 23) (f := 32) rfl hi dX12_boundOf_71 ?_
    refine m_imul hc dX12_boundOf_72 ?_
    refine m_goto hc 100 dX12_boundOf_73 rfl ?_
    refine m_sub [1, 2, 3] rfl ?_
    exact b_boundOf_100 hok hc hr K2 h2 x1 x2 (x3 * (R 32 (Int32.toNatClampNeg ((2 * x2) + 1)))) R hw
def wb_boundOf_2 (K2 : Int32 → Int32 → RS → Prop) (K : Int32 → RS → Prop) (x1 x2 : Int32) (R : RS) : Prop := (x1 < x2 → vp_in x1 23 ∧ K (R 39 (Int32.toNatClampNeg x1)) R) ∧ (¬ (x1 < x2) → wp_boundOfAtom (2 * x2) R (fun r1 R1 => vp_in x2 23 ∧ ((R1 30 (Int32.toNatClampNeg x2)) = 0 → w_boundOf_48 K2 K x1 x2 r1 0 R1) ∧ (¬ ((R1 30 (Int32.toNatClampNeg x2)) = 0) → vp_in x2 23 ∧ (¬ (R1 30 (Int32.toNatClampNeg x2)) = 94 → wp_boundOfAtom ((2 * x2) + 1) R1 (fun r2 R2 => w_boundOf_48 K2 K x1 x2 r1 r2 R2)) ∧ ((R1 30 (Int32.toNatClampNeg x2)) = 94 → w_boundOf_48 K2 K x1 x2 r1 0 R1))))
def wl_boundOf_2 (K : Int32 → RS → Prop) : Nat → Int32 → Int32 → RS → Prop
  | 0 => fun _ _ _ => False
  | nn + 1 => wb_boundOf_2 (wl_boundOf_2 K nn) K
set_option maxHeartbeats 4000000 in
set_option maxRecDepth 100000 in
theorem l_boundOf_2 {G : RG} {X : Fx} {K : Int32 → RS → Prop} (hok : okG G) (hc : Cx X RX12 cX12_boundOf 6) (hr : Cr G 1 (some .int) K X) : ∀ (nn : Nat) (x1 x2 : Int32) (R : RS), wl_boundOf_2 K nn x1 x2 R → MR G X 6 R 2 [(0, .ref G.2.2.1), (1, .int x1), (2, .int x2)] [] := by
  intro nn
  induction nn with
  | zero => intro x1 x2 R hw; exact False.elim hw
  | succ nn ih =>
    intro x1 x2 R hw
    have hw : wb_boundOf_2 (wl_boundOf_2 K nn) K x1 x2 R := hw
    have h2 := ih
    generalize wl_boundOf_2 K nn = K2 at hw h2
    unfold wb_boundOf_2 at hw
    refine m_iload_n hc 2 dX12_boundOf_2 rfl rfl ?_
    refine m_iload_n hc 1 dX12_boundOf_3 rfl rfl ?_
    refine m_icmp_gt hc 122 dX12_boundOf_4 rfl (fun cq => ?_) (fun cq => ?_)
    · have hw := hw.1 cq
      refine m_aload_n hc 0 dX12_boundOf_122 rfl rfl ?_
      refine r_geta hc hr 39 dX12_boundOf_123 lf_X12_101 (Nat.le_of_ble_eq_true rfl) rfl ?_
      refine m_iload_n hc 1 dX12_boundOf_126 rfl rfl ?_
      obtain ⟨hi, hw⟩ := hw
      refine r_iald hc hr (i := 28) (f := 39) rfl hi dX12_boundOf_127 ?_
      exact r_iret hc hr dX12_boundOf_128 hw
    · have hw := hw.2 cq
      refine m_aload_n hc 0 dX12_boundOf_7 rfl rfl ?_
      refine m_iconst hc 2 dX12_boundOf_8 (by decide) ?_
      refine m_iload_n hc 2 dX12_boundOf_9 rfl rfl ?_
      refine m_imul hc dX12_boundOf_10 ?_
      refine r_callVi hc hr mt_boundOfAtom rfl lm_X12_393 (ok_boundOfAtom hok hw) (Nat.le_of_ble_eq_true rfl) dX12_boundOf_11 rfl (rest := []) rfl (Nat.le_of_ble_eq_true rfl) (fun r1 R1 hw => ?_)
      refine m_istore_n hc [(3, .int r1), (0, .ref G.2.2.1), (1, .int x1), (2, .int x2)] dX12_boundOf_14 rfl (Nat.le_of_ble_eq_true rfl) rfl ?_
      refine m_aload_n hc 1 dX12_boundOf_15 rfl rfl ?_
      refine r_geta hc hr 30 dX12_boundOf_16 lf_X12_80 (Nat.le_of_ble_eq_true rfl) rfl ?_
      refine m_iload_n hc 3 dX12_boundOf_19 rfl rfl ?_
      obtain ⟨hi, hw⟩ := hw
      refine r_iald hc hr (i := 21) (f := 30) rfl hi dX12_boundOf_20 ?_
      refine m_if_eq hc 35 dX12_boundOf_21 rfl (fun cq => ?_) (fun cq => ?_)
      · have hw := hw.1 cq
        refine m_iconst hc 0 dX12_boundOf_35 (by decide) ?_
        refine m_goto hc 48 dX12_boundOf_36 rfl ?_
        refine m_sub [1, 2, 3, 0] rfl ?_
        exact b_boundOf_48 hok hc hr K2 h2 x1 x2 r1 0 R1 hw
      · have hw := hw.2 cq
        refine m_aload_n hc 1 dX12_boundOf_24 rfl rfl ?_
        refine r_geta hc hr 30 dX12_boundOf_25 lf_X12_80 (Nat.le_of_ble_eq_true rfl) rfl ?_
        refine m_iload_n hc 3 dX12_boundOf_28 rfl rfl ?_
        obtain ⟨hi, hw⟩ := hw
        refine r_iald hc hr (i := 21) (f := 30) rfl hi dX12_boundOf_29 ?_
        refine m_bipush hc 94 dX12_boundOf_30 (by decide) ?_
        refine m_icmp_ne hc 39 dX12_boundOf_32 rfl (fun cq => ?_) (fun cq => ?_)
        · have hw := hw.1 cq
          refine m_aload_n hc 1 dX12_boundOf_39 rfl rfl ?_
          refine m_iconst hc 2 dX12_boundOf_40 (by decide) ?_
          refine m_iload_n hc 3 dX12_boundOf_41 rfl rfl ?_
          refine m_imul hc dX12_boundOf_42 ?_
          refine m_iconst hc 1 dX12_boundOf_43 (by decide) ?_
          refine m_iadd hc dX12_boundOf_44 ?_
          refine r_callVi hc hr mt_boundOfAtom rfl lm_X12_393 (ok_boundOfAtom hok hw) (Nat.le_of_ble_eq_true rfl) dX12_boundOf_45 rfl (rest := []) rfl (Nat.le_of_ble_eq_true rfl) (fun r2 R2 hw => ?_)
          refine m_sub [1, 2, 3, 0] rfl ?_
          exact b_boundOf_48 hok hc hr K2 h2 x1 x2 r1 r2 R2 hw
        · have hw := hw.2 cq
          refine m_iconst hc 0 dX12_boundOf_35 (by decide) ?_
          refine m_goto hc 48 dX12_boundOf_36 rfl ?_
          refine m_sub [1, 2, 3, 0] rfl ?_
          exact b_boundOf_48 hok hc hr K2 h2 x1 x2 r1 0 R1 hw
def wp_boundOf (x1 : Int32) (R : RS) (K : Int32 → RS → Prop) : Prop := ∃ nn : Nat, wl_boundOf_2 K nn x1 0 R
set_option maxHeartbeats 4000000 in
set_option maxRecDepth 100000 in
theorem ok_boundOf {G : RG} (hok : okG G) {x1 : Int32} {R : RS} {K : Int32 → RS → Prop} (hw : wp_boundOf x1 R K) : CF 1 yX12_boundOf cX12_boundOf 6 (some .int) [.ref G.2.2.1, .int x1] G R K := by
  refine CF.of (by decide +kernel) hok (Nat.le_of_ble_eq_true rfl) (fun X hc hr => ?_)
  show MR G X 6 R 0 [(0, .ref G.2.2.1), (1, .int x1)] []
  unfold wp_boundOf at hw
  refine m_iconst hc 0 dX12_boundOf_0 (by decide) ?_
  refine m_istore_n hc [(2, .int 0), (0, .ref G.2.2.1), (1, .int x1)] dX12_boundOf_1 rfl (Nat.le_of_ble_eq_true rfl) rfl ?_
  refine m_sub [1, 2, 0] rfl ?_
  obtain ⟨nn, hw⟩ := hw
  exact l_boundOf_2 hok hc hr nn x1 0 R hw
