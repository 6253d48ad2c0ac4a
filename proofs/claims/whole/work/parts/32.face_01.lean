def wp_X11_made (M : Nat × Nat) (x0 : Nat) (x1 : Int32) (x2 : Nat) (x3 : Int32) (S : HS) (K : Option Nat → HS → Prop) : Prop := ((Int32.toInt x1 < 0 ∨ 8 < Int32.toInt x1) → hT S x0 = 12 ∧ ∃ b1 : Nat, hP S x0 2 = some b1 ∧ hT S b1 = 10 ∧ wp_X9_turned M b1 x2 x3 S (fun r2 S2 => K r2 S2)) ∧ (x1 = 0 → hT S x0 = 12 ∧ ∃ b3 : Nat, hP S x0 2 = some b3 ∧ hT S x0 = 12 ∧ ∃ b4 : Nat, hP S x0 1 = some b4 ∧ hT S b4 = 23 ∧ vp_in x3 (hN S b4) ∧ ∃ b5 : Nat, hP S b4 (Int32.toNatClampNeg x3) = some b5 ∧ hT S b3 = 10 ∧ wp_X9_sum M b3 x2 b5 1 S (fun r6 S6 => K r6 S6)) ∧ (x1 = 1 → hT S x0 = 12 ∧ ∃ b7 : Nat, hP S x0 2 = some b7 ∧ hT S x0 = 12 ∧ ∃ b8 : Nat, hP S x0 1 = some b8 ∧ hT S b8 = 23 ∧ vp_in x3 (hN S b8) ∧ ∃ b9 : Nat, hP S b8 (Int32.toNatClampNeg x3) = some b9 ∧ hT S x0 = 12 ∧ ∃ b10 : Nat, hP S x0 2 = some b10 ∧ hT S b10 = 10 ∧ hT S b7 = 10 ∧ wp_X9_sum M b7 x2 b9 ((hI S b10 0) - 1) S (fun r11 S11 => K r11 S11)) ∧ (x1 = 2 → hT S x0 = 12 ∧ ∃ b12 : Nat, hP S x0 2 = some b12 ∧ hT S x0 = 12 ∧ ∃ b13 : Nat, hP S x0 1 = some b13 ∧ hT S b13 = 23 ∧ vp_in x3 (hN S b13) ∧ ∃ b14 : Nat, hP S b13 (Int32.toNatClampNeg x3) = some b14 ∧ hT S b12 = 10 ∧ wp_X9_product M b12 x2 b14 S (fun r15 S15 => K r15 S15)) ∧ (x1 = 3 → hT S x0 = 12 ∧ ∃ b16 : Nat, hP S x0 2 = some b16 ∧ hT S b16 = 10 ∧ wp_X9_derivative M b16 x2 x3 S (fun r17 S17 => K r17 S17)) ∧ (x1 = 4 → hT S x0 = 12 ∧ ∃ b18 : Nat, hP S x0 2 = some b18 ∧ hT S b18 = 10 ∧ wp_X9_power M b18 x2 x3 S (fun r19 S19 => K r19 S19)) ∧ (x1 = 5 → hT S x0 = 12 ∧ ∃ b20 : Nat, hP S x0 2 = some b20 ∧ hT S b20 = 10 ∧ wp_X9_part M b20 x2 x3 S (fun r21 S21 => K r21 S21)) ∧ (x1 = 6 → hT S x0 = 12 ∧ ∃ b22 : Nat, hP S x0 2 = some b22 ∧ hT S b22 = 10 ∧ wp_X9_reduced M b22 x2 S (fun r23 S23 => K r23 S23)) ∧ (x1 = 7 → hT S x0 = 12 ∧ ∃ b24 : Nat, hP S x0 4 = some b24 ∧ hT S x0 = 12 ∧ ∃ b25 : Nat, hP S x0 2 = some b25 ∧ hT S b25 = 10 ∧ hT S b24 = 3 ∧ wp_X2_find M b24 x2 (hI S b25 0) S (fun r26 S26 => hT S26 x0 = 12 ∧ ∃ b27 : Nat, hP S26 x0 4 = some b27 ∧ hT S26 b27 = 3 ∧ wp_X2_rest M b27 S26 (fun r28 S28 => K r28 S28))) ∧ (x1 = 8 → hT S x0 = 12 ∧ ∃ b29 : Nat, hP S x0 2 = some b29 ∧ hT S x0 = 12 ∧ ∃ b30 : Nat, hP S x0 1 = some b30 ∧ hT S b30 = 23 ∧ vp_in x3 (hN S b30) ∧ ∃ b31 : Nat, hP S b30 (Int32.toNatClampNeg x3) = some b31 ∧ hT S b29 = 10 ∧ wp_X9_common M b29 x2 b31 S (fun r32 S32 => K r32 S32))
set_option maxHeartbeats 4000000 in
set_option maxRecDepth 100000 in
theorem ok_X11_made {G : CG} {x0 : Nat} {x1 : Int32} {x2 : Nat} {x3 : Int32} {S : HS} {K : Option Nat → HS → Prop} (hw : wp_X11_made (gC G, gS G) x0 x1 x2 x3 S K) : CC 6 yX11_made cX11_made 4 (some (.object "StraightPolys$Poly")) [.ref x0, .int x1, .ref x2, .int x3] G S (kR K) := by
  refine CC.of (by decide +kernel) (Nat.le_of_ble_eq_true rfl) (fun X hc hr hname => ?_)
  show MC G S X 4 S 0 [(0, .ref x0), (1, .int x1), (2, .ref x2), (3, .int x3)] []
  unfold wp_X11_made at hw
  refine m_iload_n hc 1 dX11_made_0 rfl rfl ?_
  rcases sw_in 8 (x := x1) (Nat.le_of_ble_eq_true rfl) with cq | ⟨cn, cl, cq⟩
  · have hw := hw.1 cq
    refine m_tout hc 184 dX11_made_1 cq rfl ?_
    refine m_aload_n hc 0 dX11_made_184 rfl rfl ?_
    obtain ⟨ht, b1, e_b1, hw⟩ := hw
    refine c_getr hc hr ciX11 (Nat.le_of_ble_eq_true rfl) 2 (Nat.le_of_ble_eq_true rfl) rfl dX11_made_185 lf_X11_25 ht e_b1 ?_
    refine m_aload_n hc 2 dX11_made_188 rfl rfl ?_
    refine m_iload_n hc 3 dX11_made_189 rfl rfl ?_
    obtain ⟨ht, hw⟩ := hw
    refine c_callVq hc hr ciX9 (Nat.le_of_ble_eq_true rfl) ht mt_X9_turned rfl lm_X11_336 (ok_X9_turned hw) (Nat.le_of_ble_eq_true rfl) dX11_made_190 rfl (rest := []) rfl (Nat.le_of_ble_eq_true rfl) (fun r2 S2 hw => ?_)
    skip
    exact c_aret hc hr (r := r2) dX11_made_193 hw
  · have hw := hw.2
    match cn, cl, cq with
    | 0, _, cq =>
      have cq : x1 = 0 := cq
      have hw := hw.1 cq
      refine m_tin hc (off := 51) 52 dX11_made_1 (by rw [cq]; decide) (by rw [cq]; decide) (by rw [cq]; rfl) rfl ?_
      refine m_aload_n hc 0 dX11_made_52 rfl rfl ?_
      obtain ⟨ht, b3, e_b3, hw⟩ := hw
      refine c_getr hc hr ciX11 (Nat.le_of_ble_eq_true rfl) 2 (Nat.le_of_ble_eq_true rfl) rfl dX11_made_53 lf_X11_25 ht e_b3 ?_
      refine m_aload_n hc 2 dX11_made_56 rfl rfl ?_
      refine m_aload_n hc 0 dX11_made_57 rfl rfl ?_
      obtain ⟨ht, b4, e_b4, hw⟩ := hw
      refine c_getr hc hr ciX11 (Nat.le_of_ble_eq_true rfl) 1 (Nat.le_of_ble_eq_true rfl) rfl dX11_made_58 lf_X11_18 ht e_b4 ?_
      refine m_iload_n hc 3 dX11_made_61 rfl rfl ?_
      obtain ⟨ht, hi, b5, e_b5, hw⟩ := hw
      refine c_aald hc hr ht hi e_b5 dX11_made_62 ?_
      refine m_iconst hc 1 dX11_made_63 (by decide) ?_
      obtain ⟨ht, hw⟩ := hw
      refine c_callVq hc hr ciX9 (Nat.le_of_ble_eq_true rfl) ht mt_X9_sum rfl lm_X11_307 (ok_X9_sum hw) (Nat.le_of_ble_eq_true rfl) dX11_made_64 rfl (rest := []) rfl (Nat.le_of_ble_eq_true rfl) (fun r6 S6 hw => ?_)
      skip
      exact c_aret hc hr (r := r6) dX11_made_67 hw
    | 1, _, cq =>
      have cq : x1 = 1 := cq
      have hw := hw.2.1 cq
      refine m_tin hc (off := 67) 68 dX11_made_1 (by rw [cq]; decide) (by rw [cq]; decide) (by rw [cq]; rfl) rfl ?_
      refine m_aload_n hc 0 dX11_made_68 rfl rfl ?_
      obtain ⟨ht, b7, e_b7, hw⟩ := hw
      refine c_getr hc hr ciX11 (Nat.le_of_ble_eq_true rfl) 2 (Nat.le_of_ble_eq_true rfl) rfl dX11_made_69 lf_X11_25 ht e_b7 ?_
      refine m_aload_n hc 2 dX11_made_72 rfl rfl ?_
      refine m_aload_n hc 0 dX11_made_73 rfl rfl ?_
      obtain ⟨ht, b8, e_b8, hw⟩ := hw
      refine c_getr hc hr ciX11 (Nat.le_of_ble_eq_true rfl) 1 (Nat.le_of_ble_eq_true rfl) rfl dX11_made_74 lf_X11_18 ht e_b8 ?_
      refine m_iload_n hc 3 dX11_made_77 rfl rfl ?_
      obtain ⟨ht, hi, b9, e_b9, hw⟩ := hw
      refine c_aald hc hr ht hi e_b9 dX11_made_78 ?_
      refine m_aload_n hc 0 dX11_made_79 rfl rfl ?_
      obtain ⟨ht, b10, e_b10, hw⟩ := hw
      refine c_getr hc hr ciX11 (Nat.le_of_ble_eq_true rfl) 2 (Nat.le_of_ble_eq_true rfl) rfl dX11_made_80 lf_X11_25 ht e_b10 ?_
      obtain ⟨ht, hw⟩ := hw
      refine c_geti hc hr ciX9 (Nat.le_of_ble_eq_true rfl) 0 (Nat.le_of_ble_eq_true rfl) rfl dX11_made_83 lf_X11_83 ht ?_
      refine m_iconst hc 1 dX11_made_86 (by decide) ?_
      refine m_isub hc dX11_made_87 ?_
      obtain ⟨ht, hw⟩ := hw
      refine c_callVq hc hr ciX9 (Nat.le_of_ble_eq_true rfl) ht mt_X9_sum rfl lm_X11_307 (ok_X9_sum hw) (Nat.le_of_ble_eq_true rfl) dX11_made_88 rfl (rest := []) rfl (Nat.le_of_ble_eq_true rfl) (fun r11 S11 hw => ?_)
      skip
      exact c_aret hc hr (r := r11) dX11_made_91 hw
    | 2, _, cq =>
      have cq : x1 = 2 := cq
      have hw := hw.2.2.1 cq
      refine m_tin hc (off := 91) 92 dX11_made_1 (by rw [cq]; decide) (by rw [cq]; decide) (by rw [cq]; rfl) rfl ?_
      refine m_aload_n hc 0 dX11_made_92 rfl rfl ?_
      obtain ⟨ht, b12, e_b12, hw⟩ := hw
      refine c_getr hc hr ciX11 (Nat.le_of_ble_eq_true rfl) 2 (Nat.le_of_ble_eq_true rfl) rfl dX11_made_93 lf_X11_25 ht e_b12 ?_
      refine m_aload_n hc 2 dX11_made_96 rfl rfl ?_
      refine m_aload_n hc 0 dX11_made_97 rfl rfl ?_
      obtain ⟨ht, b13, e_b13, hw⟩ := hw
      refine c_getr hc hr ciX11 (Nat.le_of_ble_eq_true rfl) 1 (Nat.le_of_ble_eq_true rfl) rfl dX11_made_98 lf_X11_18 ht e_b13 ?_
      refine m_iload_n hc 3 dX11_made_101 rfl rfl ?_
      obtain ⟨ht, hi, b14, e_b14, hw⟩ := hw
      refine c_aald hc hr ht hi e_b14 dX11_made_102 ?_
      obtain ⟨ht, hw⟩ := hw
      refine c_callVq hc hr ciX9 (Nat.le_of_ble_eq_true rfl) ht mt_X9_product rfl lm_X11_311 (ok_X9_product hw) (Nat.le_of_ble_eq_true rfl) dX11_made_103 rfl (rest := []) rfl (Nat.le_of_ble_eq_true rfl) (fun r15 S15 hw => ?_)
      skip
      exact c_aret hc hr (r := r15) dX11_made_106 hw
    | 3, _, cq =>
      have cq : x1 = 3 := cq
      have hw := hw.2.2.2.1 cq
      refine m_tin hc (off := 106) 107 dX11_made_1 (by rw [cq]; decide) (by rw [cq]; decide) (by rw [cq]; rfl) rfl ?_
      refine m_aload_n hc 0 dX11_made_107 rfl rfl ?_
      obtain ⟨ht, b16, e_b16, hw⟩ := hw
      refine c_getr hc hr ciX11 (Nat.le_of_ble_eq_true rfl) 2 (Nat.le_of_ble_eq_true rfl) rfl dX11_made_108 lf_X11_25 ht e_b16 ?_
      refine m_aload_n hc 2 dX11_made_111 rfl rfl ?_
      refine m_iload_n hc 3 dX11_made_112 rfl rfl ?_
      obtain ⟨ht, hw⟩ := hw
      refine c_callVq hc hr ciX9 (Nat.le_of_ble_eq_true rfl) ht mt_X9_derivative rfl lm_X11_315 (ok_X9_derivative hw) (Nat.le_of_ble_eq_true rfl) dX11_made_113 rfl (rest := []) rfl (Nat.le_of_ble_eq_true rfl) (fun r17 S17 hw => ?_)
      skip
      exact c_aret hc hr (r := r17) dX11_made_116 hw
    | 4, _, cq =>
      have cq : x1 = 4 := cq
      have hw := hw.2.2.2.2.1 cq
      refine m_tin hc (off := 116) 117 dX11_made_1 (by rw [cq]; decide) (by rw [cq]; decide) (by rw [cq]; rfl) rfl ?_
      refine m_aload_n hc 0 dX11_made_117 rfl rfl ?_
      obtain ⟨ht, b18, e_b18, hw⟩ := hw
      refine c_getr hc hr ciX11 (Nat.le_of_ble_eq_true rfl) 2 (Nat.le_of_ble_eq_true rfl) rfl dX11_made_118 lf_X11_25 ht e_b18 ?_
      refine m_aload_n hc 2 dX11_made_121 rfl rfl ?_
      refine m_iload_n hc 3 dX11_made_122 rfl rfl ?_
      obtain ⟨ht, hw⟩ := hw
      refine c_callVq hc hr ciX9 (Nat.le_of_ble_eq_true rfl) ht mt_X9_power rfl lm_X11_319 (ok_X9_power hw) (Nat.le_of_ble_eq_true rfl) dX11_made_123 rfl (rest := []) rfl (Nat.le_of_ble_eq_true rfl) (fun r19 S19 hw => ?_)
      skip
      exact c_aret hc hr (r := r19) dX11_made_126 hw
    | 5, _, cq =>
      have cq : x1 = 5 := cq
      have hw := hw.2.2.2.2.2.1 cq
      refine m_tin hc (off := 126) 127 dX11_made_1 (by rw [cq]; decide) (by rw [cq]; decide) (by rw [cq]; rfl) rfl ?_
      refine m_aload_n hc 0 dX11_made_127 rfl rfl ?_
      obtain ⟨ht, b20, e_b20, hw⟩ := hw
      refine c_getr hc hr ciX11 (Nat.le_of_ble_eq_true rfl) 2 (Nat.le_of_ble_eq_true rfl) rfl dX11_made_128 lf_X11_25 ht e_b20 ?_
      refine m_aload_n hc 2 dX11_made_131 rfl rfl ?_
      refine m_iload_n hc 3 dX11_made_132 rfl rfl ?_
      obtain ⟨ht, hw⟩ := hw
      refine c_callVq hc hr ciX9 (Nat.le_of_ble_eq_true rfl) ht mt_X9_part rfl lm_X11_322 (ok_X9_part hw) (Nat.le_of_ble_eq_true rfl) dX11_made_133 rfl (rest := []) rfl (Nat.le_of_ble_eq_true rfl) (fun r21 S21 hw => ?_)
      skip
      exact c_aret hc hr (r := r21) dX11_made_136 hw
    | 6, _, cq =>
      have cq : x1 = 6 := cq
      have hw := hw.2.2.2.2.2.2.1 cq
      refine m_tin hc (off := 136) 137 dX11_made_1 (by rw [cq]; decide) (by rw [cq]; decide) (by rw [cq]; rfl) rfl ?_
      refine m_aload_n hc 0 dX11_made_137 rfl rfl ?_
      obtain ⟨ht, b22, e_b22, hw⟩ := hw
      refine c_getr hc hr ciX11 (Nat.le_of_ble_eq_true rfl) 2 (Nat.le_of_ble_eq_true rfl) rfl dX11_made_138 lf_X11_25 ht e_b22 ?_
      refine m_aload_n hc 2 dX11_made_141 rfl rfl ?_
      obtain ⟨ht, hw⟩ := hw
      refine c_callVq hc hr ciX9 (Nat.le_of_ble_eq_true rfl) ht mt_X9_reduced rfl lm_X11_325 (ok_X9_reduced hw) (Nat.le_of_ble_eq_true rfl) dX11_made_142 rfl (rest := []) rfl (Nat.le_of_ble_eq_true rfl) (fun r23 S23 hw => ?_)
      skip
      exact c_aret hc hr (r := r23) dX11_made_145 hw
    | 7, _, cq =>
      have cq : x1 = 7 := cq
      have hw := hw.2.2.2.2.2.2.2.1 cq
      refine m_tin hc (off := 145) 146 dX11_made_1 (by rw [cq]; decide) (by rw [cq]; decide) (by rw [cq]; rfl) rfl ?_
      refine m_aload_n hc 0 dX11_made_146 rfl rfl ?_
      obtain ⟨ht, b24, e_b24, hw⟩ := hw
      refine c_getr hc hr ciX11 (Nat.le_of_ble_eq_true rfl) 4 (Nat.le_of_ble_eq_true rfl) rfl dX11_made_147 lf_X11_39 ht e_b24 ?_
      refine m_aload_n hc 2 dX11_made_150 rfl rfl ?_
      refine m_aload_n hc 0 dX11_made_151 rfl rfl ?_
      obtain ⟨ht, b25, e_b25, hw⟩ := hw
      refine c_getr hc hr ciX11 (Nat.le_of_ble_eq_true rfl) 2 (Nat.le_of_ble_eq_true rfl) rfl dX11_made_152 lf_X11_25 ht e_b25 ?_
      obtain ⟨ht, hw⟩ := hw
      refine c_geti hc hr ciX9 (Nat.le_of_ble_eq_true rfl) 0 (Nat.le_of_ble_eq_true rfl) rfl dX11_made_155 lf_X11_83 ht ?_
      obtain ⟨ht, hw⟩ := hw
      refine c_callVv hc hr ciX2 (Nat.le_of_ble_eq_true rfl) ht mt_X2_find rfl lm_X11_214 (ok_X2_find hw) (Nat.le_of_ble_eq_true rfl) dX11_made_158 rfl (rest := []) rfl (Nat.le_of_ble_eq_true rfl) (fun S26 hw => ?_)
      refine m_aload_n hc 0 dX11_made_161 rfl rfl ?_
      obtain ⟨ht, b27, e_b27, hw⟩ := hw
      refine c_getr hc hr ciX11 (Nat.le_of_ble_eq_true rfl) 4 (Nat.le_of_ble_eq_true rfl) rfl dX11_made_162 lf_X11_39 ht e_b27 ?_
      obtain ⟨ht, hw⟩ := hw
      refine c_callVq hc hr ciX2 (Nat.le_of_ble_eq_true rfl) ht mt_X2_rest rfl lm_X11_329 (ok_X2_rest hw) (Nat.le_of_ble_eq_true rfl) dX11_made_165 rfl (rest := []) rfl (Nat.le_of_ble_eq_true rfl) (fun r28 S28 hw => ?_)
      skip
      exact c_aret hc hr (r := r28) dX11_made_168 hw
    | 8, _, cq =>
      have cq : x1 = 8 := cq
      have hw := hw.2.2.2.2.2.2.2.2 cq
      refine m_tin hc (off := 168) 169 dX11_made_1 (by rw [cq]; decide) (by rw [cq]; decide) (by rw [cq]; rfl) rfl ?_
      refine m_aload_n hc 0 dX11_made_169 rfl rfl ?_
      obtain ⟨ht, b29, e_b29, hw⟩ := hw
      refine c_getr hc hr ciX11 (Nat.le_of_ble_eq_true rfl) 2 (Nat.le_of_ble_eq_true rfl) rfl dX11_made_170 lf_X11_25 ht e_b29 ?_
      refine m_aload_n hc 2 dX11_made_173 rfl rfl ?_
      refine m_aload_n hc 0 dX11_made_174 rfl rfl ?_
      obtain ⟨ht, b30, e_b30, hw⟩ := hw
      refine c_getr hc hr ciX11 (Nat.le_of_ble_eq_true rfl) 1 (Nat.le_of_ble_eq_true rfl) rfl dX11_made_175 lf_X11_18 ht e_b30 ?_
      refine m_iload_n hc 3 dX11_made_178 rfl rfl ?_
      obtain ⟨ht, hi, b31, e_b31, hw⟩ := hw
      refine c_aald hc hr ht hi e_b31 dX11_made_179 ?_
      obtain ⟨ht, hw⟩ := hw
      refine c_callVq hc hr ciX9 (Nat.le_of_ble_eq_true rfl) ht mt_X9_common rfl lm_X11_333 (ok_X9_common hw) (Nat.le_of_ble_eq_true rfl) dX11_made_180 rfl (rest := []) rfl (Nat.le_of_ble_eq_true rfl) (fun r32 S32 hw => ?_)
      skip
      exact c_aret hc hr (r := r32) dX11_made_183 hw
    | nn + 9, cl, _ => exact absurd cl (by omega)
def wp_X11_make (M : Nat × Nat) (x0 : Nat) (x1 x2 x3 x4 : Int32) (S : HS) (K : Int32 → HS → Prop) : Prop := wp_X11_isPlace M x1 S (fun r1 S1 => (r1 = 0 → K (-1) S1) ∧ (¬ (r1 = 0) → wp_X11_isPlace M x3 S1 (fun r2 S2 => (r2 = 0 → K (-1) S2) ∧ (¬ (r2 = 0) → hT S2 x0 = 12 ∧ wp_X11_canMake M x0 x2 x3 x4 S2 (fun r3 S3 => (¬ r3 = 0 → hT S3 x0 = 12 ∧ ∃ b4 : Nat, hP S3 x0 1 = some b4 ∧ hT S3 b4 = 23 ∧ vp_in x3 (hN S3 b4) ∧ ∃ b5 : Nat, hP S3 b4 (Int32.toNatClampNeg x3) = some b5 ∧ hT S3 x0 = 12 ∧ wp_X11_made M x0 x2 b5 x4 S3 (fun r6 S6 => hT S6 x0 = 12 ∧ wp_X11_keep M x0 x1 r6 S6 (fun r7 S7 => K r7 S7))) ∧ (r3 = 0 → K (-1) S3))))))
set_option maxHeartbeats 4000000 in
set_option maxRecDepth 100000 in
theorem ok_X11_make {G : CG} {x0 : Nat} {x1 : Int32} {x2 : Int32} {x3 : Int32} {x4 : Int32} {S : HS} {K : Int32 → HS → Prop} (hw : wp_X11_make (gC G, gS G) x0 x1 x2 x3 x4 S K) : CC 7 yX11_make cX11_make 5 (some .int) [.ref x0, .int x1, .int x2, .int x3, .int x4] G S (kI K) := by
  refine CC.of (by decide +kernel) (Nat.le_of_ble_eq_true rfl) (fun X hc hr hname => ?_)
  show MC G S X 5 S 0 [(0, .ref x0), (1, .int x1), (2, .int x2), (3, .int x3), (4, .int x4)] []
  unfold wp_X11_make at hw
  refine m_iload_n hc 1 dX11_make_0 rfl rfl ?_
  refine c_callSi hc hr mt_X11_isPlace lm_X11_93 (ok_X11_isPlace hw) (Nat.le_of_ble_eq_true rfl) dX11_make_1 rfl (rest := []) rfl (Nat.le_of_ble_eq_true rfl) (fun r1 S1 hw => ?_)
  refine m_if_eq hc 25 dX11_make_4 rfl (fun cq => ?_) (fun cq => ?_)
  · have hw := hw.1 cq
    refine m_iconst hc (-1) dX11_make_25 (by decide) ?_
    exact c_iret hc hr dX11_make_26 hw
  · have hw := hw.2 cq
    refine m_iload_n hc 3 dX11_make_7 rfl rfl ?_
    refine c_callSi hc hr mt_X11_isPlace lm_X11_93 (ok_X11_isPlace hw) (Nat.le_of_ble_eq_true rfl) dX11_make_8 rfl (rest := []) rfl (Nat.le_of_ble_eq_true rfl) (fun r2 S2 hw => ?_)
    refine m_if_eq hc 25 dX11_make_11 rfl (fun cq => ?_) (fun cq => ?_)
    · have hw := hw.1 cq
      refine m_iconst hc (-1) dX11_make_25 (by decide) ?_
      exact c_iret hc hr dX11_make_26 hw
    · have hw := hw.2 cq
      refine m_aload_n hc 0 dX11_make_14 rfl rfl ?_
      refine m_iload_n hc 2 dX11_make_15 rfl rfl ?_
      refine m_iload_n hc 3 dX11_make_16 rfl rfl ?_
      refine m_iload hc 4 dX11_make_17 rfl ?_
      obtain ⟨ht, hw⟩ := hw
      refine c_callVi hc hr ciX11 (Nat.le_of_ble_eq_true rfl) ht mt_X11_canMake rfl lm_X11_179 (ok_X11_canMake hw) (Nat.le_of_ble_eq_true rfl) dX11_make_19 rfl (rest := []) rfl (Nat.le_of_ble_eq_true rfl) (fun r3 S3 hw => ?_)
      refine m_if_ne hc 27 dX11_make_22 rfl (fun cq => ?_) (fun cq => ?_)
      · have hw := hw.1 cq
        refine m_aload_n hc 0 dX11_make_27 rfl rfl ?_
        refine m_iload_n hc 1 dX11_make_28 rfl rfl ?_
        refine m_aload_n hc 0 dX11_make_29 rfl rfl ?_
        refine m_iload_n hc 2 dX11_make_30 rfl rfl ?_
        refine m_aload_n hc 0 dX11_make_31 rfl rfl ?_
        obtain ⟨ht, b4, e_b4, hw⟩ := hw
        refine c_getr hc hr ciX11 (Nat.le_of_ble_eq_true rfl) 1 (Nat.le_of_ble_eq_true rfl) rfl dX11_make_32 lf_X11_18 ht e_b4 ?_
        refine m_iload_n hc 3 dX11_make_35 rfl rfl ?_
        obtain ⟨ht, hi, b5, e_b5, hw⟩ := hw
        refine c_aald hc hr ht hi e_b5 dX11_make_36 ?_
        refine m_iload hc 4 dX11_make_37 rfl ?_
        obtain ⟨ht, hw⟩ := hw
        refine c_callVq hc hr ciX11 (Nat.le_of_ble_eq_true rfl) ht mt_X11_made rfl lm_X11_182 (ok_X11_made hw) (Nat.le_of_ble_eq_true rfl) dX11_make_39 rfl (rest := [.int x1, .ref x0]) rfl (Nat.le_of_ble_eq_true rfl) (fun r6 S6 hw => ?_)
        skip
        obtain ⟨ht, hw⟩ := hw
        refine c_callVi hc hr ciX11 (Nat.le_of_ble_eq_true rfl) ht mt_X11_keep rfl lm_X11_128 (ok_X11_keep hw) (Nat.le_of_ble_eq_true rfl) dX11_make_42 rfl (rest := []) rfl (Nat.le_of_ble_eq_true rfl) (fun r7 S7 hw => ?_)
        exact c_iret hc hr dX11_make_45 hw
      · have hw := hw.2 cq
        refine m_iconst hc (-1) dX11_make_25 (by decide) ?_
        exact c_iret hc hr dX11_make_26 hw
def wp_X11_put (M : Nat × Nat) (x0 : Nat) (x1 x2 x3 x4 : Int32) (S : HS) (K : Int32 → HS → Prop) : Prop := wp_X11_isPlace M x1 S (fun r1 S1 => (r1 = 0 → K (-1) S1) ∧ (¬ (r1 = 0) → wp_X11_isPlace M x2 S1 (fun r2 S2 => (r2 = 0 → K (-1) S2) ∧ (¬ (r2 = 0) → wp_X11_isPlace M x4 S2 (fun r3 S3 => (r3 = 0 → K (-1) S3) ∧ (¬ (r3 = 0) → (x3 < 0 → K (-1) S3) ∧ (¬ (x3 < 0) → (x3 < 3 → hT S3 x0 = 12 ∧ ∃ b4 : Nat, hP S3 x0 2 = some b4 ∧ hT S3 x0 = 12 ∧ ∃ b5 : Nat, hP S3 x0 1 = some b5 ∧ hT S3 b5 = 23 ∧ vp_in x2 (hN S3 b5) ∧ ∃ b6 : Nat, hP S3 b5 (Int32.toNatClampNeg x2) = some b6 ∧ hT S3 x0 = 12 ∧ ∃ b7 : Nat, hP S3 x0 1 = some b7 ∧ hT S3 b7 = 23 ∧ vp_in x4 (hN S3 b7) ∧ ∃ b8 : Nat, hP S3 b7 (Int32.toNatClampNeg x4) = some b8 ∧ hT S3 b4 = 10 ∧ wp_X9_putInto M b4 b6 x3 b8 S3 (fun r9 S9 => hT S9 x0 = 12 ∧ wp_X11_keep M x0 x1 r9 S9 (fun r10 S10 => K r10 S10))) ∧ (¬ (x3 < 3) → K (-1) S3))))))))
set_option maxHeartbeats 4000000 in
set_option maxRecDepth 100000 in
theorem ok_X11_put {G : CG} {x0 : Nat} {x1 : Int32} {x2 : Int32} {x3 : Int32} {x4 : Int32} {S : HS} {K : Int32 → HS → Prop} (hw : wp_X11_put (gC G, gS G) x0 x1 x2 x3 x4 S K) : CC 5 yX11_put cX11_put 5 (some .int) [.ref x0, .int x1, .int x2, .int x3, .int x4] G S (kI K) := by
  refine CC.of (by decide +kernel) (Nat.le_of_ble_eq_true rfl) (fun X hc hr hname => ?_)
  show MC G S X 5 S 0 [(0, .ref x0), (1, .int x1), (2, .int x2), (3, .int x3), (4, .int x4)] []
  unfold wp_X11_put at hw
  refine m_iload_n hc 1 dX11_put_0 rfl rfl ?_
  refine c_callSi hc hr mt_X11_isPlace lm_X11_93 (ok_X11_isPlace hw) (Nat.le_of_ble_eq_true rfl) dX11_put_1 rfl (rest := []) rfl (Nat.le_of_ble_eq_true rfl) (fun r1 S1 hw => ?_)
  refine m_if_eq hc 31 dX11_put_4 rfl (fun cq => ?_) (fun cq => ?_)
  · have hw := hw.1 cq
    refine m_iconst hc (-1) dX11_put_31 (by decide) ?_
    exact c_iret hc hr dX11_put_32 hw
  · have hw := hw.2 cq
    refine m_iload_n hc 2 dX11_put_7 rfl rfl ?_
    refine c_callSi hc hr mt_X11_isPlace lm_X11_93 (ok_X11_isPlace hw) (Nat.le_of_ble_eq_true rfl) dX11_put_8 rfl (rest := []) rfl (Nat.le_of_ble_eq_true rfl) (fun r2 S2 hw => ?_)
    refine m_if_eq hc 31 dX11_put_11 rfl (fun cq => ?_) (fun cq => ?_)
    · have hw := hw.1 cq
      refine m_iconst hc (-1) dX11_put_31 (by decide) ?_
      exact c_iret hc hr dX11_put_32 hw
    · have hw := hw.2 cq
      refine m_iload hc 4 dX11_put_14 rfl ?_
      refine c_callSi hc hr mt_X11_isPlace lm_X11_93 (ok_X11_isPlace hw) (Nat.le_of_ble_eq_true rfl) dX11_put_16 rfl (rest := []) rfl (Nat.le_of_ble_eq_true rfl) (fun r3 S3 hw => ?_)
      refine m_if_eq hc 31 dX11_put_19 rfl (fun cq => ?_) (fun cq => ?_)
      · have hw := hw.1 cq
        refine m_iconst hc (-1) dX11_put_31 (by decide) ?_
        exact c_iret hc hr dX11_put_32 hw
      · have hw := hw.2 cq
        refine m_iload_n hc 3 dX11_put_22 rfl rfl ?_
        refine m_if_lt hc 31 dX11_put_23 rfl (fun cq => ?_) (fun cq => ?_)
        · have hw := hw.1 cq
          refine m_iconst hc (-1) dX11_put_31 (by decide) ?_
          exact c_iret hc hr dX11_put_32 hw
        · have hw := hw.2 cq
          refine m_iload_n hc 3 dX11_put_26 rfl rfl ?_
          refine m_iconst hc 3 dX11_put_27 (by decide) ?_
          refine m_icmp_lt hc 33 dX11_put_28 rfl (fun cq => ?_) (fun cq => ?_)
          · have hw := hw.1 cq
            refine m_aload_n hc 0 dX11_put_33 rfl rfl ?_
            refine m_iload_n hc 1 dX11_put_34 rfl rfl ?_
            refine m_aload_n hc 0 dX11_put_35 rfl rfl ?_
            obtain ⟨ht, b4, e_b4, hw⟩ := hw
            refine c_getr hc hr ciX11 (Nat.le_of_ble_eq_true rfl) 2 (Nat.le_of_ble_eq_true rfl) rfl dX11_put_36 lf_X11_25 ht e_b4 ?_
            refine m_aload_n hc 0 dX11_put_39 rfl rfl ?_
            obtain ⟨ht, b5, e_b5, hw⟩ := hw
            refine c_getr hc hr ciX11 (Nat.le_of_ble_eq_true rfl) 1 (Nat.le_of_ble_eq_true rfl) rfl dX11_put_40 lf_X11_18 ht e_b5 ?_
            refine m_iload_n hc 2 dX11_put_43 rfl rfl ?_
            obtain ⟨ht, hi, b6, e_b6, hw⟩ := hw
            refine c_aald hc hr ht hi e_b6 dX11_put_44 ?_
            refine m_iload_n hc 3 dX11_put_45 rfl rfl ?_
            refine m_aload_n hc 0 dX11_put_46 rfl rfl ?_
            obtain ⟨ht, b7, e_b7, hw⟩ := hw
            refine c_getr hc hr ciX11 (Nat.le_of_ble_eq_true rfl) 1 (Nat.le_of_ble_eq_true rfl) rfl dX11_put_47 lf_X11_18 ht e_b7 ?_
            refine m_iload hc 4 dX11_put_50 rfl ?_
            obtain ⟨ht, hi, b8, e_b8, hw⟩ := hw
            refine c_aald hc hr ht hi e_b8 dX11_put_52 ?_
            obtain ⟨ht, hw⟩ := hw
            refine c_callVq hc hr ciX9 (Nat.le_of_ble_eq_true rfl) ht mt_X9_putInto rfl lm_X11_186 (ok_X9_putInto hw) (Nat.le_of_ble_eq_true rfl) dX11_put_53 rfl (rest := [.int x1, .ref x0]) rfl (Nat.le_of_ble_eq_true rfl) (fun r9 S9 hw => ?_)
            skip
            obtain ⟨ht, hw⟩ := hw
            refine c_callVi hc hr ciX11 (Nat.le_of_ble_eq_true rfl) ht mt_X11_keep rfl lm_X11_128 (ok_X11_keep hw) (Nat.le_of_ble_eq_true rfl) dX11_put_56 rfl (rest := []) rfl (Nat.le_of_ble_eq_true rfl) (fun r10 S10 hw => ?_)
            exact c_iret hc hr dX11_put_59 hw
          · have hw := hw.2 cq
            refine m_iconst hc (-1) dX11_put_31 (by decide) ?_
            exact c_iret hc hr dX11_put_32 hw
def wb_X11_fit_38 (M : Nat × Nat) (KX : String → HS → Prop) (K38 : Nat → Int32 → Int32 → HS → Prop) (K : Int32 → HS → Prop) (x0 : Nat) (x1 x2 : Int32) (S : HS) : Prop := hT S x0 = 12 ∧ ∃ b1 : Nat, hP S x0 2 = some b1 ∧ hT S b1 = 10 ∧ ((hI S b1 0) ≤ x2 → hT S x0 = 12 ∧ ∃ b2 : Nat, hP S x0 2 = some b2 ∧ hT S x0 = 12 ∧ ∃ b3 : Nat, hP S x0 8 = some b3 ∧ hT S b2 = 10 ∧ wp_X9_fitTo M b2 b3 S (fun r4 S4 => hT S4 x0 = 12 ∧ wp_X11_keep M x0 x1 r4 S4 (fun r5 S5 => K r5 S5))) ∧ (¬ ((hI S b1 0) ≤ x2) → hT S x0 = 12 ∧ ∃ b6 : Nat, hP S x0 8 = some b6 ∧ hT S b6 = 21 ∧ vp_in x2 (hN S b6) ∧ hT S x0 = 12 ∧ ∃ b7 : Nat, hP S x0 2 = some b7 ∧ hT S b7 = 10 ∧ ((hI S b6 (Int32.toNatClampNeg x2)) < (hI S b7 0) → K38 x0 x1 (x2 + 1) S) ∧ (¬ ((hI S b6 (Int32.toNatClampNeg x2)) < (hI S b7 0)) → K (-1) S))
def wl_X11_fit_38 (M : Nat × Nat) (KX : String → HS → Prop) (K : Int32 → HS → Prop) : Nat → Nat → Int32 → Int32 → HS → Prop
  | 0 => fun _ _ _ _ => False
  | nn + 1 => wb_X11_fit_38 M KX (wl_X11_fit_38 M KX K nn) K
set_option maxHeartbeats 4000000 in
set_option maxRecDepth 100000 in
theorem l_X11_fit_38 {G : CG} {S0 : HS} {X : Fx} {KX : String → HS → Prop} {K : Int32 → HS → Prop} (hc : Cx X RX11 cX11_fit 3) (hr : Cc G S0 6 (some .int) (kI K) X) (hxx : Cxx G S0 KX (kI K) X) : ∀ (nn : Nat) (x0 : Nat) (x1 x2 : Int32) (S : HS), wl_X11_fit_38 (gC G, gS G) KX K nn x0 x1 x2 S → MC G S0 X 3 S 38 [(0, .ref x0), (1, .int x1), (2, .int x2)] [] := by
  intro nn
  induction nn with
  | zero => intro x0 x1 x2 S hw; exact False.elim hw
  | succ nn ih =>
    intro x0 x1 x2 S hw
    have hw : wb_X11_fit_38 (gC G, gS G) KX (wl_X11_fit_38 (gC G, gS G) KX K nn) K x0 x1 x2 S := hw
    have h38 := ih
    generalize wl_X11_fit_38 (gC G, gS G) KX K nn = K38 at hw h38
    unfold wb_X11_fit_38 at hw
    refine m_iload_n hc 2 dX11_fit_38 rfl rfl ?_
    refine m_aload_n hc 0 dX11_fit_39 rfl rfl ?_
    obtain ⟨ht, b1, e_b1, hw⟩ := hw
    refine c_getr hc hr ciX11 (Nat.le_of_ble_eq_true rfl) 2 (Nat.le_of_ble_eq_true rfl) rfl dX11_fit_40 lf_X11_25 ht e_b1 ?_
    obtain ⟨ht, hw⟩ := hw
    refine c_geti hc hr ciX9 (Nat.le_of_ble_eq_true rfl) 0 (Nat.le_of_ble_eq_true rfl) rfl dX11_fit_43 lf_X11_83 ht ?_
    refine m_icmp_ge hc 73 dX11_fit_46 rfl (fun cq => ?_) (fun cq => ?_)
    · have hw := hw.1 cq
      refine m_aload_n hc 0 dX11_fit_73 rfl rfl ?_
      refine m_iload_n hc 1 dX11_fit_74 rfl rfl ?_
      refine m_aload_n hc 0 dX11_fit_75 rfl rfl ?_
      obtain ⟨ht, b2, e_b2, hw⟩ := hw
      refine c_getr hc hr ciX11 (Nat.le_of_ble_eq_true rfl) 2 (Nat.le_of_ble_eq_true rfl) rfl dX11_fit_76 lf_X11_25 ht e_b2 ?_
      refine m_aload_n hc 0 dX11_fit_79 rfl rfl ?_
      obtain ⟨ht, b3, e_b3, hw⟩ := hw
      refine c_getr hc hr ciX11 (Nat.le_of_ble_eq_true rfl) 8 (Nat.le_of_ble_eq_true rfl) rfl dX11_fit_80 lf_X11_64 ht e_b3 ?_
      obtain ⟨ht, hw⟩ := hw
      refine c_callVq hc hr ciX9 (Nat.le_of_ble_eq_true rfl) ht mt_X9_fitTo rfl lm_X11_192 (ok_X9_fitTo hw) (Nat.le_of_ble_eq_true rfl) dX11_fit_83 rfl (rest := [.int x1, .ref x0]) rfl (Nat.le_of_ble_eq_true rfl) (fun r4 S4 hw => ?_)
      skip
      obtain ⟨ht, hw⟩ := hw
      refine c_callVi hc hr ciX11 (Nat.le_of_ble_eq_true rfl) ht mt_X11_keep rfl lm_X11_128 (ok_X11_keep hw) (Nat.le_of_ble_eq_true rfl) dX11_fit_86 rfl (rest := []) rfl (Nat.le_of_ble_eq_true rfl) (fun r5 S5 hw => ?_)
      exact c_iret hc hr dX11_fit_89 hw
    · have hw := hw.2 cq
      refine m_aload_n hc 0 dX11_fit_49 rfl rfl ?_
      obtain ⟨ht, b6, e_b6, hw⟩ := hw
      refine c_getr hc hr ciX11 (Nat.le_of_ble_eq_true rfl) 8 (Nat.le_of_ble_eq_true rfl) rfl dX11_fit_50 lf_X11_64 ht e_b6 ?_
      refine m_iload_n hc 2 dX11_fit_53 rfl rfl ?_
      obtain ⟨ht, hi, hw⟩ := hw
      refine c_iald hc hr ht hi dX11_fit_54 ?_
      refine m_aload_n hc 0 dX11_fit_55 rfl rfl ?_
      obtain ⟨ht, b7, e_b7, hw⟩ := hw
      refine c_getr hc hr ciX11 (Nat.le_of_ble_eq_true rfl) 2 (Nat.le_of_ble_eq_true rfl) rfl dX11_fit_56 lf_X11_25 ht e_b7 ?_
      obtain ⟨ht, hw⟩ := hw
      refine c_geti hc hr ciX9 (Nat.le_of_ble_eq_true rfl) 0 (Nat.le_of_ble_eq_true rfl) rfl dX11_fit_59 lf_X11_83 ht ?_
      refine m_icmp_lt hc 67 dX11_fit_62 rfl (fun cq => ?_) (fun cq => ?_)
      · have hw := hw.1 cq
        refine m_iinc hc 2 (x2 + 1) [(2, .int (x2 + 1)), (0, .ref x0), (1, .int x1)] dX11_fit_67 rfl rfl (Nat.le_of_ble_eq_true rfl) rfl ?_
        refine m_goto hc 38 dX11_fit_70 rfl ?_
        refine m_sub [1, 2, 0] rfl ?_
        exact h38 x0 x1 (x2 + 1) S hw
      · have hw := hw.2 cq
        refine m_iconst hc (-1) dX11_fit_65 (by decide) ?_
        exact c_iret hc hr dX11_fit_66 hw
def wp_X11_fit (M : Nat × Nat) (x0 : Nat) (x1 : Int32) (S : HS) (KX : String → HS → Prop) (K : Int32 → HS → Prop) : Prop := wp_X11_isPlace M x1 S (fun r1 S1 => (r1 = 0 → KX xIAE S1 ∧ hX S1 + 1 ≤ M.1 ∧ hS S1 + 6 ≤ M.2) ∧ (¬ (r1 = 0) → hT S1 x0 = 12 ∧ hT S1 x0 = 12 ∧ ∃ b2 : Nat, hP S1 x0 2 = some b2 ∧ hT S1 b2 = 10 ∧ ((hI S1 b2 0) ≤ (hI S1 x0 9) → hT S1 x0 = 12 ∧ ∃ nn : Nat, wl_X11_fit_38 M KX K nn x0 x1 0 (sI S1 x0 9 0)) ∧ (¬ ((hI S1 b2 0) ≤ (hI S1 x0 9)) → KX xIAE S1 ∧ hX S1 + 1 ≤ M.1 ∧ hS S1 + 6 ≤ M.2)))
set_option maxHeartbeats 4000000 in
set_option maxRecDepth 100000 in
theorem ok_X11_fit {G : CG} {x0 : Nat} {x1 : Int32} {S : HS} {KX : String → HS → Prop} {K : Int32 → HS → Prop} (hw : wp_X11_fit (gC G, gS G) x0 x1 S KX K) : CX 6 yX11_fit cX11_fit 3 (some .int) [.ref x0, .int x1] G S KX (kI K) := by
  refine CX.of (by decide +kernel) (Nat.le_of_ble_eq_true rfl) (fun X hc hr hxx => ?_)
  show MC G S X 3 S 0 [(0, .ref x0), (1, .int x1)] []
  unfold wp_X11_fit at hw
  refine m_iload_n hc 1 dX11_fit_0 rfl rfl ?_
  refine c_callSi hc hr mt_X11_isPlace lm_X11_93 (ok_X11_isPlace hw) (Nat.le_of_ble_eq_true rfl) dX11_fit_1 rfl (rest := []) rfl (Nat.le_of_ble_eq_true rfl) (fun r1 S1 hw => ?_)
  refine m_if_eq hc 21 dX11_fit_4 rfl (fun cq => ?_) (fun cq => ?_)
  · have hw := hw.1 cq
    exact x_throw hc hr hxx (E := xIAE) mx_96_100 (List.mem_of_getElem? (i := 5) rfl) dX11_fit_21 dX11_fit_24 dX11_fit_25 dX11_fit_27 dX11_fit_30 (Nat.le_of_ble_eq_true rfl) hw.1 hw.2.1 hw.2.2
  · have hw := hw.2 cq
    refine m_aload_n hc 0 dX11_fit_7 rfl rfl ?_
    obtain ⟨ht, hw⟩ := hw
    refine c_geti hc hr ciX11 (Nat.le_of_ble_eq_true rfl) 9 (Nat.le_of_ble_eq_true rfl) rfl dX11_fit_8 lf_X11_68 ht ?_
    refine m_aload_n hc 0 dX11_fit_11 rfl rfl ?_
    obtain ⟨ht, b2, e_b2, hw⟩ := hw
    refine c_getr hc hr ciX11 (Nat.le_of_ble_eq_true rfl) 2 (Nat.le_of_ble_eq_true rfl) rfl dX11_fit_12 lf_X11_25 ht e_b2 ?_
    obtain ⟨ht, hw⟩ := hw
    refine c_geti hc hr ciX9 (Nat.le_of_ble_eq_true rfl) 0 (Nat.le_of_ble_eq_true rfl) rfl dX11_fit_15 lf_X11_83 ht ?_
    refine m_icmp_ge hc 31 dX11_fit_18 rfl (fun cq => ?_) (fun cq => ?_)
    · have hw := hw.1 cq
      refine m_aload_n hc 0 dX11_fit_31 rfl rfl ?_
      refine m_iconst hc 0 dX11_fit_32 (by decide) ?_
      obtain ⟨ht, hw⟩ := hw
      refine c_puti hc hr ciX11 (Nat.le_of_ble_eq_true rfl) 9 (Nat.le_of_ble_eq_true rfl) rfl dX11_fit_33 lf_X11_68 ht (Or.inl rfl) ⟨rfl, rfl⟩ ?_
      refine m_iconst hc 0 dX11_fit_36 (by decide) ?_
      refine m_istore_n hc [(2, .int 0), (0, .ref x0), (1, .int x1)] dX11_fit_37 rfl (Nat.le_of_ble_eq_true rfl) rfl ?_
      refine m_sub [1, 2, 0] rfl ?_
      obtain ⟨nn, hw⟩ := hw
      exact l_X11_fit_38 hc hr hxx nn x0 x1 0 (sI S1 x0 9 0) hw
    · have hw := hw.2 cq
      exact x_throw hc hr hxx (E := xIAE) mx_96_100 (List.mem_of_getElem? (i := 5) rfl) dX11_fit_21 dX11_fit_24 dX11_fit_25 dX11_fit_27 dX11_fit_30 (Nat.le_of_ble_eq_true rfl) hw.1 hw.2.1 hw.2.2
def wp_X11_undo (M : Nat × Nat) (x0 : Nat) (S : HS) (K : Int32 → HS → Prop) : Prop := hT S x0 = 12 ∧ ∃ b1 : Nat, hP S x0 7 = some b1 ∧ hT S b1 = 1 ∧ (¬ (hI S b1 0) = 0 → hT S x0 = 12 ∧ ∃ b2 : Nat, hP S x0 7 = some b2 ∧ hT S x0 = 12 ∧ ∃ b3 : Nat, hP S x0 1 = some b3 ∧ hT S b2 = 1 ∧ wp_X0_takeBack M b2 b3 S (fun r4 S4 => hT S4 x0 = 12 ∧ ∃ b5 : Nat, hP S4 x0 7 = some b5 ∧ hT S4 b5 = 1 ∧ K (hI S4 b5 0) S4)) ∧ ((hI S b1 0) = 0 → K (-1) S)
set_option maxHeartbeats 4000000 in
set_option maxRecDepth 100000 in
theorem ok_X11_undo {G : CG} {x0 : Nat} {S : HS} {K : Int32 → HS → Prop} (hw : wp_X11_undo (gC G, gS G) x0 S K) : CC 1 yX11_undo cX11_undo 1 (some .int) [.ref x0] G S (kI K) := by
  refine CC.of (by decide +kernel) (Nat.le_of_ble_eq_true rfl) (fun X hc hr hname => ?_)
  show MC G S X 1 S 0 [(0, .ref x0)] []
  unfold wp_X11_undo at hw
  refine m_aload_n hc 0 dX11_undo_0 rfl rfl ?_
  obtain ⟨ht, b1, e_b1, hw⟩ := hw
  refine c_getr hc hr ciX11 (Nat.le_of_ble_eq_true rfl) 7 (Nat.le_of_ble_eq_true rfl) rfl dX11_undo_1 lf_X11_60 ht e_b1 ?_
  obtain ⟨ht, hw⟩ := hw
  refine c_geti hc hr ciX0 (Nat.le_of_ble_eq_true rfl) 0 (Nat.le_of_ble_eq_true rfl) rfl dX11_undo_4 lf_X11_132 ht ?_
  refine m_if_ne hc 12 dX11_undo_7 rfl (fun cq => ?_) (fun cq => ?_)
  · have hw := hw.1 cq
    refine m_aload_n hc 0 dX11_undo_12 rfl rfl ?_
    obtain ⟨ht, b2, e_b2, hw⟩ := hw
    refine c_getr hc hr ciX11 (Nat.le_of_ble_eq_true rfl) 7 (Nat.le_of_ble_eq_true rfl) rfl dX11_undo_13 lf_X11_60 ht e_b2 ?_
    refine m_aload_n hc 0 dX11_undo_16 rfl rfl ?_
    obtain ⟨ht, b3, e_b3, hw⟩ := hw
    refine c_getr hc hr ciX11 (Nat.le_of_ble_eq_true rfl) 1 (Nat.le_of_ble_eq_true rfl) rfl dX11_undo_17 lf_X11_18 ht e_b3 ?_
    obtain ⟨ht, hw⟩ := hw
    refine c_callVv hc hr ciX0 (Nat.le_of_ble_eq_true rfl) ht mt_X0_takeBack rfl lm_X11_196 (ok_X0_takeBack hw) (Nat.le_of_ble_eq_true rfl) dX11_undo_20 rfl (rest := []) rfl (Nat.le_of_ble_eq_true rfl) (fun S4 hw => ?_)
    refine m_aload_n hc 0 dX11_undo_23 rfl rfl ?_
    obtain ⟨ht, b5, e_b5, hw⟩ := hw
    refine c_getr hc hr ciX11 (Nat.le_of_ble_eq_true rfl) 7 (Nat.le_of_ble_eq_true rfl) rfl dX11_undo_24 lf_X11_60 ht e_b5 ?_
    obtain ⟨ht, hw⟩ := hw
    refine c_geti hc hr ciX0 (Nat.le_of_ble_eq_true rfl) 0 (Nat.le_of_ble_eq_true rfl) rfl dX11_undo_27 lf_X11_132 ht ?_
    exact c_iret hc hr dX11_undo_30 hw
  · have hw := hw.2 cq
    refine m_iconst hc (-1) dX11_undo_10 (by decide) ?_
    exact c_iret hc hr dX11_undo_11 hw
def wp_X11_polyAt (M : Nat × Nat) (x0 : Nat) (x1 : Int32) (S : HS) (KX : String → HS → Prop) (K : Option Nat → HS → Prop) : Prop := wp_X11_isPlace M x1 S (fun r1 S1 => (¬ r1 = 0 → hT S1 x0 = 12 ∧ ∃ b2 : Nat, hP S1 x0 1 = some b2 ∧ hT S1 b2 = 23 ∧ vp_in x1 (hN S1 b2) ∧ ∃ b3 : Nat, hP S1 b2 (Int32.toNatClampNeg x1) = some b3 ∧ K (some b3) S1) ∧ (r1 = 0 → KX xNSE S1 ∧ hX S1 + 1 ≤ M.1 ∧ hS S1 + 6 ≤ M.2))
set_option maxHeartbeats 4000000 in
set_option maxRecDepth 100000 in
theorem ok_X11_polyAt {G : CG} {x0 : Nat} {x1 : Int32} {S : HS} {KX : String → HS → Prop} {K : Option Nat → HS → Prop} (hw : wp_X11_polyAt (gC G, gS G) x0 x1 S KX K) : CX 6 yX11_polyAt cX11_polyAt 2 (some (.object "StraightPolys$Poly")) [.ref x0, .int x1] G S KX (kR K) := by
  refine CX.of (by decide +kernel) (Nat.le_of_ble_eq_true rfl) (fun X hc hr hxx => ?_)
  show MC G S X 2 S 0 [(0, .ref x0), (1, .int x1)] []
  unfold wp_X11_polyAt at hw
  refine m_iload_n hc 1 dX11_polyAt_0 rfl rfl ?_
  refine c_callSi hc hr mt_X11_isPlace lm_X11_93 (ok_X11_isPlace hw) (Nat.le_of_ble_eq_true rfl) dX11_polyAt_1 rfl (rest := []) rfl (Nat.le_of_ble_eq_true rfl) (fun r1 S1 hw => ?_)
  refine m_if_ne hc 18 dX11_polyAt_4 rfl (fun cq => ?_) (fun cq => ?_)
  · have hw := hw.1 cq
    refine m_aload_n hc 0 dX11_polyAt_18 rfl rfl ?_
    obtain ⟨ht, b2, e_b2, hw⟩ := hw
    refine c_getr hc hr ciX11 (Nat.le_of_ble_eq_true rfl) 1 (Nat.le_of_ble_eq_true rfl) rfl dX11_polyAt_19 lf_X11_18 ht e_b2 ?_
    refine m_iload_n hc 1 dX11_polyAt_22 rfl rfl ?_
    obtain ⟨ht, hi, b3, e_b3, hw⟩ := hw
    refine c_aald hc hr ht hi e_b3 dX11_polyAt_23 ?_
    exact c_aret hc hr (r := (some b3)) dX11_polyAt_24 hw
  · have hw := hw.2 cq
    exact x_throwW hc hr hxx (E := xNSE) mx_133_137 (List.mem_of_getElem? (i := 6) rfl) dX11_polyAt_7 dX11_polyAt_10 dX11_polyAt_11 dX11_polyAt_14 dX11_polyAt_17 (Nat.le_of_ble_eq_true rfl) hw.1 hw.2.1 hw.2.2
def wp_X11_of (M : Nat × Nat) (x0 : Nat) (x1 x2 : Int32) (S : HS) (KX : String → HS → Prop) (K : Int32 → HS → Prop) : Prop := hT S x0 = 12 ∧ wp_X11_polyAt M x0 x1 S KX (fun r1 S1 => ((Int32.toInt x2 < 0 ∨ 8 < Int32.toInt x2) → KX xNSE S1 ∧ hX S1 + 1 ≤ M.1 ∧ hS S1 + 6 ≤ M.2) ∧ (x2 = 0 → ∃ b2 : Nat, r1 = some b2 ∧ hT S1 b2 = 7 ∧ K (hI S1 b2 2) S1) ∧ (x2 = 1 → ∃ b3 : Nat, r1 = some b3 ∧ hT S1 b3 = 7 ∧ wp_X6_degree M b3 S1 (fun r4 S4 => K r4 S4)) ∧ (x2 = 2 → ∃ b5 : Nat, r1 = some b5 ∧ hT S1 b5 = 7 ∧ wp_X6_degreeIn M b5 (x2 - 2) S1 (fun r6 S6 => K r6 S6)) ∧ (x2 = 3 → ∃ b7 : Nat, r1 = some b7 ∧ hT S1 b7 = 7 ∧ wp_X6_degreeIn M b7 (x2 - 2) S1 (fun r8 S8 => K r8 S8)) ∧ (x2 = 4 → ∃ b9 : Nat, r1 = some b9 ∧ hT S1 b9 = 7 ∧ wp_X6_degreeIn M b9 (x2 - 2) S1 (fun r10 S10 => K r10 S10)) ∧ (x2 = 5 → hT S1 x0 = 12 ∧ ∃ b11 : Nat, hP S1 x0 3 = some b11 ∧ ∃ b12 : Nat, r1 = some b12 ∧ hT S1 x0 = 12 ∧ ∃ b13 : Nat, hP S1 x0 0 = some b13 ∧ hT S1 x0 = 12 ∧ ∃ b14 : Nat, hP S1 x0 2 = some b14 ∧ hT S1 b14 = 10 ∧ hT S1 b11 = 6 ∧ wp_X5_load M b11 b12 b13 (hI S1 b14 0) S1 (fun r15 S15 => hT S15 x0 = 12 ∧ ∃ b16 : Nat, hP S15 x0 3 = some b16 ∧ hT S15 b16 = 6 ∧ wp_X5_zeros M b16 S15 (fun r17 S17 => K r17 S17))) ∧ (x2 = 6 → hT S1 x0 = 12 ∧ ∃ b18 : Nat, hP S1 x0 4 = some b18 ∧ ∃ b19 : Nat, r1 = some b19 ∧ hT S1 x0 = 12 ∧ ∃ b20 : Nat, hP S1 x0 2 = some b20 ∧ hT S1 b20 = 10 ∧ hT S1 b18 = 3 ∧ wp_X2_find M b18 b19 (hI S1 b20 0) S1 (fun r21 S21 => hT S21 x0 = 12 ∧ ∃ b22 : Nat, hP S21 x0 4 = some b22 ∧ hT S21 b22 = 3 ∧ K (hI S21 b22 1) S21)) ∧ (x2 = 7 → hT S1 x0 = 12 ∧ ∃ b23 : Nat, hP S1 x0 4 = some b23 ∧ ∃ b24 : Nat, r1 = some b24 ∧ hT S1 x0 = 12 ∧ ∃ b25 : Nat, hP S1 x0 2 = some b25 ∧ hT S1 b25 = 10 ∧ hT S1 b23 = 3 ∧ wp_X2_find M b23 b24 (hI S1 b25 0) S1 (fun r26 S26 => hT S26 x0 = 12 ∧ ∃ b27 : Nat, hP S26 x0 4 = some b27 ∧ hT S26 b27 = 3 ∧ wp_X2_inAll M b27 S26 (fun r28 S28 => K r28 S28))) ∧ (x2 = 8 → ∃ b29 : Nat, r1 = some b29 ∧ hT S1 b29 = 7 ∧ wp_X6_hasOneDegree M b29 S1 (fun r30 S30 => (r30 = 0 → K 0 S30) ∧ (¬ (r30 = 0) → K 1 S30))))
set_option maxHeartbeats 4000000 in
set_option maxRecDepth 100000 in
theorem ok_X11_of {G : CG} {x0 : Nat} {x1 : Int32} {x2 : Int32} {S : HS} {KX : String → HS → Prop} {K : Int32 → HS → Prop} (hw : wp_X11_of (gC G, gS G) x0 x1 x2 S KX K) : CX 7 yX11_of cX11_of 4 (some .int) [.ref x0, .int x1, .int x2] G S KX (kI K) := by
  refine CX.of (by decide +kernel) (Nat.le_of_ble_eq_true rfl) (fun X hc hr hxx => ?_)
  show MC G S X 4 S 0 [(0, .ref x0), (1, .int x1), (2, .int x2)] []
  unfold wp_X11_of at hw
  refine m_aload_n hc 0 dX11_of_0 rfl rfl ?_
  refine m_iload_n hc 1 dX11_of_1 rfl rfl ?_
  obtain ⟨ht, hw⟩ := hw
  refine x_callVq hc hr hxx ciX11 (Nat.le_of_ble_eq_true rfl) ht mt_X11_polyAt rfl lm_X11_200 (ok_X11_polyAt hw) (Nat.le_of_ble_eq_true rfl) dX11_of_2 rfl (rest := []) rfl (Nat.le_of_ble_eq_true rfl) (fun r1 S1 hw => ?_)
  skip
  refine q_astore_n hc [(3, va_rf r1), (0, .ref x0), (1, .int x1), (2, .int x2)] dX11_of_5 rfl (Nat.le_of_ble_eq_true rfl) rfl ?_
  refine m_iload_n hc 3 dX11_of_6 rfl rfl ?_
  rcases sw_in 8 (x := x2) (Nat.le_of_ble_eq_true rfl) with cq | ⟨cn, cl, cq⟩
  · have hw := hw.1 cq
    refine m_tout hc 160 dX11_of_7 cq rfl ?_
    exact x_throw hc hr hxx (E := xNSE) mx_133_137 (List.mem_of_getElem? (i := 7) rfl) dX11_of_160 dX11_of_163 dX11_of_164 dX11_of_166 dX11_of_169 (Nat.le_of_ble_eq_true rfl) hw.1 hw.2.1 hw.2.2
  · have hw := hw.2
    match cn, cl, cq with
    | 0, _, cq =>
      have cq : x2 = 0 := cq
      have hw := hw.1 cq
      refine m_tin hc (off := 49) 56 dX11_of_7 (by rw [cq]; decide) (by rw [cq]; decide) (by rw [cq]; rfl) rfl ?_
      refine q_aload_n hc 0 dX11_of_56 rfl rfl ?_
      obtain ⟨b2, e_b2, hw⟩ := hw
      refine q_some e_b2 ?_
      obtain ⟨ht, hw⟩ := hw
      refine c_geti hc hr ciX6 (Nat.le_of_ble_eq_true rfl) 2 (Nat.le_of_ble_eq_true rfl) rfl dX11_of_57 lf_X11_146 ht ?_
      exact c_iret hc hr dX11_of_60 hw
    | 1, _, cq =>
      have cq : x2 = 1 := cq
      have hw := hw.2.1 cq
      refine m_tin hc (off := 54) 61 dX11_of_7 (by rw [cq]; decide) (by rw [cq]; decide) (by rw [cq]; rfl) rfl ?_
      refine q_aload_n hc 0 dX11_of_61 rfl rfl ?_
      obtain ⟨b3, e_b3, hw⟩ := hw
      refine q_some e_b3 ?_
      obtain ⟨ht, hw⟩ := hw
      refine c_callVi hc hr ciX6 (Nat.le_of_ble_eq_true rfl) ht mt_X6_degree rfl lm_X11_143 (ok_X6_degree hw) (Nat.le_of_ble_eq_true rfl) dX11_of_62 rfl (rest := []) rfl (Nat.le_of_ble_eq_true rfl) (fun r4 S4 hw => ?_)
      exact c_iret hc hr dX11_of_65 hw
    | 2, _, cq =>
      have cq : x2 = 2 := cq
      have hw := hw.2.2.1 cq
      refine m_tin hc (off := 59) 66 dX11_of_7 (by rw [cq]; decide) (by rw [cq]; decide) (by rw [cq]; rfl) rfl ?_
      refine q_aload_n hc 0 dX11_of_66 rfl rfl ?_
      obtain ⟨b5, e_b5, hw⟩ := hw
      refine q_some e_b5 ?_
      refine m_iload_n hc 3 dX11_of_67 rfl rfl ?_
      refine m_iconst hc 2 dX11_of_68 (by decide) ?_
      refine m_isub hc dX11_of_69 ?_
      obtain ⟨ht, hw⟩ := hw
      refine c_callVi hc hr ciX6 (Nat.le_of_ble_eq_true rfl) ht mt_X6_degreeIn rfl lm_X11_204 (ok_X6_degreeIn hw) (Nat.le_of_ble_eq_true rfl) dX11_of_70 rfl (rest := []) rfl (Nat.le_of_ble_eq_true rfl) (fun r6 S6 hw => ?_)
      exact c_iret hc hr dX11_of_73 hw
    | 3, _, cq =>
      have cq : x2 = 3 := cq
      have hw := hw.2.2.2.1 cq
      refine m_tin hc (off := 59) 66 dX11_of_7 (by rw [cq]; decide) (by rw [cq]; decide) (by rw [cq]; rfl) rfl ?_
      refine q_aload_n hc 0 dX11_of_66 rfl rfl ?_
      obtain ⟨b7, e_b7, hw⟩ := hw
      refine q_some e_b7 ?_
      refine m_iload_n hc 3 dX11_of_67 rfl rfl ?_
      refine m_iconst hc 2 dX11_of_68 (by decide) ?_
      refine m_isub hc dX11_of_69 ?_
      obtain ⟨ht, hw⟩ := hw
      refine c_callVi hc hr ciX6 (Nat.le_of_ble_eq_true rfl) ht mt_X6_degreeIn rfl lm_X11_204 (ok_X6_degreeIn hw) (Nat.le_of_ble_eq_true rfl) dX11_of_70 rfl (rest := []) rfl (Nat.le_of_ble_eq_true rfl) (fun r8 S8 hw => ?_)
      exact c_iret hc hr dX11_of_73 hw
    | 4, _, cq =>
      have cq : x2 = 4 := cq
      have hw := hw.2.2.2.2.1 cq
      refine m_tin hc (off := 59) 66 dX11_of_7 (by rw [cq]; decide) (by rw [cq]; decide) (by rw [cq]; rfl) rfl ?_
      refine q_aload_n hc 0 dX11_of_66 rfl rfl ?_
      obtain ⟨b9, e_b9, hw⟩ := hw
      refine q_some e_b9 ?_
      refine m_iload_n hc 3 dX11_of_67 rfl rfl ?_
      refine m_iconst hc 2 dX11_of_68 (by decide) ?_
      refine m_isub hc dX11_of_69 ?_
      obtain ⟨ht, hw⟩ := hw
      refine c_callVi hc hr ciX6 (Nat.le_of_ble_eq_true rfl) ht mt_X6_degreeIn rfl lm_X11_204 (ok_X6_degreeIn hw) (Nat.le_of_ble_eq_true rfl) dX11_of_70 rfl (rest := []) rfl (Nat.le_of_ble_eq_true rfl) (fun r10 S10 hw => ?_)
      exact c_iret hc hr dX11_of_73 hw
    | 5, _, cq =>
      have cq : x2 = 5 := cq
      have hw := hw.2.2.2.2.2.1 cq
      refine m_tin hc (off := 67) 74 dX11_of_7 (by rw [cq]; decide) (by rw [cq]; decide) (by rw [cq]; rfl) rfl ?_
      refine m_aload_n hc 1 dX11_of_74 rfl rfl ?_
      obtain ⟨ht, b11, e_b11, hw⟩ := hw
      refine c_getr hc hr ciX11 (Nat.le_of_ble_eq_true rfl) 3 (Nat.le_of_ble_eq_true rfl) rfl dX11_of_75 lf_X11_32 ht e_b11 ?_
      refine q_aload_n hc 0 dX11_of_78 rfl rfl ?_
      obtain ⟨b12, e_b12, hw⟩ := hw
      refine q_some e_b12 ?_
      refine m_aload_n hc 1 dX11_of_79 rfl rfl ?_
      obtain ⟨ht, b13, e_b13, hw⟩ := hw
      refine c_getr hc hr ciX11 (Nat.le_of_ble_eq_true rfl) 0 (Nat.le_of_ble_eq_true rfl) rfl dX11_of_80 lf_X11_14 ht e_b13 ?_
      refine m_aload_n hc 1 dX11_of_83 rfl rfl ?_
      obtain ⟨ht, b14, e_b14, hw⟩ := hw
      refine c_getr hc hr ciX11 (Nat.le_of_ble_eq_true rfl) 2 (Nat.le_of_ble_eq_true rfl) rfl dX11_of_84 lf_X11_25 ht e_b14 ?_
      obtain ⟨ht, hw⟩ := hw
      refine c_geti hc hr ciX9 (Nat.le_of_ble_eq_true rfl) 0 (Nat.le_of_ble_eq_true rfl) rfl dX11_of_87 lf_X11_83 ht ?_
      obtain ⟨ht, hw⟩ := hw
      refine c_callVv hc hr ciX5 (Nat.le_of_ble_eq_true rfl) ht mt_X5_load rfl lm_X11_207 (ok_X5_load hw) (Nat.le_of_ble_eq_true rfl) dX11_of_90 rfl (rest := []) rfl (Nat.le_of_ble_eq_true rfl) (fun S15 hw => ?_)
      refine m_aload_n hc 1 dX11_of_93 rfl rfl ?_
      obtain ⟨ht, b16, e_b16, hw⟩ := hw
      refine c_getr hc hr ciX11 (Nat.le_of_ble_eq_true rfl) 3 (Nat.le_of_ble_eq_true rfl) rfl dX11_of_94 lf_X11_32 ht e_b16 ?_
      obtain ⟨ht, hw⟩ := hw
      refine c_callVi hc hr ciX5 (Nat.le_of_ble_eq_true rfl) ht mt_X5_zeros rfl lm_X11_211 (ok_X5_zeros hw) (Nat.le_of_ble_eq_true rfl) dX11_of_97 rfl (rest := []) rfl (Nat.le_of_ble_eq_true rfl) (fun r17 S17 hw => ?_)
      exact c_iret hc hr dX11_of_100 hw
    | 6, _, cq =>
      have cq : x2 = 6 := cq
      have hw := hw.2.2.2.2.2.2.1 cq
      refine m_tin hc (off := 94) 101 dX11_of_7 (by rw [cq]; decide) (by rw [cq]; decide) (by rw [cq]; rfl) rfl ?_
      refine m_aload_n hc 1 dX11_of_101 rfl rfl ?_
      obtain ⟨ht, b18, e_b18, hw⟩ := hw
      refine c_getr hc hr ciX11 (Nat.le_of_ble_eq_true rfl) 4 (Nat.le_of_ble_eq_true rfl) rfl dX11_of_102 lf_X11_39 ht e_b18 ?_
      refine q_aload_n hc 0 dX11_of_105 rfl rfl ?_
      obtain ⟨b19, e_b19, hw⟩ := hw
      refine q_some e_b19 ?_
      refine m_aload_n hc 1 dX11_of_106 rfl rfl ?_
      obtain ⟨ht, b20, e_b20, hw⟩ := hw
      refine c_getr hc hr ciX11 (Nat.le_of_ble_eq_true rfl) 2 (Nat.le_of_ble_eq_true rfl) rfl dX11_of_107 lf_X11_25 ht e_b20 ?_
      obtain ⟨ht, hw⟩ := hw
      refine c_geti hc hr ciX9 (Nat.le_of_ble_eq_true rfl) 0 (Nat.le_of_ble_eq_true rfl) rfl dX11_of_110 lf_X11_83 ht ?_
      obtain ⟨ht, hw⟩ := hw
      refine c_callVv hc hr ciX2 (Nat.le_of_ble_eq_true rfl) ht mt_X2_find rfl lm_X11_214 (ok_X2_find hw) (Nat.le_of_ble_eq_true rfl) dX11_of_113 rfl (rest := []) rfl (Nat.le_of_ble_eq_true rfl) (fun S21 hw => ?_)
      refine m_aload_n hc 1 dX11_of_116 rfl rfl ?_
      obtain ⟨ht, b22, e_b22, hw⟩ := hw
      refine c_getr hc hr ciX11 (Nat.le_of_ble_eq_true rfl) 4 (Nat.le_of_ble_eq_true rfl) rfl dX11_of_117 lf_X11_39 ht e_b22 ?_
      obtain ⟨ht, hw⟩ := hw
      refine c_geti hc hr ciX2 (Nat.le_of_ble_eq_true rfl) 1 (Nat.le_of_ble_eq_true rfl) rfl dX11_of_120 lf_X11_218 ht ?_
      exact c_iret hc hr dX11_of_123 hw
    | 7, _, cq =>
      have cq : x2 = 7 := cq
      have hw := hw.2.2.2.2.2.2.2.1 cq
      refine m_tin hc (off := 117) 124 dX11_of_7 (by rw [cq]; decide) (by rw [cq]; decide) (by rw [cq]; rfl) rfl ?_
      refine m_aload_n hc 1 dX11_of_124 rfl rfl ?_
      obtain ⟨ht, b23, e_b23, hw⟩ := hw
      refine c_getr hc hr ciX11 (Nat.le_of_ble_eq_true rfl) 4 (Nat.le_of_ble_eq_true rfl) rfl dX11_of_125 lf_X11_39 ht e_b23 ?_
      refine q_aload_n hc 0 dX11_of_128 rfl rfl ?_
      obtain ⟨b24, e_b24, hw⟩ := hw
      refine q_some e_b24 ?_
      refine m_aload_n hc 1 dX11_of_129 rfl rfl ?_
      obtain ⟨ht, b25, e_b25, hw⟩ := hw
      refine c_getr hc hr ciX11 (Nat.le_of_ble_eq_true rfl) 2 (Nat.le_of_ble_eq_true rfl) rfl dX11_of_130 lf_X11_25 ht e_b25 ?_
      obtain ⟨ht, hw⟩ := hw
      refine c_geti hc hr ciX9 (Nat.le_of_ble_eq_true rfl) 0 (Nat.le_of_ble_eq_true rfl) rfl dX11_of_133 lf_X11_83 ht ?_
      obtain ⟨ht, hw⟩ := hw
      refine c_callVv hc hr ciX2 (Nat.le_of_ble_eq_true rfl) ht mt_X2_find rfl lm_X11_214 (ok_X2_find hw) (Nat.le_of_ble_eq_true rfl) dX11_of_136 rfl (rest := []) rfl (Nat.le_of_ble_eq_true rfl) (fun S26 hw => ?_)
      refine m_aload_n hc 1 dX11_of_139 rfl rfl ?_
      obtain ⟨ht, b27, e_b27, hw⟩ := hw
      refine c_getr hc hr ciX11 (Nat.le_of_ble_eq_true rfl) 4 (Nat.le_of_ble_eq_true rfl) rfl dX11_of_140 lf_X11_39 ht e_b27 ?_
      obtain ⟨ht, hw⟩ := hw
      refine c_callVi hc hr ciX2 (Nat.le_of_ble_eq_true rfl) ht mt_X2_inAll rfl lm_X11_219 (ok_X2_inAll hw) (Nat.le_of_ble_eq_true rfl) dX11_of_143 rfl (rest := []) rfl (Nat.le_of_ble_eq_true rfl) (fun r28 S28 hw => ?_)
      exact c_iret hc hr dX11_of_146 hw
    | 8, _, cq =>
      have cq : x2 = 8 := cq
      have hw := hw.2.2.2.2.2.2.2.2 cq
      refine m_tin hc (off := 140) 147 dX11_of_7 (by rw [cq]; decide) (by rw [cq]; decide) (by rw [cq]; rfl) rfl ?_
      refine q_aload_n hc 0 dX11_of_147 rfl rfl ?_
      obtain ⟨b29, e_b29, hw⟩ := hw
      refine q_some e_b29 ?_
      obtain ⟨ht, hw⟩ := hw
      refine c_callVi hc hr ciX6 (Nat.le_of_ble_eq_true rfl) ht mt_X6_hasOneDegree rfl lm_X11_222 (ok_X6_hasOneDegree hw) (Nat.le_of_ble_eq_true rfl) dX11_of_148 rfl (rest := []) rfl (Nat.le_of_ble_eq_true rfl) (fun r30 S30 hw => ?_)
      refine m_if_eq hc 158 dX11_of_151 rfl (fun cq => ?_) (fun cq => ?_)
      · have hw := hw.1 cq
        refine m_iconst hc 0 dX11_of_158 (by decide) ?_
        exact c_iret hc hr dX11_of_159 hw
      · have hw := hw.2 cq
        refine m_iconst hc 1 dX11_of_154 (by decide) ?_
        refine m_goto hc 159 dX11_of_155 rfl ?_
        exact c_iret hc hr dX11_of_159 hw
    | nn + 9, cl, _ => exact absurd cl (by omega)
def wp_X11_term (M : Nat × Nat) (x0 : Nat) (x1 x2 x3 x4 : Int32) (S : HS) (KX : String → HS → Prop) (K : Int32 → HS → Prop) : Prop := hT S x0 = 12 ∧ wp_X11_polyAt M x0 x1 S KX (fun r1 S1 => (x2 < 0 → KX xNSE S1 ∧ hX S1 + 1 ≤ M.1 ∧ hS S1 + 6 ≤ M.2) ∧ (¬ (x2 < 0) → (2 < x2 → KX xNSE S1 ∧ hX S1 + 1 ≤ M.1 ∧ hS S1 + 6 ≤ M.2) ∧ (¬ (2 < x2) → (x3 < 0 → KX xNSE S1 ∧ hX S1 + 1 ≤ M.1 ∧ hS S1 + 6 ≤ M.2) ∧ (¬ (x3 < 0) → ∃ b2 : Nat, r1 = some b2 ∧ hT S1 b2 = 7 ∧ ((hI S1 b2 2) ≤ x3 → KX xNSE S1 ∧ hX S1 + 1 ≤ M.1 ∧ hS S1 + 6 ≤ M.2) ∧ (¬ ((hI S1 b2 2) ≤ x3) → (x4 < 0 → KX xNSE S1 ∧ hX S1 + 1 ≤ M.1 ∧ hS S1 + 6 ≤ M.2) ∧ (¬ (x4 < 0) → (x4 ≤ 3 → hT S1 x0 = 12 ∧ ∃ b3 : Nat, hP S1 x0 5 = some b3 ∧ ∃ b4 : Nat, r1 = some b4 ∧ hT S1 b3 = 5 ∧ wp_X4_sort M b3 b4 x2 S1 (fun r5 S5 => hT S5 x0 = 12 ∧ ∃ b6 : Nat, hP S5 x0 5 = some b6 ∧ hT S5 b6 = 5 ∧ wp_X4_indexOf M b6 x3 S5 (fun r7 S7 => (¬ x4 = 0 → ∃ b8 : Nat, r1 = some b8 ∧ hT S7 b8 = 7 ∧ ∃ b9 : Nat, hP S7 b8 0 = some b9 ∧ hT S7 b9 = 21 ∧ vp_in r7 (hN S7 b9) ∧ wp_X6_exponent M (hI S7 b9 (Int32.toNatClampNeg r7)) (x4 - 1) S7 (fun r10 S10 => K r10 S10)) ∧ (x4 = 0 → ∃ b11 : Nat, r1 = some b11 ∧ hT S7 b11 = 7 ∧ ∃ b12 : Nat, hP S7 b11 1 = some b12 ∧ hT S7 b12 = 21 ∧ vp_in r7 (hN S7 b12) ∧ K (hI S7 b12 (Int32.toNatClampNeg r7)) S7)))) ∧ (¬ (x4 ≤ 3) → KX xNSE S1 ∧ hX S1 + 1 ≤ M.1 ∧ hS S1 + 6 ≤ M.2)))))))
set_option maxHeartbeats 4000000 in
set_option maxRecDepth 100000 in
theorem ok_X11_term {G : CG} {x0 : Nat} {x1 : Int32} {x2 : Int32} {x3 : Int32} {x4 : Int32} {S : HS} {KX : String → HS → Prop} {K : Int32 → HS → Prop} (hw : wp_X11_term (gC G, gS G) x0 x1 x2 x3 x4 S KX K) : CX 7 yX11_term cX11_term 7 (some .int) [.ref x0, .int x1, .int x2, .int x3, .int x4] G S KX (kI K) := by
  refine CX.of (by decide +kernel) (Nat.le_of_ble_eq_true rfl) (fun X hc hr hxx => ?_)
  show MC G S X 7 S 0 [(0, .ref x0), (1, .int x1), (2, .int x2), (3, .int x3), (4, .int x4)] []
  unfold wp_X11_term at hw
  refine m_aload_n hc 0 dX11_term_0 rfl rfl ?_
  refine m_iload_n hc 1 dX11_term_1 rfl rfl ?_
  obtain ⟨ht, hw⟩ := hw
  refine x_callVq hc hr hxx ciX11 (Nat.le_of_ble_eq_true rfl) ht mt_X11_polyAt rfl lm_X11_200 (ok_X11_polyAt hw) (Nat.le_of_ble_eq_true rfl) dX11_term_2 rfl (rest := []) rfl (Nat.le_of_ble_eq_true rfl) (fun r1 S1 hw => ?_)
  skip
  refine q_astore hc [(5, va_rf r1), (0, .ref x0), (1, .int x1), (2, .int x2), (3, .int x3), (4, .int x4)] dX11_term_5 (Nat.le_of_ble_eq_true rfl) rfl ?_
  refine m_iload_n hc 3 dX11_term_7 rfl rfl ?_
  refine m_if_lt hc 40 dX11_term_8 rfl (fun cq => ?_) (fun cq => ?_)
  · have hw := hw.1 cq
    exact x_throw hc hr hxx (E := xNSE) mx_133_137 (List.mem_of_getElem? (i := 8) rfl) dX11_term_40 dX11_term_43 dX11_term_44 dX11_term_46 dX11_term_49 (Nat.le_of_ble_eq_true rfl) hw.1 hw.2.1 hw.2.2
  · have hw := hw.2 cq
    refine m_iload_n hc 3 dX11_term_11 rfl rfl ?_
    refine m_iconst hc 2 dX11_term_12 (by decide) ?_
    refine m_icmp_gt hc 40 dX11_term_13 rfl (fun cq => ?_) (fun cq => ?_)
    · have hw := hw.1 cq
      exact x_throw hc hr hxx (E := xNSE) mx_133_137 (List.mem_of_getElem? (i := 8) rfl) dX11_term_40 dX11_term_43 dX11_term_44 dX11_term_46 dX11_term_49 (Nat.le_of_ble_eq_true rfl) hw.1 hw.2.1 hw.2.2
    · have hw := hw.2 cq
      refine m_iload_n hc 4 dX11_term_16 rfl rfl ?_
      refine m_if_lt hc 40 dX11_term_17 rfl (fun cq => ?_) (fun cq => ?_)
      · have hw := hw.1 cq
        exact x_throw hc hr hxx (E := xNSE) mx_133_137 (List.mem_of_getElem? (i := 8) rfl) dX11_term_40 dX11_term_43 dX11_term_44 dX11_term_46 dX11_term_49 (Nat.le_of_ble_eq_true rfl) hw.1 hw.2.1 hw.2.2
      · have hw := hw.2 cq
        refine m_iload_n hc 4 dX11_term_20 rfl rfl ?_
        refine q_aload hc 0 dX11_term_21 rfl ?_
        obtain ⟨b2, e_b2, hw⟩ := hw
        refine q_some e_b2 ?_
        obtain ⟨ht, hw⟩ := hw
        refine c_geti hc hr ciX6 (Nat.le_of_ble_eq_true rfl) 2 (Nat.le_of_ble_eq_true rfl) rfl dX11_term_23 lf_X11_146 ht ?_
        refine m_icmp_ge hc 40 dX11_term_26 rfl (fun cq => ?_) (fun cq => ?_)
        · have hw := hw.1 cq
          exact x_throw hc hr hxx (E := xNSE) mx_133_137 (List.mem_of_getElem? (i := 8) rfl) dX11_term_40 dX11_term_43 dX11_term_44 dX11_term_46 dX11_term_49 (Nat.le_of_ble_eq_true rfl) hw.1 hw.2.1 hw.2.2
        · have hw := hw.2 cq
          refine m_iload hc 5 dX11_term_29 rfl ?_
          refine m_if_lt hc 40 dX11_term_31 rfl (fun cq => ?_) (fun cq => ?_)
          · have hw := hw.1 cq
            exact x_throw hc hr hxx (E := xNSE) mx_133_137 (List.mem_of_getElem? (i := 8) rfl) dX11_term_40 dX11_term_43 dX11_term_44 dX11_term_46 dX11_term_49 (Nat.le_of_ble_eq_true rfl) hw.1 hw.2.1 hw.2.2
          · have hw := hw.2 cq
            refine m_iload hc 5 dX11_term_34 rfl ?_
            refine m_iconst hc 3 dX11_term_36 (by decide) ?_
            refine m_icmp_le hc 50 dX11_term_37 rfl (fun cq => ?_) (fun cq => ?_)
            · have hw := hw.1 cq
              refine m_aload_n hc 1 dX11_term_50 rfl rfl ?_
              obtain ⟨ht, b3, e_b3, hw⟩ := hw
              refine c_getr hc hr ciX11 (Nat.le_of_ble_eq_true rfl) 5 (Nat.le_of_ble_eq_true rfl) rfl dX11_term_51 lf_X11_46 ht e_b3 ?_
              refine q_aload hc 0 dX11_term_54 rfl ?_
              obtain ⟨b4, e_b4, hw⟩ := hw
              refine q_some e_b4 ?_
              refine m_iload_n hc 3 dX11_term_56 rfl rfl ?_
              obtain ⟨ht, hw⟩ := hw
              refine c_callVv hc hr ciX4 (Nat.le_of_ble_eq_true rfl) ht mt_X4_sort rfl lm_X11_230 (ok_X4_sort hw) (Nat.le_of_ble_eq_true rfl) dX11_term_57 rfl (rest := []) rfl (Nat.le_of_ble_eq_true rfl) (fun S5 hw => ?_)
              refine m_aload_n hc 1 dX11_term_60 rfl rfl ?_
              obtain ⟨ht, b6, e_b6, hw⟩ := hw
              refine c_getr hc hr ciX11 (Nat.le_of_ble_eq_true rfl) 5 (Nat.le_of_ble_eq_true rfl) rfl dX11_term_61 lf_X11_46 ht e_b6 ?_
              refine m_iload_n hc 4 dX11_term_64 rfl rfl ?_
              obtain ⟨ht, hw⟩ := hw
              refine c_callVi hc hr ciX4 (Nat.le_of_ble_eq_true rfl) ht mt_X4_indexOf rfl lm_X11_233 (ok_X4_indexOf hw) (Nat.le_of_ble_eq_true rfl) dX11_term_65 rfl (rest := []) rfl (Nat.le_of_ble_eq_true rfl) (fun r7 S7 hw => ?_)
              refine m_istore hc [(6, .int r7), (5, va_rf r1), (0, .ref x0), (1, .int x1), (2, .int x2), (3, .int x3), (4, .int x4)] dX11_term_68 (Nat.le_of_ble_eq_true rfl) (by generalize r1 = zz; cases zz <;> rfl) ?_
              refine m_iload hc 6 dX11_term_70 rfl ?_
              refine m_if_ne hc 86 dX11_term_72 rfl (fun cq => ?_) (fun cq => ?_)
              · have hw := hw.1 cq
                refine q_aload hc 1 dX11_term_86 rfl ?_
                obtain ⟨b8, e_b8, hw⟩ := hw
                refine q_some e_b8 ?_
                obtain ⟨ht, b9, e_b9, hw⟩ := hw
                refine c_getr hc hr ciX6 (Nat.le_of_ble_eq_true rfl) 0 (Nat.le_of_ble_eq_true rfl) rfl dX11_term_88 lf_X11_239 ht e_b9 ?_
                refine m_iload hc 0 dX11_term_91 rfl ?_
                obtain ⟨ht, hi, hw⟩ := hw
                refine c_iald hc hr ht hi dX11_term_93 ?_
                refine m_iload hc 6 dX11_term_94 rfl ?_
                refine m_iconst hc 1 dX11_term_96 (by decide) ?_
                refine m_isub hc dX11_term_97 ?_
                refine c_callSi hc hr mt_X6_exponent lm_X11_242 (ok_X6_exponent hw) (Nat.le_of_ble_eq_true rfl) dX11_term_98 rfl (rest := []) rfl (Nat.le_of_ble_eq_true rfl) (fun r10 S10 hw => ?_)
                exact c_iret hc hr dX11_term_101 hw
              · have hw := hw.2 cq
                refine q_aload hc 1 dX11_term_75 rfl ?_
                obtain ⟨b11, e_b11, hw⟩ := hw
                refine q_some e_b11 ?_
                obtain ⟨ht, b12, e_b12, hw⟩ := hw
                refine c_getr hc hr ciX6 (Nat.le_of_ble_eq_true rfl) 1 (Nat.le_of_ble_eq_true rfl) rfl dX11_term_77 lf_X11_236 ht e_b12 ?_
                refine m_iload hc 0 dX11_term_80 rfl ?_
                obtain ⟨ht, hi, hw⟩ := hw
                refine c_iald hc hr ht hi dX11_term_82 ?_
                refine m_goto hc 101 dX11_term_83 rfl ?_
                exact c_iret hc hr dX11_term_101 hw
            · have hw := hw.2 cq
              exact x_throw hc hr hxx (E := xNSE) mx_133_137 (List.mem_of_getElem? (i := 8) rfl) dX11_term_40 dX11_term_43 dX11_term_44 dX11_term_46 dX11_term_49 (Nat.le_of_ble_eq_true rfl) hw.1 hw.2.1 hw.2.2
def wp_X11_number (M : Nat × Nat) (x0 : Nat) (x1 x2 x3 x4 : Int32) (S : HS) (KX : String → HS → Prop) (K : Int32 → HS → Prop) : Prop := hT S x0 = 12 ∧ wp_X11_polyAt M x0 x1 S KX (fun r1 S1 => (x2 < 0 → KX xIAE S1 ∧ hX S1 + 1 ≤ M.1 ∧ hS S1 + 6 ≤ M.2) ∧ (¬ (x2 < 0) → (x3 < 0 → KX xIAE S1 ∧ hX S1 + 1 ≤ M.1 ∧ hS S1 + 6 ≤ M.2) ∧ (¬ (x3 < 0) → (0 ≤ x4 → (40 < x2 → K 0 S1) ∧ (¬ (40 < x2) → (40 < x3 → K 0 S1) ∧ (¬ (40 < x3) → (x4 ≤ 40 → ∃ b2 : Nat, r1 = some b2 ∧ wp_X6_key M x2 x3 x4 S1 (fun r3 S3 => hT S3 b2 = 7 ∧ wp_X6_numberWith M b2 r3 S3 (fun r4 S4 => K r4 S4))) ∧ (¬ (x4 ≤ 40) → K 0 S1)))) ∧ (¬ (0 ≤ x4) → KX xIAE S1 ∧ hX S1 + 1 ≤ M.1 ∧ hS S1 + 6 ≤ M.2))))
set_option maxHeartbeats 4000000 in
set_option maxRecDepth 100000 in
theorem ok_X11_number {G : CG} {x0 : Nat} {x1 : Int32} {x2 : Int32} {x3 : Int32} {x4 : Int32} {S : HS} {KX : String → HS → Prop} {K : Int32 → HS → Prop} (hw : wp_X11_number (gC G, gS G) x0 x1 x2 x3 x4 S KX K) : CX 7 yX11_number cX11_number 6 (some .int) [.ref x0, .int x1, .int x2, .int x3, .int x4] G S KX (kI K) := by
  refine CX.of (by decide +kernel) (Nat.le_of_ble_eq_true rfl) (fun X hc hr hxx => ?_)
  show MC G S X 6 S 0 [(0, .ref x0), (1, .int x1), (2, .int x2), (3, .int x3), (4, .int x4)] []
  unfold wp_X11_number at hw
  refine m_aload_n hc 0 dX11_number_0 rfl rfl ?_
  refine m_iload_n hc 1 dX11_number_1 rfl rfl ?_
  obtain ⟨ht, hw⟩ := hw
  refine x_callVq hc hr hxx ciX11 (Nat.le_of_ble_eq_true rfl) ht mt_X11_polyAt rfl lm_X11_200 (ok_X11_polyAt hw) (Nat.le_of_ble_eq_true rfl) dX11_number_2 rfl (rest := []) rfl (Nat.le_of_ble_eq_true rfl) (fun r1 S1 hw => ?_)
  skip
  refine q_astore hc [(5, va_rf r1), (0, .ref x0), (1, .int x1), (2, .int x2), (3, .int x3), (4, .int x4)] dX11_number_5 (Nat.le_of_ble_eq_true rfl) rfl ?_
  refine m_iload_n hc 3 dX11_number_7 rfl rfl ?_
  refine m_if_lt hc 20 dX11_number_8 rfl (fun cq => ?_) (fun cq => ?_)
  · have hw := hw.1 cq
    exact x_throw hc hr hxx (E := xIAE) mx_96_100 (List.mem_of_getElem? (i := 9) rfl) dX11_number_20 dX11_number_23 dX11_number_24 dX11_number_26 dX11_number_29 (Nat.le_of_ble_eq_true rfl) hw.1 hw.2.1 hw.2.2
  · have hw := hw.2 cq
    refine m_iload_n hc 4 dX11_number_11 rfl rfl ?_
    refine m_if_lt hc 20 dX11_number_12 rfl (fun cq => ?_) (fun cq => ?_)
    · have hw := hw.1 cq
      exact x_throw hc hr hxx (E := xIAE) mx_96_100 (List.mem_of_getElem? (i := 9) rfl) dX11_number_20 dX11_number_23 dX11_number_24 dX11_number_26 dX11_number_29 (Nat.le_of_ble_eq_true rfl) hw.1 hw.2.1 hw.2.2
    · have hw := hw.2 cq
      refine m_iload hc 5 dX11_number_15 rfl ?_
      refine m_if_ge hc 30 dX11_number_17 rfl (fun cq => ?_) (fun cq => ?_)
      · have hw := hw.1 cq
        refine m_iload_n hc 3 dX11_number_30 rfl rfl ?_
        refine m_bipush hc 40 dX11_number_31 (by decide) ?_
        refine m_icmp_gt hc 49 dX11_number_33 rfl (fun cq => ?_) (fun cq => ?_)
        · have hw := hw.1 cq
          refine m_iconst hc 0 dX11_number_49 (by decide) ?_
          exact c_iret hc hr dX11_number_50 hw
        · have hw := hw.2 cq
          refine m_iload_n hc 4 dX11_number_36 rfl rfl ?_
          refine m_bipush hc 40 dX11_number_37 (by decide) ?_
          refine m_icmp_gt hc 49 dX11_number_39 rfl (fun cq => ?_) (fun cq => ?_)
          · have hw := hw.1 cq
            refine m_iconst hc 0 dX11_number_49 (by decide) ?_
            exact c_iret hc hr dX11_number_50 hw
          · have hw := hw.2 cq
            refine m_iload hc 5 dX11_number_42 rfl ?_
            refine m_bipush hc 40 dX11_number_44 (by decide) ?_
            refine m_icmp_le hc 51 dX11_number_46 rfl (fun cq => ?_) (fun cq => ?_)
            · have hw := hw.1 cq
              refine q_aload hc 0 dX11_number_51 rfl ?_
              obtain ⟨b2, e_b2, hw⟩ := hw
              refine q_some e_b2 ?_
              refine m_iload_n hc 3 dX11_number_53 rfl rfl ?_
              refine m_iload_n hc 4 dX11_number_54 rfl rfl ?_
              refine m_iload hc 5 dX11_number_55 rfl ?_
              refine c_callSi hc hr mt_X6_key lm_X11_247 (ok_X6_key hw) (Nat.le_of_ble_eq_true rfl) dX11_number_57 rfl (rest := [.ref b2]) rfl (Nat.le_of_ble_eq_true rfl) (fun r3 S3 hw => ?_)
              obtain ⟨ht, hw⟩ := hw
              refine c_callVi hc hr ciX6 (Nat.le_of_ble_eq_true rfl) ht mt_X6_numberWith rfl lm_X11_251 (ok_X6_numberWith hw) (Nat.le_of_ble_eq_true rfl) dX11_number_60 rfl (rest := []) rfl (Nat.le_of_ble_eq_true rfl) (fun r4 S4 hw => ?_)
              exact c_iret hc hr dX11_number_63 hw
            · have hw := hw.2 cq
              refine m_iconst hc 0 dX11_number_49 (by decide) ?_
              exact c_iret hc hr dX11_number_50 hw
      · have hw := hw.2 cq
        exact x_throw hc hr hxx (E := xIAE) mx_96_100 (List.mem_of_getElem? (i := 9) rfl) dX11_number_20 dX11_number_23 dX11_number_24 dX11_number_26 dX11_number_29 (Nat.le_of_ble_eq_true rfl) hw.1 hw.2.1 hw.2.2
def wp_X11_value (M : Nat × Nat) (x0 : Nat) (x1 x2 x3 x4 : Int32) (S : HS) (KX : String → HS → Prop) (K : Int32 → HS → Prop) : Prop := hT S x0 = 12 ∧ wp_X11_polyAt M x0 x1 S KX (fun r1 S1 => hT S1 x0 = 12 ∧ ∃ b2 : Nat, hP S1 x0 2 = some b2 ∧ hT S1 b2 = 10 ∧ wp_X9_isPoint M b2 x2 x3 x4 S1 (fun r3 S3 => (¬ r3 = 0 → hT S3 x0 = 12 ∧ ∃ b4 : Nat, hP S3 x0 2 = some b4 ∧ ∃ b5 : Nat, r1 = some b5 ∧ hT S3 b4 = 10 ∧ wp_X9_valueAt M b4 b5 x2 x3 x4 S3 (fun r6 S6 => K r6 S6)) ∧ (r3 = 0 → KX xIAE S3 ∧ hX S3 + 1 ≤ M.1 ∧ hS S3 + 6 ≤ M.2)))
set_option maxHeartbeats 4000000 in
set_option maxRecDepth 100000 in
theorem ok_X11_value {G : CG} {x0 : Nat} {x1 : Int32} {x2 : Int32} {x3 : Int32} {x4 : Int32} {S : HS} {KX : String → HS → Prop} {K : Int32 → HS → Prop} (hw : wp_X11_value (gC G, gS G) x0 x1 x2 x3 x4 S KX K) : CX 7 yX11_value cX11_value 6 (some .int) [.ref x0, .int x1, .int x2, .int x3, .int x4] G S KX (kI K) := by
  refine CX.of (by decide +kernel) (Nat.le_of_ble_eq_true rfl) (fun X hc hr hxx => ?_)
  show MC G S X 6 S 0 [(0, .ref x0), (1, .int x1), (2, .int x2), (3, .int x3), (4, .int x4)] []
  unfold wp_X11_value at hw
  refine m_aload_n hc 0 dX11_value_0 rfl rfl ?_
  refine m_iload_n hc 1 dX11_value_1 rfl rfl ?_
  obtain ⟨ht, hw⟩ := hw
  refine x_callVq hc hr hxx ciX11 (Nat.le_of_ble_eq_true rfl) ht mt_X11_polyAt rfl lm_X11_200 (ok_X11_polyAt hw) (Nat.le_of_ble_eq_true rfl) dX11_value_2 rfl (rest := []) rfl (Nat.le_of_ble_eq_true rfl) (fun r1 S1 hw => ?_)
  skip
  refine q_astore hc [(5, va_rf r1), (0, .ref x0), (1, .int x1), (2, .int x2), (3, .int x3), (4, .int x4)] dX11_value_5 (Nat.le_of_ble_eq_true rfl) rfl ?_
  refine m_aload_n hc 1 dX11_value_7 rfl rfl ?_
  obtain ⟨ht, b2, e_b2, hw⟩ := hw
  refine c_getr hc hr ciX11 (Nat.le_of_ble_eq_true rfl) 2 (Nat.le_of_ble_eq_true rfl) rfl dX11_value_8 lf_X11_25 ht e_b2 ?_
  refine m_iload_n hc 3 dX11_value_11 rfl rfl ?_
  refine m_iload_n hc 4 dX11_value_12 rfl rfl ?_
  refine m_iload hc 5 dX11_value_13 rfl ?_
  obtain ⟨ht, hw⟩ := hw
  refine c_callVi hc hr ciX9 (Nat.le_of_ble_eq_true rfl) ht mt_X9_isPoint rfl lm_X11_162 (ok_X9_isPoint hw) (Nat.le_of_ble_eq_true rfl) dX11_value_15 rfl (rest := []) rfl (Nat.le_of_ble_eq_true rfl) (fun r3 S3 hw => ?_)
  refine m_if_ne hc 31 dX11_value_18 rfl (fun cq => ?_) (fun cq => ?_)
  · have hw := hw.1 cq
    refine m_aload_n hc 1 dX11_value_31 rfl rfl ?_
    obtain ⟨ht, b4, e_b4, hw⟩ := hw
    refine c_getr hc hr ciX11 (Nat.le_of_ble_eq_true rfl) 2 (Nat.le_of_ble_eq_true rfl) rfl dX11_value_32 lf_X11_25 ht e_b4 ?_
    refine q_aload hc 0 dX11_value_35 rfl ?_
    obtain ⟨b5, e_b5, hw⟩ := hw
    refine q_some e_b5 ?_
    refine m_iload_n hc 3 dX11_value_37 rfl rfl ?_
    refine m_iload_n hc 4 dX11_value_38 rfl rfl ?_
    refine m_iload hc 5 dX11_value_39 rfl ?_
    obtain ⟨ht, hw⟩ := hw
    refine c_callVi hc hr ciX9 (Nat.le_of_ble_eq_true rfl) ht mt_X9_valueAt rfl lm_X11_254 (ok_X9_valueAt hw) (Nat.le_of_ble_eq_true rfl) dX11_value_41 rfl (rest := []) rfl (Nat.le_of_ble_eq_true rfl) (fun r6 S6 hw => ?_)
    exact c_iret hc hr dX11_value_44 hw
  · have hw := hw.2 cq
    exact x_throw hc hr hxx (E := xIAE) mx_96_100 (List.mem_of_getElem? (i := 4) rfl) dX11_value_21 dX11_value_24 dX11_value_25 dX11_value_27 dX11_value_30 (Nat.le_of_ble_eq_true rfl) hw.1 hw.2.1 hw.2.2
def wp_X11_firstUnlike (M : Nat × Nat) (x0 x1 x2 : Nat) (S : HS) (K : Int32 → HS → Prop) : Prop := hT S x0 = 12 ∧ ∃ b1 : Nat, hP S x0 3 = some b1 ∧ hT S x0 = 12 ∧ ∃ b2 : Nat, hP S x0 2 = some b2 ∧ hT S b2 = 10 ∧ hT S b1 = 6 ∧ wp_X5_load M b1 x1 x2 (hI S b2 0) S (fun r3 S3 => hT S3 x0 = 12 ∧ ∃ b4 : Nat, hP S3 x0 3 = some b4 ∧ hT S3 b4 = 6 ∧ wp_X5_firstNotZero M b4 S3 (fun r5 S5 => K r5 S5))
set_option maxHeartbeats 4000000 in
set_option maxRecDepth 100000 in
theorem ok_X11_firstUnlike {G : CG} {x0 : Nat} {x1 : Nat} {x2 : Nat} {S : HS} {K : Int32 → HS → Prop} (hw : wp_X11_firstUnlike (gC G, gS G) x0 x1 x2 S K) : CC 3 yX11_firstUnlike cX11_firstUnlike 3 (some .int) [.ref x0, .ref x1, .ref x2] G S (kI K) := by
  refine CC.of (by decide +kernel) (Nat.le_of_ble_eq_true rfl) (fun X hc hr hname => ?_)
  show MC G S X 3 S 0 [(0, .ref x0), (1, .ref x1), (2, .ref x2)] []
  unfold wp_X11_firstUnlike at hw
  refine m_aload_n hc 0 dX11_firstUnlike_0 rfl rfl ?_
  obtain ⟨ht, b1, e_b1, hw⟩ := hw
  refine c_getr hc hr ciX11 (Nat.le_of_ble_eq_true rfl) 3 (Nat.le_of_ble_eq_true rfl) rfl dX11_firstUnlike_1 lf_X11_32 ht e_b1 ?_
  refine m_aload_n hc 1 dX11_firstUnlike_4 rfl rfl ?_
  refine m_aload_n hc 2 dX11_firstUnlike_5 rfl rfl ?_
  refine m_aload_n hc 0 dX11_firstUnlike_6 rfl rfl ?_
  obtain ⟨ht, b2, e_b2, hw⟩ := hw
  refine c_getr hc hr ciX11 (Nat.le_of_ble_eq_true rfl) 2 (Nat.le_of_ble_eq_true rfl) rfl dX11_firstUnlike_7 lf_X11_25 ht e_b2 ?_
  obtain ⟨ht, hw⟩ := hw
  refine c_geti hc hr ciX9 (Nat.le_of_ble_eq_true rfl) 0 (Nat.le_of_ble_eq_true rfl) rfl dX11_firstUnlike_10 lf_X11_83 ht ?_
  obtain ⟨ht, hw⟩ := hw
  refine c_callVv hc hr ciX5 (Nat.le_of_ble_eq_true rfl) ht mt_X5_load rfl lm_X11_207 (ok_X5_load hw) (Nat.le_of_ble_eq_true rfl) dX11_firstUnlike_13 rfl (rest := []) rfl (Nat.le_of_ble_eq_true rfl) (fun S3 hw => ?_)
  refine m_aload_n hc 0 dX11_firstUnlike_16 rfl rfl ?_
  obtain ⟨ht, b4, e_b4, hw⟩ := hw
  refine c_getr hc hr ciX11 (Nat.le_of_ble_eq_true rfl) 3 (Nat.le_of_ble_eq_true rfl) rfl dX11_firstUnlike_17 lf_X11_32 ht e_b4 ?_
  obtain ⟨ht, hw⟩ := hw
  refine c_callVi hc hr ciX5 (Nat.le_of_ble_eq_true rfl) ht mt_X5_firstNotZero rfl lm_X11_339 (ok_X5_firstNotZero hw) (Nat.le_of_ble_eq_true rfl) dX11_firstUnlike_20 rfl (rest := []) rfl (Nat.le_of_ble_eq_true rfl) (fun r5 S5 hw => ?_)
  exact c_iret hc hr dX11_firstUnlike_23 hw
def wp_X11_same (M : Nat × Nat) (x0 : Nat) (x1 x2 x3 : Int32) (S : HS) (KX : String → HS → Prop) (K : Int32 → HS → Prop) : Prop := hT S x0 = 12 ∧ wp_X11_polyAt M x0 x1 S KX (fun r1 S1 => hT S1 x0 = 12 ∧ wp_X11_polyAt M x0 x2 S1 KX (fun r2 S2 => (x3 = 0 → ∃ b3 : Nat, r1 = some b3 ∧ ∃ b4 : Nat, r2 = some b4 ∧ hT S2 b3 = 7 ∧ wp_X6_isLike M b3 b4 S2 (fun r5 S5 => (r5 = 0 ∨ r5 = 1) ∧ K r5 S5)) ∧ (¬ (x3 = 0) → ∃ b6 : Nat, r1 = some b6 ∧ ∃ b7 : Nat, r2 = some b7 ∧ hT S2 x0 = 12 ∧ wp_X11_firstUnlike M x0 b6 b7 S2 (fun r8 S8 => (¬ r8 = (-1) → K 0 S8) ∧ (r8 = (-1) → K 1 S8)))))
set_option maxHeartbeats 4000000 in
set_option maxRecDepth 100000 in
theorem ok_X11_same {G : CG} {x0 : Nat} {x1 : Int32} {x2 : Int32} {x3 : Int32} {S : HS} {KX : String → HS → Prop} {K : Int32 → HS → Prop} (hw : wp_X11_same (gC G, gS G) x0 x1 x2 x3 S KX K) : CX 7 yX11_same cX11_same 6 (some .boolean) [.ref x0, .int x1, .int x2, .int x3] G S KX (kI K) := by
  refine CX.of (by decide +kernel) (Nat.le_of_ble_eq_true rfl) (fun X hc hr hxx => ?_)
  show MC G S X 6 S 0 [(0, .ref x0), (1, .int x1), (2, .int x2), (3, .int x3)] []
  unfold wp_X11_same at hw
  refine m_aload_n hc 0 dX11_same_0 rfl rfl ?_
  refine m_iload_n hc 1 dX11_same_1 rfl rfl ?_
  obtain ⟨ht, hw⟩ := hw
  refine x_callVq hc hr hxx ciX11 (Nat.le_of_ble_eq_true rfl) ht mt_X11_polyAt rfl lm_X11_200 (ok_X11_polyAt hw) (Nat.le_of_ble_eq_true rfl) dX11_same_2 rfl (rest := []) rfl (Nat.le_of_ble_eq_true rfl) (fun r1 S1 hw => ?_)
  skip
  refine q_astore hc [(4, va_rf r1), (0, .ref x0), (1, .int x1), (2, .int x2), (3, .int x3)] dX11_same_5 (Nat.le_of_ble_eq_true rfl) rfl ?_
  refine m_aload_n hc 1 dX11_same_7 rfl rfl ?_
  refine m_iload_n hc 3 dX11_same_8 rfl rfl ?_
  obtain ⟨ht, hw⟩ := hw
  refine x_callVq hc hr hxx ciX11 (Nat.le_of_ble_eq_true rfl) ht mt_X11_polyAt rfl lm_X11_200 (ok_X11_polyAt hw) (Nat.le_of_ble_eq_true rfl) dX11_same_9 rfl (rest := []) rfl (Nat.le_of_ble_eq_true rfl) (fun r2 S2 hw => ?_)
  skip
  refine q_astore hc [(5, va_rf r2), (4, va_rf r1), (0, .ref x0), (1, .int x1), (2, .int x2), (3, .int x3)] dX11_same_12 (Nat.le_of_ble_eq_true rfl) (by generalize r1 = zz; cases zz <;> rfl) ?_
  refine m_iload_n hc 5 dX11_same_14 rfl rfl ?_
  refine m_if_eq hc 38 dX11_same_15 rfl (fun cq => ?_) (fun cq => ?_)
  · have hw := hw.1 cq
    refine q_aload hc 1 dX11_same_38 rfl ?_
    obtain ⟨b3, e_b3, hw⟩ := hw
    refine q_some e_b3 ?_
    refine q_aload hc 0 dX11_same_40 rfl ?_
    obtain ⟨b4, e_b4, hw⟩ := hw
    refine q_some e_b4 ?_
    obtain ⟨ht, hw⟩ := hw
    refine c_callVi hc hr ciX6 (Nat.le_of_ble_eq_true rfl) ht mt_X6_isLike rfl lm_X11_262 (ok_X6_isLike hw) (Nat.le_of_ble_eq_true rfl) dX11_same_42 rfl (rest := []) rfl (Nat.le_of_ble_eq_true rfl) (fun r5 S5 hw => ?_)
    exact c_zret hc hr dX11_same_45 hw.1 hw.2
  · have hw := hw.2 cq
    refine m_aload_n hc 2 dX11_same_18 rfl rfl ?_
    refine q_aload hc 1 dX11_same_19 rfl ?_
    obtain ⟨b6, e_b6, hw⟩ := hw
    refine q_some e_b6 ?_
    refine q_aload hc 0 dX11_same_21 rfl ?_
    obtain ⟨b7, e_b7, hw⟩ := hw
    refine q_some e_b7 ?_
    obtain ⟨ht, hw⟩ := hw
    refine c_callVi hc hr ciX11 (Nat.le_of_ble_eq_true rfl) ht mt_X11_firstUnlike rfl lm_X11_258 (ok_X11_firstUnlike hw) (Nat.le_of_ble_eq_true rfl) dX11_same_23 rfl (rest := []) rfl (Nat.le_of_ble_eq_true rfl) (fun r8 S8 hw => ?_)
    refine m_iconst hc (-1) dX11_same_26 (by decide) ?_
    refine m_icmp_ne hc 34 dX11_same_27 rfl (fun cq => ?_) (fun cq => ?_)
    · have hw := hw.1 cq
      refine m_iconst hc 0 dX11_same_34 (by decide) ?_
      refine m_goto hc 45 dX11_same_35 rfl ?_
      exact c_zret hc hr dX11_same_45 (by decide) hw
    · have hw := hw.2 cq
      refine m_iconst hc 1 dX11_same_30 (by decide) ?_
      refine m_goto hc 45 dX11_same_31 rfl ?_
      exact c_zret hc hr dX11_same_45 (by decide) hw
def wp_X11_witness (M : Nat × Nat) (x0 : Nat) (x1 x2 : Int32) (S : HS) (KX : String → HS → Prop) (K : Int32 → HS → Prop) : Prop := hT S x0 = 12 ∧ wp_X11_polyAt M x0 x1 S KX (fun r1 S1 => hT S1 x0 = 12 ∧ wp_X11_polyAt M x0 x2 S1 KX (fun r2 S2 => ∃ b3 : Nat, r1 = some b3 ∧ ∃ b4 : Nat, r2 = some b4 ∧ hT S2 x0 = 12 ∧ wp_X11_firstUnlike M x0 b3 b4 S2 (fun r5 S5 => K r5 S5)))
set_option maxHeartbeats 4000000 in
set_option maxRecDepth 100000 in
theorem ok_X11_witness {G : CG} {x0 : Nat} {x1 : Int32} {x2 : Int32} {S : HS} {KX : String → HS → Prop} {K : Int32 → HS → Prop} (hw : wp_X11_witness (gC G, gS G) x0 x1 x2 S KX K) : CX 7 yX11_witness cX11_witness 5 (some .int) [.ref x0, .int x1, .int x2] G S KX (kI K) := by
  refine CX.of (by decide +kernel) (Nat.le_of_ble_eq_true rfl) (fun X hc hr hxx => ?_)
  show MC G S X 5 S 0 [(0, .ref x0), (1, .int x1), (2, .int x2)] []
  unfold wp_X11_witness at hw
  refine m_aload_n hc 0 dX11_witness_0 rfl rfl ?_
  refine m_iload_n hc 1 dX11_witness_1 rfl rfl ?_
  obtain ⟨ht, hw⟩ := hw
  refine x_callVq hc hr hxx ciX11 (Nat.le_of_ble_eq_true rfl) ht mt_X11_polyAt rfl lm_X11_200 (ok_X11_polyAt hw) (Nat.le_of_ble_eq_true rfl) dX11_witness_2 rfl (rest := []) rfl (Nat.le_of_ble_eq_true rfl) (fun r1 S1 hw => ?_)
  skip
  refine q_astore_n hc [(3, va_rf r1), (0, .ref x0), (1, .int x1), (2, .int x2)] dX11_witness_5 rfl (Nat.le_of_ble_eq_true rfl) rfl ?_
  refine m_aload_n hc 1 dX11_witness_6 rfl rfl ?_
  refine m_iload_n hc 3 dX11_witness_7 rfl rfl ?_
  obtain ⟨ht, hw⟩ := hw
  refine x_callVq hc hr hxx ciX11 (Nat.le_of_ble_eq_true rfl) ht mt_X11_polyAt rfl lm_X11_200 (ok_X11_polyAt hw) (Nat.le_of_ble_eq_true rfl) dX11_witness_8 rfl (rest := []) rfl (Nat.le_of_ble_eq_true rfl) (fun r2 S2 hw => ?_)
  skip
  refine q_astore hc [(4, va_rf r2), (3, va_rf r1), (0, .ref x0), (1, .int x1), (2, .int x2)] dX11_witness_11 (Nat.le_of_ble_eq_true rfl) (by generalize r1 = zz; cases zz <;> rfl) ?_
  refine m_aload_n hc 2 dX11_witness_13 rfl rfl ?_
  refine q_aload_n hc 1 dX11_witness_14 rfl rfl ?_
  obtain ⟨b3, e_b3, hw⟩ := hw
  refine q_some e_b3 ?_
  refine q_aload hc 0 dX11_witness_15 rfl ?_
  obtain ⟨b4, e_b4, hw⟩ := hw
  refine q_some e_b4 ?_
  obtain ⟨ht, hw⟩ := hw
  refine c_callVi hc hr ciX11 (Nat.le_of_ble_eq_true rfl) ht mt_X11_firstUnlike rfl lm_X11_258 (ok_X11_firstUnlike hw) (Nat.le_of_ble_eq_true rfl) dX11_witness_17 rfl (rest := []) rfl (Nat.le_of_ble_eq_true rfl) (fun r5 S5 hw => ?_)
  exact c_iret hc hr dX11_witness_20 hw
def wp_X11_factor (M : Nat × Nat) (x0 : Nat) (x1 x2 x3 : Int32) (S : HS) (KX : String → HS → Prop) (K : Int32 → HS → Prop) : Prop := hT S x0 = 12 ∧ wp_X11_polyAt M x0 x1 S KX (fun r1 S1 => (x2 < 0 → KX xNSE S1 ∧ hX S1 + 1 ≤ M.1 ∧ hS S1 + 6 ≤ M.2) ∧ (¬ (x2 < 0) → (x3 < 0 → KX xNSE S1 ∧ hX S1 + 1 ≤ M.1 ∧ hS S1 + 6 ≤ M.2) ∧ (¬ (x3 < 0) → (x3 < 5 → hT S1 x0 = 12 ∧ ∃ b2 : Nat, hP S1 x0 4 = some b2 ∧ ∃ b3 : Nat, r1 = some b3 ∧ hT S1 x0 = 12 ∧ ∃ b4 : Nat, hP S1 x0 2 = some b4 ∧ hT S1 b4 = 10 ∧ hT S1 b2 = 3 ∧ wp_X2_find M b2 b3 (hI S1 b4 0) S1 (fun r5 S5 => hT S5 x0 = 12 ∧ ∃ b6 : Nat, hP S5 x0 4 = some b6 ∧ hT S5 b6 = 3 ∧ (x2 < (hI S5 b6 1) → hT S5 x0 = 12 ∧ ∃ b7 : Nat, hP S5 x0 4 = some b7 ∧ hT S5 b7 = 3 ∧ ∃ b8 : Nat, hP S5 b7 0 = some b8 ∧ hT S5 b8 = 21 ∧ vp_in ((x2 * 5) + x3) (hN S5 b8) ∧ K (hI S5 b8 (Int32.toNatClampNeg ((x2 * 5) + x3))) S5) ∧ (¬ (x2 < (hI S5 b6 1)) → KX xNSE S5 ∧ hX S5 + 1 ≤ M.1 ∧ hS S5 + 6 ≤ M.2))) ∧ (¬ (x3 < 5) → KX xNSE S1 ∧ hX S1 + 1 ≤ M.1 ∧ hS S1 + 6 ≤ M.2))))
set_option maxHeartbeats 4000000 in
set_option maxRecDepth 100000 in
theorem ok_X11_factor {G : CG} {x0 : Nat} {x1 : Int32} {x2 : Int32} {x3 : Int32} {S : HS} {KX : String → HS → Prop} {K : Int32 → HS → Prop} (hw : wp_X11_factor (gC G, gS G) x0 x1 x2 x3 S KX K) : CX 7 yX11_factor cX11_factor 5 (some .int) [.ref x0, .int x1, .int x2, .int x3] G S KX (kI K) := by
  refine CX.of (by decide +kernel) (Nat.le_of_ble_eq_true rfl) (fun X hc hr hxx => ?_)
  show MC G S X 5 S 0 [(0, .ref x0), (1, .int x1), (2, .int x2), (3, .int x3)] []
  unfold wp_X11_factor at hw
  refine m_aload_n hc 0 dX11_factor_0 rfl rfl ?_
  refine m_iload_n hc 1 dX11_factor_1 rfl rfl ?_
  obtain ⟨ht, hw⟩ := hw
  refine x_callVq hc hr hxx ciX11 (Nat.le_of_ble_eq_true rfl) ht mt_X11_polyAt rfl lm_X11_200 (ok_X11_polyAt hw) (Nat.le_of_ble_eq_true rfl) dX11_factor_2 rfl (rest := []) rfl (Nat.le_of_ble_eq_true rfl) (fun r1 S1 hw => ?_)
  skip
  refine q_astore hc [(4, va_rf r1), (0, .ref x0), (1, .int x1), (2, .int x2), (3, .int x3)] dX11_factor_5 (Nat.le_of_ble_eq_true rfl) rfl ?_
  refine m_iload_n hc 3 dX11_factor_7 rfl rfl ?_
  refine m_if_lt hc 20 dX11_factor_8 rfl (fun cq => ?_) (fun cq => ?_)
  · have hw := hw.1 cq
    exact x_throwW hc hr hxx (E := xNSE) mx_133_137 (List.mem_of_getElem? (i := 10) rfl) dX11_factor_20 dX11_factor_23 dX11_factor_24 dX11_factor_27 dX11_factor_30 (Nat.le_of_ble_eq_true rfl) hw.1 hw.2.1 hw.2.2
  · have hw := hw.2 cq
    refine m_iload_n hc 4 dX11_factor_11 rfl rfl ?_
    refine m_if_lt hc 20 dX11_factor_12 rfl (fun cq => ?_) (fun cq => ?_)
    · have hw := hw.1 cq
      exact x_throwW hc hr hxx (E := xNSE) mx_133_137 (List.mem_of_getElem? (i := 10) rfl) dX11_factor_20 dX11_factor_23 dX11_factor_24 dX11_factor_27 dX11_factor_30 (Nat.le_of_ble_eq_true rfl) hw.1 hw.2.1 hw.2.2
    · have hw := hw.2 cq
      refine m_iload_n hc 4 dX11_factor_15 rfl rfl ?_
      refine m_iconst hc 5 dX11_factor_16 (by decide) ?_
      refine m_icmp_lt hc 31 dX11_factor_17 rfl (fun cq => ?_) (fun cq => ?_)
      · have hw := hw.1 cq
        refine m_aload_n hc 1 dX11_factor_31 rfl rfl ?_
        obtain ⟨ht, b2, e_b2, hw⟩ := hw
        refine c_getr hc hr ciX11 (Nat.le_of_ble_eq_true rfl) 4 (Nat.le_of_ble_eq_true rfl) rfl dX11_factor_32 lf_X11_39 ht e_b2 ?_
        refine q_aload hc 0 dX11_factor_35 rfl ?_
        obtain ⟨b3, e_b3, hw⟩ := hw
        refine q_some e_b3 ?_
        refine m_aload_n hc 1 dX11_factor_37 rfl rfl ?_
        obtain ⟨ht, b4, e_b4, hw⟩ := hw
        refine c_getr hc hr ciX11 (Nat.le_of_ble_eq_true rfl) 2 (Nat.le_of_ble_eq_true rfl) rfl dX11_factor_38 lf_X11_25 ht e_b4 ?_
        obtain ⟨ht, hw⟩ := hw
        refine c_geti hc hr ciX9 (Nat.le_of_ble_eq_true rfl) 0 (Nat.le_of_ble_eq_true rfl) rfl dX11_factor_41 lf_X11_83 ht ?_
        obtain ⟨ht, hw⟩ := hw
        refine c_callVv hc hr ciX2 (Nat.le_of_ble_eq_true rfl) ht mt_X2_find rfl lm_X11_214 (ok_X2_find hw) (Nat.le_of_ble_eq_true rfl) dX11_factor_44 rfl (rest := []) rfl (Nat.le_of_ble_eq_true rfl) (fun S5 hw => ?_)
        refine m_iload_n hc 3 dX11_factor_47 rfl rfl ?_
        refine m_aload_n hc 1 dX11_factor_48 rfl rfl ?_
        obtain ⟨ht, b6, e_b6, hw⟩ := hw
        refine c_getr hc hr ciX11 (Nat.le_of_ble_eq_true rfl) 4 (Nat.le_of_ble_eq_true rfl) rfl dX11_factor_49 lf_X11_39 ht e_b6 ?_
        obtain ⟨ht, hw⟩ := hw
        refine c_geti hc hr ciX2 (Nat.le_of_ble_eq_true rfl) 1 (Nat.le_of_ble_eq_true rfl) rfl dX11_factor_52 lf_X11_218 ht ?_
        refine m_icmp_lt hc 69 dX11_factor_55 rfl (fun cq => ?_) (fun cq => ?_)
        · have hw := hw.1 cq
          refine m_aload_n hc 1 dX11_factor_69 rfl rfl ?_
          obtain ⟨ht, b7, e_b7, hw⟩ := hw
          refine c_getr hc hr ciX11 (Nat.le_of_ble_eq_true rfl) 4 (Nat.le_of_ble_eq_true rfl) rfl dX11_factor_70 lf_X11_39 ht e_b7 ?_
          obtain ⟨ht, b8, e_b8, hw⟩ := hw
          refine c_getr hc hr ciX2 (Nat.le_of_ble_eq_true rfl) 0 (Nat.le_of_ble_eq_true rfl) rfl dX11_factor_73 lf_X11_270 ht e_b8 ?_
          refine m_iload_n hc 3 dX11_factor_76 rfl rfl ?_
          refine m_iconst hc 5 dX11_factor_77 (by decide) ?_
          refine m_imul hc dX11_factor_78 ?_
          refine m_iload_n hc 4 dX11_factor_79 rfl rfl ?_
          refine m_iadd hc dX11_factor_80 ?_
          obtain ⟨ht, hi, hw⟩ := hw
          refine c_iald hc hr ht hi dX11_factor_81 ?_
          exact c_iret hc hr dX11_factor_82 hw
        · have hw := hw.2 cq
          exact x_throwW hc hr hxx (E := xNSE) mx_133_137 (List.mem_of_getElem? (i := 11) rfl) dX11_factor_58 dX11_factor_61 dX11_factor_62 dX11_factor_65 dX11_factor_68 (Nat.le_of_ble_eq_true rfl) hw.1 hw.2.1 hw.2.2
      · have hw := hw.2 cq
        exact x_throwW hc hr hxx (E := xNSE) mx_133_137 (List.mem_of_getElem? (i := 10) rfl) dX11_factor_20 dX11_factor_23 dX11_factor_24 dX11_factor_27 dX11_factor_30 (Nat.le_of_ble_eq_true rfl) hw.1 hw.2.1 hw.2.2
