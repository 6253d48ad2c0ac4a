theorem cw_ok {G : CG} {GR : RG} {cJ : ClassId} {o : Nat} {X : Fx} (hr : Cw G GR cJ o X) : okG GR := by
  obtain ⟨p, l, e, Rm, s, m, args, below, meth, c, Q⟩ := X
  exact hr.2.2.2.2.2.2.1
theorem mtL_tell : Cond.codeWith yL_tell cL_tell 5 (some .int) [(0, 10, 13, 13)] ∈ lw_good ∧ Cond.initialized yL_tell.cls ∈ lw_good ∧ Cond.static yL_tell ∈ lw_good ∧ 5 ≤ 45 ∧ (yL_tell.cls ≠ "java/lang/invoke/MethodHandle" ∧ yL_tell.cls ≠ "java/lang/invoke/VarHandle" ∧ (parseMethodDescriptor yL_tell.desc).map (fun d => d.parameters.length) = some 4) := ⟨lw_in 1098 (by decide +kernel) (by decide +kernel), lw_in 129 (by decide +kernel) (by decide +kernel), lw_in 1097 (by decide +kernel) (by decide +kernel), Nat.le_of_ble_eq_true rfl, by decide +kernel⟩
theorem mtL_count : Cond.codeWith yL_count cL_count 4 (some .int) [(0, 9, 12, 19)] ∈ lw_good ∧ Cond.initialized yL_count.cls ∈ lw_good ∧ Cond.static yL_count ∈ lw_good ∧ 4 ≤ 45 ∧ (yL_count.cls ≠ "java/lang/invoke/MethodHandle" ∧ yL_count.cls ≠ "java/lang/invoke/VarHandle" ∧ (parseMethodDescriptor yL_count.desc).map (fun d => d.parameters.length) = some 3) := ⟨lw_in 1268 (by decide +kernel) (by decide +kernel), lw_in 129 (by decide +kernel) (by decide +kernel), lw_in 1267 (by decide +kernel) (by decide +kernel), Nat.le_of_ble_eq_true rfl, by decide +kernel⟩
theorem mtL_step : Cond.codeWith yL_step cL_step 5 (some .int) [(0, 10, 13, 19)] ∈ lw_good ∧ Cond.initialized yL_step.cls ∈ lw_good ∧ Cond.static yL_step ∈ lw_good ∧ 5 ≤ 45 ∧ (yL_step.cls ≠ "java/lang/invoke/MethodHandle" ∧ yL_step.cls ≠ "java/lang/invoke/VarHandle" ∧ (parseMethodDescriptor yL_step.desc).map (fun d => d.parameters.length) = some 4) := ⟨lw_in 1292 (by decide +kernel) (by decide +kernel), lw_in 129 (by decide +kernel) (by decide +kernel), lw_in 1291 (by decide +kernel) (by decide +kernel), Nat.le_of_ble_eq_true rfl, by decide +kernel⟩
theorem mtL_at : Cond.codeWith yL_at cL_at 8 (some .int) [(0, 16, 19, 19), (0, 16, 23, 13)] ∈ lw_good ∧ Cond.initialized yL_at.cls ∈ lw_good ∧ Cond.static yL_at ∈ lw_good ∧ 8 ≤ 45 ∧ (yL_at.cls ≠ "java/lang/invoke/MethodHandle" ∧ yL_at.cls ≠ "java/lang/invoke/VarHandle" ∧ (parseMethodDescriptor yL_at.desc).map (fun d => d.parameters.length) = some 7) := ⟨lw_in 1323 (by decide +kernel) (by decide +kernel), lw_in 129 (by decide +kernel) (by decide +kernel), lw_in 1322 (by decide +kernel) (by decide +kernel), Nat.le_of_ble_eq_true rfl, by decide +kernel⟩
theorem mtL_fit : Cond.codeWith yL_fit cL_fit 4 (some .int) [(0, 9, 12, 13)] ∈ lw_good ∧ Cond.initialized yL_fit.cls ∈ lw_good ∧ Cond.static yL_fit ∈ lw_good ∧ 4 ≤ 45 ∧ (yL_fit.cls ≠ "java/lang/invoke/MethodHandle" ∧ yL_fit.cls ≠ "java/lang/invoke/VarHandle" ∧ (parseMethodDescriptor yL_fit.desc).map (fun d => d.parameters.length) = some 3) := ⟨lw_in 1366 (by decide +kernel) (by decide +kernel), lw_in 129 (by decide +kernel) (by decide +kernel), lw_in 1365 (by decide +kernel) (by decide +kernel), Nat.le_of_ble_eq_true rfl, by decide +kernel⟩
theorem mtL_of : Cond.codeWith yL_of cL_of 5 (some .int) [(0, 10, 13, 19)] ∈ lw_good ∧ Cond.initialized yL_of.cls ∈ lw_good ∧ Cond.static yL_of ∈ lw_good ∧ 5 ≤ 45 ∧ (yL_of.cls ≠ "java/lang/invoke/MethodHandle" ∧ yL_of.cls ≠ "java/lang/invoke/VarHandle" ∧ (parseMethodDescriptor yL_of.desc).map (fun d => d.parameters.length) = some 4) := ⟨lw_in 1379 (by decide +kernel) (by decide +kernel), lw_in 129 (by decide +kernel) (by decide +kernel), lw_in 1378 (by decide +kernel) (by decide +kernel), Nat.le_of_ble_eq_true rfl, by decide +kernel⟩
theorem mtL_term : Cond.codeWith yL_term cL_term 7 (some .int) [(0, 14, 17, 19)] ∈ lw_good ∧ Cond.initialized yL_term.cls ∈ lw_good ∧ Cond.static yL_term ∈ lw_good ∧ 7 ≤ 45 ∧ (yL_term.cls ≠ "java/lang/invoke/MethodHandle" ∧ yL_term.cls ≠ "java/lang/invoke/VarHandle" ∧ (parseMethodDescriptor yL_term.desc).map (fun d => d.parameters.length) = some 6) := ⟨lw_in 1406 (by decide +kernel) (by decide +kernel), lw_in 129 (by decide +kernel) (by decide +kernel), lw_in 1405 (by decide +kernel) (by decide +kernel), Nat.le_of_ble_eq_true rfl, by decide +kernel⟩
theorem mtL_number : Cond.codeWith yL_number cL_number 7 (some .int) [(0, 14, 17, 19), (0, 14, 21, 13)] ∈ lw_good ∧ Cond.initialized yL_number.cls ∈ lw_good ∧ Cond.static yL_number ∈ lw_good ∧ 7 ≤ 45 ∧ (yL_number.cls ≠ "java/lang/invoke/MethodHandle" ∧ yL_number.cls ≠ "java/lang/invoke/VarHandle" ∧ (parseMethodDescriptor yL_number.desc).map (fun d => d.parameters.length) = some 6) := ⟨lw_in 1433 (by decide +kernel) (by decide +kernel), lw_in 129 (by decide +kernel) (by decide +kernel), lw_in 1432 (by decide +kernel) (by decide +kernel), Nat.le_of_ble_eq_true rfl, by decide +kernel⟩
theorem mtL_value : Cond.codeWith yL_value cL_value 7 (some .int) [(0, 14, 17, 19), (0, 14, 21, 13)] ∈ lw_good ∧ Cond.initialized yL_value.cls ∈ lw_good ∧ Cond.static yL_value ∈ lw_good ∧ 7 ≤ 45 ∧ (yL_value.cls ≠ "java/lang/invoke/MethodHandle" ∧ yL_value.cls ≠ "java/lang/invoke/VarHandle" ∧ (parseMethodDescriptor yL_value.desc).map (fun d => d.parameters.length) = some 6) := ⟨lw_in 1446 (by decide +kernel) (by decide +kernel), lw_in 129 (by decide +kernel) (by decide +kernel), lw_in 1445 (by decide +kernel) (by decide +kernel), Nat.le_of_ble_eq_true rfl, by decide +kernel⟩
theorem mtL_same : Cond.codeWith yL_same cL_same 6 (some .int) [(0, 19, 22, 19)] ∈ lw_good ∧ Cond.initialized yL_same.cls ∈ lw_good ∧ Cond.static yL_same ∈ lw_good ∧ 6 ≤ 45 ∧ (yL_same.cls ≠ "java/lang/invoke/MethodHandle" ∧ yL_same.cls ≠ "java/lang/invoke/VarHandle" ∧ (parseMethodDescriptor yL_same.desc).map (fun d => d.parameters.length) = some 5) := ⟨lw_in 1461 (by decide +kernel) (by decide +kernel), lw_in 129 (by decide +kernel) (by decide +kernel), lw_in 1460 (by decide +kernel) (by decide +kernel), Nat.le_of_ble_eq_true rfl, by decide +kernel⟩
theorem mtL_witness : Cond.codeWith yL_witness cL_witness 5 (some .int) [(0, 10, 13, 19)] ∈ lw_good ∧ Cond.initialized yL_witness.cls ∈ lw_good ∧ Cond.static yL_witness ∈ lw_good ∧ 5 ≤ 45 ∧ (yL_witness.cls ≠ "java/lang/invoke/MethodHandle" ∧ yL_witness.cls ≠ "java/lang/invoke/VarHandle" ∧ (parseMethodDescriptor yL_witness.desc).map (fun d => d.parameters.length) = some 4) := ⟨lw_in 1477 (by decide +kernel) (by decide +kernel), lw_in 129 (by decide +kernel) (by decide +kernel), lw_in 1476 (by decide +kernel) (by decide +kernel), Nat.le_of_ble_eq_true rfl, by decide +kernel⟩
theorem mtL_factor : Cond.codeWith yL_factor cL_factor 6 (some .int) [(0, 12, 15, 19)] ∈ lw_good ∧ Cond.initialized yL_factor.cls ∈ lw_good ∧ Cond.static yL_factor ∈ lw_good ∧ 6 ≤ 45 ∧ (yL_factor.cls ≠ "java/lang/invoke/MethodHandle" ∧ yL_factor.cls ≠ "java/lang/invoke/VarHandle" ∧ (parseMethodDescriptor yL_factor.desc).map (fun d => d.parameters.length) = some 5) := ⟨lw_in 1484 (by decide +kernel) (by decide +kernel), lw_in 129 (by decide +kernel) (by decide +kernel), lw_in 1483 (by decide +kernel) (by decide +kernel), Nat.le_of_ble_eq_true rfl, by decide +kernel⟩
theorem mtL_often : Cond.codeWith yL_often cL_often 8 (some .int) [(0, 16, 19, 19), (0, 16, 23, 13)] ∈ lw_good ∧ Cond.initialized yL_often.cls ∈ lw_good ∧ Cond.static yL_often ∈ lw_good ∧ 8 ≤ 45 ∧ (yL_often.cls ≠ "java/lang/invoke/MethodHandle" ∧ yL_often.cls ≠ "java/lang/invoke/VarHandle" ∧ (parseMethodDescriptor yL_often.desc).map (fun d => d.parameters.length) = some 7) := ⟨lw_in 1493 (by decide +kernel) (by decide +kernel), lw_in 129 (by decide +kernel) (by decide +kernel), lw_in 1492 (by decide +kernel) (by decide +kernel), Nat.le_of_ble_eq_true rfl, by decide +kernel⟩
theorem mtL_say : Cond.codeWith yL_say cL_say 4 (some .int) [(0, 9, 12, 19)] ∈ lw_good ∧ Cond.initialized yL_say.cls ∈ lw_good ∧ Cond.static yL_say ∈ lw_good ∧ 4 ≤ 45 ∧ (yL_say.cls ≠ "java/lang/invoke/MethodHandle" ∧ yL_say.cls ≠ "java/lang/invoke/VarHandle" ∧ (parseMethodDescriptor yL_say.desc).map (fun d => d.parameters.length) = some 3) := ⟨lw_in 1511 (by decide +kernel) (by decide +kernel), lw_in 129 (by decide +kernel) (by decide +kernel), lw_in 1510 (by decide +kernel) (by decide +kernel), Nat.le_of_ble_eq_true rfl, by decide +kernel⟩
theorem lm_L_66 : Cond.methodLink RL 66 yX11_field ∈ lw_good := lw_in 466 (by decide +kernel) (by decide +kernel)
theorem lm_L_69 : Cond.methodLink RL 69 yX12_field ∈ lw_good := lw_in 1708 (by decide +kernel) (by decide +kernel)
def wq_0 (M : Nat × Nat) (x : Nat) (y1 : Int32) (S : HS) (R : RS) (K : HS → RS → Prop) : Prop := hT S x = 12 ∧ wp_X11_field M x y1 S (fun r S' => wp_field y1 R (fun q R1 => r = q ∧ K S' R1))
set_option maxHeartbeats 4000000 in
set_option maxRecDepth 100000 in
theorem lc_0 {G : CG} {GR : RG} {cJ : ClassId} {o x b Ln : Nat} {xs : Nat → Int32} {S : HS} {R : RS} {v0 : Int64} {X : Fx} {i y0 y1 y2 y3 y4 y5 : Int32} {KL : HS → RS → Prop} (hc : Cx X RL cL_law 7) (hr : Cw G GR cJ o X) (hs : Sx X b Ln xs) (h6 : At6 Ln xs i y0 y1 y2 y3 y4 y5) (hw : wq_0 (gC G, gS G) x y1 S R KL) (kk : ∀ (S' : HS) (R' : RS) (v : Int64), KL S' R' → ML G GR cJ o X 7 S' R' v 1534 [(4, .int i), (3, .ref o), (2, .ref GR.2.2.1), (1, .ref x), (0, .ref b)] []) : ML G GR cJ o X 7 S R v0 140 [(4, .int i), (3, .ref o), (2, .ref GR.2.2.1), (1, .ref x), (0, .ref b)] [] := by
  obtain ⟨ht, hw⟩ := hw
  refine m_aload_n hc 3 dL_law_140 rfl rfl ?_
  refine m_aload_n hc 4 dL_law_141 rfl rfl ?_
  refine m_iload hc 0 dL_law_142 rfl ?_
  refine m_iconst hc 1 dL_law_144 (by decide) ?_
  refine m_iadd hc dL_law_145 ?_
  refine w_sld hc hs h6.2.1 dL_law_146 ?_
  refine w_callCi hc hr ht mt_X11_field rfl lm_L_66 (ok_X11_field hw) (Nat.le_of_ble_eq_true rfl) dL_law_147 rfl (rest := []) rfl (Nat.le_of_ble_eq_true rfl) (fun r S' hw => ?_)
  refine m_aload_n hc 2 dL_law_150 rfl rfl ?_
  refine m_aload_n hc 4 dL_law_151 rfl rfl ?_
  refine m_iload hc 0 dL_law_152 rfl ?_
  refine m_iconst hc 1 dL_law_154 (by decide) ?_
  refine m_iadd hc dL_law_155 ?_
  refine w_sld hc hs h6.2.1 dL_law_156 ?_
  refine w_callRi hc hr mt_field rfl lm_L_69 (ok_field (cw_ok hr) hw) (Nat.le_of_ble_eq_true rfl) dL_law_157 rfl (rest := [.int r]) rfl (Nat.le_of_ble_eq_true rfl) (fun q R1 hw => ?_)
  refine m_icmp_eq hc 1534 dL_law_160 rfl (fun _ => ?_) (fun c => absurd hw.1 c)
  exact kk S' R1 _ hw.2
theorem lm_L_70 : Cond.methodLink RL 70 yX11_feed ∈ lw_good := lw_in 483 (by decide +kernel) (by decide +kernel)
theorem lm_L_73 : Cond.methodLink RL 73 yX12_feed ∈ lw_good := lw_in 2125 (by decide +kernel) (by decide +kernel)
def wq_1 (M : Nat × Nat) (x : Nat) (y1 y2 y3 y4 y5 : Int32) (S : HS) (R : RS) (K : HS → RS → Prop) : Prop := hT S x = 12 ∧ wp_X11_feed M x y1 y2 y3 y4 y5 S (fun r S' => wp_feed y1 y2 y3 y4 y5 R (fun q R1 => r = q ∧ K S' R1))
set_option maxHeartbeats 4000000 in
set_option maxRecDepth 100000 in
theorem lc_1 {G : CG} {GR : RG} {cJ : ClassId} {o x b Ln : Nat} {xs : Nat → Int32} {S : HS} {R : RS} {v0 : Int64} {X : Fx} {i y0 y1 y2 y3 y4 y5 : Int32} {KL : HS → RS → Prop} (hc : Cx X RL cL_law 7) (hr : Cw G GR cJ o X) (hs : Sx X b Ln xs) (h6 : At6 Ln xs i y0 y1 y2 y3 y4 y5) (hw : wq_1 (gC G, gS G) x y1 y2 y3 y4 y5 S R KL) (kk : ∀ (S' : HS) (R' : RS) (v : Int64), KL S' R' → ML G GR cJ o X 7 S' R' v 1534 [(4, .int i), (3, .ref o), (2, .ref GR.2.2.1), (1, .ref x), (0, .ref b)] []) : ML G GR cJ o X 7 S R v0 165 [(4, .int i), (3, .ref o), (2, .ref GR.2.2.1), (1, .ref x), (0, .ref b)] [] := by
  obtain ⟨ht, hw⟩ := hw
  refine m_aload_n hc 3 dL_law_165 rfl rfl ?_
  refine m_aload_n hc 4 dL_law_166 rfl rfl ?_
  refine m_iload hc 0 dL_law_167 rfl ?_
  refine m_iconst hc 1 dL_law_169 (by decide) ?_
  refine m_iadd hc dL_law_170 ?_
  refine w_sld hc hs h6.2.1 dL_law_171 ?_
  refine m_aload_n hc 4 dL_law_172 rfl rfl ?_
  refine m_iload hc 0 dL_law_173 rfl ?_
  refine m_iconst hc 2 dL_law_175 (by decide) ?_
  refine m_iadd hc dL_law_176 ?_
  refine w_sld hc hs h6.2.2.1 dL_law_177 ?_
  refine m_aload_n hc 4 dL_law_178 rfl rfl ?_
  refine m_iload hc 0 dL_law_179 rfl ?_
  refine m_iconst hc 3 dL_law_181 (by decide) ?_
  refine m_iadd hc dL_law_182 ?_
  refine w_sld hc hs h6.2.2.2.1 dL_law_183 ?_
  refine m_aload_n hc 4 dL_law_184 rfl rfl ?_
  refine m_iload hc 0 dL_law_185 rfl ?_
  refine m_iconst hc 4 dL_law_187 (by decide) ?_
  refine m_iadd hc dL_law_188 ?_
  refine w_sld hc hs h6.2.2.2.2.1 dL_law_189 ?_
  refine m_aload_n hc 4 dL_law_190 rfl rfl ?_
  refine m_iload hc 0 dL_law_191 rfl ?_
  refine m_iconst hc 5 dL_law_193 (by decide) ?_
  refine m_iadd hc dL_law_194 ?_
  refine w_sld hc hs h6.2.2.2.2.2 dL_law_195 ?_
  refine w_callCi hc hr ht mt_X11_feed rfl lm_L_70 (ok_X11_feed hw) (Nat.le_of_ble_eq_true rfl) dL_law_196 rfl (rest := []) rfl (Nat.le_of_ble_eq_true rfl) (fun r S' hw => ?_)
  refine m_aload_n hc 2 dL_law_199 rfl rfl ?_
  refine m_aload_n hc 4 dL_law_200 rfl rfl ?_
  refine m_iload hc 0 dL_law_201 rfl ?_
  refine m_iconst hc 1 dL_law_203 (by decide) ?_
  refine m_iadd hc dL_law_204 ?_
  refine w_sld hc hs h6.2.1 dL_law_205 ?_
  refine m_aload_n hc 4 dL_law_206 rfl rfl ?_
  refine m_iload hc 0 dL_law_207 rfl ?_
  refine m_iconst hc 2 dL_law_209 (by decide) ?_
  refine m_iadd hc dL_law_210 ?_
  refine w_sld hc hs h6.2.2.1 dL_law_211 ?_
  refine m_aload_n hc 4 dL_law_212 rfl rfl ?_
  refine m_iload hc 0 dL_law_213 rfl ?_
  refine m_iconst hc 3 dL_law_215 (by decide) ?_
  refine m_iadd hc dL_law_216 ?_
  refine w_sld hc hs h6.2.2.2.1 dL_law_217 ?_
  refine m_aload_n hc 4 dL_law_218 rfl rfl ?_
  refine m_iload hc 0 dL_law_219 rfl ?_
  refine m_iconst hc 4 dL_law_221 (by decide) ?_
  refine m_iadd hc dL_law_222 ?_
  refine w_sld hc hs h6.2.2.2.2.1 dL_law_223 ?_
  refine m_aload_n hc 4 dL_law_224 rfl rfl ?_
  refine m_iload hc 0 dL_law_225 rfl ?_
  refine m_iconst hc 5 dL_law_227 (by decide) ?_
  refine m_iadd hc dL_law_228 ?_
  refine w_sld hc hs h6.2.2.2.2.2 dL_law_229 ?_
  refine w_callRi hc hr mt_feed rfl lm_L_73 (ok_feed (cw_ok hr) hw) (Nat.le_of_ble_eq_true rfl) dL_law_230 rfl (rest := [.int r]) rfl (Nat.le_of_ble_eq_true rfl) (fun q R1 hw => ?_)
  refine m_icmp_eq hc 1534 dL_law_233 rfl (fun _ => ?_) (fun c => absurd hw.1 c)
  exact kk S' R1 _ hw.2
theorem lm_L_74 : Cond.methodLink RL 74 yL_tell ∈ lw_good := lw_in 1096 (by decide +kernel) (by decide +kernel)
theorem lm_L_79 : Cond.methodLink RL 79 yX12_tell ∈ lw_good := lw_in 2021 (by decide +kernel) (by decide +kernel)
theorem lm_L_80 : Cond.methodLink RL 80 yX12_thrown ∈ lw_good := lw_in 1700 (by decide +kernel) (by decide +kernel)
def wq_2 (M : Nat × Nat) (x : Nat) (y1 y2 : Int32) (S : HS) (R : RS) (v0 : Int64) (K : HS → RS → Prop) : Prop := hw_tell M x y1 y2 S v0 (fun k v S' => wp_tell y1 y2 R (fun q R1 => wp_thrown R1 (fun t R2 => t = k ∧ (k = 0 → v = Int32.toInt64 q) ∧ K S' R2)))
set_option maxHeartbeats 4000000 in
set_option maxRecDepth 100000 in
theorem lc_2 {G : CG} {GR : RG} {cJ : ClassId} {o x b Ln : Nat} {xs : Nat → Int32} {S : HS} {R : RS} {v0 : Int64} {X : Fx} {i y0 y1 y2 y3 y4 y5 : Int32} {KL : HS → RS → Prop} (hc : Cx X RL cL_law 7) (hr : Cw G GR cJ o X) (hs : Sx X b Ln xs) (h6 : At6 Ln xs i y0 y1 y2 y3 y4 y5) (hw : wq_2 (gC G, gS G) x y1 y2 S R v0 KL) (kk : ∀ (S' : HS) (R' : RS) (v : Int64), KL S' R' → ML G GR cJ o X 7 S' R' v 1534 [(4, .int i), (3, .ref o), (2, .ref GR.2.2.1), (1, .ref x), (0, .ref b)] []) : ML G GR cJ o X 7 S R v0 238 [(4, .int i), (3, .ref o), (2, .ref GR.2.2.1), (1, .ref x), (0, .ref b)] [] := by
  unfold wq_2 at hw
  refine m_aload_n hc 3 dL_law_238 rfl rfl ?_
  refine m_aload_n hc 4 dL_law_239 rfl rfl ?_
  refine m_iload hc 0 dL_law_240 rfl ?_
  refine m_iconst hc 1 dL_law_242 (by decide) ?_
  refine m_iadd hc dL_law_243 ?_
  refine w_sld hc hs h6.2.1 dL_law_244 ?_
  refine m_aload_n hc 4 dL_law_245 rfl rfl ?_
  refine m_iload hc 0 dL_law_246 rfl ?_
  refine m_iconst hc 2 dL_law_248 (by decide) ?_
  refine m_iadd hc dL_law_249 ?_
  refine w_sld hc hs h6.2.2.1 dL_law_250 ?_
  refine m_aload_n hc 1 dL_law_251 rfl rfl ?_
  refine w_callH hc hr mtL_tell lm_L_74 (hl_tell hw) (Nat.le_of_ble_eq_true rfl) dL_law_252 rfl (rest := []) rfl (Nat.le_of_ble_eq_true rfl) (fun k v S' hw => ?_)
  refine m_istore hc [(5, .int k), (4, .int i), (3, .ref o), (2, .ref GR.2.2.1), (1, .ref x), (0, .ref b)] dL_law_255 (Nat.le_of_ble_eq_true rfl) rfl ?_
  refine m_aload_n hc 3 dL_law_257 rfl rfl ?_
  refine m_aload_n hc 5 dL_law_258 rfl rfl ?_
  refine m_iload hc 1 dL_law_259 rfl ?_
  refine m_iconst hc 1 dL_law_261 (by decide) ?_
  refine m_iadd hc dL_law_262 ?_
  refine w_sld hc hs h6.2.1 dL_law_263 ?_
  refine m_aload_n hc 5 dL_law_264 rfl rfl ?_
  refine m_iload hc 1 dL_law_265 rfl ?_
  refine m_iconst hc 2 dL_law_267 (by decide) ?_
  refine m_iadd hc dL_law_268 ?_
  refine w_sld hc hs h6.2.2.1 dL_law_269 ?_
  refine w_callRi hc hr mt_tell rfl lm_L_79 (ok_tell (cw_ok hr) hw) (Nat.le_of_ble_eq_true rfl) dL_law_270 rfl (rest := []) rfl (Nat.le_of_ble_eq_true rfl) (fun q R1 hw => ?_)
  refine m_istore hc [(6, .int q), (5, .int k), (4, .int i), (3, .ref o), (2, .ref GR.2.2.1), (1, .ref x), (0, .ref b)] dL_law_273 (Nat.le_of_ble_eq_true rfl) rfl ?_
  refine m_aload_n hc 4 dL_law_275 rfl rfl ?_
  refine w_callRi hc hr mt_thrown rfl lm_L_80 (ok_thrown (cw_ok hr) hw) (Nat.le_of_ble_eq_true rfl) dL_law_276 rfl (rest := []) rfl (Nat.le_of_ble_eq_true rfl) (fun t R2 hw => ?_)
  refine m_iload hc 1 dL_law_279 rfl ?_
  refine m_icmp_eq hc 286 dL_law_281 rfl (fun _ => ?_) (fun c => absurd hw.1 c)
  refine m_iload hc 1 dL_law_286 rfl ?_
  refine m_if_ne hc 303 dL_law_288 rfl (fun _ => ?_) (fun hk => ?_)
  · refine m_goto hc 1534 dL_law_303 rfl ?_
    exact m_sub [2, 3, 4, 5, 6] rfl (kk S' R2 _ hw.2.2)
  refine m_aload_n hc 3 dL_law_291 rfl rfl ?_
  refine m_iconst hc 0 dL_law_292 (by decide) ?_
  refine w_lald hc hr dL_law_293 ?_
  refine m_iload hc 0 dL_law_294 rfl ?_
  refine m_i2l hc dL_law_296 ?_
  refine m_lcmp hc dL_law_297 ?_
  refine m_if_eq hc 303 dL_law_298 rfl (fun _ => ?_) (fun c => absurd (by rw [hw.2.1 hk]; exact lg_cmp_self _) c)
  refine m_goto hc 1534 dL_law_303 rfl ?_
  exact m_sub [2, 3, 4, 5, 6] rfl (kk S' R2 _ hw.2.2)
theorem lm_L_84 : Cond.methodLink RL 84 yX11_fault ∈ lw_good := lw_in 491 (by decide +kernel) (by decide +kernel)
theorem lm_L_87 : Cond.methodLink RL 87 yX12_fault ∈ lw_good := lw_in 2129 (by decide +kernel) (by decide +kernel)
def wq_3 (M : Nat × Nat) (x : Nat) (S : HS) (R : RS) (K : HS → RS → Prop) : Prop := hT S x = 12 ∧ wp_X11_fault M x  S (fun r S' => wp_fault  R (fun q R1 => r = q ∧ K S' R1))
set_option maxHeartbeats 4000000 in
set_option maxRecDepth 100000 in
theorem lc_3 {G : CG} {GR : RG} {cJ : ClassId} {o x b Ln : Nat} {xs : Nat → Int32} {S : HS} {R : RS} {v0 : Int64} {X : Fx} {i y0 y1 y2 y3 y4 y5 : Int32} {KL : HS → RS → Prop} (hc : Cx X RL cL_law 7) (hr : Cw G GR cJ o X) (hs : Sx X b Ln xs) (h6 : At6 Ln xs i y0 y1 y2 y3 y4 y5) (hw : wq_3 (gC G, gS G) x  S R KL) (kk : ∀ (S' : HS) (R' : RS) (v : Int64), KL S' R' → ML G GR cJ o X 7 S' R' v 1534 [(4, .int i), (3, .ref o), (2, .ref GR.2.2.1), (1, .ref x), (0, .ref b)] []) : ML G GR cJ o X 7 S R v0 306 [(4, .int i), (3, .ref o), (2, .ref GR.2.2.1), (1, .ref x), (0, .ref b)] [] := by
  obtain ⟨ht, hw⟩ := hw
  refine m_aload_n hc 3 dL_law_306 rfl rfl ?_
  refine w_callCi hc hr ht mt_X11_fault rfl lm_L_84 (ok_X11_fault hw) (Nat.le_of_ble_eq_true rfl) dL_law_307 rfl (rest := []) rfl (Nat.le_of_ble_eq_true rfl) (fun r S' hw => ?_)
  refine m_aload_n hc 2 dL_law_310 rfl rfl ?_
  refine w_callRi hc hr mt_fault rfl lm_L_87 (ok_fault (cw_ok hr) hw) (Nat.le_of_ble_eq_true rfl) dL_law_311 rfl (rest := [.int r]) rfl (Nat.le_of_ble_eq_true rfl) (fun q R1 hw => ?_)
  refine m_icmp_eq hc 1534 dL_law_314 rfl (fun _ => ?_) (fun c => absurd hw.1 c)
  exact kk S' R1 _ hw.2
theorem lm_L_88 : Cond.methodLink RL 88 yL_count ∈ lw_good := lw_in 1266 (by decide +kernel) (by decide +kernel)
theorem lm_L_91 : Cond.methodLink RL 91 yX12_count ∈ lw_good := lw_in 2017 (by decide +kernel) (by decide +kernel)
def wq_4 (M : Nat × Nat) (x : Nat) (y1 : Int32) (S : HS) (R : RS) (v0 : Int64) (K : HS → RS → Prop) : Prop := hw_count M x y1 S v0 (fun k v S' => wp_count y1 R (fun q R1 => wp_thrown R1 (fun t R2 => t = k ∧ (k = 0 → v = Int32.toInt64 q) ∧ K S' R2)))
set_option maxHeartbeats 4000000 in
set_option maxRecDepth 100000 in
theorem lc_4 {G : CG} {GR : RG} {cJ : ClassId} {o x b Ln : Nat} {xs : Nat → Int32} {S : HS} {R : RS} {v0 : Int64} {X : Fx} {i y0 y1 y2 y3 y4 y5 : Int32} {KL : HS → RS → Prop} (hc : Cx X RL cL_law 7) (hr : Cw G GR cJ o X) (hs : Sx X b Ln xs) (h6 : At6 Ln xs i y0 y1 y2 y3 y4 y5) (hw : wq_4 (gC G, gS G) x y1 S R v0 KL) (kk : ∀ (S' : HS) (R' : RS) (v : Int64), KL S' R' → ML G GR cJ o X 7 S' R' v 1534 [(4, .int i), (3, .ref o), (2, .ref GR.2.2.1), (1, .ref x), (0, .ref b)] []) : ML G GR cJ o X 7 S R v0 319 [(4, .int i), (3, .ref o), (2, .ref GR.2.2.1), (1, .ref x), (0, .ref b)] [] := by
  unfold wq_4 at hw
  refine m_aload_n hc 3 dL_law_319 rfl rfl ?_
  refine m_aload_n hc 4 dL_law_320 rfl rfl ?_
  refine m_iload hc 0 dL_law_321 rfl ?_
  refine m_iconst hc 1 dL_law_323 (by decide) ?_
  refine m_iadd hc dL_law_324 ?_
  refine w_sld hc hs h6.2.1 dL_law_325 ?_
  refine m_aload_n hc 1 dL_law_326 rfl rfl ?_
  refine w_callH hc hr mtL_count lm_L_88 (hl_count hw) (Nat.le_of_ble_eq_true rfl) dL_law_327 rfl (rest := []) rfl (Nat.le_of_ble_eq_true rfl) (fun k v S' hw => ?_)
  refine m_istore hc [(5, .int k), (4, .int i), (3, .ref o), (2, .ref GR.2.2.1), (1, .ref x), (0, .ref b)] dL_law_330 (Nat.le_of_ble_eq_true rfl) rfl ?_
  refine m_aload_n hc 3 dL_law_332 rfl rfl ?_
  refine m_aload_n hc 5 dL_law_333 rfl rfl ?_
  refine m_iload hc 1 dL_law_334 rfl ?_
  refine m_iconst hc 1 dL_law_336 (by decide) ?_
  refine m_iadd hc dL_law_337 ?_
  refine w_sld hc hs h6.2.1 dL_law_338 ?_
  refine w_callRi hc hr mt_count rfl lm_L_91 (ok_count (cw_ok hr) hw) (Nat.le_of_ble_eq_true rfl) dL_law_339 rfl (rest := []) rfl (Nat.le_of_ble_eq_true rfl) (fun q R1 hw => ?_)
  refine m_istore hc [(6, .int q), (5, .int k), (4, .int i), (3, .ref o), (2, .ref GR.2.2.1), (1, .ref x), (0, .ref b)] dL_law_342 (Nat.le_of_ble_eq_true rfl) rfl ?_
  refine m_aload_n hc 4 dL_law_344 rfl rfl ?_
  refine w_callRi hc hr mt_thrown rfl lm_L_80 (ok_thrown (cw_ok hr) hw) (Nat.le_of_ble_eq_true rfl) dL_law_345 rfl (rest := []) rfl (Nat.le_of_ble_eq_true rfl) (fun t R2 hw => ?_)
  refine m_iload hc 1 dL_law_348 rfl ?_
  refine m_icmp_eq hc 355 dL_law_350 rfl (fun _ => ?_) (fun c => absurd hw.1 c)
  refine m_iload hc 1 dL_law_355 rfl ?_
  refine m_if_ne hc 372 dL_law_357 rfl (fun _ => ?_) (fun hk => ?_)
  · refine m_goto hc 1534 dL_law_372 rfl ?_
    exact m_sub [2, 3, 4, 5, 6] rfl (kk S' R2 _ hw.2.2)
  refine m_aload_n hc 3 dL_law_360 rfl rfl ?_
  refine m_iconst hc 0 dL_law_361 (by decide) ?_
  refine w_lald hc hr dL_law_362 ?_
  refine m_iload hc 0 dL_law_363 rfl ?_
  refine m_i2l hc dL_law_365 ?_
  refine m_lcmp hc dL_law_366 ?_
  refine m_if_eq hc 372 dL_law_367 rfl (fun _ => ?_) (fun c => absurd (by rw [hw.2.1 hk]; exact lg_cmp_self _) c)
  refine m_goto hc 1534 dL_law_372 rfl ?_
  exact m_sub [2, 3, 4, 5, 6] rfl (kk S' R2 _ hw.2.2)
theorem lm_L_92 : Cond.methodLink RL 92 yL_step ∈ lw_good := lw_in 1290 (by decide +kernel) (by decide +kernel)
theorem lm_L_94 : Cond.methodLink RL 94 yX12_step ∈ lw_good := lw_in 2084 (by decide +kernel) (by decide +kernel)
def wq_5 (M : Nat × Nat) (x : Nat) (y1 y2 : Int32) (S : HS) (R : RS) (v0 : Int64) (K : HS → RS → Prop) : Prop := hw_step M x y1 y2 S v0 (fun k v S' => wp_step y1 y2 R (fun q R1 => wp_thrown R1 (fun t R2 => t = k ∧ (k = 0 → v = Int32.toInt64 q) ∧ K S' R2)))
set_option maxHeartbeats 4000000 in
set_option maxRecDepth 100000 in
theorem lc_5 {G : CG} {GR : RG} {cJ : ClassId} {o x b Ln : Nat} {xs : Nat → Int32} {S : HS} {R : RS} {v0 : Int64} {X : Fx} {i y0 y1 y2 y3 y4 y5 : Int32} {KL : HS → RS → Prop} (hc : Cx X RL cL_law 7) (hr : Cw G GR cJ o X) (hs : Sx X b Ln xs) (h6 : At6 Ln xs i y0 y1 y2 y3 y4 y5) (hw : wq_5 (gC G, gS G) x y1 y2 S R v0 KL) (kk : ∀ (S' : HS) (R' : RS) (v : Int64), KL S' R' → ML G GR cJ o X 7 S' R' v 1534 [(4, .int i), (3, .ref o), (2, .ref GR.2.2.1), (1, .ref x), (0, .ref b)] []) : ML G GR cJ o X 7 S R v0 375 [(4, .int i), (3, .ref o), (2, .ref GR.2.2.1), (1, .ref x), (0, .ref b)] [] := by
  unfold wq_5 at hw
  refine m_aload_n hc 3 dL_law_375 rfl rfl ?_
  refine m_aload_n hc 4 dL_law_376 rfl rfl ?_
  refine m_iload hc 0 dL_law_377 rfl ?_
  refine m_iconst hc 1 dL_law_379 (by decide) ?_
  refine m_iadd hc dL_law_380 ?_
  refine w_sld hc hs h6.2.1 dL_law_381 ?_
  refine m_aload_n hc 4 dL_law_382 rfl rfl ?_
  refine m_iload hc 0 dL_law_383 rfl ?_
  refine m_iconst hc 2 dL_law_385 (by decide) ?_
  refine m_iadd hc dL_law_386 ?_
  refine w_sld hc hs h6.2.2.1 dL_law_387 ?_
  refine m_aload_n hc 1 dL_law_388 rfl rfl ?_
  refine w_callH hc hr mtL_step lm_L_92 (hl_step hw) (Nat.le_of_ble_eq_true rfl) dL_law_389 rfl (rest := []) rfl (Nat.le_of_ble_eq_true rfl) (fun k v S' hw => ?_)
  refine m_istore hc [(5, .int k), (4, .int i), (3, .ref o), (2, .ref GR.2.2.1), (1, .ref x), (0, .ref b)] dL_law_392 (Nat.le_of_ble_eq_true rfl) rfl ?_
  refine m_aload_n hc 3 dL_law_394 rfl rfl ?_
  refine m_aload_n hc 5 dL_law_395 rfl rfl ?_
  refine m_iload hc 1 dL_law_396 rfl ?_
  refine m_iconst hc 1 dL_law_398 (by decide) ?_
  refine m_iadd hc dL_law_399 ?_
  refine w_sld hc hs h6.2.1 dL_law_400 ?_
  refine m_aload_n hc 5 dL_law_401 rfl rfl ?_
  refine m_iload hc 1 dL_law_402 rfl ?_
  refine m_iconst hc 2 dL_law_404 (by decide) ?_
  refine m_iadd hc dL_law_405 ?_
  refine w_sld hc hs h6.2.2.1 dL_law_406 ?_
  refine w_callRi hc hr mt_step rfl lm_L_94 (ok_step (cw_ok hr) hw) (Nat.le_of_ble_eq_true rfl) dL_law_407 rfl (rest := []) rfl (Nat.le_of_ble_eq_true rfl) (fun q R1 hw => ?_)
  refine m_istore hc [(6, .int q), (5, .int k), (4, .int i), (3, .ref o), (2, .ref GR.2.2.1), (1, .ref x), (0, .ref b)] dL_law_410 (Nat.le_of_ble_eq_true rfl) rfl ?_
  refine m_aload_n hc 4 dL_law_412 rfl rfl ?_
  refine w_callRi hc hr mt_thrown rfl lm_L_80 (ok_thrown (cw_ok hr) hw) (Nat.le_of_ble_eq_true rfl) dL_law_413 rfl (rest := []) rfl (Nat.le_of_ble_eq_true rfl) (fun t R2 hw => ?_)
  refine m_iload hc 1 dL_law_416 rfl ?_
  refine m_icmp_eq hc 423 dL_law_418 rfl (fun _ => ?_) (fun c => absurd hw.1 c)
  refine m_iload hc 1 dL_law_423 rfl ?_
  refine m_if_ne hc 440 dL_law_425 rfl (fun _ => ?_) (fun hk => ?_)
  · refine m_goto hc 1534 dL_law_440 rfl ?_
    exact m_sub [2, 3, 4, 5, 6] rfl (kk S' R2 _ hw.2.2)
  refine m_aload_n hc 3 dL_law_428 rfl rfl ?_
  refine m_iconst hc 0 dL_law_429 (by decide) ?_
  refine w_lald hc hr dL_law_430 ?_
  refine m_iload hc 0 dL_law_431 rfl ?_
  refine m_i2l hc dL_law_433 ?_
  refine m_lcmp hc dL_law_434 ?_
  refine m_if_eq hc 440 dL_law_435 rfl (fun _ => ?_) (fun c => absurd (by rw [hw.2.1 hk]; exact lg_cmp_self _) c)
  refine m_goto hc 1534 dL_law_440 rfl ?_
  exact m_sub [2, 3, 4, 5, 6] rfl (kk S' R2 _ hw.2.2)
theorem lm_L_95 : Cond.methodLink RL 95 yL_at ∈ lw_good := lw_in 1321 (by decide +kernel) (by decide +kernel)
theorem lm_L_98 : Cond.methodLink RL 98 yX12_at ∈ lw_good := lw_in 2109 (by decide +kernel) (by decide +kernel)
def wq_6 (M : Nat × Nat) (x : Nat) (y1 y2 y3 y4 y5 : Int32) (S : HS) (R : RS) (v0 : Int64) (K : HS → RS → Prop) : Prop := hw_at M x y1 (bz y2) y3 y4 y5 S v0 (fun k v S' => wp_at y1 (bz y2) y3 y4 y5 R (fun q R1 => wp_thrown R1 (fun t R2 => t = k ∧ (k = 0 → v = Int32.toInt64 q) ∧ K S' R2)))
set_option maxHeartbeats 4000000 in
set_option maxRecDepth 100000 in
theorem lc_6 {G : CG} {GR : RG} {cJ : ClassId} {o x b Ln : Nat} {xs : Nat → Int32} {S : HS} {R : RS} {v0 : Int64} {X : Fx} {i y0 y1 y2 y3 y4 y5 : Int32} {KL : HS → RS → Prop} (hc : Cx X RL cL_law 7) (hr : Cw G GR cJ o X) (hs : Sx X b Ln xs) (h6 : At6 Ln xs i y0 y1 y2 y3 y4 y5) (hw : wq_6 (gC G, gS G) x y1 y2 y3 y4 y5 S R v0 KL) (kk : ∀ (S' : HS) (R' : RS) (v : Int64), KL S' R' → ML G GR cJ o X 7 S' R' v 1534 [(4, .int i), (3, .ref o), (2, .ref GR.2.2.1), (1, .ref x), (0, .ref b)] []) : ML G GR cJ o X 7 S R v0 443 [(4, .int i), (3, .ref o), (2, .ref GR.2.2.1), (1, .ref x), (0, .ref b)] [] := by
  unfold wq_6 at hw
  refine m_aload_n hc 3 dL_law_443 rfl rfl ?_
  refine m_aload_n hc 4 dL_law_444 rfl rfl ?_
  refine m_iload hc 0 dL_law_445 rfl ?_
  refine m_iconst hc 1 dL_law_447 (by decide) ?_
  refine m_iadd hc dL_law_448 ?_
  refine w_sld hc hs h6.2.1 dL_law_449 ?_
  refine m_aload_n hc 4 dL_law_450 rfl rfl ?_
  refine m_iload hc 0 dL_law_451 rfl ?_
  refine m_iconst hc 2 dL_law_453 (by decide) ?_
  refine m_iadd hc dL_law_454 ?_
  refine w_sld hc hs h6.2.2.1 dL_law_455 ?_
  refine m_bz hc dL_law_456 rfl dL_law_459 dL_law_460 rfl dL_law_463 ?_
  refine m_aload_n hc 4 dL_law_464 rfl rfl ?_
  refine m_iload hc 0 dL_law_465 rfl ?_
  refine m_iconst hc 3 dL_law_467 (by decide) ?_
  refine m_iadd hc dL_law_468 ?_
  refine w_sld hc hs h6.2.2.2.1 dL_law_469 ?_
  refine m_aload_n hc 4 dL_law_470 rfl rfl ?_
  refine m_iload hc 0 dL_law_471 rfl ?_
  refine m_iconst hc 4 dL_law_473 (by decide) ?_
  refine m_iadd hc dL_law_474 ?_
  refine w_sld hc hs h6.2.2.2.2.1 dL_law_475 ?_
  refine m_aload_n hc 4 dL_law_476 rfl rfl ?_
  refine m_iload hc 0 dL_law_477 rfl ?_
  refine m_iconst hc 5 dL_law_479 (by decide) ?_
  refine m_iadd hc dL_law_480 ?_
  refine w_sld hc hs h6.2.2.2.2.2 dL_law_481 ?_
  refine m_aload_n hc 1 dL_law_482 rfl rfl ?_
  refine w_callH hc hr mtL_at lm_L_95 (hl_at hw) (Nat.le_of_ble_eq_true rfl) dL_law_483 rfl (rest := []) rfl (Nat.le_of_ble_eq_true rfl) (fun k v S' hw => ?_)
  refine m_istore hc [(5, .int k), (4, .int i), (3, .ref o), (2, .ref GR.2.2.1), (1, .ref x), (0, .ref b)] dL_law_486 (Nat.le_of_ble_eq_true rfl) rfl ?_
  refine m_aload_n hc 3 dL_law_488 rfl rfl ?_
  refine m_aload_n hc 5 dL_law_489 rfl rfl ?_
  refine m_iload hc 1 dL_law_490 rfl ?_
  refine m_iconst hc 1 dL_law_492 (by decide) ?_
  refine m_iadd hc dL_law_493 ?_
  refine w_sld hc hs h6.2.1 dL_law_494 ?_
  refine m_aload_n hc 5 dL_law_495 rfl rfl ?_
  refine m_iload hc 1 dL_law_496 rfl ?_
  refine m_iconst hc 2 dL_law_498 (by decide) ?_
  refine m_iadd hc dL_law_499 ?_
  refine w_sld hc hs h6.2.2.1 dL_law_500 ?_
  refine m_bz hc dL_law_501 rfl dL_law_504 dL_law_505 rfl dL_law_508 ?_
  refine m_aload_n hc 5 dL_law_509 rfl rfl ?_
  refine m_iload hc 1 dL_law_510 rfl ?_
  refine m_iconst hc 3 dL_law_512 (by decide) ?_
  refine m_iadd hc dL_law_513 ?_
  refine w_sld hc hs h6.2.2.2.1 dL_law_514 ?_
  refine m_aload_n hc 5 dL_law_515 rfl rfl ?_
  refine m_iload hc 1 dL_law_516 rfl ?_
  refine m_iconst hc 4 dL_law_518 (by decide) ?_
  refine m_iadd hc dL_law_519 ?_
  refine w_sld hc hs h6.2.2.2.2.1 dL_law_520 ?_
  refine m_aload_n hc 5 dL_law_521 rfl rfl ?_
  refine m_iload hc 1 dL_law_522 rfl ?_
  refine m_iconst hc 5 dL_law_524 (by decide) ?_
  refine m_iadd hc dL_law_525 ?_
  refine w_sld hc hs h6.2.2.2.2.2 dL_law_526 ?_
  refine w_callRi hc hr mt_at rfl lm_L_98 (ok_at (cw_ok hr) hw) (Nat.le_of_ble_eq_true rfl) dL_law_527 rfl (rest := []) rfl (Nat.le_of_ble_eq_true rfl) (fun q R1 hw => ?_)
  refine m_istore hc [(6, .int q), (5, .int k), (4, .int i), (3, .ref o), (2, .ref GR.2.2.1), (1, .ref x), (0, .ref b)] dL_law_530 (Nat.le_of_ble_eq_true rfl) rfl ?_
  refine m_aload_n hc 4 dL_law_532 rfl rfl ?_
  refine w_callRi hc hr mt_thrown rfl lm_L_80 (ok_thrown (cw_ok hr) hw) (Nat.le_of_ble_eq_true rfl) dL_law_533 rfl (rest := []) rfl (Nat.le_of_ble_eq_true rfl) (fun t R2 hw => ?_)
  refine m_iload hc 1 dL_law_536 rfl ?_
  refine m_icmp_eq hc 543 dL_law_538 rfl (fun _ => ?_) (fun c => absurd hw.1 c)
  refine m_iload hc 1 dL_law_543 rfl ?_
  refine m_if_ne hc 560 dL_law_545 rfl (fun _ => ?_) (fun hk => ?_)
  · refine m_goto hc 1534 dL_law_560 rfl ?_
    exact m_sub [2, 3, 4, 5, 6] rfl (kk S' R2 _ hw.2.2)
  refine m_aload_n hc 3 dL_law_548 rfl rfl ?_
  refine m_iconst hc 0 dL_law_549 (by decide) ?_
  refine w_lald hc hr dL_law_550 ?_
  refine m_iload hc 0 dL_law_551 rfl ?_
  refine m_i2l hc dL_law_553 ?_
  refine m_lcmp hc dL_law_554 ?_
  refine m_if_eq hc 560 dL_law_555 rfl (fun _ => ?_) (fun c => absurd (by rw [hw.2.1 hk]; exact lg_cmp_self _) c)
  refine m_goto hc 1534 dL_law_560 rfl ?_
  exact m_sub [2, 3, 4, 5, 6] rfl (kk S' R2 _ hw.2.2)
theorem lm_L_99 : Cond.methodLink RL 99 yX11_make ∈ lw_good := lw_in 495 (by decide +kernel) (by decide +kernel)
theorem lm_L_102 : Cond.methodLink RL 102 yX12_make ∈ lw_good := lw_in 1712 (by decide +kernel) (by decide +kernel)
def wq_7 (M : Nat × Nat) (x : Nat) (y1 y2 y3 y4 : Int32) (S : HS) (R : RS) (K : HS → RS → Prop) : Prop := hT S x = 12 ∧ wp_X11_make M x y1 y2 y3 y4 S (fun r S' => wp_make y1 y2 y3 y4 R (fun q R1 => r = q ∧ K S' R1))
set_option maxHeartbeats 4000000 in
set_option maxRecDepth 100000 in
theorem lc_7 {G : CG} {GR : RG} {cJ : ClassId} {o x b Ln : Nat} {xs : Nat → Int32} {S : HS} {R : RS} {v0 : Int64} {X : Fx} {i y0 y1 y2 y3 y4 y5 : Int32} {KL : HS → RS → Prop} (hc : Cx X RL cL_law 7) (hr : Cw G GR cJ o X) (hs : Sx X b Ln xs) (h6 : At6 Ln xs i y0 y1 y2 y3 y4 y5) (hw : wq_7 (gC G, gS G) x y1 y2 y3 y4 S R KL) (kk : ∀ (S' : HS) (R' : RS) (v : Int64), KL S' R' → ML G GR cJ o X 7 S' R' v 1534 [(4, .int i), (3, .ref o), (2, .ref GR.2.2.1), (1, .ref x), (0, .ref b)] []) : ML G GR cJ o X 7 S R v0 563 [(4, .int i), (3, .ref o), (2, .ref GR.2.2.1), (1, .ref x), (0, .ref b)] [] := by
  obtain ⟨ht, hw⟩ := hw
  refine m_aload_n hc 3 dL_law_563 rfl rfl ?_
  refine m_aload_n hc 4 dL_law_564 rfl rfl ?_
  refine m_iload hc 0 dL_law_565 rfl ?_
  refine m_iconst hc 1 dL_law_567 (by decide) ?_
  refine m_iadd hc dL_law_568 ?_
  refine w_sld hc hs h6.2.1 dL_law_569 ?_
  refine m_aload_n hc 4 dL_law_570 rfl rfl ?_
  refine m_iload hc 0 dL_law_571 rfl ?_
  refine m_iconst hc 2 dL_law_573 (by decide) ?_
  refine m_iadd hc dL_law_574 ?_
  refine w_sld hc hs h6.2.2.1 dL_law_575 ?_
  refine m_aload_n hc 4 dL_law_576 rfl rfl ?_
  refine m_iload hc 0 dL_law_577 rfl ?_
  refine m_iconst hc 3 dL_law_579 (by decide) ?_
  refine m_iadd hc dL_law_580 ?_
  refine w_sld hc hs h6.2.2.2.1 dL_law_581 ?_
  refine m_aload_n hc 4 dL_law_582 rfl rfl ?_
  refine m_iload hc 0 dL_law_583 rfl ?_
  refine m_iconst hc 4 dL_law_585 (by decide) ?_
  refine m_iadd hc dL_law_586 ?_
  refine w_sld hc hs h6.2.2.2.2.1 dL_law_587 ?_
  refine w_callCi hc hr ht mt_X11_make rfl lm_L_99 (ok_X11_make hw) (Nat.le_of_ble_eq_true rfl) dL_law_588 rfl (rest := []) rfl (Nat.le_of_ble_eq_true rfl) (fun r S' hw => ?_)
  refine m_aload_n hc 2 dL_law_591 rfl rfl ?_
  refine m_aload_n hc 4 dL_law_592 rfl rfl ?_
  refine m_iload hc 0 dL_law_593 rfl ?_
  refine m_iconst hc 1 dL_law_595 (by decide) ?_
  refine m_iadd hc dL_law_596 ?_
  refine w_sld hc hs h6.2.1 dL_law_597 ?_
  refine m_aload_n hc 4 dL_law_598 rfl rfl ?_
  refine m_iload hc 0 dL_law_599 rfl ?_
  refine m_iconst hc 2 dL_law_601 (by decide) ?_
  refine m_iadd hc dL_law_602 ?_
  refine w_sld hc hs h6.2.2.1 dL_law_603 ?_
  refine m_aload_n hc 4 dL_law_604 rfl rfl ?_
  refine m_iload hc 0 dL_law_605 rfl ?_
  refine m_iconst hc 3 dL_law_607 (by decide) ?_
  refine m_iadd hc dL_law_608 ?_
  refine w_sld hc hs h6.2.2.2.1 dL_law_609 ?_
  refine m_aload_n hc 4 dL_law_610 rfl rfl ?_
  refine m_iload hc 0 dL_law_611 rfl ?_
  refine m_iconst hc 4 dL_law_613 (by decide) ?_
  refine m_iadd hc dL_law_614 ?_
  refine w_sld hc hs h6.2.2.2.2.1 dL_law_615 ?_
  refine w_callRi hc hr mt_make rfl lm_L_102 (ok_make (cw_ok hr) hw) (Nat.le_of_ble_eq_true rfl) dL_law_616 rfl (rest := [.int r]) rfl (Nat.le_of_ble_eq_true rfl) (fun q R1 hw => ?_)
  refine m_icmp_eq hc 1534 dL_law_619 rfl (fun _ => ?_) (fun c => absurd hw.1 c)
  exact kk S' R1 _ hw.2
theorem lm_L_103 : Cond.methodLink RL 103 yX11_put ∈ lw_good := lw_in 1068 (by decide +kernel) (by decide +kernel)
theorem lm_L_106 : Cond.methodLink RL 106 yX12_put ∈ lw_good := lw_in 1901 (by decide +kernel) (by decide +kernel)
def wq_8 (M : Nat × Nat) (x : Nat) (y1 y2 y3 y4 : Int32) (S : HS) (R : RS) (K : HS → RS → Prop) : Prop := hT S x = 12 ∧ wp_X11_put M x y1 y2 y3 y4 S (fun r S' => wp_put y1 y2 y3 y4 R (fun q R1 => r = q ∧ K S' R1))
set_option maxHeartbeats 4000000 in
set_option maxRecDepth 100000 in
theorem lc_8 {G : CG} {GR : RG} {cJ : ClassId} {o x b Ln : Nat} {xs : Nat → Int32} {S : HS} {R : RS} {v0 : Int64} {X : Fx} {i y0 y1 y2 y3 y4 y5 : Int32} {KL : HS → RS → Prop} (hc : Cx X RL cL_law 7) (hr : Cw G GR cJ o X) (hs : Sx X b Ln xs) (h6 : At6 Ln xs i y0 y1 y2 y3 y4 y5) (hw : wq_8 (gC G, gS G) x y1 y2 y3 y4 S R KL) (kk : ∀ (S' : HS) (R' : RS) (v : Int64), KL S' R' → ML G GR cJ o X 7 S' R' v 1534 [(4, .int i), (3, .ref o), (2, .ref GR.2.2.1), (1, .ref x), (0, .ref b)] []) : ML G GR cJ o X 7 S R v0 624 [(4, .int i), (3, .ref o), (2, .ref GR.2.2.1), (1, .ref x), (0, .ref b)] [] := by
  obtain ⟨ht, hw⟩ := hw
  refine m_aload_n hc 3 dL_law_624 rfl rfl ?_
  refine m_aload_n hc 4 dL_law_625 rfl rfl ?_
  refine m_iload hc 0 dL_law_626 rfl ?_
  refine m_iconst hc 1 dL_law_628 (by decide) ?_
  refine m_iadd hc dL_law_629 ?_
  refine w_sld hc hs h6.2.1 dL_law_630 ?_
  refine m_aload_n hc 4 dL_law_631 rfl rfl ?_
  refine m_iload hc 0 dL_law_632 rfl ?_
  refine m_iconst hc 2 dL_law_634 (by decide) ?_
  refine m_iadd hc dL_law_635 ?_
  refine w_sld hc hs h6.2.2.1 dL_law_636 ?_
  refine m_aload_n hc 4 dL_law_637 rfl rfl ?_
  refine m_iload hc 0 dL_law_638 rfl ?_
  refine m_iconst hc 3 dL_law_640 (by decide) ?_
  refine m_iadd hc dL_law_641 ?_
  refine w_sld hc hs h6.2.2.2.1 dL_law_642 ?_
  refine m_aload_n hc 4 dL_law_643 rfl rfl ?_
  refine m_iload hc 0 dL_law_644 rfl ?_
  refine m_iconst hc 4 dL_law_646 (by decide) ?_
  refine m_iadd hc dL_law_647 ?_
  refine w_sld hc hs h6.2.2.2.2.1 dL_law_648 ?_
  refine w_callCi hc hr ht mt_X11_put rfl lm_L_103 (ok_X11_put hw) (Nat.le_of_ble_eq_true rfl) dL_law_649 rfl (rest := []) rfl (Nat.le_of_ble_eq_true rfl) (fun r S' hw => ?_)
  refine m_aload_n hc 2 dL_law_652 rfl rfl ?_
  refine m_aload_n hc 4 dL_law_653 rfl rfl ?_
  refine m_iload hc 0 dL_law_654 rfl ?_
  refine m_iconst hc 1 dL_law_656 (by decide) ?_
  refine m_iadd hc dL_law_657 ?_
  refine w_sld hc hs h6.2.1 dL_law_658 ?_
  refine m_aload_n hc 4 dL_law_659 rfl rfl ?_
  refine m_iload hc 0 dL_law_660 rfl ?_
  refine m_iconst hc 2 dL_law_662 (by decide) ?_
  refine m_iadd hc dL_law_663 ?_
  refine w_sld hc hs h6.2.2.1 dL_law_664 ?_
  refine m_aload_n hc 4 dL_law_665 rfl rfl ?_
  refine m_iload hc 0 dL_law_666 rfl ?_
  refine m_iconst hc 3 dL_law_668 (by decide) ?_
  refine m_iadd hc dL_law_669 ?_
  refine w_sld hc hs h6.2.2.2.1 dL_law_670 ?_
  refine m_aload_n hc 4 dL_law_671 rfl rfl ?_
  refine m_iload hc 0 dL_law_672 rfl ?_
  refine m_iconst hc 4 dL_law_674 (by decide) ?_
  refine m_iadd hc dL_law_675 ?_
  refine w_sld hc hs h6.2.2.2.2.1 dL_law_676 ?_
  refine w_callRi hc hr mt_put rfl lm_L_106 (ok_put (cw_ok hr) hw) (Nat.le_of_ble_eq_true rfl) dL_law_677 rfl (rest := [.int r]) rfl (Nat.le_of_ble_eq_true rfl) (fun q R1 hw => ?_)
  refine m_icmp_eq hc 1534 dL_law_680 rfl (fun _ => ?_) (fun c => absurd hw.1 c)
  exact kk S' R1 _ hw.2
theorem lm_L_107 : Cond.methodLink RL 107 yL_fit ∈ lw_good := lw_in 1364 (by decide +kernel) (by decide +kernel)
theorem lm_L_109 : Cond.methodLink RL 109 yX12_fit ∈ lw_good := lw_in 1913 (by decide +kernel) (by decide +kernel)
def wq_9 (M : Nat × Nat) (x : Nat) (y1 : Int32) (S : HS) (R : RS) (v0 : Int64) (K : HS → RS → Prop) : Prop := hw_fit M x y1 S v0 (fun k v S' => wp_fit y1 R (fun q R1 => wp_thrown R1 (fun t R2 => t = k ∧ (k = 0 → v = Int32.toInt64 q) ∧ K S' R2)))
set_option maxHeartbeats 4000000 in
set_option maxRecDepth 100000 in
theorem lc_9 {G : CG} {GR : RG} {cJ : ClassId} {o x b Ln : Nat} {xs : Nat → Int32} {S : HS} {R : RS} {v0 : Int64} {X : Fx} {i y0 y1 y2 y3 y4 y5 : Int32} {KL : HS → RS → Prop} (hc : Cx X RL cL_law 7) (hr : Cw G GR cJ o X) (hs : Sx X b Ln xs) (h6 : At6 Ln xs i y0 y1 y2 y3 y4 y5) (hw : wq_9 (gC G, gS G) x y1 S R v0 KL) (kk : ∀ (S' : HS) (R' : RS) (v : Int64), KL S' R' → ML G GR cJ o X 7 S' R' v 1534 [(4, .int i), (3, .ref o), (2, .ref GR.2.2.1), (1, .ref x), (0, .ref b)] []) : ML G GR cJ o X 7 S R v0 685 [(4, .int i), (3, .ref o), (2, .ref GR.2.2.1), (1, .ref x), (0, .ref b)] [] := by
  unfold wq_9 at hw
  refine m_aload_n hc 3 dL_law_685 rfl rfl ?_
  refine m_aload_n hc 4 dL_law_686 rfl rfl ?_
  refine m_iload hc 0 dL_law_687 rfl ?_
  refine m_iconst hc 1 dL_law_689 (by decide) ?_
  refine m_iadd hc dL_law_690 ?_
  refine w_sld hc hs h6.2.1 dL_law_691 ?_
  refine m_aload_n hc 1 dL_law_692 rfl rfl ?_
  refine w_callH hc hr mtL_fit lm_L_107 (hl_fit hw) (Nat.le_of_ble_eq_true rfl) dL_law_693 rfl (rest := []) rfl (Nat.le_of_ble_eq_true rfl) (fun k v S' hw => ?_)
  refine m_istore hc [(5, .int k), (4, .int i), (3, .ref o), (2, .ref GR.2.2.1), (1, .ref x), (0, .ref b)] dL_law_696 (Nat.le_of_ble_eq_true rfl) rfl ?_
  refine m_aload_n hc 3 dL_law_698 rfl rfl ?_
  refine m_aload_n hc 5 dL_law_699 rfl rfl ?_
  refine m_iload hc 1 dL_law_700 rfl ?_
  refine m_iconst hc 1 dL_law_702 (by decide) ?_
  refine m_iadd hc dL_law_703 ?_
  refine w_sld hc hs h6.2.1 dL_law_704 ?_
  refine w_callRi hc hr mt_fit rfl lm_L_109 (ok_fit (cw_ok hr) hw) (Nat.le_of_ble_eq_true rfl) dL_law_705 rfl (rest := []) rfl (Nat.le_of_ble_eq_true rfl) (fun q R1 hw => ?_)
  refine m_istore hc [(6, .int q), (5, .int k), (4, .int i), (3, .ref o), (2, .ref GR.2.2.1), (1, .ref x), (0, .ref b)] dL_law_708 (Nat.le_of_ble_eq_true rfl) rfl ?_
  refine m_aload_n hc 4 dL_law_710 rfl rfl ?_
  refine w_callRi hc hr mt_thrown rfl lm_L_80 (ok_thrown (cw_ok hr) hw) (Nat.le_of_ble_eq_true rfl) dL_law_711 rfl (rest := []) rfl (Nat.le_of_ble_eq_true rfl) (fun t R2 hw => ?_)
  refine m_iload hc 1 dL_law_714 rfl ?_
  refine m_icmp_eq hc 721 dL_law_716 rfl (fun _ => ?_) (fun c => absurd hw.1 c)
  refine m_iload hc 1 dL_law_721 rfl ?_
  refine m_if_ne hc 738 dL_law_723 rfl (fun _ => ?_) (fun hk => ?_)
  · refine m_goto hc 1534 dL_law_738 rfl ?_
    exact m_sub [2, 3, 4, 5, 6] rfl (kk S' R2 _ hw.2.2)
  refine m_aload_n hc 3 dL_law_726 rfl rfl ?_
  refine m_iconst hc 0 dL_law_727 (by decide) ?_
  refine w_lald hc hr dL_law_728 ?_
  refine m_iload hc 0 dL_law_729 rfl ?_
  refine m_i2l hc dL_law_731 ?_
  refine m_lcmp hc dL_law_732 ?_
  refine m_if_eq hc 738 dL_law_733 rfl (fun _ => ?_) (fun c => absurd (by rw [hw.2.1 hk]; exact lg_cmp_self _) c)
  refine m_goto hc 1534 dL_law_738 rfl ?_
  exact m_sub [2, 3, 4, 5, 6] rfl (kk S' R2 _ hw.2.2)
theorem lm_L_110 : Cond.methodLink RL 110 yX11_undo ∈ lw_good := lw_in 1084 (by decide +kernel) (by decide +kernel)
theorem lm_L_113 : Cond.methodLink RL 113 yX12_undo ∈ lw_good := lw_in 1704 (by decide +kernel) (by decide +kernel)
def wq_10 (M : Nat × Nat) (x : Nat) (S : HS) (R : RS) (K : HS → RS → Prop) : Prop := hT S x = 12 ∧ wp_X11_undo M x  S (fun r S' => wp_undo  R (fun q R1 => r = q ∧ K S' R1))
set_option maxHeartbeats 4000000 in
set_option maxRecDepth 100000 in
theorem lc_10 {G : CG} {GR : RG} {cJ : ClassId} {o x b Ln : Nat} {xs : Nat → Int32} {S : HS} {R : RS} {v0 : Int64} {X : Fx} {i y0 y1 y2 y3 y4 y5 : Int32} {KL : HS → RS → Prop} (hc : Cx X RL cL_law 7) (hr : Cw G GR cJ o X) (hs : Sx X b Ln xs) (h6 : At6 Ln xs i y0 y1 y2 y3 y4 y5) (hw : wq_10 (gC G, gS G) x  S R KL) (kk : ∀ (S' : HS) (R' : RS) (v : Int64), KL S' R' → ML G GR cJ o X 7 S' R' v 1534 [(4, .int i), (3, .ref o), (2, .ref GR.2.2.1), (1, .ref x), (0, .ref b)] []) : ML G GR cJ o X 7 S R v0 741 [(4, .int i), (3, .ref o), (2, .ref GR.2.2.1), (1, .ref x), (0, .ref b)] [] := by
  obtain ⟨ht, hw⟩ := hw
  refine m_aload_n hc 3 dL_law_741 rfl rfl ?_
  refine w_callCi hc hr ht mt_X11_undo rfl lm_L_110 (ok_X11_undo hw) (Nat.le_of_ble_eq_true rfl) dL_law_742 rfl (rest := []) rfl (Nat.le_of_ble_eq_true rfl) (fun r S' hw => ?_)
  refine m_aload_n hc 2 dL_law_745 rfl rfl ?_
  refine w_callRi hc hr mt_undo rfl lm_L_113 (ok_undo (cw_ok hr) hw) (Nat.le_of_ble_eq_true rfl) dL_law_746 rfl (rest := [.int r]) rfl (Nat.le_of_ble_eq_true rfl) (fun q R1 hw => ?_)
  refine m_icmp_eq hc 1534 dL_law_749 rfl (fun _ => ?_) (fun c => absurd hw.1 c)
  exact kk S' R1 _ hw.2
theorem lm_L_114 : Cond.methodLink RL 114 yL_of ∈ lw_good := lw_in 1377 (by decide +kernel) (by decide +kernel)
theorem lm_L_116 : Cond.methodLink RL 116 yX12_of ∈ lw_good := lw_in 1921 (by decide +kernel) (by decide +kernel)
def wq_11 (M : Nat × Nat) (x : Nat) (y1 y2 : Int32) (S : HS) (R : RS) (v0 : Int64) (K : HS → RS → Prop) : Prop := hw_of M x y1 y2 S v0 (fun k v S' => wp_of y1 y2 R (fun q R1 => wp_thrown R1 (fun t R2 => t = k ∧ (k = 0 → v = Int32.toInt64 q) ∧ K S' R2)))
set_option maxHeartbeats 4000000 in
set_option maxRecDepth 100000 in
theorem lc_11 {G : CG} {GR : RG} {cJ : ClassId} {o x b Ln : Nat} {xs : Nat → Int32} {S : HS} {R : RS} {v0 : Int64} {X : Fx} {i y0 y1 y2 y3 y4 y5 : Int32} {KL : HS → RS → Prop} (hc : Cx X RL cL_law 7) (hr : Cw G GR cJ o X) (hs : Sx X b Ln xs) (h6 : At6 Ln xs i y0 y1 y2 y3 y4 y5) (hw : wq_11 (gC G, gS G) x y1 y2 S R v0 KL) (kk : ∀ (S' : HS) (R' : RS) (v : Int64), KL S' R' → ML G GR cJ o X 7 S' R' v 1534 [(4, .int i), (3, .ref o), (2, .ref GR.2.2.1), (1, .ref x), (0, .ref b)] []) : ML G GR cJ o X 7 S R v0 754 [(4, .int i), (3, .ref o), (2, .ref GR.2.2.1), (1, .ref x), (0, .ref b)] [] := by
  unfold wq_11 at hw
  refine m_aload_n hc 3 dL_law_754 rfl rfl ?_
  refine m_aload_n hc 4 dL_law_755 rfl rfl ?_
  refine m_iload hc 0 dL_law_756 rfl ?_
  refine m_iconst hc 1 dL_law_758 (by decide) ?_
  refine m_iadd hc dL_law_759 ?_
  refine w_sld hc hs h6.2.1 dL_law_760 ?_
  refine m_aload_n hc 4 dL_law_761 rfl rfl ?_
  refine m_iload hc 0 dL_law_762 rfl ?_
  refine m_iconst hc 2 dL_law_764 (by decide) ?_
  refine m_iadd hc dL_law_765 ?_
  refine w_sld hc hs h6.2.2.1 dL_law_766 ?_
  refine m_aload_n hc 1 dL_law_767 rfl rfl ?_
  refine w_callH hc hr mtL_of lm_L_114 (hl_of hw) (Nat.le_of_ble_eq_true rfl) dL_law_768 rfl (rest := []) rfl (Nat.le_of_ble_eq_true rfl) (fun k v S' hw => ?_)
  refine m_istore hc [(5, .int k), (4, .int i), (3, .ref o), (2, .ref GR.2.2.1), (1, .ref x), (0, .ref b)] dL_law_771 (Nat.le_of_ble_eq_true rfl) rfl ?_
  refine m_aload_n hc 3 dL_law_773 rfl rfl ?_
  refine m_aload_n hc 5 dL_law_774 rfl rfl ?_
  refine m_iload hc 1 dL_law_775 rfl ?_
  refine m_iconst hc 1 dL_law_777 (by decide) ?_
  refine m_iadd hc dL_law_778 ?_
  refine w_sld hc hs h6.2.1 dL_law_779 ?_
  refine m_aload_n hc 5 dL_law_780 rfl rfl ?_
  refine m_iload hc 1 dL_law_781 rfl ?_
  refine m_iconst hc 2 dL_law_783 (by decide) ?_
  refine m_iadd hc dL_law_784 ?_
  refine w_sld hc hs h6.2.2.1 dL_law_785 ?_
  refine w_callRi hc hr mt_of rfl lm_L_116 (ok_of (cw_ok hr) hw) (Nat.le_of_ble_eq_true rfl) dL_law_786 rfl (rest := []) rfl (Nat.le_of_ble_eq_true rfl) (fun q R1 hw => ?_)
  refine m_istore hc [(6, .int q), (5, .int k), (4, .int i), (3, .ref o), (2, .ref GR.2.2.1), (1, .ref x), (0, .ref b)] dL_law_789 (Nat.le_of_ble_eq_true rfl) rfl ?_
  refine m_aload_n hc 4 dL_law_791 rfl rfl ?_
  refine w_callRi hc hr mt_thrown rfl lm_L_80 (ok_thrown (cw_ok hr) hw) (Nat.le_of_ble_eq_true rfl) dL_law_792 rfl (rest := []) rfl (Nat.le_of_ble_eq_true rfl) (fun t R2 hw => ?_)
  refine m_iload hc 1 dL_law_795 rfl ?_
  refine m_icmp_eq hc 802 dL_law_797 rfl (fun _ => ?_) (fun c => absurd hw.1 c)
  refine m_iload hc 1 dL_law_802 rfl ?_
  refine m_if_ne hc 819 dL_law_804 rfl (fun _ => ?_) (fun hk => ?_)
  · refine m_goto hc 1534 dL_law_819 rfl ?_
    exact m_sub [2, 3, 4, 5, 6] rfl (kk S' R2 _ hw.2.2)
  refine m_aload_n hc 3 dL_law_807 rfl rfl ?_
  refine m_iconst hc 0 dL_law_808 (by decide) ?_
  refine w_lald hc hr dL_law_809 ?_
  refine m_iload hc 0 dL_law_810 rfl ?_
  refine m_i2l hc dL_law_812 ?_
  refine m_lcmp hc dL_law_813 ?_
  refine m_if_eq hc 819 dL_law_814 rfl (fun _ => ?_) (fun c => absurd (by rw [hw.2.1 hk]; exact lg_cmp_self _) c)
  refine m_goto hc 1534 dL_law_819 rfl ?_
  exact m_sub [2, 3, 4, 5, 6] rfl (kk S' R2 _ hw.2.2)
theorem lm_L_117 : Cond.methodLink RL 117 yL_term ∈ lw_good := lw_in 1404 (by decide +kernel) (by decide +kernel)
theorem lm_L_120 : Cond.methodLink RL 120 yX12_term ∈ lw_good := lw_in 1958 (by decide +kernel) (by decide +kernel)
def wq_12 (M : Nat × Nat) (x : Nat) (y1 y2 y3 y4 : Int32) (S : HS) (R : RS) (v0 : Int64) (K : HS → RS → Prop) : Prop := hw_term M x y1 y2 y3 y4 S v0 (fun k v S' => wp_term y1 y2 y3 y4 R (fun q R1 => wp_thrown R1 (fun t R2 => t = k ∧ (k = 0 → v = Int32.toInt64 q) ∧ K S' R2)))
set_option maxHeartbeats 4000000 in
set_option maxRecDepth 100000 in
theorem lc_12 {G : CG} {GR : RG} {cJ : ClassId} {o x b Ln : Nat} {xs : Nat → Int32} {S : HS} {R : RS} {v0 : Int64} {X : Fx} {i y0 y1 y2 y3 y4 y5 : Int32} {KL : HS → RS → Prop} (hc : Cx X RL cL_law 7) (hr : Cw G GR cJ o X) (hs : Sx X b Ln xs) (h6 : At6 Ln xs i y0 y1 y2 y3 y4 y5) (hw : wq_12 (gC G, gS G) x y1 y2 y3 y4 S R v0 KL) (kk : ∀ (S' : HS) (R' : RS) (v : Int64), KL S' R' → ML G GR cJ o X 7 S' R' v 1534 [(4, .int i), (3, .ref o), (2, .ref GR.2.2.1), (1, .ref x), (0, .ref b)] []) : ML G GR cJ o X 7 S R v0 822 [(4, .int i), (3, .ref o), (2, .ref GR.2.2.1), (1, .ref x), (0, .ref b)] [] := by
  unfold wq_12 at hw
  refine m_aload_n hc 3 dL_law_822 rfl rfl ?_
  refine m_aload_n hc 4 dL_law_823 rfl rfl ?_
  refine m_iload hc 0 dL_law_824 rfl ?_
  refine m_iconst hc 1 dL_law_826 (by decide) ?_
  refine m_iadd hc dL_law_827 ?_
  refine w_sld hc hs h6.2.1 dL_law_828 ?_
  refine m_aload_n hc 4 dL_law_829 rfl rfl ?_
  refine m_iload hc 0 dL_law_830 rfl ?_
  refine m_iconst hc 2 dL_law_832 (by decide) ?_
  refine m_iadd hc dL_law_833 ?_
  refine w_sld hc hs h6.2.2.1 dL_law_834 ?_
  refine m_aload_n hc 4 dL_law_835 rfl rfl ?_
  refine m_iload hc 0 dL_law_836 rfl ?_
  refine m_iconst hc 3 dL_law_838 (by decide) ?_
  refine m_iadd hc dL_law_839 ?_
  refine w_sld hc hs h6.2.2.2.1 dL_law_840 ?_
  refine m_aload_n hc 4 dL_law_841 rfl rfl ?_
  refine m_iload hc 0 dL_law_842 rfl ?_
  refine m_iconst hc 4 dL_law_844 (by decide) ?_
  refine m_iadd hc dL_law_845 ?_
  refine w_sld hc hs h6.2.2.2.2.1 dL_law_846 ?_
  refine m_aload_n hc 1 dL_law_847 rfl rfl ?_
  refine w_callH hc hr mtL_term lm_L_117 (hl_term hw) (Nat.le_of_ble_eq_true rfl) dL_law_848 rfl (rest := []) rfl (Nat.le_of_ble_eq_true rfl) (fun k v S' hw => ?_)
  refine m_istore hc [(5, .int k), (4, .int i), (3, .ref o), (2, .ref GR.2.2.1), (1, .ref x), (0, .ref b)] dL_law_851 (Nat.le_of_ble_eq_true rfl) rfl ?_
  refine m_aload_n hc 3 dL_law_853 rfl rfl ?_
  refine m_aload_n hc 5 dL_law_854 rfl rfl ?_
  refine m_iload hc 1 dL_law_855 rfl ?_
  refine m_iconst hc 1 dL_law_857 (by decide) ?_
  refine m_iadd hc dL_law_858 ?_
  refine w_sld hc hs h6.2.1 dL_law_859 ?_
  refine m_aload_n hc 5 dL_law_860 rfl rfl ?_
  refine m_iload hc 1 dL_law_861 rfl ?_
  refine m_iconst hc 2 dL_law_863 (by decide) ?_
  refine m_iadd hc dL_law_864 ?_
  refine w_sld hc hs h6.2.2.1 dL_law_865 ?_
  refine m_aload_n hc 5 dL_law_866 rfl rfl ?_
  refine m_iload hc 1 dL_law_867 rfl ?_
  refine m_iconst hc 3 dL_law_869 (by decide) ?_
  refine m_iadd hc dL_law_870 ?_
  refine w_sld hc hs h6.2.2.2.1 dL_law_871 ?_
  refine m_aload_n hc 5 dL_law_872 rfl rfl ?_
  refine m_iload hc 1 dL_law_873 rfl ?_
  refine m_iconst hc 4 dL_law_875 (by decide) ?_
  refine m_iadd hc dL_law_876 ?_
  refine w_sld hc hs h6.2.2.2.2.1 dL_law_877 ?_
  refine w_callRi hc hr mt_term rfl lm_L_120 (ok_term (cw_ok hr) hw) (Nat.le_of_ble_eq_true rfl) dL_law_878 rfl (rest := []) rfl (Nat.le_of_ble_eq_true rfl) (fun q R1 hw => ?_)
  refine m_istore hc [(6, .int q), (5, .int k), (4, .int i), (3, .ref o), (2, .ref GR.2.2.1), (1, .ref x), (0, .ref b)] dL_law_881 (Nat.le_of_ble_eq_true rfl) rfl ?_
  refine m_aload_n hc 4 dL_law_883 rfl rfl ?_
  refine w_callRi hc hr mt_thrown rfl lm_L_80 (ok_thrown (cw_ok hr) hw) (Nat.le_of_ble_eq_true rfl) dL_law_884 rfl (rest := []) rfl (Nat.le_of_ble_eq_true rfl) (fun t R2 hw => ?_)
  refine m_iload hc 1 dL_law_887 rfl ?_
  refine m_icmp_eq hc 894 dL_law_889 rfl (fun _ => ?_) (fun c => absurd hw.1 c)
  refine m_iload hc 1 dL_law_894 rfl ?_
  refine m_if_ne hc 911 dL_law_896 rfl (fun _ => ?_) (fun hk => ?_)
  · refine m_goto hc 1534 dL_law_911 rfl ?_
    exact m_sub [2, 3, 4, 5, 6] rfl (kk S' R2 _ hw.2.2)
  refine m_aload_n hc 3 dL_law_899 rfl rfl ?_
  refine m_iconst hc 0 dL_law_900 (by decide) ?_
  refine w_lald hc hr dL_law_901 ?_
  refine m_iload hc 0 dL_law_902 rfl ?_
  refine m_i2l hc dL_law_904 ?_
  refine m_lcmp hc dL_law_905 ?_
  refine m_if_eq hc 911 dL_law_906 rfl (fun _ => ?_) (fun c => absurd (by rw [hw.2.1 hk]; exact lg_cmp_self _) c)
  refine m_goto hc 1534 dL_law_911 rfl ?_
  exact m_sub [2, 3, 4, 5, 6] rfl (kk S' R2 _ hw.2.2)
theorem lm_L_121 : Cond.methodLink RL 121 yL_number ∈ lw_good := lw_in 1431 (by decide +kernel) (by decide +kernel)
theorem lm_L_123 : Cond.methodLink RL 123 yX12_number_ ∈ lw_good := lw_in 1969 (by decide +kernel) (by decide +kernel)
def wq_13 (M : Nat × Nat) (x : Nat) (y1 y2 y3 y4 : Int32) (S : HS) (R : RS) (v0 : Int64) (K : HS → RS → Prop) : Prop := hw_number M x y1 y2 y3 y4 S v0 (fun k v S' => wp_number_ y1 y2 y3 y4 R (fun q R1 => wp_thrown R1 (fun t R2 => t = k ∧ (k = 0 → v = Int32.toInt64 q) ∧ K S' R2)))
set_option maxHeartbeats 4000000 in
set_option maxRecDepth 100000 in
theorem lc_13 {G : CG} {GR : RG} {cJ : ClassId} {o x b Ln : Nat} {xs : Nat → Int32} {S : HS} {R : RS} {v0 : Int64} {X : Fx} {i y0 y1 y2 y3 y4 y5 : Int32} {KL : HS → RS → Prop} (hc : Cx X RL cL_law 7) (hr : Cw G GR cJ o X) (hs : Sx X b Ln xs) (h6 : At6 Ln xs i y0 y1 y2 y3 y4 y5) (hw : wq_13 (gC G, gS G) x y1 y2 y3 y4 S R v0 KL) (kk : ∀ (S' : HS) (R' : RS) (v : Int64), KL S' R' → ML G GR cJ o X 7 S' R' v 1534 [(4, .int i), (3, .ref o), (2, .ref GR.2.2.1), (1, .ref x), (0, .ref b)] []) : ML G GR cJ o X 7 S R v0 914 [(4, .int i), (3, .ref o), (2, .ref GR.2.2.1), (1, .ref x), (0, .ref b)] [] := by
  unfold wq_13 at hw
  refine m_aload_n hc 3 dL_law_914 rfl rfl ?_
  refine m_aload_n hc 4 dL_law_915 rfl rfl ?_
  refine m_iload hc 0 dL_law_916 rfl ?_
  refine m_iconst hc 1 dL_law_918 (by decide) ?_
  refine m_iadd hc dL_law_919 ?_
  refine w_sld hc hs h6.2.1 dL_law_920 ?_
  refine m_aload_n hc 4 dL_law_921 rfl rfl ?_
  refine m_iload hc 0 dL_law_922 rfl ?_
  refine m_iconst hc 2 dL_law_924 (by decide) ?_
  refine m_iadd hc dL_law_925 ?_
  refine w_sld hc hs h6.2.2.1 dL_law_926 ?_
  refine m_aload_n hc 4 dL_law_927 rfl rfl ?_
  refine m_iload hc 0 dL_law_928 rfl ?_
  refine m_iconst hc 3 dL_law_930 (by decide) ?_
  refine m_iadd hc dL_law_931 ?_
  refine w_sld hc hs h6.2.2.2.1 dL_law_932 ?_
  refine m_aload_n hc 4 dL_law_933 rfl rfl ?_
  refine m_iload hc 0 dL_law_934 rfl ?_
  refine m_iconst hc 4 dL_law_936 (by decide) ?_
  refine m_iadd hc dL_law_937 ?_
  refine w_sld hc hs h6.2.2.2.2.1 dL_law_938 ?_
  refine m_aload_n hc 1 dL_law_939 rfl rfl ?_
  refine w_callH hc hr mtL_number lm_L_121 (hl_number hw) (Nat.le_of_ble_eq_true rfl) dL_law_940 rfl (rest := []) rfl (Nat.le_of_ble_eq_true rfl) (fun k v S' hw => ?_)
  refine m_istore hc [(5, .int k), (4, .int i), (3, .ref o), (2, .ref GR.2.2.1), (1, .ref x), (0, .ref b)] dL_law_943 (Nat.le_of_ble_eq_true rfl) rfl ?_
  refine m_aload_n hc 3 dL_law_945 rfl rfl ?_
  refine m_aload_n hc 5 dL_law_946 rfl rfl ?_
  refine m_iload hc 1 dL_law_947 rfl ?_
  refine m_iconst hc 1 dL_law_949 (by decide) ?_
  refine m_iadd hc dL_law_950 ?_
  refine w_sld hc hs h6.2.1 dL_law_951 ?_
  refine m_aload_n hc 5 dL_law_952 rfl rfl ?_
  refine m_iload hc 1 dL_law_953 rfl ?_
  refine m_iconst hc 2 dL_law_955 (by decide) ?_
  refine m_iadd hc dL_law_956 ?_
  refine w_sld hc hs h6.2.2.1 dL_law_957 ?_
  refine m_aload_n hc 5 dL_law_958 rfl rfl ?_
  refine m_iload hc 1 dL_law_959 rfl ?_
  refine m_iconst hc 3 dL_law_961 (by decide) ?_
  refine m_iadd hc dL_law_962 ?_
  refine w_sld hc hs h6.2.2.2.1 dL_law_963 ?_
  refine m_aload_n hc 5 dL_law_964 rfl rfl ?_
  refine m_iload hc 1 dL_law_965 rfl ?_
  refine m_iconst hc 4 dL_law_967 (by decide) ?_
  refine m_iadd hc dL_law_968 ?_
  refine w_sld hc hs h6.2.2.2.2.1 dL_law_969 ?_
  refine w_callRi hc hr mt_number_ rfl lm_L_123 (ok_number_ (cw_ok hr) hw) (Nat.le_of_ble_eq_true rfl) dL_law_970 rfl (rest := []) rfl (Nat.le_of_ble_eq_true rfl) (fun q R1 hw => ?_)
  refine m_istore hc [(6, .int q), (5, .int k), (4, .int i), (3, .ref o), (2, .ref GR.2.2.1), (1, .ref x), (0, .ref b)] dL_law_973 (Nat.le_of_ble_eq_true rfl) rfl ?_
  refine m_aload_n hc 4 dL_law_975 rfl rfl ?_
  refine w_callRi hc hr mt_thrown rfl lm_L_80 (ok_thrown (cw_ok hr) hw) (Nat.le_of_ble_eq_true rfl) dL_law_976 rfl (rest := []) rfl (Nat.le_of_ble_eq_true rfl) (fun t R2 hw => ?_)
  refine m_iload hc 1 dL_law_979 rfl ?_
  refine m_icmp_eq hc 986 dL_law_981 rfl (fun _ => ?_) (fun c => absurd hw.1 c)
  refine m_iload hc 1 dL_law_986 rfl ?_
  refine m_if_ne hc 1003 dL_law_988 rfl (fun _ => ?_) (fun hk => ?_)
  · refine m_goto hc 1534 dL_law_1003 rfl ?_
    exact m_sub [2, 3, 4, 5, 6] rfl (kk S' R2 _ hw.2.2)
  refine m_aload_n hc 3 dL_law_991 rfl rfl ?_
  refine m_iconst hc 0 dL_law_992 (by decide) ?_
  refine w_lald hc hr dL_law_993 ?_
  refine m_iload hc 0 dL_law_994 rfl ?_
  refine m_i2l hc dL_law_996 ?_
  refine m_lcmp hc dL_law_997 ?_
  refine m_if_eq hc 1003 dL_law_998 rfl (fun _ => ?_) (fun c => absurd (by rw [hw.2.1 hk]; exact lg_cmp_self _) c)
  refine m_goto hc 1534 dL_law_1003 rfl ?_
  exact m_sub [2, 3, 4, 5, 6] rfl (kk S' R2 _ hw.2.2)
theorem lm_L_124 : Cond.methodLink RL 124 yL_value ∈ lw_good := lw_in 1444 (by decide +kernel) (by decide +kernel)
theorem lm_L_126 : Cond.methodLink RL 126 yX12_value ∈ lw_good := lw_in 1973 (by decide +kernel) (by decide +kernel)
def wq_14 (M : Nat × Nat) (x : Nat) (y1 y2 y3 y4 : Int32) (S : HS) (R : RS) (v0 : Int64) (K : HS → RS → Prop) : Prop := hw_value M x y1 y2 y3 y4 S v0 (fun k v S' => wp_value y1 y2 y3 y4 R (fun q R1 => wp_thrown R1 (fun t R2 => t = k ∧ (k = 0 → v = Int32.toInt64 q) ∧ K S' R2)))
set_option maxHeartbeats 4000000 in
set_option maxRecDepth 100000 in
theorem lc_14 {G : CG} {GR : RG} {cJ : ClassId} {o x b Ln : Nat} {xs : Nat → Int32} {S : HS} {R : RS} {v0 : Int64} {X : Fx} {i y0 y1 y2 y3 y4 y5 : Int32} {KL : HS → RS → Prop} (hc : Cx X RL cL_law 7) (hr : Cw G GR cJ o X) (hs : Sx X b Ln xs) (h6 : At6 Ln xs i y0 y1 y2 y3 y4 y5) (hw : wq_14 (gC G, gS G) x y1 y2 y3 y4 S R v0 KL) (kk : ∀ (S' : HS) (R' : RS) (v : Int64), KL S' R' → ML G GR cJ o X 7 S' R' v 1534 [(4, .int i), (3, .ref o), (2, .ref GR.2.2.1), (1, .ref x), (0, .ref b)] []) : ML G GR cJ o X 7 S R v0 1006 [(4, .int i), (3, .ref o), (2, .ref GR.2.2.1), (1, .ref x), (0, .ref b)] [] := by
  unfold wq_14 at hw
  refine m_aload_n hc 3 dL_law_1006 rfl rfl ?_
  refine m_aload_n hc 4 dL_law_1007 rfl rfl ?_
  refine m_iload hc 0 dL_law_1008 rfl ?_
  refine m_iconst hc 1 dL_law_1010 (by decide) ?_
  refine m_iadd hc dL_law_1011 ?_
  refine w_sld hc hs h6.2.1 dL_law_1012 ?_
  refine m_aload_n hc 4 dL_law_1013 rfl rfl ?_
  refine m_iload hc 0 dL_law_1014 rfl ?_
  refine m_iconst hc 2 dL_law_1016 (by decide) ?_
  refine m_iadd hc dL_law_1017 ?_
  refine w_sld hc hs h6.2.2.1 dL_law_1018 ?_
  refine m_aload_n hc 4 dL_law_1019 rfl rfl ?_
  refine m_iload hc 0 dL_law_1020 rfl ?_
  refine m_iconst hc 3 dL_law_1022 (by decide) ?_
  refine m_iadd hc dL_law_1023 ?_
  refine w_sld hc hs h6.2.2.2.1 dL_law_1024 ?_
  refine m_aload_n hc 4 dL_law_1025 rfl rfl ?_
  refine m_iload hc 0 dL_law_1026 rfl ?_
  refine m_iconst hc 4 dL_law_1028 (by decide) ?_
  refine m_iadd hc dL_law_1029 ?_
  refine w_sld hc hs h6.2.2.2.2.1 dL_law_1030 ?_
  refine m_aload_n hc 1 dL_law_1031 rfl rfl ?_
  refine w_callH hc hr mtL_value lm_L_124 (hl_value hw) (Nat.le_of_ble_eq_true rfl) dL_law_1032 rfl (rest := []) rfl (Nat.le_of_ble_eq_true rfl) (fun k v S' hw => ?_)
  refine m_istore hc [(5, .int k), (4, .int i), (3, .ref o), (2, .ref GR.2.2.1), (1, .ref x), (0, .ref b)] dL_law_1035 (Nat.le_of_ble_eq_true rfl) rfl ?_
  refine m_aload_n hc 3 dL_law_1037 rfl rfl ?_
  refine m_aload_n hc 5 dL_law_1038 rfl rfl ?_
  refine m_iload hc 1 dL_law_1039 rfl ?_
  refine m_iconst hc 1 dL_law_1041 (by decide) ?_
  refine m_iadd hc dL_law_1042 ?_
  refine w_sld hc hs h6.2.1 dL_law_1043 ?_
  refine m_aload_n hc 5 dL_law_1044 rfl rfl ?_
  refine m_iload hc 1 dL_law_1045 rfl ?_
  refine m_iconst hc 2 dL_law_1047 (by decide) ?_
  refine m_iadd hc dL_law_1048 ?_
  refine w_sld hc hs h6.2.2.1 dL_law_1049 ?_
  refine m_aload_n hc 5 dL_law_1050 rfl rfl ?_
  refine m_iload hc 1 dL_law_1051 rfl ?_
  refine m_iconst hc 3 dL_law_1053 (by decide) ?_
  refine m_iadd hc dL_law_1054 ?_
  refine w_sld hc hs h6.2.2.2.1 dL_law_1055 ?_
  refine m_aload_n hc 5 dL_law_1056 rfl rfl ?_
  refine m_iload hc 1 dL_law_1057 rfl ?_
  refine m_iconst hc 4 dL_law_1059 (by decide) ?_
  refine m_iadd hc dL_law_1060 ?_
  refine w_sld hc hs h6.2.2.2.2.1 dL_law_1061 ?_
  refine w_callRi hc hr mt_value rfl lm_L_126 (ok_value (cw_ok hr) hw) (Nat.le_of_ble_eq_true rfl) dL_law_1062 rfl (rest := []) rfl (Nat.le_of_ble_eq_true rfl) (fun q R1 hw => ?_)
  refine m_istore hc [(6, .int q), (5, .int k), (4, .int i), (3, .ref o), (2, .ref GR.2.2.1), (1, .ref x), (0, .ref b)] dL_law_1065 (Nat.le_of_ble_eq_true rfl) rfl ?_
  refine m_aload_n hc 4 dL_law_1067 rfl rfl ?_
  refine w_callRi hc hr mt_thrown rfl lm_L_80 (ok_thrown (cw_ok hr) hw) (Nat.le_of_ble_eq_true rfl) dL_law_1068 rfl (rest := []) rfl (Nat.le_of_ble_eq_true rfl) (fun t R2 hw => ?_)
  refine m_iload hc 1 dL_law_1071 rfl ?_
  refine m_icmp_eq hc 1078 dL_law_1073 rfl (fun _ => ?_) (fun c => absurd hw.1 c)
  refine m_iload hc 1 dL_law_1078 rfl ?_
  refine m_if_ne hc 1095 dL_law_1080 rfl (fun _ => ?_) (fun hk => ?_)
  · refine m_goto hc 1534 dL_law_1095 rfl ?_
    exact m_sub [2, 3, 4, 5, 6] rfl (kk S' R2 _ hw.2.2)
  refine m_aload_n hc 3 dL_law_1083 rfl rfl ?_
  refine m_iconst hc 0 dL_law_1084 (by decide) ?_
  refine w_lald hc hr dL_law_1085 ?_
  refine m_iload hc 0 dL_law_1086 rfl ?_
  refine m_i2l hc dL_law_1088 ?_
  refine m_lcmp hc dL_law_1089 ?_
  refine m_if_eq hc 1095 dL_law_1090 rfl (fun _ => ?_) (fun c => absurd (by rw [hw.2.1 hk]; exact lg_cmp_self _) c)
  refine m_goto hc 1534 dL_law_1095 rfl ?_
  exact m_sub [2, 3, 4, 5, 6] rfl (kk S' R2 _ hw.2.2)
theorem lm_L_127 : Cond.methodLink RL 127 yL_same ∈ lw_good := lw_in 1459 (by decide +kernel) (by decide +kernel)
theorem lm_L_130 : Cond.methodLink RL 130 yX12_same ∈ lw_good := lw_in 1981 (by decide +kernel) (by decide +kernel)
def wq_15 (M : Nat × Nat) (x : Nat) (y1 y2 y3 : Int32) (S : HS) (R : RS) (v0 : Int64) (K : HS → RS → Prop) : Prop := hw_same M x y1 y2 (bz y3) S v0 (fun k v S' => wp_same y1 y2 (bz y3) R (fun q R1 => wp_thrown R1 (fun t R2 => t = k ∧ (k = 0 → v = bl q) ∧ K S' R2)))
set_option maxHeartbeats 4000000 in
set_option maxRecDepth 100000 in
theorem lc_15 {G : CG} {GR : RG} {cJ : ClassId} {o x b Ln : Nat} {xs : Nat → Int32} {S : HS} {R : RS} {v0 : Int64} {X : Fx} {i y0 y1 y2 y3 y4 y5 : Int32} {KL : HS → RS → Prop} (hc : Cx X RL cL_law 7) (hr : Cw G GR cJ o X) (hs : Sx X b Ln xs) (h6 : At6 Ln xs i y0 y1 y2 y3 y4 y5) (hw : wq_15 (gC G, gS G) x y1 y2 y3 S R v0 KL) (kk : ∀ (S' : HS) (R' : RS) (v : Int64), KL S' R' → ML G GR cJ o X 7 S' R' v 1534 [(4, .int i), (3, .ref o), (2, .ref GR.2.2.1), (1, .ref x), (0, .ref b)] []) : ML G GR cJ o X 7 S R v0 1098 [(4, .int i), (3, .ref o), (2, .ref GR.2.2.1), (1, .ref x), (0, .ref b)] [] := by
  unfold wq_15 at hw
  refine m_aload_n hc 3 dL_law_1098 rfl rfl ?_
  refine m_aload_n hc 4 dL_law_1099 rfl rfl ?_
  refine m_iload hc 0 dL_law_1100 rfl ?_
  refine m_iconst hc 1 dL_law_1102 (by decide) ?_
  refine m_iadd hc dL_law_1103 ?_
  refine w_sld hc hs h6.2.1 dL_law_1104 ?_
  refine m_aload_n hc 4 dL_law_1105 rfl rfl ?_
  refine m_iload hc 0 dL_law_1106 rfl ?_
  refine m_iconst hc 2 dL_law_1108 (by decide) ?_
  refine m_iadd hc dL_law_1109 ?_
  refine w_sld hc hs h6.2.2.1 dL_law_1110 ?_
  refine m_aload_n hc 4 dL_law_1111 rfl rfl ?_
  refine m_iload hc 0 dL_law_1112 rfl ?_
  refine m_iconst hc 3 dL_law_1114 (by decide) ?_
  refine m_iadd hc dL_law_1115 ?_
  refine w_sld hc hs h6.2.2.2.1 dL_law_1116 ?_
  refine m_bz hc dL_law_1117 rfl dL_law_1120 dL_law_1121 rfl dL_law_1124 ?_
  refine m_aload_n hc 1 dL_law_1125 rfl rfl ?_
  refine w_callH hc hr mtL_same lm_L_127 (hl_same hw) (Nat.le_of_ble_eq_true rfl) dL_law_1126 rfl (rest := []) rfl (Nat.le_of_ble_eq_true rfl) (fun k v S' hw => ?_)
  refine m_istore hc [(5, .int k), (4, .int i), (3, .ref o), (2, .ref GR.2.2.1), (1, .ref x), (0, .ref b)] dL_law_1129 (Nat.le_of_ble_eq_true rfl) rfl ?_
  refine m_aload_n hc 3 dL_law_1131 rfl rfl ?_
  refine m_aload_n hc 5 dL_law_1132 rfl rfl ?_
  refine m_iload hc 1 dL_law_1133 rfl ?_
  refine m_iconst hc 1 dL_law_1135 (by decide) ?_
  refine m_iadd hc dL_law_1136 ?_
  refine w_sld hc hs h6.2.1 dL_law_1137 ?_
  refine m_aload_n hc 5 dL_law_1138 rfl rfl ?_
  refine m_iload hc 1 dL_law_1139 rfl ?_
  refine m_iconst hc 2 dL_law_1141 (by decide) ?_
  refine m_iadd hc dL_law_1142 ?_
  refine w_sld hc hs h6.2.2.1 dL_law_1143 ?_
  refine m_aload_n hc 5 dL_law_1144 rfl rfl ?_
  refine m_iload hc 1 dL_law_1145 rfl ?_
  refine m_iconst hc 3 dL_law_1147 (by decide) ?_
  refine m_iadd hc dL_law_1148 ?_
  refine w_sld hc hs h6.2.2.2.1 dL_law_1149 ?_
  refine m_bz hc dL_law_1150 rfl dL_law_1153 dL_law_1154 rfl dL_law_1157 ?_
  refine w_callRi hc hr mt_same rfl lm_L_130 (ok_same (cw_ok hr) hw) (Nat.le_of_ble_eq_true rfl) dL_law_1158 rfl (rest := []) rfl (Nat.le_of_ble_eq_true rfl) (fun q R1 hw => ?_)
  refine m_istore hc [(6, .int q), (5, .int k), (4, .int i), (3, .ref o), (2, .ref GR.2.2.1), (1, .ref x), (0, .ref b)] dL_law_1161 (Nat.le_of_ble_eq_true rfl) rfl ?_
  refine m_aload_n hc 4 dL_law_1163 rfl rfl ?_
  refine w_callRi hc hr mt_thrown rfl lm_L_80 (ok_thrown (cw_ok hr) hw) (Nat.le_of_ble_eq_true rfl) dL_law_1164 rfl (rest := []) rfl (Nat.le_of_ble_eq_true rfl) (fun t R2 hw => ?_)
  refine m_iload hc 1 dL_law_1167 rfl ?_
  refine m_icmp_eq hc 1174 dL_law_1169 rfl (fun _ => ?_) (fun c => absurd hw.1 c)
  refine m_iload hc 1 dL_law_1174 rfl ?_
  refine m_if_ne hc 1198 dL_law_1176 rfl (fun _ => ?_) (fun hk => ?_)
  · refine m_goto hc 1534 dL_law_1198 rfl ?_
    exact m_sub [2, 3, 4, 5, 6] rfl (kk S' R2 _ hw.2.2)
  refine m_aload_n hc 3 dL_law_1179 rfl rfl ?_
  refine m_iconst hc 0 dL_law_1180 (by decide) ?_
  refine w_lald hc hr dL_law_1181 ?_
  refine m_iload hc 0 dL_law_1182 rfl ?_
  refine m_bl hc dL_law_1184 rfl dL_law_1187 dL_law_1188 rfl dL_law_1191 ?_
  refine m_lcmp hc dL_law_1192 ?_
  refine m_if_eq hc 1198 dL_law_1193 rfl (fun _ => ?_) (fun c => absurd (by rw [hw.2.1 hk]; exact lg_cmp_self _) c)
  refine m_goto hc 1534 dL_law_1198 rfl ?_
  exact m_sub [2, 3, 4, 5, 6] rfl (kk S' R2 _ hw.2.2)
theorem lm_L_131 : Cond.methodLink RL 131 yL_witness ∈ lw_good := lw_in 1475 (by decide +kernel) (by decide +kernel)
theorem lm_L_133 : Cond.methodLink RL 133 yX12_witness ∈ lw_good := lw_in 1993 (by decide +kernel) (by decide +kernel)
def wq_16 (M : Nat × Nat) (x : Nat) (y1 y2 : Int32) (S : HS) (R : RS) (v0 : Int64) (K : HS → RS → Prop) : Prop := hw_witness M x y1 y2 S v0 (fun k v S' => wp_witness y1 y2 R (fun q R1 => wp_thrown R1 (fun t R2 => t = k ∧ (k = 0 → v = Int32.toInt64 q) ∧ K S' R2)))
set_option maxHeartbeats 4000000 in
set_option maxRecDepth 100000 in
theorem lc_16 {G : CG} {GR : RG} {cJ : ClassId} {o x b Ln : Nat} {xs : Nat → Int32} {S : HS} {R : RS} {v0 : Int64} {X : Fx} {i y0 y1 y2 y3 y4 y5 : Int32} {KL : HS → RS → Prop} (hc : Cx X RL cL_law 7) (hr : Cw G GR cJ o X) (hs : Sx X b Ln xs) (h6 : At6 Ln xs i y0 y1 y2 y3 y4 y5) (hw : wq_16 (gC G, gS G) x y1 y2 S R v0 KL) (kk : ∀ (S' : HS) (R' : RS) (v : Int64), KL S' R' → ML G GR cJ o X 7 S' R' v 1534 [(4, .int i), (3, .ref o), (2, .ref GR.2.2.1), (1, .ref x), (0, .ref b)] []) : ML G GR cJ o X 7 S R v0 1201 [(4, .int i), (3, .ref o), (2, .ref GR.2.2.1), (1, .ref x), (0, .ref b)] [] := by
  unfold wq_16 at hw
  refine m_aload_n hc 3 dL_law_1201 rfl rfl ?_
  refine m_aload_n hc 4 dL_law_1202 rfl rfl ?_
  refine m_iload hc 0 dL_law_1203 rfl ?_
  refine m_iconst hc 1 dL_law_1205 (by decide) ?_
  refine m_iadd hc dL_law_1206 ?_
  refine w_sld hc hs h6.2.1 dL_law_1207 ?_
  refine m_aload_n hc 4 dL_law_1208 rfl rfl ?_
  refine m_iload hc 0 dL_law_1209 rfl ?_
  refine m_iconst hc 2 dL_law_1211 (by decide) ?_
  refine m_iadd hc dL_law_1212 ?_
  refine w_sld hc hs h6.2.2.1 dL_law_1213 ?_
  refine m_aload_n hc 1 dL_law_1214 rfl rfl ?_
  refine w_callH hc hr mtL_witness lm_L_131 (hl_witness hw) (Nat.le_of_ble_eq_true rfl) dL_law_1215 rfl (rest := []) rfl (Nat.le_of_ble_eq_true rfl) (fun k v S' hw => ?_)
  refine m_istore hc [(5, .int k), (4, .int i), (3, .ref o), (2, .ref GR.2.2.1), (1, .ref x), (0, .ref b)] dL_law_1218 (Nat.le_of_ble_eq_true rfl) rfl ?_
  refine m_aload_n hc 3 dL_law_1220 rfl rfl ?_
  refine m_aload_n hc 5 dL_law_1221 rfl rfl ?_
  refine m_iload hc 1 dL_law_1222 rfl ?_
  refine m_iconst hc 1 dL_law_1224 (by decide) ?_
  refine m_iadd hc dL_law_1225 ?_
  refine w_sld hc hs h6.2.1 dL_law_1226 ?_
  refine m_aload_n hc 5 dL_law_1227 rfl rfl ?_
  refine m_iload hc 1 dL_law_1228 rfl ?_
  refine m_iconst hc 2 dL_law_1230 (by decide) ?_
  refine m_iadd hc dL_law_1231 ?_
  refine w_sld hc hs h6.2.2.1 dL_law_1232 ?_
  refine w_callRi hc hr mt_witness rfl lm_L_133 (ok_witness (cw_ok hr) hw) (Nat.le_of_ble_eq_true rfl) dL_law_1233 rfl (rest := []) rfl (Nat.le_of_ble_eq_true rfl) (fun q R1 hw => ?_)
  refine m_istore hc [(6, .int q), (5, .int k), (4, .int i), (3, .ref o), (2, .ref GR.2.2.1), (1, .ref x), (0, .ref b)] dL_law_1236 (Nat.le_of_ble_eq_true rfl) rfl ?_
  refine m_aload_n hc 4 dL_law_1238 rfl rfl ?_
  refine w_callRi hc hr mt_thrown rfl lm_L_80 (ok_thrown (cw_ok hr) hw) (Nat.le_of_ble_eq_true rfl) dL_law_1239 rfl (rest := []) rfl (Nat.le_of_ble_eq_true rfl) (fun t R2 hw => ?_)
  refine m_iload hc 1 dL_law_1242 rfl ?_
  refine m_icmp_eq hc 1249 dL_law_1244 rfl (fun _ => ?_) (fun c => absurd hw.1 c)
  refine m_iload hc 1 dL_law_1249 rfl ?_
  refine m_if_ne hc 1266 dL_law_1251 rfl (fun _ => ?_) (fun hk => ?_)
  · refine m_goto hc 1534 dL_law_1266 rfl ?_
    exact m_sub [2, 3, 4, 5, 6] rfl (kk S' R2 _ hw.2.2)
  refine m_aload_n hc 3 dL_law_1254 rfl rfl ?_
  refine m_iconst hc 0 dL_law_1255 (by decide) ?_
  refine w_lald hc hr dL_law_1256 ?_
  refine m_iload hc 0 dL_law_1257 rfl ?_
  refine m_i2l hc dL_law_1259 ?_
  refine m_lcmp hc dL_law_1260 ?_
  refine m_if_eq hc 1266 dL_law_1261 rfl (fun _ => ?_) (fun c => absurd (by rw [hw.2.1 hk]; exact lg_cmp_self _) c)
  refine m_goto hc 1534 dL_law_1266 rfl ?_
  exact m_sub [2, 3, 4, 5, 6] rfl (kk S' R2 _ hw.2.2)
theorem lm_L_134 : Cond.methodLink RL 134 yL_factor ∈ lw_good := lw_in 1482 (by decide +kernel) (by decide +kernel)
theorem lm_L_137 : Cond.methodLink RL 137 yX12_factor ∈ lw_good := lw_in 1950 (by decide +kernel) (by decide +kernel)
def wq_17 (M : Nat × Nat) (x : Nat) (y1 y2 y3 : Int32) (S : HS) (R : RS) (v0 : Int64) (K : HS → RS → Prop) : Prop := hw_factor M x y1 y2 y3 S v0 (fun k v S' => wp_factor y1 y2 y3 R (fun q R1 => wp_thrown R1 (fun t R2 => t = k ∧ (k = 0 → v = Int32.toInt64 q) ∧ K S' R2)))
set_option maxHeartbeats 4000000 in
set_option maxRecDepth 100000 in
theorem lc_17 {G : CG} {GR : RG} {cJ : ClassId} {o x b Ln : Nat} {xs : Nat → Int32} {S : HS} {R : RS} {v0 : Int64} {X : Fx} {i y0 y1 y2 y3 y4 y5 : Int32} {KL : HS → RS → Prop} (hc : Cx X RL cL_law 7) (hr : Cw G GR cJ o X) (hs : Sx X b Ln xs) (h6 : At6 Ln xs i y0 y1 y2 y3 y4 y5) (hw : wq_17 (gC G, gS G) x y1 y2 y3 S R v0 KL) (kk : ∀ (S' : HS) (R' : RS) (v : Int64), KL S' R' → ML G GR cJ o X 7 S' R' v 1534 [(4, .int i), (3, .ref o), (2, .ref GR.2.2.1), (1, .ref x), (0, .ref b)] []) : ML G GR cJ o X 7 S R v0 1269 [(4, .int i), (3, .ref o), (2, .ref GR.2.2.1), (1, .ref x), (0, .ref b)] [] := by
  unfold wq_17 at hw
  refine m_aload_n hc 3 dL_law_1269 rfl rfl ?_
  refine m_aload_n hc 4 dL_law_1270 rfl rfl ?_
  refine m_iload hc 0 dL_law_1271 rfl ?_
  refine m_iconst hc 1 dL_law_1273 (by decide) ?_
  refine m_iadd hc dL_law_1274 ?_
  refine w_sld hc hs h6.2.1 dL_law_1275 ?_
  refine m_aload_n hc 4 dL_law_1276 rfl rfl ?_
  refine m_iload hc 0 dL_law_1277 rfl ?_
  refine m_iconst hc 2 dL_law_1279 (by decide) ?_
  refine m_iadd hc dL_law_1280 ?_
  refine w_sld hc hs h6.2.2.1 dL_law_1281 ?_
  refine m_aload_n hc 4 dL_law_1282 rfl rfl ?_
  refine m_iload hc 0 dL_law_1283 rfl ?_
  refine m_iconst hc 3 dL_law_1285 (by decide) ?_
  refine m_iadd hc dL_law_1286 ?_
  refine w_sld hc hs h6.2.2.2.1 dL_law_1287 ?_
  refine m_aload_n hc 1 dL_law_1288 rfl rfl ?_
  refine w_callH hc hr mtL_factor lm_L_134 (hl_factor hw) (Nat.le_of_ble_eq_true rfl) dL_law_1289 rfl (rest := []) rfl (Nat.le_of_ble_eq_true rfl) (fun k v S' hw => ?_)
  refine m_istore hc [(5, .int k), (4, .int i), (3, .ref o), (2, .ref GR.2.2.1), (1, .ref x), (0, .ref b)] dL_law_1292 (Nat.le_of_ble_eq_true rfl) rfl ?_
  refine m_aload_n hc 3 dL_law_1294 rfl rfl ?_
  refine m_aload_n hc 5 dL_law_1295 rfl rfl ?_
  refine m_iload hc 1 dL_law_1296 rfl ?_
  refine m_iconst hc 1 dL_law_1298 (by decide) ?_
  refine m_iadd hc dL_law_1299 ?_
  refine w_sld hc hs h6.2.1 dL_law_1300 ?_
  refine m_aload_n hc 5 dL_law_1301 rfl rfl ?_
  refine m_iload hc 1 dL_law_1302 rfl ?_
  refine m_iconst hc 2 dL_law_1304 (by decide) ?_
  refine m_iadd hc dL_law_1305 ?_
  refine w_sld hc hs h6.2.2.1 dL_law_1306 ?_
  refine m_aload_n hc 5 dL_law_1307 rfl rfl ?_
  refine m_iload hc 1 dL_law_1308 rfl ?_
  refine m_iconst hc 3 dL_law_1310 (by decide) ?_
  refine m_iadd hc dL_law_1311 ?_
  refine w_sld hc hs h6.2.2.2.1 dL_law_1312 ?_
  refine w_callRi hc hr mt_factor rfl lm_L_137 (ok_factor (cw_ok hr) hw) (Nat.le_of_ble_eq_true rfl) dL_law_1313 rfl (rest := []) rfl (Nat.le_of_ble_eq_true rfl) (fun q R1 hw => ?_)
  refine m_istore hc [(6, .int q), (5, .int k), (4, .int i), (3, .ref o), (2, .ref GR.2.2.1), (1, .ref x), (0, .ref b)] dL_law_1316 (Nat.le_of_ble_eq_true rfl) rfl ?_
  refine m_aload_n hc 4 dL_law_1318 rfl rfl ?_
  refine w_callRi hc hr mt_thrown rfl lm_L_80 (ok_thrown (cw_ok hr) hw) (Nat.le_of_ble_eq_true rfl) dL_law_1319 rfl (rest := []) rfl (Nat.le_of_ble_eq_true rfl) (fun t R2 hw => ?_)
  refine m_iload hc 1 dL_law_1322 rfl ?_
  refine m_icmp_eq hc 1329 dL_law_1324 rfl (fun _ => ?_) (fun c => absurd hw.1 c)
  refine m_iload hc 1 dL_law_1329 rfl ?_
  refine m_if_ne hc 1346 dL_law_1331 rfl (fun _ => ?_) (fun hk => ?_)
  · refine m_goto hc 1534 dL_law_1346 rfl ?_
    exact m_sub [2, 3, 4, 5, 6] rfl (kk S' R2 _ hw.2.2)
  refine m_aload_n hc 3 dL_law_1334 rfl rfl ?_
  refine m_iconst hc 0 dL_law_1335 (by decide) ?_
  refine w_lald hc hr dL_law_1336 ?_
  refine m_iload hc 0 dL_law_1337 rfl ?_
  refine m_i2l hc dL_law_1339 ?_
  refine m_lcmp hc dL_law_1340 ?_
  refine m_if_eq hc 1346 dL_law_1341 rfl (fun _ => ?_) (fun c => absurd (by rw [hw.2.1 hk]; exact lg_cmp_self _) c)
  refine m_goto hc 1534 dL_law_1346 rfl ?_
  exact m_sub [2, 3, 4, 5, 6] rfl (kk S' R2 _ hw.2.2)
theorem lm_L_138 : Cond.methodLink RL 138 yL_often ∈ lw_good := lw_in 1491 (by decide +kernel) (by decide +kernel)
theorem lm_L_141 : Cond.methodLink RL 141 yX12_often ∈ lw_good := lw_in 1954 (by decide +kernel) (by decide +kernel)
def wq_18 (M : Nat × Nat) (x : Nat) (y1 y2 y3 y4 y5 : Int32) (S : HS) (R : RS) (v0 : Int64) (K : HS → RS → Prop) : Prop := hw_often M x y1 y2 y3 y4 y5 S v0 (fun k v S' => wp_often y1 y2 y3 y4 y5 R (fun q R1 => wp_thrown R1 (fun t R2 => t = k ∧ (k = 0 → v = Int32.toInt64 q) ∧ K S' R2)))
set_option maxHeartbeats 4000000 in
set_option maxRecDepth 100000 in
theorem lc_18 {G : CG} {GR : RG} {cJ : ClassId} {o x b Ln : Nat} {xs : Nat → Int32} {S : HS} {R : RS} {v0 : Int64} {X : Fx} {i y0 y1 y2 y3 y4 y5 : Int32} {KL : HS → RS → Prop} (hc : Cx X RL cL_law 7) (hr : Cw G GR cJ o X) (hs : Sx X b Ln xs) (h6 : At6 Ln xs i y0 y1 y2 y3 y4 y5) (hw : wq_18 (gC G, gS G) x y1 y2 y3 y4 y5 S R v0 KL) (kk : ∀ (S' : HS) (R' : RS) (v : Int64), KL S' R' → ML G GR cJ o X 7 S' R' v 1534 [(4, .int i), (3, .ref o), (2, .ref GR.2.2.1), (1, .ref x), (0, .ref b)] []) : ML G GR cJ o X 7 S R v0 1349 [(4, .int i), (3, .ref o), (2, .ref GR.2.2.1), (1, .ref x), (0, .ref b)] [] := by
  unfold wq_18 at hw
  refine m_aload_n hc 3 dL_law_1349 rfl rfl ?_
  refine m_aload_n hc 4 dL_law_1350 rfl rfl ?_
  refine m_iload hc 0 dL_law_1351 rfl ?_
  refine m_iconst hc 1 dL_law_1353 (by decide) ?_
  refine m_iadd hc dL_law_1354 ?_
  refine w_sld hc hs h6.2.1 dL_law_1355 ?_
  refine m_aload_n hc 4 dL_law_1356 rfl rfl ?_
  refine m_iload hc 0 dL_law_1357 rfl ?_
  refine m_iconst hc 2 dL_law_1359 (by decide) ?_
  refine m_iadd hc dL_law_1360 ?_
  refine w_sld hc hs h6.2.2.1 dL_law_1361 ?_
  refine m_aload_n hc 4 dL_law_1362 rfl rfl ?_
  refine m_iload hc 0 dL_law_1363 rfl ?_
  refine m_iconst hc 3 dL_law_1365 (by decide) ?_
  refine m_iadd hc dL_law_1366 ?_
  refine w_sld hc hs h6.2.2.2.1 dL_law_1367 ?_
  refine m_aload_n hc 4 dL_law_1368 rfl rfl ?_
  refine m_iload hc 0 dL_law_1369 rfl ?_
  refine m_iconst hc 4 dL_law_1371 (by decide) ?_
  refine m_iadd hc dL_law_1372 ?_
  refine w_sld hc hs h6.2.2.2.2.1 dL_law_1373 ?_
  refine m_aload_n hc 4 dL_law_1374 rfl rfl ?_
  refine m_iload hc 0 dL_law_1375 rfl ?_
  refine m_iconst hc 5 dL_law_1377 (by decide) ?_
  refine m_iadd hc dL_law_1378 ?_
  refine w_sld hc hs h6.2.2.2.2.2 dL_law_1379 ?_
  refine m_aload_n hc 1 dL_law_1380 rfl rfl ?_
  refine w_callH hc hr mtL_often lm_L_138 (hl_often hw) (Nat.le_of_ble_eq_true rfl) dL_law_1381 rfl (rest := []) rfl (Nat.le_of_ble_eq_true rfl) (fun k v S' hw => ?_)
  refine m_istore hc [(5, .int k), (4, .int i), (3, .ref o), (2, .ref GR.2.2.1), (1, .ref x), (0, .ref b)] dL_law_1384 (Nat.le_of_ble_eq_true rfl) rfl ?_
  refine m_aload_n hc 3 dL_law_1386 rfl rfl ?_
  refine m_aload_n hc 5 dL_law_1387 rfl rfl ?_
  refine m_iload hc 1 dL_law_1388 rfl ?_
  refine m_iconst hc 1 dL_law_1390 (by decide) ?_
  refine m_iadd hc dL_law_1391 ?_
  refine w_sld hc hs h6.2.1 dL_law_1392 ?_
  refine m_aload_n hc 5 dL_law_1393 rfl rfl ?_
  refine m_iload hc 1 dL_law_1394 rfl ?_
  refine m_iconst hc 2 dL_law_1396 (by decide) ?_
  refine m_iadd hc dL_law_1397 ?_
  refine w_sld hc hs h6.2.2.1 dL_law_1398 ?_
  refine m_aload_n hc 5 dL_law_1399 rfl rfl ?_
  refine m_iload hc 1 dL_law_1400 rfl ?_
  refine m_iconst hc 3 dL_law_1402 (by decide) ?_
  refine m_iadd hc dL_law_1403 ?_
  refine w_sld hc hs h6.2.2.2.1 dL_law_1404 ?_
  refine m_aload_n hc 5 dL_law_1405 rfl rfl ?_
  refine m_iload hc 1 dL_law_1406 rfl ?_
  refine m_iconst hc 4 dL_law_1408 (by decide) ?_
  refine m_iadd hc dL_law_1409 ?_
  refine w_sld hc hs h6.2.2.2.2.1 dL_law_1410 ?_
  refine m_aload_n hc 5 dL_law_1411 rfl rfl ?_
  refine m_iload hc 1 dL_law_1412 rfl ?_
  refine m_iconst hc 5 dL_law_1414 (by decide) ?_
  refine m_iadd hc dL_law_1415 ?_
  refine w_sld hc hs h6.2.2.2.2.2 dL_law_1416 ?_
  refine w_callRi hc hr mt_often rfl lm_L_141 (ok_often (cw_ok hr) hw) (Nat.le_of_ble_eq_true rfl) dL_law_1417 rfl (rest := []) rfl (Nat.le_of_ble_eq_true rfl) (fun q R1 hw => ?_)
  refine m_istore hc [(6, .int q), (5, .int k), (4, .int i), (3, .ref o), (2, .ref GR.2.2.1), (1, .ref x), (0, .ref b)] dL_law_1420 (Nat.le_of_ble_eq_true rfl) rfl ?_
  refine m_aload_n hc 4 dL_law_1422 rfl rfl ?_
  refine w_callRi hc hr mt_thrown rfl lm_L_80 (ok_thrown (cw_ok hr) hw) (Nat.le_of_ble_eq_true rfl) dL_law_1423 rfl (rest := []) rfl (Nat.le_of_ble_eq_true rfl) (fun t R2 hw => ?_)
  refine m_iload hc 1 dL_law_1426 rfl ?_
  refine m_icmp_eq hc 1433 dL_law_1428 rfl (fun _ => ?_) (fun c => absurd hw.1 c)
  refine m_iload hc 1 dL_law_1433 rfl ?_
  refine m_if_ne hc 1450 dL_law_1435 rfl (fun _ => ?_) (fun hk => ?_)
  · refine m_goto hc 1534 dL_law_1450 rfl ?_
    exact m_sub [2, 3, 4, 5, 6] rfl (kk S' R2 _ hw.2.2)
  refine m_aload_n hc 3 dL_law_1438 rfl rfl ?_
  refine m_iconst hc 0 dL_law_1439 (by decide) ?_
  refine w_lald hc hr dL_law_1440 ?_
  refine m_iload hc 0 dL_law_1441 rfl ?_
  refine m_i2l hc dL_law_1443 ?_
  refine m_lcmp hc dL_law_1444 ?_
  refine m_if_eq hc 1450 dL_law_1445 rfl (fun _ => ?_) (fun c => absurd (by rw [hw.2.1 hk]; exact lg_cmp_self _) c)
  refine m_goto hc 1534 dL_law_1450 rfl ?_
  exact m_sub [2, 3, 4, 5, 6] rfl (kk S' R2 _ hw.2.2)
theorem lm_L_142 : Cond.methodLink RL 142 yL_say ∈ lw_good := lw_in 1509 (by decide +kernel) (by decide +kernel)
theorem lm_L_144 : Cond.methodLink RL 144 yX12_say ∈ lw_good := lw_in 1997 (by decide +kernel) (by decide +kernel)
def wq_19 (M : Nat × Nat) (x : Nat) (y1 : Int32) (S : HS) (R : RS) (v0 : Int64) (K : HS → RS → Prop) : Prop := hw_say M x y1 S v0 (fun k v S' => wp_say y1 R (fun q R1 => wp_thrown R1 (fun t R2 => t = k ∧ (k = 0 → v = Int32.toInt64 q) ∧ K S' R2)))
set_option maxHeartbeats 4000000 in
set_option maxRecDepth 100000 in
theorem lc_19 {G : CG} {GR : RG} {cJ : ClassId} {o x b Ln : Nat} {xs : Nat → Int32} {S : HS} {R : RS} {v0 : Int64} {X : Fx} {i y0 y1 y2 y3 y4 y5 : Int32} {KL : HS → RS → Prop} (hc : Cx X RL cL_law 7) (hr : Cw G GR cJ o X) (hs : Sx X b Ln xs) (h6 : At6 Ln xs i y0 y1 y2 y3 y4 y5) (hw : wq_19 (gC G, gS G) x y1 S R v0 KL) (kk : ∀ (S' : HS) (R' : RS) (v : Int64), KL S' R' → ML G GR cJ o X 7 S' R' v 1534 [(4, .int i), (3, .ref o), (2, .ref GR.2.2.1), (1, .ref x), (0, .ref b)] []) : ML G GR cJ o X 7 S R v0 1453 [(4, .int i), (3, .ref o), (2, .ref GR.2.2.1), (1, .ref x), (0, .ref b)] [] := by
  unfold wq_19 at hw
  refine m_aload_n hc 3 dL_law_1453 rfl rfl ?_
  refine m_aload_n hc 4 dL_law_1454 rfl rfl ?_
  refine m_iload hc 0 dL_law_1455 rfl ?_
  refine m_iconst hc 1 dL_law_1457 (by decide) ?_
  refine m_iadd hc dL_law_1458 ?_
  refine w_sld hc hs h6.2.1 dL_law_1459 ?_
  refine m_aload_n hc 1 dL_law_1460 rfl rfl ?_
  refine w_callH hc hr mtL_say lm_L_142 (hl_say hw) (Nat.le_of_ble_eq_true rfl) dL_law_1461 rfl (rest := []) rfl (Nat.le_of_ble_eq_true rfl) (fun k v S' hw => ?_)
  refine m_istore hc [(5, .int k), (4, .int i), (3, .ref o), (2, .ref GR.2.2.1), (1, .ref x), (0, .ref b)] dL_law_1464 (Nat.le_of_ble_eq_true rfl) rfl ?_
  refine m_aload_n hc 3 dL_law_1466 rfl rfl ?_
  refine m_aload_n hc 5 dL_law_1467 rfl rfl ?_
  refine m_iload hc 1 dL_law_1468 rfl ?_
  refine m_iconst hc 1 dL_law_1470 (by decide) ?_
  refine m_iadd hc dL_law_1471 ?_
  refine w_sld hc hs h6.2.1 dL_law_1472 ?_
  refine w_callRi hc hr mt_say rfl lm_L_144 (ok_say (cw_ok hr) hw) (Nat.le_of_ble_eq_true rfl) dL_law_1473 rfl (rest := []) rfl (Nat.le_of_ble_eq_true rfl) (fun q R1 hw => ?_)
  refine m_istore hc [(6, .int q), (5, .int k), (4, .int i), (3, .ref o), (2, .ref GR.2.2.1), (1, .ref x), (0, .ref b)] dL_law_1476 (Nat.le_of_ble_eq_true rfl) rfl ?_
  refine m_aload_n hc 4 dL_law_1478 rfl rfl ?_
  refine w_callRi hc hr mt_thrown rfl lm_L_80 (ok_thrown (cw_ok hr) hw) (Nat.le_of_ble_eq_true rfl) dL_law_1479 rfl (rest := []) rfl (Nat.le_of_ble_eq_true rfl) (fun t R2 hw => ?_)
  refine m_iload hc 1 dL_law_1482 rfl ?_
  refine m_icmp_eq hc 1489 dL_law_1484 rfl (fun _ => ?_) (fun c => absurd hw.1 c)
  refine m_iload hc 1 dL_law_1489 rfl ?_
  refine m_if_ne hc 1506 dL_law_1491 rfl (fun _ => ?_) (fun hk => ?_)
  · refine m_goto hc 1534 dL_law_1506 rfl ?_
    exact m_sub [2, 3, 4, 5, 6] rfl (kk S' R2 _ hw.2.2)
  refine m_aload_n hc 3 dL_law_1494 rfl rfl ?_
  refine m_iconst hc 0 dL_law_1495 (by decide) ?_
  refine w_lald hc hr dL_law_1496 ?_
  refine m_iload hc 0 dL_law_1497 rfl ?_
  refine m_i2l hc dL_law_1499 ?_
  refine m_lcmp hc dL_law_1500 ?_
  refine m_if_eq hc 1506 dL_law_1501 rfl (fun _ => ?_) (fun c => absurd (by rw [hw.2.1 hk]; exact lg_cmp_self _) c)
  refine m_goto hc 1534 dL_law_1506 rfl ?_
  exact m_sub [2, 3, 4, 5, 6] rfl (kk S' R2 _ hw.2.2)
theorem lm_L_145 : Cond.methodLink RL 145 yX11_said ∈ lw_good := lw_in 1092 (by decide +kernel) (by decide +kernel)
theorem lm_L_148 : Cond.methodLink RL 148 yX12_said ∈ lw_good := lw_in 2013 (by decide +kernel) (by decide +kernel)
def wq_20 (M : Nat × Nat) (x : Nat) (y1 : Int32) (S : HS) (R : RS) (K : HS → RS → Prop) : Prop := hT S x = 12 ∧ wp_X11_said M x y1 S (fun r S' => wp_said y1 R (fun q R1 => r = q ∧ K S' R1))
set_option maxHeartbeats 4000000 in
set_option maxRecDepth 100000 in
theorem lc_20 {G : CG} {GR : RG} {cJ : ClassId} {o x b Ln : Nat} {xs : Nat → Int32} {S : HS} {R : RS} {v0 : Int64} {X : Fx} {i y0 y1 y2 y3 y4 y5 : Int32} {KL : HS → RS → Prop} (hc : Cx X RL cL_law 7) (hr : Cw G GR cJ o X) (hs : Sx X b Ln xs) (h6 : At6 Ln xs i y0 y1 y2 y3 y4 y5) (hw : wq_20 (gC G, gS G) x y1 S R KL) (kk : ∀ (S' : HS) (R' : RS) (v : Int64), KL S' R' → ML G GR cJ o X 7 S' R' v 1534 [(4, .int i), (3, .ref o), (2, .ref GR.2.2.1), (1, .ref x), (0, .ref b)] []) : ML G GR cJ o X 7 S R v0 1509 [(4, .int i), (3, .ref o), (2, .ref GR.2.2.1), (1, .ref x), (0, .ref b)] [] := by
  obtain ⟨ht, hw⟩ := hw
  refine m_aload_n hc 3 dL_law_1509 rfl rfl ?_
  refine m_aload_n hc 4 dL_law_1510 rfl rfl ?_
  refine m_iload hc 0 dL_law_1511 rfl ?_
  refine m_iconst hc 1 dL_law_1513 (by decide) ?_
  refine m_iadd hc dL_law_1514 ?_
  refine w_sld hc hs h6.2.1 dL_law_1515 ?_
  refine w_callCi hc hr ht mt_X11_said rfl lm_L_145 (ok_X11_said hw) (Nat.le_of_ble_eq_true rfl) dL_law_1516 rfl (rest := []) rfl (Nat.le_of_ble_eq_true rfl) (fun r S' hw => ?_)
  refine m_aload_n hc 2 dL_law_1519 rfl rfl ?_
  refine m_aload_n hc 4 dL_law_1520 rfl rfl ?_
  refine m_iload hc 0 dL_law_1521 rfl ?_
  refine m_iconst hc 1 dL_law_1523 (by decide) ?_
  refine m_iadd hc dL_law_1524 ?_
  refine w_sld hc hs h6.2.1 dL_law_1525 ?_
  refine w_callRi hc hr mt_said rfl lm_L_148 (ok_said (cw_ok hr) hw) (Nat.le_of_ble_eq_true rfl) dL_law_1526 rfl (rest := [.int r]) rfl (Nat.le_of_ble_eq_true rfl) (fun q R1 hw => ?_)
  refine m_icmp_eq hc 1534 dL_law_1529 rfl (fun _ => ?_) (fun c => absurd hw.1 c)
  exact kk S' R1 _ hw.2
