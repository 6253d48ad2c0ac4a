/-! tell: the call. -/
theorem call_2 {h0 s0 n : Nat} {S : HS} {R : RS} (hn : n < 512) (y1 y2 : Int32) (v : Int64) (h : Inv h0 s0 n S R) : wq_2 (Mx h0 s0) h0 y1 y2 S R v (Inv h0 s0 (n + 1)) := by
  obtain ⟨⟨p, P, A, T, Tx, ft, Q, B⟩, hc, hv, hr⟩ := h
  have hL := hc.1
  have hroom := hc.room hn
  have ht9 : hI S h0 9 = ι T.length := hc.2.2.2.2.2.1.1
  have hR43 : R 0 43 = ι T.length := hr.2.2.2.1.1
  obtain ⟨v1, v2, v3, v4, v5, v6⟩ := id hv
  have hple := v1.le
  have hT2 := v4.1
  have hr0 : RI (up R 0 0 0) (p, P, A, T, Tx, ft, Q, B) := hr.code hv 0
  have hR43' : (up R 0 0 0) 0 43 = ι T.length := by rw [upE, if_neg (by omega)]; exact hR43
  have room1 : hX S + 1 ≤ (Mx h0 s0).1 ∧ hS S + 6 ≤ (Mx h0 s0).2 := ⟨by show hX S + 1 ≤ h0 + 601024; omega, by show hS S + 6 ≤ s0 + 7293034; omega⟩
  have ref1 : ∀ (S'' : HS), Re S S'' → w_tell_24 (fun q R1 => wp_thrown R1 (fun t R2 => t = 1 ∧ ((1 : Int32) = 0 → v = Int32.toInt64 q) ∧ Inv h0 s0 (n + 1) S'' R2)) (up R 0 0 0) := fun S'' re => by
    unfold w_tell_24 wp_fail wp_thrown
    exact ⟨by rw [upE, if_pos rfl], fun c => absurd c (by decide), _, hc.re re, hv, hr0.code hv 1⟩
  refine ⟨hL.t0, ?_⟩
  unfold wp_X11_tell
  refine c_isPlace (fun q hq e1 => ⟨fun c => absurd c (by decide), fun _ => ⟨fun neg => ⟨⟨rfl, fun S'' re => ?_⟩, room1.1, room1.2⟩, fun nn => ⟨hL.t0, fun le => ?_, fun nle => ⟨⟨rfl, fun S'' re => ?_⟩, room1.1, room1.2⟩⟩⟩⟩) (fun hne => ⟨fun _ => ⟨⟨rfl, fun S'' re => ?_⟩, room1.1, room1.2⟩, fun c => absurd rfl c⟩)
  · unfold wp_tell
    exact s_isPlace (fun k hk e => ⟨fun c => absurd c (by decide), fun _ => ⟨fun _ => ref1 S'' re, fun c => absurd neg c⟩⟩) (fun h => absurd e1 (h q hq))
  rotate_left
  · unfold wp_tell
    refine s_isPlace (fun k hk e => ⟨fun c => absurd c (by decide), fun _ => ⟨fun c => absurd c nn, fun _ => ⟨fun c => absurd ?_ nle, fun _ => ref1 S'' re⟩⟩⟩) (fun h => absurd e1 (h q hq))
    rw [hR43'] at c
    rw [ht9]; exact c
  · unfold wp_tell
    exact s_isPlace (fun k hk e => absurd e (hne k hk)) (fun _ => ⟨fun _ => ref1 S'' re, fun c => absurd rfl c⟩)
  obtain ⟨m, hm, rfl⟩ := ι_ex nn
  rw [ht9, ι_le (by omega) (by omega)] at le
  subst e1
  -- the class reads
  have tb : ∀ i, i < m → T.getD i 0 < 256 := fun i hi => v4.2 i (by omega)
  have hcT := hc.tapeR
  have hT7 : tpR T ≤ 7400 := by unfold tpR; split <;> omega
  have hx1 : hX (sI S h0 9 0) = hX S := rfl
  have hs1 : hS (sI S h0 9 0) = hS S := rfl
  have tC : ∀ i, i < m → hI (sI S h0 9 0) (h0 + 55) i = ι (T.getD i 0) ∧ T.getD i 0 < 256 := fun i hi => ⟨by rw [sI_ne (by omega)]; exact hc.2.2.2.2.2.1.2 i (by omega), tb i hi⟩
  have tR : ∀ i, i < m → (up R 0 0 0) 42 i = ι (T.getD i 0) ∧ T.getD i 0 < 256 := fun i hi => ⟨by rw [upN (by omega)]; exact hr.2.2.2.1.2 i (by omega), tb i hi⟩
  generalize etx : (fun i => T.getD i 0) = tx
  have tC : ∀ i, i < m → hI (sI S h0 9 0) (h0 + 55) i = ι (tx i) ∧ tx i < 256 := by rw [← etx]; exact tC
  have tR : ∀ i, i < m → (up R 0 0 0) 42 i = ι (tx i) ∧ tx i < 256 := by rw [← etx]; exact tR
  generalize eS1 : sI S h0 9 0 = S1 at *
  have h60 : h0 + 60 ≤ hX S1 := hcT.2.1.1
  have L1 : Lay h0 S1 := hcT.1
  refine ⟨hL.t0, by show hX S1 + 1 ≤ h0 + 601024; omega, by show hS S1 + 10 ≤ s0 + 7293034; omega, fun b2 S2 e1 e2 => ?_⟩
  subst e1 e2
  refine c_newProg (by show hX S1 + 10 ≤ h0 + 601024; omega) (by show hS S1 + 217 ≤ s0 + 7293034; omega) (fun S3 pi => ?_)
  generalize eg : hX S1 = g at *
  have x3 : hX S3 = g + 10 := by have := pi.2.2.1; omega
  have s3 := pi.2.2.2.1
  refine ⟨by show hX S3 + 1 ≤ h0 + 601024; omega, by show hS S3 + 9 ≤ s0 + 7293034; omega, fun b4 S4 e1 e2 => ?_⟩
  have e4 : b4 = g + 10 := by omega
  subst e4 e2
  have c3 := (pi.2.1 (fun _ _ => False) (fun _ _ => False)).2.2.1 h0 (by omega)
  refine ⟨by rw [nO_T1 (by omega), c3.1]; exact L1.t0, h0 + 55, by rw [nO_P1 (by omega), c3.2.2.2 8 (fun c => c)]; exact L1.p0_8, ?_⟩
  refine c_newRd (tx := tx) pi rfl (by omega) (by omega) L1.t55 L1.n55 tC (by rw [eg]; show g + 12 ≤ h0 + 601024; omega) (by show hS S1 + 249 ≤ s0 + 7293034; omega) (fun S6 ex6 x6 s6 pr rl rm h5 => ⟨rl.1, ?_⟩)
  refine c_readT rl rm h5 (fun S7 o e7 x7 s7 jm o3 bad ok => ?_)
  -- the state behind the reading
  have e17 : Ext S1 S7 (Wz h0 S1) V0 := (ex6 _ _).tr2 e7 (fun b k hb w => by unfold W8 at w; omega) (fun b k hb w => absurd w (fun c => c))
  have rl7 := rl.go e7
  have tp7 : Tp S7 := by
    unfold Tp
    rw [x7, x6, show g + 12 - 1 = g + 11 by omega, show g + 12 - 2 = g + 10 by omega, rl7.2.2.2.2.2.1, rl7.1]
    decide
  have hc7 := hcT.scr (a := 12) (b := 249) e17 tp7 (by omega) (by omega)
  have L7 : Lay h0 S7 := hc7.1
  -- the reference reads
  have refR : ∀ K : Int32 → RS → Prop, (∀ R3, R3 0 0 = 0 → RI R3 (p, P, A, [], Tx, ft, Q, B) → OtR R3 o → (¬ (R3 0 49) = 0 → w_tell_60 K (ι q) (R3 0 50) R3) ∧ ((R3 0 49) = 0 → w_tell_60 K (ι q) (-1) R3)) → wp_tell (ι q) (ι m) R K := fun K hK => by
    unfold wp_tell
    refine s_isPlace (fun k hk e => ⟨fun c => absurd c (by decide), fun _ => ⟨fun c => absurd c nn, fun _ => ⟨fun _ => ?_, fun c => absurd ?_ c⟩⟩⟩) (fun h => absurd rfl (h q hq))
    · refine s_opens rfl (by omega) tR (fun R2 f2 i49 i38 t2 k2 => ?_)
      refine s_readProgram i49 t2 k2 jm i38 (fun R3 f3 ot => ?_)
      have fr : Fr (up R 0 0 0) R3 [33, 34, 35, 36] [38, 44, 45, 46, 47, 48, 49, 50] := (f2.mo (by decide) (by decide)).tr (f3.mo (by decide) (by decide))
      have h3 : RI R3 (p, P, A, T, Tx, ft, Q, B) := hr0.scr hv (hr0.1.fr fr (by simp) (by simp) (by simp) (by simp)) fr (fr.fs [] (by simp)) (by decide) (by decide) (by simp)
      refine hK _ ?_ h3.tape ?_
      · rw [upE, if_neg (by omega), fr.2 0 (by simp), upE, if_pos rfl]
      · have e49 : (up R3 0 43 0) 0 49 = R3 0 49 := by rw [upE, if_neg (by omega)]
        have e50 : (up R3 0 43 0) 0 50 = R3 0 50 := by rw [upE, if_neg (by omega)]
        unfold OtR
        rw [e49, e50]
        rcases ot with c | c
        · exact Or.inl c
        · refine Or.inr ⟨c.1, c.2.1, ?_⟩
          unfold RD
          rw [upE, if_neg (by omega), upN (by omega), upN (by omega), upN (by omega), upN (by omega)]
          exact c.2.2
    · rw [hR43', ι_le (by omega) (by omega)]; exact le
  have hvT : VI (p, P, A, [], Tx, ft, Q, B) := hv.tape
  have g7 : hT S7 g = 8 := rl7.2.2.2.2.2.2.2.1
  refine ⟨fun nz => ⟨rl7.1, ?_⟩, fun z => ?_⟩
  · -- a fault
    have on : o.1 ≠ 0 := fun w => nz (by rw [w]; rfl)
    have i0 := (bad on).1
    unfold w_X11_tell_79
    refine ⟨L7.t0, fun c => absurd c nz, fun _ => ?_⟩
    rw [i0]
    have hcF := (hc7.flt (v := ι o.2.1)).ci (n := n + 1) (s0 := s0) (by omega) (by show _ + 0 ≤ _; omega)
    refine refR _ (fun R3 z3 h3 ot => ?_)
    rcases ot with ⟨-, -, e49, e50⟩ | ⟨c, -⟩
    · rw [e49, e50]
      refine ⟨fun _ => ?_, fun c => absurd c nz⟩
      unfold w_tell_60
      rw [upE, if_neg (by omega), e49]
      refine ⟨fun c => absurd c nz, fun _ => ?_⟩
      unfold wp_thrown
      exact ⟨by rw [upE, if_neg (by omega)]; exact z3, fun _ => rfl, _, hcF, hvT, h3.flt⟩
    · exact absurd c on
  · have oz : o.1 = 0 := by
      rw [show (0 : Int32) = ι 0 from rfl, ι_eq (by omega) (by omega)] at z; exact z
    obtain ⟨rm7, hD, Dne⟩ := ok oz
    have m0 : m ≠ 0 := fun w => by subst w; exact jm.nil oz
    have tpT : tpR T = 7400 := by
      unfold tpR
      rw [if_neg (fun w => m0 (by rw [w] at le; simp at le; exact le))]
    have d23 := hD.1
    have dpos : 0 < o.2.2.length := List.length_pos_iff.mpr Dne
    have refM : ∀ K : Int32 → RS → Prop, (∀ R4 f, rnP p o.2.2 o.2.2.length = some f → R4 0 0 = 0 → RI R4 (p, P, A, [], Tx, -1, mkQ o.2.2 f, bnF o.2.2 o.2.2.length) → wp_become (ι q) (ι (6 + (o.2.2.length - 1))) R4 K) → (∀ R4, rnP p o.2.2 o.2.2.length = none → R4 0 0 = 0 → RI R4 (p, P, A, [], Tx, -1, Q, B) → K (-2) R4) → wp_tell (ι q) (ι m) R K := fun K k1 k2 => by
      refine refR K (fun R3 z3 h3 ot => ?_)
      rcases ot with ⟨c, -⟩ | ⟨-, e49, rd⟩
      · exact absurd oz c
      refine ⟨fun c => absurd e49 c, fun _ => ?_⟩
      unfold w_tell_60
      rw [upE, if_neg (by omega)]
      have h4 : RI (up R3 0 51 (-1)) (p, P, A, [], Tx, -1, Q, B) := h3.flt
      have z4 : (up R3 0 51 (-1)) 0 0 = 0 := by rw [upE, if_neg (by omega)]; exact z3
      have rd4 : RD (up R3 0 51 (-1)) o.2.2 := by
        unfold RD
        rw [upE, if_neg (by omega), upN (by omega), upN (by omega), upN (by omega), upN (by omega)]
        exact rd
      refine ⟨fun _ => ?_, fun c => absurd e49 c⟩
      refine s_makeAll hD rd4 v1 h4.1 (fun R5 f ef r5 f5 g5 l5 => ?_) (fun R5 eN r5 f5 g5 => ?_)
      · have h5 : RI R5 (p, P, A, [], Tx, -1, Q, B) := h4.scr hvT.flt g5 r5 f5 (by decide) (by decide) (fun t ht => (slR_mem.mp ht).1)
        have wff := rnP_wf hple.1 hD o.2.2.length f (Nat.le_refl _) ef
        have rd5 : RD R5 o.2.2 := by
          refine ⟨by rw [r5.2 38 (by simp)]; exact rd4.1, fun s hs => ?_⟩
          rw [r5.1 33 (by omega) (by simp), r5.1 34 (by omega) (by simp), r5.1 35 (by omega) (by simp), r5.1 36 (by omega) (by simp)]
          exact rd4.2 s hs
        refine s_takes d23 rd5 (fun k hk => (wff k hk).1) l5 (fun R6 r6 f6 rp => ?_)
        have e37 : R6 0 37 = ι o.2.2.length := by rw [rp.1, mkQ_len]
        rw [e37, show (6 : Int32) = ι 6 from rfl, show (1 : Int32) = ι 1 from rfl, ι_add, ι_sub (by omega), show 6 + o.2.2.length - 1 = 6 + (o.2.2.length - 1) by omega]
        exact k1 R6 f ef (by rw [r6.2 0 (by simp), r5.2 0 (by simp)]; exact z4) (h5.prog hvT.flt r6 f6 rp)
      · exact k2 R5 eN (by rw [r5.2 0 (by simp)]; exact z4) (h4.scr hvT.flt g5 r5 f5 (by decide) (by decide) (fun t ht => (slR_mem.mp ht).1))
    unfold w_X11_tell_79
    refine ⟨L7.t0, fun _ => ?_, fun c => absurd z c⟩
    have hc8 := hc7.flt (v := -1)
    have e78 : Ext S7 (sI S7 h0 10 (-1)) (W10 h0) V0 := (Ext.rf S7 _ _).sI ⟨rfl, rfl⟩
    refine ⟨L7.t0, h0 + 5, L7.p0_2, g7, ?_⟩
    -- the new Program
    have pl8 : PgL h0 (sI S7 h0 10 (-1)) g := by
      have nb : ∀ o', o' = 12 ∨ o' = 15 ∨ o' = 39 ∨ o' = 42 → bxC h0 S1 o' < g → ∀ j, g + j ≠ bxC h0 S7 o' := fun o' ho' hb j => by
        rw [bxC.go (S := S1) (S' := S7) ((e17.2.2.1 (h0 + o') (by omega)).2.2.2 0 (fun c => c))]; omega
      have cb := hcT.2.2.2.2.2.2.2.2.2.1.1
      refine ⟨by omega, by show g + 9 < hX S7; omega, g7, fun f f1 f2 => ?_, fun f f1 f2 => ?_, fun j hj => ⟨nb 12 (by omega) (by have := cb.1.2.1; omega) j, nb 15 (by omega) (by have := cb.2.1.2.1; omega) j, nb 39 (by omega) (by have := cb.2.2.1.2.1; omega) j, nb 42 (by omega) (by have := cb.2.2.2.2.1; omega) j⟩⟩
      · show hP S7 g f = _
        rw [(e7.2.2.1 g (by omega)).2.2.2 f (fun c => c)]; exact (pr.2 f f1 f2).1
      · show hT S7 (g + f) = _ ∧ hN S7 (g + f) = _
        rw [(e7.2.2.1 (g + f) (by omega)).1, (e7.2.2.1 (g + f) (by omega)).2.1]; exact (pr.2 f f1 f2).2
    have pd8 : PgD (sI S7 h0 10 (-1)) g o.2.2 := by
      obtain ⟨-, w2, w3, -⟩ := rm7
      refine ⟨by rw [sI_ne (by omega)]; exact w2, fun s hs => ?_⟩
      have := w3 s (by omega)
      have es : sqC o.2.2 (0, 0, 0, 0) s = sq o.2.2 s := by unfold sqC; rw [if_pos hs]
      simp only at this
      rw [es] at this
      rw [sI_ne (by omega), sI_ne (by omega), sI_ne (by omega), sI_ne (by omega)]
      exact this
    have ng8 : hP (sI S7 h0 10 (-1)) h0 11 ≠ some g := by
      have e11 : hP S7 h0 11 = hP S1 h0 11 := (e17.2.2.1 h0 (by omega)).2.2.2 11 (fun c => c)
      show hP S7 h0 11 ≠ some g
      rw [e11]
      rcases hcT.2.2.2.2.2.2.2.2.1 with ⟨c, -⟩ | ⟨g', c, -, pg, -⟩
      · rw [c]; simp
      · rw [c]
        have : g' + 9 < hX S1 := pg.2.1
        intro w
        cases w
        omega
    refine c_run (G := (p, P, A, [], Tx, -1, Q, B)) v1 hD ⟨hc8, ng8, pl8, pd8, fun k hk => by omega, fun k hk => by omega⟩ (by show _ ≤ h0 + 601024; omega) (by show _ ≤ s0 + 7293034; omega) (fun S9 f ef rn => ⟨fun _ => ?_, fun c => absurd c (by decide)⟩) (fun S9 eN hc9 => ⟨fun c => absurd rfl c, fun _ => ?_⟩)
    · obtain ⟨hc9, ng9, pl9, pd9, pb9, pm9⟩ := rn
      have wff := rnP_wf hple.1 hD o.2.2.length f (Nat.le_refl _) ef
      have hcA := (hc9.prog pl9 pd9 pb9 pm9 Dne).ci (n := n + 1) (s0 := s0) (by omega) (by show _ + 0 ≤ _; omega)
      have hvA : VI (p, P, A, [], Tx, -1, mkQ o.2.2 f, bnF o.2.2 o.2.2.length) := hvT.prog hD wff
      have g55 := pl9.1
      have t6 := pl9.2.2.2.2.1 6 (by omega) (by omega)
      rw [if_pos rfl, if_neg (by omega)] at t6
      obtain ⟨b4, w1, w2, w3⟩ := pm9 (o.2.2.length - 1) (by omega)
      have i0 : hI (sP S9 h0 11 (some g)) g 0 = ι o.2.2.length := pd9.1
      refine ⟨hc9.1.t0, pl9.2.2.1, g + 6, by rw [sP_ne (by omega)]; exact pl9.2.2.2.1 6 (by omega) (by omega), pl9.2.2.1, t6.1, ?_, b4, ?_, hc9.1.t0, ?_⟩
      · rw [i0, show (1 : Int32) = ι 1 from rfl, ι_sub (by omega)]
        show vp_in _ (hN S9 (g + 6))
        rw [t6.2]; exact ι_in (by omega) (by omega)
      · rw [i0, show (1 : Int32) = ι 1 from rfl, ι_sub (by omega), ι_cl (by omega), sP_ne (by omega)]; exact w1
      · have pk : PolyAt (sP S9 h0 11 (some g)) b4 (f (o.2.2.length - 1)) := by
          have e : Ext S9 (sP S9 h0 11 (some g)) (fun _ _ => False) (V11 h0) := (Ext.rf S9 _ _).sP ⟨rfl, rfl⟩
          exact w3.go e (fun k => ⟨fun c => c, fun c => c, fun c => c, by unfold Ka at w2; unfold V11; omega⟩)
        refine c_keep hcA v3.1 rfl hq w2 pk (fun S' hc' => ?_)
        refine refM _ (fun R4 f' ef' z4 h4 => ?_) (fun R4 eN z4 h4 => by rw [ef] at eN; cases eN)
        rw [ef] at ef'
        cases ef'
        have sl := (h4.2.2.2.2.2.2.2 (o.2.2.length - 1) (by rw [mkQ_len]; omega)).1
        rw [stp_mkQ (by omega)] at sl
        exact keepK hc' hvA h4 (s := 6 + (o.2.2.length - 1)) rfl hq (wff _ (by omega)) (by omega) (by omega) sl (fun R2 z hi => ⟨by rw [z]; exact z4, fun _ => rfl, hi⟩)
    · have hcN := hc9.ci (n := n + 1) (s0 := s0) (by omega) (by show _ + 0 ≤ _; omega)
      refine refM _ (fun R4 f' ef' z4 h4 => by rw [eN] at ef'; cases ef') (fun R4 _ z4 h4 => ⟨z4, fun _ => rfl, _, hcN, hvT.flt, h4⟩)
