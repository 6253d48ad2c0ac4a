/-! often. -/
section OFT2
variable {p : Nat} {y1 y2 y3 y4 y5 : Int32}
theorem c_isLine {M : Nat × Nat} {h0 : Nat} {S : HS} {K : Int32 → HS → Prop} (hL : Lay h0 S) (hp : hI S (h0 + 5) 0 = ι p) (hpp : PrP p) (h1 : ∀ a b c d, Ln p a b c d → y2 = ι a → y3 = ι b → y4 = ι c → y5 = ι d → K 1 S) (hn : (∀ a b c d, Ln p a b c d → ¬ (y2 = ι a ∧ y3 = ι b ∧ y4 = ι c ∧ y5 = ι d)) → K 0 S) : wp_X9_isLine M (h0 + 5) y2 y3 y4 y5 S K := by
  have hle := hpp.le
  have lt : ∀ {a b c d}, Ln p a b c d → a < p ∧ b < p ∧ c < p ∧ d < p := fun {a b c d} h => by obtain ⟨h | h | h, hd⟩ := h <;> omega
  unfold wp_X9_isLine
  refine ⟨hL.t5, c_isNumber hL hp (by omega) (fun a ha e2 => ⟨fun c => absurd c (by decide), fun _ => ⟨hL.t5, ?_⟩⟩) (fun hne => ⟨fun _ => hn (fun a b c d hl w => hne a (lt hl).1 w.1), fun c => absurd rfl c⟩)⟩
  refine c_isNumber hL hp (by omega) (fun b hb e3 => ⟨fun c => absurd c (by decide), fun _ => ⟨hL.t5, ?_⟩⟩) (fun hne => ⟨fun _ => hn (fun a b c d hl w => hne b (lt hl).2.1 w.2.1), fun c => absurd rfl c⟩)
  refine c_isNumber hL hp (by omega) (fun c hc e4 => ⟨fun c => absurd c (by decide), fun _ => ⟨hL.t5, ?_⟩⟩) (fun hne => ⟨fun _ => hn (fun a b c d hl w => hne c (lt hl).2.2.1 w.2.2.1), fun c => absurd rfl c⟩)
  refine c_isNumber hL hp (by omega) (fun d hd e5 => ⟨fun _ => ?_, fun c => absurd c (by decide)⟩) (fun hne => ⟨fun c => absurd rfl c, fun _ => hn (fun a b c d hl w => hne d (lt hl).2.2.2 w.2.2.2)⟩)
  subst e2 e3 e4 e5
  have no : ¬ Ln p a b c d → K 0 S := fun nl => hn (fun a' b' c' d' hl w => by
    have l2 := lt hl
    rw [ι_eq (by omega) (by omega), ι_eq (by omega) (by omega), ι_eq (by omega) (by omega), ι_eq (by omega) (by omega)] at w
    obtain ⟨rfl, rfl, rfl, rfl⟩ := w
    exact nl hl)
  have yes : Ln p a b c d → K 1 S := fun l => h1 a b c d l rfl rfl rfl rfl
  rw [show (1 : Int32) = ι 1 from rfl, show (0 : Int32) = ι 0 from rfl, ι_eq (by omega) (by omega), ι_eq (by omega) (by omega), ι_eq (by omega) (by omega), ι_eq (by omega) (by omega), ι_eq (by omega) (by omega)]
  refine ⟨fun g => yes ⟨Or.inl ⟨g, hb, hc⟩, hd⟩, fun g => ⟨fun g2 => no (fun l => ?_), fun g2 => ⟨fun g3 => yes ⟨Or.inr (Or.inl ⟨g2, g3, hc⟩), hd⟩, fun g3 => ⟨fun g4 => no (fun l => ?_), fun g4 => ⟨fun g5 => no (fun l => ?_), fun g5 => yes ⟨Or.inr (Or.inr ⟨g2, g4, g5⟩), hd⟩⟩⟩⟩⟩⟩
  · obtain ⟨h | h | h, -⟩ := l <;> omega
  · obtain ⟨h | h | h, -⟩ := l <;> omega
  · obtain ⟨h | h | h, -⟩ := l <;> omega
theorem s_often {R : RS} {K : Int32 → RS → Prop} (hp : R 0 1 = ι p) (hpp : PrP p) (h1 : ∀ a b c d, Ln p a b c d → y2 = ι a → y3 = ι b → y4 = ι c → y5 = ι d → w_often_89 K y1 y2 y3 y4 y5 1 R) (hn : (∀ a b c d, Ln p a b c d → ¬ (y2 = ι a ∧ y3 = ι b ∧ y4 = ι c ∧ y5 = ι d)) → w_often_89 K y1 y2 y3 y4 y5 0 R) : wp_often y1 y2 y3 y4 y5 R K := by
  have hle := hpp.le
  have hp1 : R 0 1 - 1 = ι (p - 1) := by rw [hp, show (1 : Int32) = ι 1 from rfl, ι_sub (by omega)]
  have lt : ∀ {a b c d}, Ln p a b c d → a < p ∧ b < p ∧ c < p ∧ d < p := fun {a b c d} h => by obtain ⟨h | h | h, hd⟩ := h <;> omega
  have k18 : ∀ s0 : Int32, (∀ a b c d, a < p → b < p → c < p → d < p → y2 = ι a → y3 = ι b → y4 = ι c → y5 = ι d → (s0 = 1 ↔ Ln p a b c d)) → w_often_18 K y1 y2 y3 y4 y5 s0 R := fun s0 hs0 => by
    unfold w_often_18
    rw [hp1]
    refine s_isInB (b := 0) (c := p - 1) rfl rfl (by omega) (by omega) (fun a _ ha e2 => ⟨fun c => absurd c (by decide), fun _ => ?_⟩) (fun hne => ⟨fun _ => hn (fun a b c d hl w => hne a (by omega) (by have := (lt hl).1; omega) w.1), fun c => absurd rfl c⟩)
    rw [hp1]
    refine s_isInB (b := 0) (c := p - 1) rfl rfl (by omega) (by omega) (fun b _ hb e3 => ⟨fun c => absurd c (by decide), fun _ => ?_⟩) (fun hne => ⟨fun _ => hn (fun a b c d hl w => hne b (by omega) (by have := (lt hl).2.1; omega) w.2.1), fun c => absurd rfl c⟩)
    rw [hp1]
    refine s_isInB (b := 0) (c := p - 1) rfl rfl (by omega) (by omega) (fun c _ hc e4 => ⟨fun c => absurd c (by decide), fun _ => ?_⟩) (fun hne => ⟨fun _ => hn (fun a b c d hl w => hne c (by omega) (by have := (lt hl).2.2.1; omega) w.2.2.1), fun c => absurd rfl c⟩)
    rw [hp1]
    refine s_isInB (b := 0) (c := p - 1) rfl rfl (by omega) (by omega) (fun d _ hd e5 => ⟨fun c => absurd c (by decide), fun _ => ⟨fun g => hn (fun a' b' c' d' hl w => ?_), fun g => ?_⟩⟩) (fun hne => ⟨fun _ => hn (fun a b c d hl w => hne d (by omega) (by have := (lt hl).2.2.2; omega) w.2.2.2), fun c => absurd rfl c⟩)
    · have l2 := lt hl
      exact g ((hs0 a' b' c' d' l2.1 l2.2.1 l2.2.2.1 l2.2.2.2 w.1 w.2.1 w.2.2.1 w.2.2.2).mpr hl)
    · exact h1 a b c d ((hs0 a b c d (by omega) (by omega) (by omega) (by omega) e2 e3 e4 e5).mp g) e2 e3 e4 e5
  unfold wp_often
  refine ⟨fun g2 => ⟨fun g3 => k18 _ (fun a b c d ha hb hc hd e2 e3 e4 e5 => ?_), fun g3 => k18 _ (fun a b c d ha hb hc hd e2 e3 e4 e5 => ?_)⟩, fun g2 => k18 _ (fun a b c d ha hb hc hd e2 e3 e4 e5 => ?_)⟩
  · rw [e2, show (0 : Int32) = ι 0 from rfl, ι_eq (by omega) (by omega)] at g2
    rw [e3, show (0 : Int32) = ι 0 from rfl, ι_eq (by omega) (by omega)] at g3
    rw [e4, show (1 : Int32) = ι 1 from rfl, ι_eq (by omega) (by omega)]
    unfold Ln; omega
  · rw [e2, show (0 : Int32) = ι 0 from rfl, ι_eq (by omega) (by omega)] at g2
    rw [e3, show (0 : Int32) = ι 0 from rfl, ι_eq (by omega) (by omega)] at g3
    rw [e3, show (1 : Int32) = ι 1 from rfl, ι_eq (by omega) (by omega)]
    unfold Ln; omega
  · rw [e2, show (0 : Int32) = ι 0 from rfl, ι_eq (by omega) (by omega)] at g2
    rw [e2, show (1 : Int32) = ι 1 from rfl, ι_eq (by omega) (by omega)]
    unfold Ln; omega
theorem call_18 {h0 s0 n : Nat} {S : HS} {R : RS} (hn : n < 512) (y1 y2 y3 y4 y5 : Int32) (v : Int64) (h : Inv h0 s0 n S R) : wq_18 (Mx h0 s0) h0 y1 y2 y3 y4 y5 S R v (Inv h0 s0 (n + 1)) := by
  obtain ⟨⟨p, P, A, T, Tx, ft, Q, B⟩, hc, hv, hr⟩ := h
  have hL := hc.1
  have hroom := hc.room hn
  have hp5 := hc.2.2.1
  have hpp := hv.1
  have hle := hpp.le
  have hX0 := hc.2.1.1
  have hRp : R 0 1 = ι p := hr.1.1
  have fr : ∀ S'' x, Re S S'' → Inv h0 s0 (n + 1) S'' (up R 0 0 x) := fun S'' x r => ⟨_, hc.re r, hv, hr.code hv x⟩
  have rm : hX S + 1 ≤ (Mx h0 s0).1 ∧ hS S + 6 ≤ (Mx h0 s0).2 := ⟨by show hX S + 1 ≤ h0 + 601024; omega, by show hS S + 6 ≤ s0 + 7293034; omega⟩
  refine ⟨hL.t0, ?_⟩
  unfold wp_X11_often
  refine ⟨hL.t0, c_polyAt hL hc.2.2.2.1 rm.1 rm.2 (fun k a hk e1 ka pa => ⟨hL.t0, h0 + 5, hL.p0_2, hL.t5, ?_⟩) (fun hne => Or.inl ⟨rfl, fun S'' re => ?_⟩)⟩
  rotate_left
  · -- no such place
    have k113 : ∀ K : Int32 → RS → Prop, K 0 (up R 0 0 1) → w_often_113 K y1 y2 y3 y4 y5 1 R := fun K hK => by
      unfold w_often_113
      rw [upE, if_pos rfl]
      exact ⟨fun c => absurd c (by decide), fun _ => hK⟩
    have k89 : ∀ s, w_often_89 (fun q R1 => wp_thrown R1 (fun t R2 => t = 1 ∧ ((1 : Int32) = 0 → v = Int32.toInt64 q) ∧ Inv h0 s0 (n + 1) S'' R2)) y1 y2 y3 y4 y5 s R := fun s => by
      unfold w_often_89
      refine s_isPlace (fun k hk e => absurd e (hne k hk)) (fun _ => ⟨fun c => absurd rfl c, fun _ => k113 _ ?_⟩)
      exact ⟨by rw [upE, if_pos rfl], fun c => absurd c (by decide), fr S'' 1 re⟩
    exact s_often hRp hpp (fun a b c d hl e2 e3 e4 e5 => k89 _) (fun hl => k89 _)
  have wL := hv.2.1 k hk
  -- the reference's way
  have hr0 := hr.code hv 0
  have lk : (up R 0 0 0) 2 k = ι (P k).length := (hr0.2.1 k hk).1
  have w300 := wL.1
  have ref : ∀ α β γ δ, Ln p α β γ δ → y2 = ι α → y3 = ι β → y4 = ι γ → y5 = ι δ → ∀ (K : Int32 → RS → Prop), (P k = [] → K (-1) (up R 0 0 0)) → (P k ≠ [] → wp_layValues (ι k) (up (up (up (up (up R 0 0 0) 0 22 (ι α)) 0 23 (ι β)) 0 24 (ι γ)) 0 25 (ι δ)) (fun r1 R1 => wp_oftenOf (ι k) R1 (fun r2 R2 => K r2 R2))) → wp_often y1 y2 y3 y4 y5 R K := fun α β γ δ hln e2 e3 e4 e5 K hK0 hK1 => by
    refine s_often hRp hpp (fun a' b' c' d' hl _ _ _ _ => ?_) (fun hne => absurd ⟨e2, e3, e4, e5⟩ (hne α β γ δ hln))
    unfold w_often_89
    refine s_isPlace (fun k' hk' e' => ⟨fun _ => ⟨fun _ => ?_, fun c => absurd c (by decide)⟩, fun c => absurd c (by decide)⟩) (fun hne => absurd e1 (hne k hk))
    unfold w_often_113
    rw [upE, if_pos rfl, e1, ι_cl (by omega), lk, show (0 : Int32) = ι 0 from rfl, ι_eq (by omega) (by omega), ← show (0 : Int32) = ι 0 from rfl, e2, e3, e4, e5]
    refine ⟨fun _ => ⟨ι_in (by omega) (by omega), fun g => hK1 (fun z => g (by rw [z]; rfl)), fun g => hK0 (List.length_eq_zero_iff.mp g)⟩, fun c => absurd (by decide) c⟩
  refine c_isLine hL hp5 hpp (fun α β γ δ hln e2 e3 e4 e5 => ⟨fun _ => ⟨a, rfl, pa.2.1, ?_, ?_⟩, fun c => absurd c (by decide)⟩) (fun hne => ⟨fun c => absurd rfl c, fun _ => ⟨Or.inr ⟨rfl, fun S'' re => ?_⟩, rm⟩⟩)
  rotate_right
  · refine s_often hRp hpp (fun a b c d hl e2 e3 e4 e5 => absurd ⟨e2, e3, e4, e5⟩ (hne a b c d hl)) (fun _ => ?_)
    unfold w_often_89
    refine s_isPlace (fun k' hk' e' => ⟨fun _ => ⟨fun c => absurd rfl c, fun _ => ?_⟩, fun c => absurd c (by decide)⟩) (fun hne => absurd e1 (hne k hk))
    unfold w_often_113
    rw [upE, if_pos rfl]
    exact ⟨fun c => absurd c (by decide), fun _ => ⟨by rw [upE, if_pos rfl], fun c => absurd c (by decide), fr S'' 2 re⟩⟩
  · -- not 0
    intro hl0
    rw [pa.2.2.2.2.2.2.2.2.1, show (0 : Int32) = ι 0 from rfl, ι_eq (by omega) (by omega)] at hl0
    have hLn : P k ≠ [] := fun z => hl0 (by rw [z]; rfl)
    refine ⟨hL.t0, h0 + 25, hL.p0_4, a, rfl, hL.t0, h0 + 5, hL.p0_2, hL.t5, rm.1, rm.2, fun b8 S8 eb eS => ?_⟩
    subst eb eS
    subst e2 e3 e4 e5
    unfold wp_X3_init
    refine ⟨nO_T2, c_set (p := p) hle hln nO_T2 (fun S9 e9 x9 y9 hq9 => ?_)⟩
    have hX9 : hX S9 = hX S + 1 := by rw [x9, nO_X]
    have hS9 : hS S9 = hS S + 6 := by rw [y9, nO_S]
    have eX : ∀ W V, Ext S S9 W V := fun W V => (ext_nO W V).tr2 e9 (fun b k hb w => by unfold Wl at w; omega) (fun b k hb w => absurd w (fun c => c))
    have tp9 : Tp S9 := by
      unfold Tp
      rw [hX9, show hX S + 1 - 1 = hX S by omega, show hX S + 1 - 2 = hX S - 1 by omega, hq9.1, ((eX V0 V0).2.2.1 (hX S - 1) (by omega)).1]
      exact ⟨by decide, hc.2.1.2.2.2.2.1⟩
    have hc9 := hc.r.scr (a := 1) (b := 6) (eX _ _) tp9 (by omega) (by omega)
    have bb : ∀ o, o = 12 ∨ o = 15 ∨ o = 39 ∨ o = 42 → bxC h0 S9 o = bxC h0 S o := fun o ho => bxC.go (((eX V0 V0).2.2.1 _ (by omega)).2.2.2 0 (fun c => c))
    obtain ⟨⟨b12, b15, b39, b42⟩, -⟩ := hc.2.2.2.2.2.2.2.2.2.1
    have pa9 : PolyAt S9 a (P k) := pa.go (eX V0 V0) (fun _ => ⟨fun c => c, fun c => c, fun c => c, fun c => c⟩)
    have L9 : Lay h0 S9 := hL.go hX0 (eX V0 V0) (fun _ _ c => c)
    rw [hp5]
    refine ⟨L9.t25, c_timesOf (g := (p, P, A, T, Tx, ft, Q, B)) hc9 hpp wL hLn ka pa9 hln hq9 ⟨by omega, Or.inr (by omega), ?_, ?_⟩ (by omega) ⟨?_, ?_⟩ ?_ ?_ (fun m S2 hc2 hm hcn => ?_)⟩
    · rw [bb 39 (by omega)]; have := b39.2.1; omega
    · rw [bb 42 (by omega)]; have := b42.2.1; omega
    · rw [bb 12 (by omega)]; have := b12.2.1; omega
    · rw [bb 15 (by omega)]; have := b15.2.1; omega
    · show h0 + 200 + 1000 * n + 1 + 3 ≤ h0 + 601024; omega
    · show s0 + 1400000 + 7400 * n - tpR T + 6 + 2000000 ≤ s0 + 7293034; omega
    · have hci : CI h0 s0 (n + 1) S2 (p, P, A, T, Tx, ft, Q, B) := hc2.ci (by omega) (by
        show s0 + 1400000 + 7400 * n - tpR T + 6 + tpR T ≤ s0 + 1400000 + 7400 * (n + 1)
        have : tpR T ≤ 7400 := by unfold tpR; split <;> omega
        omega)
      refine ref α β γ δ hln rfl rfl rfl rfl _ (fun z => absurd z hLn) (fun _ => ?_)
      have up5 : ∀ j, j ≠ 22 → j ≠ 23 → j ≠ 24 → j ≠ 25 → (up (up (up (up (up R 0 0 0) 0 22 (ι α)) 0 23 (ι β)) 0 24 (ι γ)) 0 25 (ι δ)) 0 j = (up R 0 0 0) 0 j := fun j h1 h2 h3 h4 => by rw [upE, if_neg h4, upE, if_neg h3, upE, if_neg h2, upE, if_neg h1]
      have up6 : ∀ f, f ≠ 0 → (up (up (up (up (up R 0 0 0) 0 22 (ι α)) 0 23 (ι β)) 0 24 (ι γ)) 0 25 (ι δ)) f = (up R 0 0 0) f := fun f hf => by rw [upN hf, upN hf, upN hf, upN hf]
      generalize eR5 : up (up (up (up (up R 0 0 0) 0 22 (ι α)) 0 23 (ι β)) 0 24 (ι γ)) 0 25 (ι δ) = R5 at up5 up6
      have lf5 : Lf R5 α β γ δ := by
        rw [← eR5]
        refine ⟨?_, ?_, ?_, ?_⟩ <;> simp only [upE] <;> simp
      have fr5 : Fr (up R 0 0 0) R5 [] [22, 23, 24, 25] := ⟨fun f hf _ => up6 f hf, fun j hj => by simp at hj; exact up5 j hj.1 hj.2.1 hj.2.2.1 hj.2.2.2⟩
      have sl5 : Sl R5 k (P k) := (hr0.2.1 k hk).go wL.1 (fr5.fs [] (by decide)) (by simp)
      have p5 : R5 0 1 = ι p := by rw [up5 1 (by omega) (by omega) (by omega) (by omega)]; exact hr0.1.1
      refine s_layValues hpp p5 (by omega) wL sl5 (fun R6 r6 v6 => ?_)
      have sl6 : Sl R6 k (P k) := sl5.go wL.1 (r6.fs [] (by decide)) (by simp)
      have p6 : R6 0 1 = ι p := by rw [r6.2 1 (by simp)]; exact p5
      have lf6 : Lf R6 α β γ δ := by
        obtain ⟨z1, z2, z3, z4⟩ := lf5
        exact ⟨by rw [r6.2 22 (by simp)]; exact z1, by rw [r6.2 23 (by simp)]; exact z2, by rw [r6.2 24 (by simp)]; exact z3, by rw [r6.2 25 (by simp)]; exact z4⟩
      refine s_oftenOf hpp p6 (by omega) wL hLn sl6 hln lf6 v6 (fun m2 R7 r7 ml => ?_)
      have em : m = m2 := by
        by_cases vn : van p α β γ δ (vF p (P k))
        · exact hcn.un (ml.2.1 vn)
        · have z : m2 = 0 := ml.2.2 vn
          by_cases mz : m = 0
          · omega
          · exact absurd (dv_van hpp wL (Mu.one (n := m - 1) (by rw [show m - 1 + 1 = m by omega]; exact hcn.1))) vn
      have frA : Fr (up R 0 0 0) R7 [8, 17, 18, 19, 20, 21] [22, 23, 24, 25] := ((fr5.mo (by decide) (by decide)).tr (r6.mo (by decide) (by decide))).tr (r7.mo (by decide) (by decide))
      refine ⟨?_, fun _ => by rw [em], ⟨_, hci, hv, hr0.scr (ts := []) hv (hr0.1.fr frA (by simp) (by simp) (by simp) (by simp)) frA (frA.fs [] (by simp)) (by decide) (by decide) (by simp)⟩⟩
      rw [frA.2 0 (by simp), upE, if_pos rfl]
  · -- 0
    intro hl0
    rw [pa.2.2.2.2.2.2.2.2.1, show (0 : Int32) = ι 0 from rfl, ι_eq (by omega) (by omega)] at hl0
    refine ref α β γ δ hln e2 e3 e4 e5 _ (fun _ => ⟨?_, fun _ => rfl, ⟨_, hc.next, hv, hr0⟩⟩) (fun z => absurd (List.length_eq_zero_iff.mp hl0) z)
    rw [upE, if_pos rfl]
end OFT2
