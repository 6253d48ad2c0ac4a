/-! How often, in the reference. -/
theorem Cn.lmk {q : Int} {L : Lv} {G : Z3} {N k : Nat} (hq : Pq q) (hl : Nz q L) (hs : Su q N G) : ∀ n, Cn q L (k + n) (lmn L n G) ↔ Cn q L k G
  | 0 => Iff.rfl
  | n + 1 => by
    show Cn q L (k + n + 1) (lm L (lmn L n G)) ↔ _
    rw [Cn.step hq hl (Su.lmn hs n) Al.rf, Cn.lmk hq hl hs n]
section OFT
variable {p a b c d : Nat} {F F' : N3}
theorem Bd.eq (h : Bd p F) {x y z : Nat} (e : (p : Int) ∣ ((F x y z : Nat) : Int)) : F x y z = 0 := lt_dv (h x y z).1 e
/-- what is left is not nothing, and shorter by one -/
theorem left_ne (hpp : PrP p) (hln : Ln p a b c d) (hF : Bd p F) (hF' : Bd p F') (ne : ∃ x y z, F x y z ≠ 0) (al : Al (p : Int) (nz3 F) (lm (lv a b c d) (nz3 F'))) : ∃ x y z, F' x y z ≠ 0 := by
  refine Classical.byContradiction fun w => ?_
  obtain ⟨x, y, z, ne⟩ := ne
  have z0 : nz3 F' = z3 := by
    funext x y z
    show ((F' x y z : Nat) : Int) = 0
    have e0 : F' x y z = 0 := Classical.byContradiction fun q => w ⟨x, y, z, q⟩
    rw [e0]; rfl
  rw [z0] at al
  have := al x y z
  rw [show lm (lv a b c d) z3 x y z = 0 by cases x <;> cases y <;> cases z <;> simp [lm, z3, dn], Int.sub_zero] at this
  exact ne (hF.eq this)
theorem left_dg {m : Nat} (hpp : PrP p) (hln : Ln p a b c d) (hF' : Bd p F') (hm : ∀ e u v, m < e → twN (led a b) F e u v = 0) (al : Al (p : Int) (nz3 F) (lm (lv a b c d) (nz3 F'))) : ∀ e u v, m ≤ e → twN (led a b) F' e u v = 0 := by
  have al2 := (tw_al (l := led a b)).2 al
  rw [tw_lm, hln.tv, ← nz_tw, ← nz_tw] at al2
  intro e u v he
  refine (hF'.tw (l := led a b)).eq ?_
  refine top_x (L := (1, (l1 a b : Int), (l2 a b c : Int), (d : Int))) hpp.pq hpp.n1 (hF'.tw (l := led a b)).su (d := m) (fun e u v k => ?_) e u v he
  have := al2 e u v
  rw [show nz3 (twN (led a b) F) e u v = 0 by show ((twN (led a b) F e u v : Nat) : Int) = 0; rw [hm e u v k]; rfl] at this
  rw [Int.zero_sub] at this
  exact Int.dvd_neg.1 this
theorem cf_bd {L : Po} (hpp : PrP p) (hw : wf p L) : Bd p (cf L) := fun x y z => ⟨cf_lt (by have := hpp.le; omega) hw x y z, fun k => cf_none (fun i hi w => by
  obtain ⟨b1, b2, b3, -⟩ := hw.2.1 i hi
  obtain ⟨w1, w2, w3⟩ := w
  omega)⟩
theorem cf_nn {L : Po} (hw : wf p L) (hL : L ≠ []) : ∃ x y z, cf L x y z ≠ 0 := by
  have h0 : 0 < L.length := List.length_pos_iff.2 hL
  exact ⟨_, _, _, by rw [cf_at hw h0]; have := (hw.2.1 0 h0).2.2.2.1; omega⟩
theorem s_oftenOf {s : Nat} {L : Po} {R : RS} {K : Int32 → RS → Prop} (hpp : PrP p) (hp1 : R 0 1 = ι p) (hs : s < 56) (hw : wf p L) (hL : L ≠ []) (hl : Sl R s L) (hln : Ln p a b c d) (hlf : Lf R a b c d) (hv : Vr R p (vF p L) (p * p * p)) (h : ∀ n R', Fr R R' [17, 18, 19, 20] [] → Mlt p a b c d L n → K (ι n) R') : wp_oftenOf (ι s) R K := by
  have hp := hpp.le
  have one : (1 : Int32) = ι 1 := rfl
  have nul : (0 : Int32) = ι 0 := rfl
  have abc : a < p ∧ b < p ∧ c < p ∧ d < p := by
    obtain ⟨h | h | h, hd⟩ := hln <;> omega
  have key : ∀ (m n : Nat) (R1 : RS) (F : N3), n + m ≤ 40 → van p a b c d (vF p L) → Fr R R1 [17, 18, 19, 20] [] → Wh R1 17 F → Bd p F → (∃ x y z, F x y z ≠ 0) → (∀ e u v, m < e → twN (led a b) F e u v = 0) → Al (p : Int) (nz3 (cf L)) (lmn (lv a b c d) n (nz3 F)) → wl_oftenOf_16 K (m + 1) (ι n) R1 := by
    intro m
    induction m with
    | zero =>
      intro n R1 F hn hvan r1 w1 b1 ne dg al
      show wb_oftenOf_16 _ _ _ _
      unfold wb_oftenOf_16
      refine s_divides hpp (by rw [r1.2 1 (by simp)]; exact hp1) hln ⟨by rw [r1.2 22 (by simp)]; exact hlf.1, by rw [r1.2 23 (by simp)]; exact hlf.2.1, by rw [r1.2 24 (by simp)]; exact hlf.2.2.1, by rw [r1.2 25 (by simp)]; exact hlf.2.2.2⟩ w1 b1 (fun R2 F' r2 w2 b2 al2 => ?_) (fun R2 r2 nd => ?_)
      · obtain ⟨x, y, z, q⟩ := left_ne hpp hln b1 b2 ne al2
        have z0 := left_dg hpp hln b2 dg al2
        have : utN (led a b) (twN (led a b) F') x y z = 0 := by unfold utN; split; exact z0 _ _ _ (Nat.zero_le _); split <;> exact z0 _ _ _ (Nat.zero_le _)
        rw [show utN (led a b) (twN (led a b) F') = F' by
          funext x y z
          unfold twN utN
          rcases tw_c (l := led a b) with h | h | h
          · simp [h]
          · simp [h]
          · simp [h.1, h.2]] at this
        exact absurd this q
      · refine ⟨fun _ => h n R2 (r1.tr (r2.mo (by decide) (by decide))) ⟨by omega, fun _ => ?_, fun q => absurd hvan q⟩, fun q => absurd rfl q⟩
        have := (Cn.lmk (k := 0) hpp.pq (hln.nz (by omega)) b1.su n).2 (Cn.no b1.su nd)
        rw [Nat.zero_add] at this
        exact this.al al.sy
    | succ m ih =>
      intro n R1 F hn hvan r1 w1 b1 ne dg al
      show wb_oftenOf_16 _ _ _ _
      unfold wb_oftenOf_16
      refine s_divides hpp (by rw [r1.2 1 (by simp)]; exact hp1) hln ⟨by rw [r1.2 22 (by simp)]; exact hlf.1, by rw [r1.2 23 (by simp)]; exact hlf.2.1, by rw [r1.2 24 (by simp)]; exact hlf.2.2.1, by rw [r1.2 25 (by simp)]; exact hlf.2.2.2⟩ w1 b1 (fun R2 F' r2 w2 b2 al2 => ?_) (fun R2 r2 nd => ?_)
      · rw [one, ι_add]
        refine ⟨fun q => absurd q (by decide), fun _ => ih (n + 1) R2 F' (by omega) hvan (r1.tr r2) w2 b2 (left_ne hpp hln b1 b2 ne al2) (fun e u v he => left_dg hpp hln b2 dg al2 e u v (by omega)) ?_⟩
        have e : ∀ n, lmn (lv a b c d) n (lm (lv a b c d) (nz3 F')) = lm (lv a b c d) (lmn (lv a b c d) n (nz3 F')) := by
          intro n
          induction n with
          | zero => rfl
          | succ n ih => show lm _ (lmn _ n (lm _ _)) = _; rw [ih]; rfl
        have := al.tr (al2.lmn (L := lv a b c d) n)
        rw [e] at this
        exact this
      · refine ⟨fun _ => h n R2 (r1.tr (r2.mo (by decide) (by decide))) ⟨by omega, fun _ => ?_, fun q => absurd hvan q⟩, fun q => absurd rfl q⟩
        have := (Cn.lmk (k := 0) hpp.pq (hln.nz (by omega)) b1.su n).2 (Cn.no b1.su nd)
        rw [Nat.zero_add] at this
        exact this.al al.sy
  unfold wp_oftenOf
  refine s_vanishes hpp hp1 abc.1 abc.2.1 abc.2.2.1 abc.2.2.2 hlf hv (fun x y z => vF_lt (by omega)) (fun hvan => ⟨fun _ => ?_, fun q => absurd q (by decide)⟩) (fun nv => ⟨fun q => absurd rfl q, fun _ => ?_⟩)
  · refine s_layWhole hs hw hl (fun R1 r1 w1 => ?_)
    have r2 : Fr R R1 [17, 18, 19, 20] [] := r1.mo (by decide) (by decide)
    exact ⟨40 + 1, key 40 0 R1 (cf L) (by omega) hvan r2 w1 (cf_bd hpp hw) (cf_nn hw hL) (fun e u v he => ((cf_bd hpp hw).tw (l := led a b) e u v).2 (by omega)) Al.rf⟩
  · exact h 0 R (Fr.rf _ _ _) ⟨by omega, fun q => absurd q nv, fun _ => rfl⟩
end OFT
/-! Factors in the reference. -/
section FCT
variable {p s : Nat} {L : Po} {R : RS} {K : Int32 → RS → Prop}
theorem Mlt.un {a b c d n m : Nat} (h : Mlt p a b c d L n) (g : Mlt p a b c d L m) : n = m := by
  by_cases v : van p a b c d (vF p L)
  · exact (h.2.1 v).un (g.2.1 v)
  · rw [h.2.2 v, g.2.2 v]
theorem Mlt.eq {a b c d n : Nat} (h : Mlt p a b c d L n) : mlt p a b c d L = n := (Classical.epsilon_spec (p := fun n => Mlt p a b c d L n) ⟨n, h⟩ : Mlt p a b c d L (mlt p a b c d L)).un h
abbrev fcF : List Nat := [8, 17, 18, 19, 20, 21]
abbrev fcK : List Nat := [22, 23, 24, 25]
/-- what stays while lines are tried -/
def FcS (R R1 : RS) (p s : Nat) (L : Po) : Prop := Fr R R1 fcF fcK ∧ R1 0 1 = ι p ∧ Sl R1 s L ∧ Vr R1 p (vF p L) (p * p * p)
theorem FcS.go {R1 R2 : RS} (hw : wf p L) (h : FcS R R1 p s L) (r : Fr R1 R2 [17, 18, 19, 20] fcK) : FcS R R2 p s L := by
  obtain ⟨a, b, c, d⟩ := h
  exact ⟨a.tr (r.mo (by decide) (by decide)), by rw [r.2 1 (by decide)]; exact b, c.go hw.1 (r.fs [] (by decide)) (by simp), fun x y z hx hy hz hi => by rw [r.1 21 (by omega) (by decide)]; exact d x y z hx hy hz hi⟩
theorem FcS.st (hpp : PrP p) (hp1 : R 0 1 = ι p) (hs : s < 56) (hw : wf p L) (hl : Sl R s L) (h : ∀ R', FcS R R' p s L → K 0 R') : wp_layValues (ι s) R K := s_layValues hpp hp1 hs hw hl (fun R1 r1 v1 => h R1 ⟨r1.mo (by decide) (by decide), by rw [r1.2 1 (by simp)]; exact hp1, hl.go hw.1 (r1.fs [] (by decide)) (by simp), v1⟩)
theorem s_line {R1 : RS} {k : Nat} (hpp : PrP p) (hs : s < 56) (hw : wf p L) (hL : L ≠ []) (hk : k < lns p) (st : FcS R R1 p s L) (h : ∀ R', FcS R R' p s L → Lf R' (lnK p k).1 (lnK p k).2.1 (lnK p k).2.2.1 (lnK p k).2.2.2 → mk3 p L k ≤ 40 → K (ι (mk3 p L k)) R') : wp_layLine (ι k) R1 (fun _ R2 => wp_oftenOf (ι s) R2 (fun r R3 => K r R3)) := by
  have hp := hpp.le
  refine s_layLine hpp st.2.1 hk (fun R2 r2 lf => ?_)
  have st2 := st.go hw (r2.mo (by decide) (by decide))
  refine s_oftenOf hpp st2.2.1 hs hw hL st2.2.2.1 (lnK_ln (by omega) hk) lf st2.2.2.2 (fun n R3 r3 ml => ?_)
  have st3 := st2.go hw (r3.mo (by decide) (by decide))
  have e : mk3 p L k = n := ml.eq
  rw [← e]
  exact h R3 st3 ⟨by rw [r3.2 22 (by simp)]; exact lf.1, by rw [r3.2 23 (by simp)]; exact lf.2.1, by rw [r3.2 24 (by simp)]; exact lf.2.2.1, by rw [r3.2 25 (by simp)]; exact lf.2.2.2⟩ (by rw [e]; exact ml.1)
theorem s_lines {R1 : RS} {K1 : Int32 → RS → Prop} (hp1 : R1 0 1 = ι p) (h : K1 (ι (lns p)) R1) : wp_lines R1 K1 := by
  unfold wp_lines
  rw [hp1, ι_mul, ι_mul, ι_add, ι_add]
  exact h
/-- the sum over lines -/
noncomputable def fcN (p : Nat) (L : Po) (all : Nat) : Nat := sumTo (lns p) (fun k => if all = 0 then min 1 (mk3 p L k) else mk3 p L k)
theorem s_factors {all : Nat} (hpp : PrP p) (hp1 : R 0 1 = ι p) (hs : s < 56) (hw : wf p L) (hl : Sl R s L) (ha : all ≤ 1) (h0 : L = [] → K 0 R) (h : ∀ R', L ≠ [] → FcS R R' p s L → K (ι (fcN p L all)) R') : wp_factors (ι s) (ι all) R K := by
  have hp := hpp.le
  obtain ⟨p3, p4⟩ := p3_le hpp
  have hlns : lns p ≤ 2400 := by show p * p * p + p * p + p ≤ 2400; omega
  have hle := hw.1
  have one : (1 : Int32) = ι 1 := rfl
  have nul : (0 : Int32) = ι 0 := rfl
  unfold wp_factors
  rw [ι_cl (by omega), hl.1, nul, ι_eq (by omega) (by omega)]
  refine ⟨ι_in (by omega) (by omega), fun c => ?_, fun c => h0 (List.length_eq_zero_iff.1 c)⟩
  have hL : L ≠ [] := fun q => c (by rw [q]; rfl)
  refine FcS.st hpp hp1 hs hw hl (fun R1 st1 => ?_)
  refine s_lines st1.2.1 ⟨lns p + 1, ?_⟩
  have key : ∀ (m k : Nat) (R2 : RS), k + m = lns p → FcS R R2 p s L → wl_factors_27 K (m + 1) (ι s) (ι all) (ι (sumTo k (fun k => if all = 0 then min 1 (mk3 p L k) else mk3 p L k))) (ι (lns p)) (ι k) R2 := by
    intro m
    induction m with
    | zero =>
      intro k R2 hk st
      show wb_factors_27 _ _ _ _ _ _ _ _
      unfold wb_factors_27
      rw [ι_le (by omega) (by omega)]
      refine ⟨fun _ => ?_, fun q => absurd (by omega) q⟩
      have := h R2 hL st
      unfold fcN at this
      rw [← hk, Nat.add_zero] at this
      exact this
    | succ m ih =>
      intro k R2 hk st
      show wb_factors_27 _ _ _ _ _ _ _ _
      unfold wb_factors_27
      rw [ι_le (by omega) (by omega), nul, ι_eq (by omega) (by omega), one]
      refine ⟨fun q => absurd q (by omega), fun _ => ?_⟩
      refine s_line hpp hs hw hL (by omega) st (fun R3 st3 lf3 m40 => ?_)
      have nx := ih (k + 1) R3 (by omega) st3
      rw [sumTo] at nx
      rw [ι_add, ι_add]
      refine ⟨fun q v3 e3 => ?_, fun q => ?_⟩
      · rw [if_pos q] at nx
        rw [e3]
        rw [show (if ι (mk3 p L k) < ι 1 then ι (mk3 p L k) else ι 1) = ι (min 1 (mk3 p L k)) by
          by_cases z : mk3 p L k < 1
          · rw [if_pos ((ι_lt (by omega) (by omega)).2 z), show min 1 (mk3 p L k) = mk3 p L k by omega]
          · rw [if_neg (fun w => z ((ι_lt (by omega) (by omega)).1 w)), show min 1 (mk3 p L k) = 1 by omega], ι_add]
        exact nx
      · rw [if_neg q] at nx
        exact nx
  exact key (lns p) 0 R1 (by omega) st1
/-- the number of the line that is the left-th factor from line k on -/
noncomputable def fck (p : Nat) (L : Po) : Nat → Nat → Nat → Option Nat
  | 0, _, _ => none
  | n + 1, k, left => if mk3 p L k = 0 then fck p L n (k + 1) left else if left = 0 then some k else fck p L n (k + 1) (left - 1)
theorem s_factorL {w left : Nat} {R1 : RS} (hpp : PrP p) (hs : s < 56) (hw : wf p L) (hL : L ≠ []) (hle : left < 2147483648) (hw4 : w ≤ 4) (st1 : FcS R R1 p s L) (hn : ∀ R', FcS R R' p s L → fck p L (lns p) 0 left = none → wp_fail 1 R' (fun r1 R1 => K r1 R1)) (hy : ∀ R' k, FcS R R' p s L → k < lns p → fck p L (lns p) 0 left = some k → K (ι (lnV p L k w (mk3 p L k))) R') : wl_factor_57 K (lns p + 1) (ι s) (ι w) (ι left) (ι (lns p)) 0 R1 := by
  have hp := hpp.le
  obtain ⟨p3, p4⟩ := p3_le hpp
  have hlns : lns p ≤ 2400 := by show p * p * p + p * p + p ≤ 2400; omega
  have one : (1 : Int32) = ι 1 := rfl
  have nul : (0 : Int32) = ι 0 := rfl
  have key : ∀ (m k left' : Nat) (R2 : RS), k + m = lns p → left' < 2147483648 → FcS R R2 p s L → fck p L (lns p) 0 left = fck p L m k left' → wl_factor_57 K (m + 1) (ι s) (ι w) (ι left') (ι (lns p)) (ι k) R2 := by
    intro m
    induction m with
    | zero =>
      intro k left' R2 hk hl' st e
      show wb_factor_57 _ _ _ _ _ _ _ _
      unfold wb_factor_57
      rw [ι_le (by omega) (by omega)]
      exact ⟨fun _ => hn R2 st e, fun q => absurd (by omega) q⟩
    | succ m ih =>
      intro k left' R2 hk hl' st e
      rw [fck] at e
      show wb_factor_57 _ _ _ _ _ _ _ _
      unfold wb_factor_57
      rw [ι_le (by omega) (by omega), ιm_dec, nul, one, show (2 : Int32) = ι 2 from rfl, show (3 : Int32) = ι 3 from rfl, ι_eq (by omega) (by omega), ι_eq (by omega) (by omega), ι_eq (by omega) (by omega), ι_eq (by omega) (by omega), ι_eq (by omega) (by omega)]
      refine ⟨fun q => absurd q (by omega), fun _ => ?_⟩
      refine s_line hpp hs hw hL (by omega) st (fun R3 st3 lf3 m40 => ?_)
      rw [ι_eq (by omega) (by omega), ι_add]
      refine ⟨fun c => ⟨fun c2 => ?_, fun c2 => ?_⟩, fun c => ?_⟩
      · rw [if_neg c, if_neg c2] at e
        rw [show ιm left' = ι (left' - 1) by unfold ιm; rw [if_neg c2]]
        exact ih (k + 1) (left' - 1) R3 (by omega) (by omega) st3 e
      · rw [if_neg c, if_pos c2] at e
        have yy := hy R3 k st3 (by omega) e
        unfold lnV at yy
        refine ⟨fun w0 => ⟨fun w1 => ⟨fun w2 => ⟨fun w3 => ?_, fun w3 => ?_⟩, fun w2 => ?_⟩, fun w1 => ?_⟩, fun w0 => ?_⟩
        · rw [if_neg w0, if_neg w1, if_neg w2, if_neg w3] at yy; exact yy
        · rw [if_neg w0, if_neg w1, if_neg w2, if_pos w3] at yy; rw [lf3.2.2.2]; exact yy
        · rw [if_neg w0, if_neg w1, if_pos w2] at yy; rw [lf3.2.2.1]; exact yy
        · rw [if_neg w0, if_pos w1] at yy; rw [lf3.2.1]; exact yy
        · rw [if_pos w0] at yy; rw [lf3.1]; exact yy
      · rw [if_pos c] at e
        exact ih (k + 1) left' R3 (by omega) hl' st3 e
  exact key (lns p) 0 left R1 (by omega) hle st1 rfl
end FCT
