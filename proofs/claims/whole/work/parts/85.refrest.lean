/-! What is left, in the reference. -/
section RST
variable {p s t : Nat} {L : Po} {R : RS} {K : Int32 → RS → Prop}
theorem s_restG {F : N3} (ht : t < 56) (hpp : PrP p) (hF : Bd p F) (hw : Wh R 17 F) (h : ∀ R', Fr R R' [2, 3, 4] [] → Fs R R' [t] → (∀ L, Can p F L → Sl R' t L → K 1 R') ∧ ((¬ ∃ L, Can p F L) → K 0 R')) : wl_rest_69 K (68921 + 1) (ι t) 0 0 R := by
  have hp := hpp.le
  have one : (1 : Int32) = ι 1 := rfl
  have nul : (0 : Int32) = ι 0 := rfl
  have key : ∀ (m k : Nat) (R1 : RS) (C : Po), k + m = 68921 → Fr R R1 [2, 3, 4] [] → Fs R R1 [t] → C.length ≤ 300 → Col F (fun x y z => c41 x y z < k) C → (∀ a b, a < b → b < C.length → k41 (tm C a) < k41 (tm C b)) → (∀ x y z, x ≤ 40 → y ≤ 40 → z ≤ 40 → c41 x y z < k → F x y z ≠ 0 → ∃ j, j < C.length ∧ isAt (tm C j) x y z) → (∀ i, i < C.length → R1 3 (300 * t + i) = ι (k41 (tm C i)) ∧ R1 4 (300 * t + i) = ι (tm C i).n) → wl_rest_69 K (m + 1) (ι t) (ι C.length) (ι k) R1 := by
    intro m
    induction m with
    | zero =>
      intro k R1 C hk r1 f1 c3 col od all rw1
      show wb_rest_69 _ _ _ _ _ _
      unfold wb_rest_69
      rw [show (68921 : Int32) = ι 68921 from rfl, ι_le (by omega) (by omega), ι_cl (by omega)]
      refine ⟨fun _ => ⟨ι_in (by omega) (by omega), ?_⟩, fun q => absurd (by omega) q⟩
      have can : Can p F C := can_of col c3 (fun x y z => (hF x y z).1) (fun x y z ne => by
        have hx : x ≤ 40 ∧ y ≤ 40 ∧ z ≤ 40 := Classical.byContradiction fun q => ne ((hF x y z).2 (by omega))
        exact all x y z hx.1 hx.2.1 hx.2.2 (by have := c41_lt hx.1 hx.2.1 hx.2.2; omega) ne) rfl (fun _ => Iff.rfl) od
      refine (h _ (r1.w (f := 2) (j := t) (x := ι C.length) (by simp) (by omega)) (fun s hs => ?_)).1 C can ⟨by rw [upE, if_pos rfl], fun i hi => by rw [upN (by decide), upN (by decide)]; exact rw1 i hi⟩
      rw [upE, if_neg (fun e => hs (by rw [e]; simp)), upN (by decide), upN (by decide)]
      exact f1 s hs
    | succ m ih =>
      intro k R1 C hk r1 f1 c3 col od all rw1
      obtain ⟨x, y, z, hx, hy, hz, rfl⟩ := c41_ex (show k < 68921 by omega)
      have hv : R1 17 (c41 x y z) = ι (F x y z) := by rw [r1.1 17 (by omega) (by simp)]; exact hw x y z hx hy hz
      have hFl := (hF x y z).1
      show wb_rest_69 _ _ _ _ _ _
      unfold wb_rest_69
      rw [show (68921 : Int32) = ι 68921 from rfl, show (300 : Int32) = ι 300 from rfl, ι_le (by omega) (by omega), ι_cl (a := c41 x y z) (by omega), show ∀ v, (up R1 3 (Int32.toNatClampNeg (ι 300 * ι t + (ι C.length + 1) - 1)) v) 17 (c41 x y z) = R1 17 (c41 x y z) from fun v => by rw [upN (by decide)], hv, nul, one, ι_eq (by omega) (by omega), ι_add, ι_add, ι_le (by omega) (by omega), ι_mul, ι_add, ι_sub (by omega), ι_cl (by omega)]
      refine ⟨fun q => absurd q (by omega), fun _ => ⟨ι_in (by omega) (by omega), fun ne => ⟨fun le => ⟨ι_in (by omega) (by omega), ι_in (by omega) (by omega), ι_in (by omega) (by omega), ?_⟩, fun gt => ?_⟩, fun z0 => ?_⟩⟩
      · have nx := ih (c41 x y z + 1) (up (up R1 3 (300 * t + (C.length + 1) - 1) (ι (c41 x y z))) 4 (300 * t + (C.length + 1) - 1) (ι (F x y z))) (C ++ [(x, y, z, F x y z)]) (by omega) ((r1.w (by simp) (by omega)).w (by simp) (by omega)) ?_ (by rw [List.length_append, List.length_singleton]; omega) ?_ ?_ ?_ ?_
        · rw [List.length_append, List.length_singleton] at nx
          rw [ι_cl (a := 300 * t + (C.length + 1) - 1) (by omega)]
          exact nx
        · intro s hs
          have g := f1 s hs
          have ns : s ≠ t := fun e => hs (by rw [e]; simp)
          refine ⟨by rw [upN (by decide), upN (by decide)]; exact g.1, fun i hi => ⟨?_, ?_⟩⟩
          · rw [upN (by decide), upE, if_neg (by omega)]; exact (g.2 i hi).1
          · rw [upE, if_neg (by omega), upN (by decide)]; exact (g.2 i hi).2
        · refine ⟨fun j hj => ?_, fun i j hij hj => ?_⟩
          · rw [List.length_append, List.length_singleton] at hj
            by_cases e : j = C.length
            · rw [e, tm_app_r]
              exact ⟨⟨hx, hy, hz⟩, rfl, ne, Nat.lt_succ_self _⟩
            · rw [tm_app_l (by omega)]
              have := col.1 j (by omega)
              exact ⟨this.1, this.2.1, this.2.2.1, Nat.lt_succ_of_lt this.2.2.2⟩
          · rw [List.length_append, List.length_singleton] at hj
            by_cases e : j = C.length
            · rw [e, tm_app_r, tm_app_l (by omega)]
              have := (col.1 i (by omega)).2.2.2
              exact Nat.ne_of_lt this
            · rw [tm_app_l (by omega), tm_app_l (by omega)]
              exact col.2 i j hij (by omega)
        · intro i j hij hj
          rw [List.length_append, List.length_singleton] at hj
          by_cases e : j = C.length
          · rw [e, tm_app_r, tm_app_l (by omega)]
            exact (col.1 i (by omega)).2.2.2
          · rw [tm_app_l (by omega), tm_app_l (by omega)]
            exact od i j hij (by omega)
        · intro a b c ha hb hc hi nz
          by_cases e : c41 a b c = c41 x y z
          · obtain ⟨rfl, rfl, rfl⟩ := c41_inj ⟨hb, hc⟩ ⟨hy, hz⟩ e
            exact ⟨C.length, by rw [List.length_append, List.length_singleton]; omega, by rw [tm_app_r]; exact ⟨rfl, rfl, rfl⟩⟩
          · obtain ⟨j, hj, w⟩ := all a b c ha hb hc (by omega) nz
            exact ⟨j, by rw [List.length_append, List.length_singleton]; omega, by rw [tm_app_l hj]; exact w⟩
        · intro i hi
          rw [List.length_append, List.length_singleton] at hi
          by_cases e : i = C.length
          · rw [e, tm_app_r, upN (by decide), upE, if_pos (by omega), upE, if_pos (by omega)]
            exact ⟨rfl, rfl⟩
          · rw [tm_app_l (by omega), upN (by decide), upE, if_neg (by omega), upE, if_neg (by omega), upN (by decide)]
            exact rw1 i (by omega)
      · refine (h R1 r1 f1).2 ?_
        refine no_can_many (C := C ++ [(x, y, z, F x y z)]) (V := fun _ _ _ => True) ⟨fun j hj => ?_, fun i j hij hj => ?_⟩ (by rw [List.length_append, List.length_singleton]; omega)
        · rw [List.length_append, List.length_singleton] at hj
          by_cases e : j = C.length
          · rw [e, tm_app_r]
            exact ⟨⟨hx, hy, hz⟩, rfl, ne, trivial⟩
          · rw [tm_app_l (by omega)]
            have := col.1 j (by omega)
            exact ⟨this.1, this.2.1, this.2.2.1, trivial⟩
        · rw [List.length_append, List.length_singleton] at hj
          by_cases e : j = C.length
          · rw [e, tm_app_r, tm_app_l (by omega)]
            exact Nat.ne_of_lt (col.1 i (by omega)).2.2.2
          · rw [tm_app_l (by omega), tm_app_l (by omega)]
            exact col.2 i j hij (by omega)
      · refine ih (c41 x y z + 1) R1 C (by omega) r1 f1 c3 ⟨fun j hj => ?_, col.2⟩ od (fun a b c ha hb hc hi nz => ?_) rw1
        · have := col.1 j hj
          exact ⟨this.1, this.2.1, this.2.2.1, Nat.lt_succ_of_lt this.2.2.2⟩
        · refine all a b c ha hb hc (Classical.byContradiction fun q => ?_) nz
          obtain ⟨rfl, rfl, rfl⟩ := c41_inj ⟨hb, hc⟩ ⟨hy, hz⟩ (show c41 a b c = c41 x y z by omega)
          exact nz z0
  exact key 68921 0 R [] (by omega) (Fr.rf _ _ _) (Fs.rf _ _) (by simp) ⟨fun j hj => absurd hj (by simp), fun i j _ hj => absurd hj (by simp)⟩ (fun a b _ hb => absurd hb (by simp)) (fun x y z _ _ _ hh => absurd hh (by omega)) (fun i hi => absurd hi (by simp))
theorem s_rest (ht : t < 56) (hpp : PrP p) (hp1 : R 0 1 = ι p) (hs : s < 56) (hw : wf p L) (hL : L ≠ []) (hl : Sl R s L) (h : ∀ R' F, Fr R R' [2, 3, 4, 8, 17, 18, 19, 20, 21] fcK → Fs R R' [t] → Bd p F → RoK p L (lns p) F → (∃ x y z, F x y z ≠ 0) → (∀ L', Can p F L' → Sl R' t L' → K 1 R') ∧ ((¬ ∃ L', Can p F L') → K 0 R')) : wp_rest (ι t) (ι s) R K := by
  have hp := hpp.le
  obtain ⟨p3, p4⟩ := p3_le hpp
  have hlns : lns p ≤ 2400 := by show p * p * p + p * p + p ≤ 2400; omega
  have one : (1 : Int32) = ι 1 := rfl
  have nul : (0 : Int32) = ι 0 := rfl
  unfold wp_rest
  refine FcS.st hpp hp1 hs hw hl (fun R1 st1 => ?_)
  refine s_layWhole hs hw st1.2.2.1 (fun R2 r2 w2 => ?_)
  have st2 := st1.go hw (r2.mo (by decide) (by decide))
  refine s_lines st2.2.1 ⟨lns p + 1, ?_⟩
  have key : ∀ (m k : Nat) (R2 : RS) (F : N3), k + m = lns p → FcS R R2 p s L → Wh R2 17 F → Bd p F → (∃ x y z, F x y z ≠ 0) → RoK p L k F → wl_rest_18 K (m + 1) (ι t) (ι (lns p)) (ι k) R2 := by
    intro m
    induction m with
    | zero =>
      intro k R2 F hk st w b ne ro
      show wb_rest_18 _ _ _ _ _ _
      unfold wb_rest_18
      rw [ι_le (by omega) (by omega)]
      refine ⟨fun _ => ⟨68921 + 1, s_restG ht hpp b w (fun R' r' f' => h R' F ((st.1.mo (by decide) (by decide)).tr (r'.mo (by decide) (by decide))) ?_ b ?_ ne)⟩, fun q => absurd (by omega) q⟩
      · exact (st.1.fs [t] (by decide)).tr f'
      · rw [← show k = lns p by omega]; exact ro
    | succ m ih =>
      intro k R2 F hk st w b ne ro
      show wb_rest_18 _ _ _ _ _ _
      unfold wb_rest_18
      rw [ι_le (by omega) (by omega), one, ι_add]
      refine ⟨fun q => absurd q (by omega), fun _ => ?_⟩
      have hkl : k < lns p := by omega
      have hln := lnK_ln (p := p) (k := k) (by omega) hkl
      refine s_layLine hpp st.2.1 hkl (fun R3 r3 lf3 => ?_)
      have st3 := st.go hw (r3.mo (by decide) (by decide))
      have w3 : Wh R3 17 F := fun x y z hx hy hz => by rw [r3.1 17 (by omega) (by simp)]; exact w x y z hx hy hz
      have abc := hln
      have ab4 : (lnK p k).1 < p ∧ (lnK p k).2.1 < p ∧ (lnK p k).2.2.1 < p ∧ (lnK p k).2.2.2 < p := by
        obtain ⟨h | h | h, hd⟩ := hln <;> omega
      refine s_vanishes hpp st3.2.1 ab4.1 ab4.2.1 ab4.2.2.1 ab4.2.2.2 lf3 st3.2.2.2 (fun x y z => vF_lt (by omega)) (fun hv => ⟨fun _ => ?_, fun q => absurd q (by decide)⟩) (fun nv => ⟨fun q => absurd rfl q, fun _ => ih (k + 1) R3 F (by omega) st3 w3 b ne ⟨F, ro, Or.inr ⟨nv, rfl⟩⟩⟩)
      have inner : ∀ (g : Nat) (R4 : RS) (F4 : N3) (n : Nat), FcS R R4 p s L → Lf R4 (lnK p k).1 (lnK p k).2.1 (lnK p k).2.2.1 (lnK p k).2.2.2 → Wh R4 17 F4 → Bd p F4 → (∃ x y z, F4 x y z ≠ 0) → (∀ e u v, g ≤ e → twN (led (lnK p k).1 (lnK p k).2.1) F4 e u v = 0) → Al (p : Int) (nz3 F) (lmn (lv (lnK p k).1 (lnK p k).2.1 (lnK p k).2.2.1 (lnK p k).2.2.2) n (nz3 F4)) → wl_rest_43 (wl_rest_18 K (m + 1)) K (g + 2) (ι t) (ι (lns p)) (ι k) (ι 1) R4 := by
        intro g
        induction g with
        | zero =>
          intro R4 F4 n _ _ _ _ ne4 dg _
          obtain ⟨x, y, z, q⟩ := ne4
          exfalso
          refine q ?_
          have e : F4 x y z = utN (led (lnK p k).1 (lnK p k).2.1) (twN (led (lnK p k).1 (lnK p k).2.1) F4) x y z := by
            unfold twN utN
            rcases tw_c (l := led (lnK p k).1 (lnK p k).2.1) with h | h | h
            · simp [h]
            · simp [h]
            · simp [h.1, h.2]
          rw [e]
          unfold utN
          split
          · exact dg _ _ _ (Nat.zero_le _)
          · split <;> exact dg _ _ _ (Nat.zero_le _)
        | succ g ihg =>
          intro R4 F4 n st4 lf4 w4 b4 ne4 dg al4
          show wb_rest_43 _ _ _ _ _ _ _ _
          unfold wb_rest_43
          refine ⟨fun q => absurd q (by decide), fun _ => ?_⟩
          refine s_divides hpp st4.2.1 hln lf4 w4 b4 (fun R5 F5 r5 w5 b5 al5 => ?_) (fun R5 r5 nd => ?_)
          · refine ihg R5 F5 (n + 1) (st4.go hw (r5.mo (by decide) (by decide))) ⟨by rw [r5.2 22 (by simp)]; exact lf4.1, by rw [r5.2 23 (by simp)]; exact lf4.2.1, by rw [r5.2 24 (by simp)]; exact lf4.2.2.1, by rw [r5.2 25 (by simp)]; exact lf4.2.2.2⟩ w5 b5 (left_ne hpp hln b4 b5 ne4 al5) (fun e u v he => left_dg (m := g) hpp hln b5 (fun e u v hh => dg e u v (by omega)) al5 e u v he) ?_
            have := al4.tr (al5.lmn (L := lv (lnK p k).1 (lnK p k).2.1 (lnK p k).2.2.1 (lnK p k).2.2.2) n)
            rw [← lmn_com] at this
            exact this
          · show wb_rest_43 _ _ _ _ _ _ _ _
            unfold wb_rest_43
            refine ⟨fun _ => ?_, fun q => absurd rfl q⟩
            rw [one, ι_add]
            exact ih (k + 1) R5 F4 (by omega) (st4.go hw (r5.mo (by decide) (by decide))) (fun x y z hx hy hz => by rw [r5.1 17 (by omega) (by simp)]; exact w4 x y z hx hy hz) b4 ne4 ⟨F, ro, Or.inl ⟨hv, n, al4, nd⟩⟩
      exact ⟨41 + 2, inner 41 R3 F 0 st3 lf3 w3 b ne (fun e u v he => (b.tw (l := led (lnK p k).1 (lnK p k).2.1) e u v).2 (by omega)) Al.rf⟩
  exact key (lns p) 0 R2 (cf L) (by omega) st2 w2 (cf_bd hpp hw) (cf_nn hw hL) rfl
end RST
