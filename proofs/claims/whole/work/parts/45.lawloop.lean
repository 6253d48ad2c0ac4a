/-! The law's loop. -/
def wqs (M : Nat × Nat) (x : Nat) (c y1 y2 y3 y4 y5 : Int32) (S : HS) (R : RS) (v0 : Int64) (K : HS → RS → Prop) : Prop := (c = 0 → wq_0 M x y1 S R K) ∧ (c = 1 → wq_1 M x y1 y2 y3 y4 y5 S R K) ∧ (c = 2 → wq_2 M x y1 y2 S R v0 K) ∧ (c = 3 → wq_3 M x  S R K) ∧ (c = 4 → wq_4 M x y1 S R v0 K) ∧ (c = 5 → wq_5 M x y1 y2 S R v0 K) ∧ (c = 6 → wq_6 M x y1 y2 y3 y4 y5 S R v0 K) ∧ (c = 7 → wq_7 M x y1 y2 y3 y4 S R K) ∧ (c = 8 → wq_8 M x y1 y2 y3 y4 S R K) ∧ (c = 9 → wq_9 M x y1 S R v0 K) ∧ (c = 10 → wq_10 M x  S R K) ∧ (c = 11 → wq_11 M x y1 y2 S R v0 K) ∧ (c = 12 → wq_12 M x y1 y2 y3 y4 S R v0 K) ∧ (c = 13 → wq_13 M x y1 y2 y3 y4 S R v0 K) ∧ (c = 14 → wq_14 M x y1 y2 y3 y4 S R v0 K) ∧ (c = 15 → wq_15 M x y1 y2 y3 S R v0 K) ∧ (c = 16 → wq_16 M x y1 y2 S R v0 K) ∧ (c = 17 → wq_17 M x y1 y2 y3 S R v0 K) ∧ (c = 18 → wq_18 M x y1 y2 y3 y4 y5 S R v0 K) ∧ (c = 19 → wq_19 M x y1 S R v0 K) ∧ (c = 20 → wq_20 M x y1 S R K) ∧ ((∀ j : Int32, 0 ≤ j → j ≤ 20 → ¬ c = j) → K S R)
theorem vpn {j Ln : Nat} (h : j < Ln) (hL : Ln ≤ 3072) : vp_in (Int32.ofNat j) Ln ∧ (Int32.ofNat j).toNatClampNeg = j := by
  have e : (Int32.ofNat j).toNatClampNeg = j := Int32.toNatClampNeg_ofNat_of_lt (by omega)
  refine ⟨?_, e⟩
  intro q
  rcases q with q | q
  · rw [Int32.lt_iff_toInt_lt, Int32.toInt_ofNat_of_lt (by omega)] at q
    have : (0 : Int32).toInt = 0 := rfl
    omega
  · omega
theorem at6_of {Ln n : Nat} {xs : Nat → Int32} (hL : Ln ≤ 3072) (h : 6 * n + 6 ≤ Ln) : At6 Ln xs (Int32.ofNat (6 * n)) (xs (6 * n)) (xs (6 * n + 1)) (xs (6 * n + 2)) (xs (6 * n + 3)) (xs (6 * n + 4)) (xs (6 * n + 5)) := by
  have f : ∀ k : Nat, k < 6 → vp_in (Int32.ofNat (6 * n) + Int32.ofNat k) Ln ∧ xs (Int32.ofNat (6 * n) + Int32.ofNat k).toNatClampNeg = xs (6 * n + k) := by
    intro k hk
    rw [← Int32.ofNat_add]
    obtain ⟨a, b⟩ := vpn (j := 6 * n + k) (by omega) hL
    exact ⟨a, by rw [b]⟩
  refine ⟨?_, f 1 (by omega), f 2 (by omega), f 3 (by omega), f 4 (by omega), f 5 (by omega)⟩
  obtain ⟨a, b⟩ := vpn (j := 6 * n) (Ln := Ln) (by omega) hL
  exact ⟨a, by rw [b]⟩
theorem law_lt {Ln n : Nat} (hL : Ln ≤ 3072) (hn : n ≤ 512) : ¬ (Int32.ofNat Ln - 6 < Int32.ofNat (6 * n)) → 6 * n + 6 ≤ Ln := by
  intro h
  rw [Int32.lt_iff_toInt_lt, Int32.toInt_sub, Int32.toInt_ofNat_of_lt (by omega), Int32.toInt_ofNat_of_lt (by omega), show (6 : Int32).toInt = 6 from rfl, Int.bmod_eq_of_le (by omega) (by omega)] at h
  omega
theorem and31 (y : Int32) : ¬ (y &&& 31).toInt < 0 ∧ (y &&& 31).toInt < 32 := by
  have h : (y &&& 31).toBitVec.toNat ≤ 31 := by
    rw [Int32.toBitVec_and, BitVec.toNat_and]
    exact Nat.and_le_right
  have e : (y &&& 31).toInt = ((y &&& 31).toBitVec.toNat : Int) := BitVec.toInt_eq_toNat_of_lt (by omega)
  omega
theorem toInt_lit {c : Int32} {k : Nat} (h : c.toInt = (k : Int)) : c = Int32.ofNat k := by
  have h2 := Int32.ofInt_toInt c
  rw [h] at h2
  rw [← h2]
  rfl
set_option maxHeartbeats 4000000 in
set_option maxRecDepth 100000 in
theorem law_sw {G : CG} {GR : RG} {cJ : ClassId} {o x b Ln : Nat} {xs : Nat → Int32} {S : HS} {R : RS} {v0 : Int64} {X : Fx} {i y0 y1 y2 y3 y4 y5 c : Int32} {KL : HS → RS → Prop} (hc : Cx X RL cL_law 7) (hr : Cw G GR cJ o X) (hs : Sx X b Ln xs) (h6 : At6 Ln xs i y0 y1 y2 y3 y4 y5) (hc0 : ¬ c.toInt < 0) (hw : wqs (gC G, gS G) x c y1 y2 y3 y4 y5 S R v0 KL) (kk : ∀ (S' : HS) (R' : RS) (v : Int64), KL S' R' → ML G GR cJ o X 7 S' R' v 1534 [(4, .int i), (3, .ref o), (2, .ref GR.2.2.1), (1, .ref x), (0, .ref b)] []) : ML G GR cJ o X 7 S R v0 40 [(4, .int i), (3, .ref o), (2, .ref GR.2.2.1), (1, .ref x), (0, .ref b)] [.int c] := by
  unfold wqs at hw
  by_cases hb : 20 < c.toInt
  · refine m_tout hc 1534 dL_law_40 (Or.inr hb) rfl ?_
    refine kk S R v0 (hw.2.2.2.2.2.2.2.2.2.2.2.2.2.2.2.2.2.2.2.2.2 (fun j h1 h2 e => ?_))
    subst e
    rw [Int32.le_iff_toInt_le] at h2
    have : (20 : Int32).toInt = 20 := rfl
    omega
  · obtain ⟨k, hk⟩ : ∃ k : Nat, c.toInt = (k : Int) := ⟨c.toInt.toNat, by omega⟩
    have hk20 : k ≤ 20 := by omega
    match k, hk with
    | 0, e => exact m_tin hc 140 dL_law_40 (by rw [e]; decide) (by rw [e]; decide) (by rw [e]; rfl) rfl (lc_0 hc hr hs h6 (hw.1 (toInt_lit e)) kk)
    | 1, e => exact m_tin hc 165 dL_law_40 (by rw [e]; decide) (by rw [e]; decide) (by rw [e]; rfl) rfl (lc_1 hc hr hs h6 (hw.2.1 (toInt_lit e)) kk)
    | 2, e => exact m_tin hc 238 dL_law_40 (by rw [e]; decide) (by rw [e]; decide) (by rw [e]; rfl) rfl (lc_2 hc hr hs h6 (hw.2.2.1 (toInt_lit e)) kk)
    | 3, e => exact m_tin hc 306 dL_law_40 (by rw [e]; decide) (by rw [e]; decide) (by rw [e]; rfl) rfl (lc_3 hc hr hs h6 (hw.2.2.2.1 (toInt_lit e)) kk)
    | 4, e => exact m_tin hc 319 dL_law_40 (by rw [e]; decide) (by rw [e]; decide) (by rw [e]; rfl) rfl (lc_4 hc hr hs h6 (hw.2.2.2.2.1 (toInt_lit e)) kk)
    | 5, e => exact m_tin hc 375 dL_law_40 (by rw [e]; decide) (by rw [e]; decide) (by rw [e]; rfl) rfl (lc_5 hc hr hs h6 (hw.2.2.2.2.2.1 (toInt_lit e)) kk)
    | 6, e => exact m_tin hc 443 dL_law_40 (by rw [e]; decide) (by rw [e]; decide) (by rw [e]; rfl) rfl (lc_6 hc hr hs h6 (hw.2.2.2.2.2.2.1 (toInt_lit e)) kk)
    | 7, e => exact m_tin hc 563 dL_law_40 (by rw [e]; decide) (by rw [e]; decide) (by rw [e]; rfl) rfl (lc_7 hc hr hs h6 (hw.2.2.2.2.2.2.2.1 (toInt_lit e)) kk)
    | 8, e => exact m_tin hc 624 dL_law_40 (by rw [e]; decide) (by rw [e]; decide) (by rw [e]; rfl) rfl (lc_8 hc hr hs h6 (hw.2.2.2.2.2.2.2.2.1 (toInt_lit e)) kk)
    | 9, e => exact m_tin hc 685 dL_law_40 (by rw [e]; decide) (by rw [e]; decide) (by rw [e]; rfl) rfl (lc_9 hc hr hs h6 (hw.2.2.2.2.2.2.2.2.2.1 (toInt_lit e)) kk)
    | 10, e => exact m_tin hc 741 dL_law_40 (by rw [e]; decide) (by rw [e]; decide) (by rw [e]; rfl) rfl (lc_10 hc hr hs h6 (hw.2.2.2.2.2.2.2.2.2.2.1 (toInt_lit e)) kk)
    | 11, e => exact m_tin hc 754 dL_law_40 (by rw [e]; decide) (by rw [e]; decide) (by rw [e]; rfl) rfl (lc_11 hc hr hs h6 (hw.2.2.2.2.2.2.2.2.2.2.2.1 (toInt_lit e)) kk)
    | 12, e => exact m_tin hc 822 dL_law_40 (by rw [e]; decide) (by rw [e]; decide) (by rw [e]; rfl) rfl (lc_12 hc hr hs h6 (hw.2.2.2.2.2.2.2.2.2.2.2.2.1 (toInt_lit e)) kk)
    | 13, e => exact m_tin hc 914 dL_law_40 (by rw [e]; decide) (by rw [e]; decide) (by rw [e]; rfl) rfl (lc_13 hc hr hs h6 (hw.2.2.2.2.2.2.2.2.2.2.2.2.2.1 (toInt_lit e)) kk)
    | 14, e => exact m_tin hc 1006 dL_law_40 (by rw [e]; decide) (by rw [e]; decide) (by rw [e]; rfl) rfl (lc_14 hc hr hs h6 (hw.2.2.2.2.2.2.2.2.2.2.2.2.2.2.1 (toInt_lit e)) kk)
    | 15, e => exact m_tin hc 1098 dL_law_40 (by rw [e]; decide) (by rw [e]; decide) (by rw [e]; rfl) rfl (lc_15 hc hr hs h6 (hw.2.2.2.2.2.2.2.2.2.2.2.2.2.2.2.1 (toInt_lit e)) kk)
    | 16, e => exact m_tin hc 1201 dL_law_40 (by rw [e]; decide) (by rw [e]; decide) (by rw [e]; rfl) rfl (lc_16 hc hr hs h6 (hw.2.2.2.2.2.2.2.2.2.2.2.2.2.2.2.2.1 (toInt_lit e)) kk)
    | 17, e => exact m_tin hc 1269 dL_law_40 (by rw [e]; decide) (by rw [e]; decide) (by rw [e]; rfl) rfl (lc_17 hc hr hs h6 (hw.2.2.2.2.2.2.2.2.2.2.2.2.2.2.2.2.2.1 (toInt_lit e)) kk)
    | 18, e => exact m_tin hc 1349 dL_law_40 (by rw [e]; decide) (by rw [e]; decide) (by rw [e]; rfl) rfl (lc_18 hc hr hs h6 (hw.2.2.2.2.2.2.2.2.2.2.2.2.2.2.2.2.2.2.1 (toInt_lit e)) kk)
    | 19, e => exact m_tin hc 1453 dL_law_40 (by rw [e]; decide) (by rw [e]; decide) (by rw [e]; rfl) rfl (lc_19 hc hr hs h6 (hw.2.2.2.2.2.2.2.2.2.2.2.2.2.2.2.2.2.2.2.1 (toInt_lit e)) kk)
    | 20, e => exact m_tin hc 1509 dL_law_40 (by rw [e]; decide) (by rw [e]; decide) (by rw [e]; rfl) rfl (lc_20 hc hr hs h6 (hw.2.2.2.2.2.2.2.2.2.2.2.2.2.2.2.2.2.2.2.2.1 (toInt_lit e)) kk)
    | k + 21, e => omega
set_option maxHeartbeats 4000000 in
set_option maxRecDepth 100000 in
theorem law_loop {G : CG} {GR : RG} {cJ : ClassId} {o x b Ln : Nat} {xs : Nat → Int32} {X : Fx} {Inv : Nat → HS → RS → Prop} (hc : Cx X RL cL_law 7) (hr : Cw G GR cJ o X) (hs : Sx X b Ln xs) (hL : Ln ≤ 3072) (step : ∀ (n : Nat) (S : HS) (R : RS) (v y0 : Int32) (w : Int64) (y1 y2 y3 y4 y5 : Int32), n < 512 → Inv n S R → wqs (gC G, gS G) x (y0 &&& 31) y1 y2 y3 y4 y5 S R w (Inv (n + 1))) : ∀ (f n : Nat) (S : HS) (R : RS) (v : Int64), f + n = 512 → Inv n S R → ML G GR cJ o X 7 S R v 23 [(4, .int (Int32.ofNat (6 * n))), (3, .ref o), (2, .ref GR.2.2.1), (1, .ref x), (0, .ref b)] [] := by
  intro f
  induction f with
  | zero => 
    intro n S R v hf hi
    obtain rfl : n = 512 := by omega
    refine m_iload hc 0 dL_law_23 rfl ?_
    refine m_aload_n hc 4 dL_law_25 rfl rfl ?_
    refine w_slen hc hs dL_law_26 ?_
    refine m_bipush hc 6 dL_law_27 (by decide) ?_
    refine m_isub hc dL_law_29 ?_
    refine m_icmp_gt hc 1540 dL_law_30 rfl (fun _ => ?_) (fun h => ?_)
    · refine m_iconst hc 1 dL_law_1540 (by decide) ?_
      exact w_ret hc hr hs dL_law_1541
    · have := law_lt hL (Nat.le_refl 512) h
      omega
  | succ f ih =>
    intro n S R v hf hi
    refine m_iload hc 0 dL_law_23 rfl ?_
    refine m_aload_n hc 4 dL_law_25 rfl rfl ?_
    refine w_slen hc hs dL_law_26 ?_
    refine m_bipush hc 6 dL_law_27 (by decide) ?_
    refine m_isub hc dL_law_29 ?_
    refine m_icmp_gt hc 1540 dL_law_30 rfl (fun _ => ?_) (fun h => ?_)
    · refine m_iconst hc 1 dL_law_1540 (by decide) ?_
      exact w_ret hc hr hs dL_law_1541
    · have h6 := at6_of (xs := xs) hL (law_lt hL (by omega) h)
      refine m_aload_n hc 4 dL_law_33 rfl rfl ?_
      refine m_iload hc 0 dL_law_34 rfl ?_
      refine w_sld hc hs h6.1 dL_law_36 ?_
      refine m_bipush hc 31 dL_law_37 (by decide) ?_
      refine m_iand hc dL_law_39 ?_
      refine law_sw hc hr hs h6 (and31 _).1 (step n S R 0 (xs (6 * n)) v _ _ _ _ _ (by omega) hi) (fun S' R' v' hi' => ?_)
      refine m_iinc hc 0 (Int32.ofNat (6 * (n + 1))) [(4, .int (Int32.ofNat (6 * (n + 1)))), (3, .ref o), (2, .ref GR.2.2.1), (1, .ref x), (0, .ref b)] dL_law_1534 rfl ?_ (Nat.le_of_ble_eq_true rfl) rfl ?_
      · rw [show 6 * (n + 1) = 6 * n + 6 by omega, Int32.ofNat_add]
        rfl
      · refine m_goto hc 23 dL_law_1537 rfl ?_
        exact ih (n + 1) S' R' v' (by omega) hi'
