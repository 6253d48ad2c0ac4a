/-! Lines taken out one after another: what is left, how often each went in. -/
abbrev lk (p k : Nat) : Lv := lv (lnK p k).1 (lnK p k).2.1 (lnK p k).2.2.1 (lnK p k).2.2.2
section RKL
variable {p k j n : Nat} {L : Po} {F F0 F1 : N3}
theorem lnK_1 {b c d : Nat} (hb : b < p) (hc : c < p) (hd : d < p) : lnK p ((b * p + c) * p + d) = (1, b, c, d) := by
  have i := idx_x (x := b) hc hd
  have l := idx_lt hb hc hd
  unfold lnK
  rw [if_pos l, ← Nat.div_div_eq_div_mul, i.1, i.2.1, i.2.2]
theorem lnK_2 {c d : Nat} (hc : c < p) (hd : d < p) : lnK p (p * p * p + (c * p + d)) = (0, 1, c, d) := by
  have i := two_dm (a := c) hd
  have l := two_lt hc hd
  unfold lnK
  rw [if_neg (by omega), if_pos (by omega), Nat.add_sub_cancel_left, i.1, i.2]
theorem lnK_3 {d : Nat} (hd : d < p) : lnK p (p * p * p + p * p + d) = (0, 0, 1, d) := by
  unfold lnK
  rw [if_neg (by omega), if_neg (by omega), show p * p * p + p * p + d - p * p * p - p * p = d by omega]
/-- a line's number -/
def nmL (p a b c d : Nat) : Nat := if a = 1 then (b * p + c) * p + d else if b = 1 then p * p * p + (c * p + d) else p * p * p + p * p + d
theorem lnK_nm (hp : 2 ≤ p) (hk : k < lns p) : nmL p (lnK p k).1 (lnK p k).2.1 (lnK p k).2.2.1 (lnK p k).2.2.2 = k := by
  have hk : k < p * p * p + p * p + p := hk
  unfold lnK
  split
  · rename_i g
    show (k / (p * p) * p + k / p % p) * p + k % p = k
    have i := idx_i (p := p) (by omega) g
    rw [← Nat.div_div_eq_div_mul]
    exact i.1
  · split
    · rename_i g1 g2
      show p * p * p + ((k - p * p * p) / p * p + (k - p * p * p) % p) = k
      have := Nat.div_add_mod (k - p * p * p) p
      rw [Nat.mul_comm] at this
      omega
    · show p * p * p + p * p + (k - p * p * p - p * p) = k
      omega
theorem lk_ap (hpp : PrP p) (hj : j < lns p) (hk : k < lns p) (ne : j ≠ k) : Ap (p : Int) (lk p j) (lk p k) := by
  have hp := hpp.le
  refine (lnK_ln (by omega) hj).ap hpp.pq (by omega) (lnK_ln (by omega) hk) (fun w => ne ?_)
  have e1 := lnK_nm (p := p) (by omega) hj
  have e2 := lnK_nm (p := p) (by omega) hk
  rw [w.1, w.2.1, w.2.2.1, w.2.2.2, e2] at e1
  exact e1.symm
theorem lk_nz (hpp : PrP p) (hk : k < lns p) : Nz (p : Int) (lk p k) := (lnK_ln (by have := hpp.le; omega) hk).nz (by have := hpp.le; omega)
/-- what is left has its Box, and counts as L does for later lines -/
theorem RoK.cn (hpp : PrP p) : ∀ k F, k ≤ j → j < lns p → RoK p L k F → (∃ N, Su (p : Int) N (nz3 F)) → ∀ n, Cn (p : Int) (lk p j) n (nz3 F) ↔ Cn (p : Int) (lk p j) n (nz3 (cf L)) := by
  intro k
  induction k with
  | zero => intro F _ _ h _ n; rw [show F = cf L from h]
  | succ k ih =>
    intro F hk hj h hs n
    obtain ⟨F0, h0, hh⟩ := h
    rcases hh with ⟨-, m, al, -⟩ | ⟨-, e⟩
    · obtain ⟨N, hN⟩ := hs
      have s0 : Su (p : Int) (N + m) (nz3 F0) := (hN.lmn (L := lk p k) m).al al.sy
      rw [← ih F0 (by omega) hj h0 ⟨_, s0⟩ n, ← Cn.apn (L := lk p j) (L' := lk p k) hpp.pq (lk_nz hpp hj) (lk_ap hpp hj (by omega) (by omega)) hN m]
      exact ⟨fun w => w.al al.sy, fun w => w.al al⟩
    · rw [e] at hs ⊢
      exact ih F0 (by omega) hj h0 hs n
theorem RoK.nd (hpp : PrP p) (hk : k < lns p) (hw : wf p L) (h : RoK p L k F) (hF : Bd p F) (nd : ¬ Dv (p : Int) (lk p k) (nz3 (cf L))) : ¬ Dv (p : Int) (lk p k) (nz3 F) := fun w => by
  have := (h.cn hpp k F (Nat.le_refl _) hk ⟨_, hF.su⟩ 0).mpr (Cn.no (cf_bd hpp hw).su nd)
  exact this.2 w
theorem RoK.take (hpp : PrP p) (hk : k < lns p) (h : RoK p L k F0) (hF0 : Bd p F0) (hF : Bd p F) (vn : van p (lnK p k).1 (lnK p k).2.1 (lnK p k).2.2.1 (lnK p k).2.2.2 (vF p L)) (al : Al (p : Int) (nz3 F0) (lmn (lk p k) n (nz3 F))) (nd : ¬ Dv (p : Int) (lk p k) (nz3 F)) (hn : n ≤ 40) : RoK p L (k + 1) F ∧ mk3 p L k = n := by
  refine ⟨⟨F0, h, Or.inl ⟨vn, n, al, nd⟩⟩, Mlt.eq ⟨hn, fun _ => ?_, fun w => absurd vn w⟩⟩
  rw [← h.cn hpp k F0 (Nat.le_refl _) hk ⟨_, hF0.su⟩ n]
  have := (Cn.lmk hpp.pq (lk_nz hpp hk) hF.su (k := 0) n).mpr (Cn.no hF.su nd)
  rw [Nat.zero_add] at this
  exact this.al al.sy
theorem RoK.skip (hpp : PrP p) (hk : k < lns p) (h : RoK p L k F) (hF : Bd p F) (nd : ¬ Dv (p : Int) (lk p k) (nz3 F)) : RoK p L (k + 1) F ∧ mk3 p L k = 0 := by
  refine ⟨⟨F, h, ?_⟩, Mlt.eq ⟨by omega, fun _ => ?_, fun _ => rfl⟩⟩
  · by_cases vn : van p (lnK p k).1 (lnK p k).2.1 (lnK p k).2.2.1 (lnK p k).2.2.2 (vF p L)
    · exact Or.inl ⟨vn, 0, Al.rf, nd⟩
    · exact Or.inr ⟨vn, rfl⟩
  · exact (h.cn hpp k F (Nat.le_refl _) hk ⟨_, hF.su⟩ 0).mp (Cn.no hF.su nd)
/-- what is left is one alone -/
theorem RoK.un (hpp : PrP p) : ∀ k F F', k ≤ lns p → RoK p L k F → RoK p L k F' → (∃ N, Su (p : Int) N (nz3 F)) → (∃ N, Su (p : Int) N (nz3 F')) → Al (p : Int) (nz3 F) (nz3 F') := by
  intro k
  induction k with
  | zero => intro F F' _ h h' _ _; rw [show F = cf L from h, show F' = cf L from h']; exact Al.rf
  | succ k ih =>
    intro F F' hk h h' hs hs'
    obtain ⟨F0, r0, hh⟩ := h
    obtain ⟨F1, r1, hh'⟩ := h'
    rcases hh with ⟨v, m, al, nd⟩ | ⟨v, e⟩
    · rcases hh' with ⟨v', m', al', nd'⟩ | ⟨v', e'⟩
      · obtain ⟨N, hN⟩ := hs
        obtain ⟨N', hN'⟩ := hs'
        have s0 : Su (p : Int) (N + m) (nz3 F0) := (hN.lmn (L := lk p k) m).al al.sy
        have s1 : Su (p : Int) (N' + m') (nz3 F1) := (hN'.lmn (L := lk p k) m').al al'.sy
        have a01 := ih F0 F1 (by omega) r0 r1 ⟨_, s0⟩ ⟨_, s1⟩
        have c0 := (Cn.lmk hpp.pq (lk_nz hpp (by omega)) hN (k := 0) m).mpr (Cn.no hN nd)
        have c1 := (Cn.lmk hpp.pq (lk_nz hpp (by omega)) hN' (k := 0) m').mpr (Cn.no hN' nd')
        have em : 0 + m = 0 + m' := (c0.al ((al.sy.tr a01).tr al')).un c1
        have em : m = m' := by omega
        subst em
        have big := (al.sy.tr a01).tr al'
        -- the lines go away
        have can : ∀ m, Al (p : Int) (lmn (lk p k) m (nz3 F)) (lmn (lk p k) m (nz3 F')) → Al (p : Int) (nz3 F) (nz3 F') := by
          intro m
          induction m with
          | zero => intro h; exact h
          | succ m ihm =>
            intro h
            exact ihm (lm_can (N := N + N' + m) hpp.pq (lk_nz hpp (by omega)) ((hN.lmn m).mo (by omega)) ((hN'.lmn m).mo (by omega)) h)
        exact can m big
      · exact absurd v v'
    · rcases hh' with ⟨v', m', al', nd'⟩ | ⟨v', e'⟩
      · exact absurd v' v
      · rw [e] at hs ⊢
        rw [e'] at hs' ⊢
        exact ih F0 F1 (by omega) r0 r1 hs hs'
theorem RoK.eq (hpp : PrP p) (h : RoK p L (lns p) F) (h' : RoK p L (lns p) F1) (hF : Bd p F) (hF' : Bd p F1) : F = F1 := by
  funext x y z
  have := RoK.un hpp _ F F1 (Nat.le_refl _) h h' ⟨_, hF.su⟩ ⟨_, hF'.su⟩ x y z
  refine lt_dv2 (p := p) (hF x y z).1 (hF' x y z).1 ?_
  rw [show (F x y z : Int) + -1 * (F1 x y z : Int) = (F x y z : Int) - (F1 x y z : Int) by omega]
  exact this
/-- the lines that go in, one by one -/
theorem flS_s0 (h : mk3 p L k = 0) : flS p L (k + 1) = flS p L k := by
  unfold flS
  rw [List.range_succ, List.filter_append]
  simp [h]
theorem flS_s1 (h : mk3 p L k ≠ 0) : flS p L (k + 1) = flS p L k ++ [k] := by
  unfold flS
  rw [List.range_succ, List.filter_append]
  simp [h]
theorem fl_g1 {A : List Nat} {k i : Nat} (hi : i < A.length) : (A ++ [k]).getD i 0 = A.getD i 0 := by
  rw [List.getD_eq_getElem?_getD, List.getD_eq_getElem?_getD, List.getElem?_append_left hi]
theorem fl_g2 {A : List Nat} {k : Nat} : (A ++ [k]).getD A.length 0 = k := by simp [List.getD]
theorem fcN_0 : fcN p L 0 = (flS p L (lns p)).length := by
  unfold fcN
  generalize lns p = m
  induction m with
  | zero => rfl
  | succ m ih =>
    rw [sumTo, ih]
    by_cases h : mk3 p L m = 0
    · rw [flS_s0 h, h]; rfl
    · rw [flS_s1 h, List.length_append, if_pos rfl]
      show _ + min 1 (mk3 p L m) = _ + 1
      omega
theorem fcN_1 : fcN p L 1 = sumTo (flS p L (lns p)).length (fun i => mk3 p L ((flS p L (lns p)).getD i 0)) := by
  unfold fcN
  generalize lns p = m
  induction m with
  | zero => rfl
  | succ m ih =>
    rw [sumTo, ih]
    by_cases h : mk3 p L m = 0
    · rw [flS_s0 h, h]; rfl
    · rw [flS_s1 h, List.length_append, List.length_singleton, sumTo, fl_g2]
      congr 1
      exact sumTo_congr (fun i hi => by rw [fl_g1 hi])
theorem fck_eq : ∀ n k left, fck p L n k left = ((List.range' k n).filter (fun j => decide (mk3 p L j ≠ 0)))[left]? := by
  intro n
  induction n with
  | zero => intro k left; simp [fck]
  | succ n ih =>
    intro k left
    rw [fck, List.range'_succ]
    by_cases h : mk3 p L k = 0
    · rw [if_pos h, ih, List.filter_cons_of_neg (by simp [h])]
    · rw [if_neg h, List.filter_cons_of_pos (by simp [h])]
      by_cases hl : left = 0
      · rw [if_pos hl, hl]; rfl
      · rw [if_neg hl, ih]
        obtain ⟨l, rfl⟩ : ∃ l, left = l + 1 := ⟨left - 1, by omega⟩
        simp
theorem fck_fl {left : Nat} : fck p L (lns p) 0 left = (flS p L (lns p))[left]? := by
  rw [fck_eq]
  unfold flS
  rw [List.range_eq_range']
end RKL
/-! Lines tried one after another. -/
def Pts (S : HS) (q p : Nat) (L : Po) : Prop := hI S q 2 = ι p ∧ ∀ x y z, x < p → y < p → z < p → hI S (q + 1) ((x * p + y) * p + z) = ι (vF p L x y z)
/-- what was noted of the first k lines, and the values -/
def FR (h0 : Nat) (S : HS) (p : Nat) (L : Po) (k : Nat) (Lt : Po) : Prop := hI S (h0 + 25) 1 = ι (flS p L k).length ∧ (∀ i, i < (flS p L k).length → ∀ w, w ≤ 4 → hI S (h0 + 26) (5 * i + w) = ι (lnV p L ((flS p L k).getD i 0) w (mk3 p L ((flS p L k).getD i 0)))) ∧ Pts S (h0 + 33) p L ∧ Pts S (h0 + 36) p Lt
/-- the work on L when k lines were tried -/
def FI (h0 X0 S0 : Nat) (S S1 : HS) (p : Nat) (L : Po) (k X Y Z : Nat) (Lt : Po) (D : Nat → Nat) (F : N3) : Prop := FT h0 X0 S0 S S1 X Y Z ∧ FA h0 S1 p D X Y Z F ∧ RoK p L k F ∧ FR h0 S1 p L k Lt ∧ (flS p L k).length + (D 0 + D 1 + D 2) ≤ 120
section TRY
variable {M : Nat × Nat} {S S1 S2 : HS} {K : Int32 → HS → Prop} {h0 X0 S0 p k k0 X Y Z a b c d : Nat} {L Lt : Po} {D : Nat → Nat} {F : N3}
theorem FR.go (h : FR h0 S1 p L k Lt) (e : ∀ x, x = h0 + 25 ∨ x = h0 + 26 ∨ (h0 + 27 ≤ x ∧ x ≤ h0 + 38) → ∀ j, hI S2 x j = hI S1 x j) : FR h0 S2 p L k Lt := by
  obtain ⟨a1, a2, a3, a4⟩ := h
  exact ⟨by rw [e _ (by omega)]; exact a1, fun i hi w hw => by rw [e _ (by omega)]; exact a2 i hi w hw, ⟨by rw [e _ (by omega)]; exact a3.1, fun x y z hx hy hz => by rw [e _ (by omega)]; exact a3.2 x y z hx hy hz⟩, ⟨by rw [e _ (by omega)]; exact a4.1, fun x y z hx hy hz => by rw [e _ (by omega)]; exact a4.2 x y z hx hy hz⟩⟩
theorem FR.skip (h : FR h0 S1 p L k Lt) (m0 : mk3 p L k = 0) : FR h0 S1 p L (k + 1) Lt := by
  unfold FR
  rw [flS_s0 m0]
  exact h
theorem FA.go {W : Nat → Nat → Prop} (h : FA h0 S1 p D X Y Z F) (e : Ext S1 S2 W V0) (hw : ∀ b k, W b k → b = h0 + 46 ∨ (b = h0 + 25 ∧ k = 1) ∨ b = h0 + 26 ∨ (h0 + 30 ≤ b ∧ b ≤ h0 + 38)) (hx : hX S2 = hX S1) : FA h0 S2 p D X Y Z F := by
  obtain ⟨⟨a1, a2, a3, a4, a5, a6, a7⟩, bo, sp, ne⟩ := h
  have p9 := a3.1.2.2.1.2.2.2.2.1
  refine ⟨⟨a1.go a2 e (fun _ _ c => c), by omega, a3.go e (fun o ho => (e.2.2.1 _ (by omega)).2.2.2 0 (fun c => c)), ?_, fun v hv => ?_, a6, a7⟩, bo.go2 a3.1.2.2.1 (by omega) a2 e (fun c => c) (fun k => ⟨fun w => by have := hw _ _ w; omega, fun w => by have := hw _ _ w; omega, fun w => by have := hw _ _ w; omega⟩), sp, ne⟩
  · rw [(e.2.2.1 (h0 + 25) (by omega)).2.2.1 10 (fun w => by have := hw _ _ w; omega)]; exact a4
  · rw [(e.2.2.1 (h0 + 45) (by omega)).2.2.1 v (fun w => by have := hw _ _ w; omega)]; exact a5 v hv
theorem FI.skip (hpp : PrP p) (hk : k < lns p) (h : FI h0 X0 S0 S S1 p L k X Y Z Lt D F) (nd : ¬ Dv (p : Int) (lk p k) (nz3 F)) : FI h0 X0 S0 S S1 p L (k + 1) X Y Z Lt D F := by
  obtain ⟨a1, a2, a3, a4, a5⟩ := h
  obtain ⟨r, m0⟩ := a3.skip hpp hk a2.2.2.1.bd nd
  exact ⟨a1, a2, r, a4.skip m0, by rw [flS_s0 m0]; exact a5⟩
theorem FI.skipn (hpp : PrP p) (hk : k0 + p ≤ lns p) (h : FI h0 X0 S0 S S1 p L k0 X Y Z Lt D F) (nd : ∀ d, d < p → ¬ Dv (p : Int) (lk p (k0 + d)) (nz3 F)) : FI h0 X0 S0 S S1 p L (k0 + p) X Y Z Lt D F := by
  have : ∀ m, m ≤ p → FI h0 X0 S0 S S1 p L (k0 + m) X Y Z Lt D F := by
    intro m
    induction m with
    | zero => intro _; exact h
    | succ m ih => intro hm; exact (ih (by omega)).skip hpp (by show k0 + m < lns p; omega) (nd m (by omega))
  exact this p (Nat.le_refl _)
theorem FI.set (h60 : h0 + 60 ≤ hX S) (h : FI h0 X0 S0 S S1 p L k X Y Z Lt D F) (e : Ext S1 S2 (Wl (h0 + 46)) V0) (hx : hX S2 = hX S1) (hs : hS S2 = hS S1) : FI h0 X0 S0 S S2 p L k X Y Z Lt D F := by
  obtain ⟨a1, a2, a3, a4, a5⟩ := h
  have h61 := a2.1.2.1
  exact ⟨a1.scr h60 e (fun b k w => by unfold Wl at w; unfold Wy; omega) hx hs, a2.go e (fun b k w => by unfold Wl at w; omega) hx, a3, a4.go (fun x hx j => (e.2.2.1 x (by omega)).2.2.1 j (by unfold Wl; omega)), a5⟩
theorem qo46 (h : FA h0 S1 p D X Y Z F) : Qo h0 S1 (h0 + 46) := by
  have h61 := h.1.2.1
  have p9 := h.1.2.2.1.1.2.2.1.2.2.2.2.1
  have p2 := h.1.2.2.1.1.2.2.2.2.2.2.2.1
  exact ⟨by omega, Or.inl rfl, by omega, by omega⟩
def Wno (h0 b k : Nat) : Prop := (b = h0 + 25 ∧ k = 1) ∨ b = h0 + 26
theorem c_noteF {m : Nat} {x1 x2 x3 x4 x5 : Int32} (hL : Lay h0 S1) (hm : hI S1 (h0 + 25) 1 = ι m) (hm1 : m < 120) (h : ∀ S', Ext S1 S' (Wno h0) V0 → hX S' = hX S1 → hS S' = hS S1 → hI S' (h0 + 25) 1 = ι (m + 1) → (∀ j, j < 5 * m → hI S' (h0 + 26) j = hI S1 (h0 + 26) j) → hI S' (h0 + 26) (5 * m) = x1 → hI S' (h0 + 26) (5 * m + 1) = x2 → hI S' (h0 + 26) (5 * m + 2) = x3 → hI S' (h0 + 26) (5 * m + 3) = x4 → hI S' (h0 + 26) (5 * m + 4) = x5 → K 0 S') : wp_X2_note M (h0 + 25) x1 x2 x3 x4 x5 S1 K := by
  unfold wp_X2_note
  have n1 : ¬ h0 + 25 = h0 + 26 := by omega
  rw [hm, show (5 : Int32) = ι 5 from rfl, show (1 : Int32) = ι 1 from rfl, show (2 : Int32) = ι 2 from rfl, show (3 : Int32) = ι 3 from rfl, show (4 : Int32) = ι 4 from rfl, ι_mul, ι_add, ι_add, ι_add, ι_add, ι_cl (by omega), ι_cl (by omega), ι_cl (by omega), ι_cl (by omega), ι_cl (by omega)]
  have vin : ∀ j, j ≤ 4 → vp_in (ι (m * 5 + j)) 600 := fun j hj => ι_in (by omega) (by omega)
  have pr := hL.p25_0
  have tr := hL.t26
  have nr := hL.n26
  refine ⟨hL.t25, hL.t25, h0 + 26, pr, tr, by rw [nr]; exact vin 0 (by omega), hL.t25, h0 + 26, pr, tr, by rw [sI_N, nr]; exact vin 1 (by omega), hL.t25, h0 + 26, pr, tr, by rw [sI_N, sI_N, nr]; exact vin 2 (by omega), hL.t25, h0 + 26, pr, tr, by rw [sI_N, sI_N, sI_N, nr]; exact vin 3 (by omega), hL.t25, h0 + 26, pr, tr, by rw [sI_N, sI_N, sI_N, sI_N, nr]; exact vin 4 (by omega), hL.t25, hL.t25, ?_⟩
  have m5 : m * 5 = 5 * m := Nat.mul_comm _ _
  rw [m5]
  refine h _ ((((((((Ext.rf S1 (Wno h0) V0).sI (Or.inr rfl)).sI (Or.inr rfl)).sI (Or.inr rfl)).sI (Or.inr rfl)).sI (Or.inr rfl))).sI (Or.inl ⟨rfl, rfl⟩)) rfl rfl ?_ (fun j hj => ?_) ?_ ?_ ?_ ?_ ?_
  · rw [sI_eq, if_pos rfl, sI_ne n1, sI_ne n1, sI_ne n1, sI_ne n1, sI_ne n1, hm, ι_add]
  all_goals
    rw [sI_ne (fun e => n1 e.symm)]
    simp only [sI_eq]
  · rw [if_neg (by omega), if_neg (by omega), if_neg (by omega), if_neg (by omega), if_neg (by omega)]
  · rw [if_neg (by omega), if_neg (by omega), if_neg (by omega), if_neg (by omega), if_pos trivial]
  · rw [if_neg (by omega), if_neg (by omega), if_neg (by omega), if_pos trivial]
  · rw [if_neg (by omega), if_neg (by omega), if_pos trivial]
  · rw [if_neg (by omega), if_pos trivial]
  · rw [if_pos trivial]
/-- the sieve: the highest part -/
def HiP (p : Nat) (L Lt : Po) : Prop := wf p Lt ∧ ∃ d, 0 < d ∧ (∀ x y z, d < x + y + z → cf L x y z = 0) ∧ ∀ x y z, cf Lt x y z = if x + y + z = d then cf L x y z else 0
theorem pts_z {q : Nat} (hpp : PrP p) (h : Pts S1 q p L) : ∀ x y z, x < p → y < p → z < p → hI S1 (q + 1) ((x * p + y) * p + z) = ι (vF p L x y z) ∧ vF p L x y z < p := fun x y z hx hy hz => ⟨h.2 x y z hx hy hz, vF_lt (by omega)⟩
theorem c_tryLines (h60 : h0 + 60 ≤ hX S) (hpp : PrP p) (hw : wf p L) (hi : HiP p L Lt) (hk : k0 + p ≤ lns p) (hln : ∀ d, d < p → lnK p (k0 + d) = (a, b, c, d)) (fi : FI h0 X0 S0 S S1 p L k0 X Y Z Lt D F) (r1 : X0 + 2 ≤ M.1) (r2 : S0 + 2000000 ≤ M.2) (h : ∀ S2 D' F', FI h0 X0 S0 S S2 p L (k0 + p) X Y Z Lt D' F' → K 0 S2) : wp_X2_tryLines M (h0 + 25) (ι a) (ι b) (ι c) S1 K := by
  have hp := hpp.le
  have ln : ∀ d, d < p → Ln p a b c d := fun d hd => by
    have := lnK_ln (p := p) (k := k0 + d) (by omega) (by show k0 + d < lns p; omega)
    rw [hln d hd] at this
    exact this
  have lkd : ∀ d, d < p → lk p (k0 + d) = lv a b c d := fun d hd => by unfold lk; rw [hln d hd]
  have L1 := fi.2.1.1.1
  have hP9 := L1.p25_9
  unfold wp_X2_tryLines
  refine ⟨L1.t25, h0 + 46, L1.p25_9, L1.t46, ?_⟩
  rw [show (0 : Int32) = ι 0 from rfl]
  refine c_set (p := p) hp (ln 0 (by omega)) L1.t46 (fun S2 e2 x2 y2 hq2 => ?_)
  have fi2 := fi.set h60 e2 x2 y2
  obtain ⟨ft2, fa2, rk2, fr2, sz2⟩ := id fi2
  obtain ⟨L2, h62, b2, p2, D2, xyz, -⟩ := id fa2.1
  rw [← show (0 : Int32) = ι 0 from rfl]
  have rk2_nd : ∀ d, d < p → ¬ Dv (p : Int) (lk p (k0 + d)) (nz3 (cf L)) → ¬ Dv (p : Int) (lk p (k0 + d)) (nz3 F) := fun d hd nd w => by
    have := (rk2.cn hpp k0 F (j := k0 + d) (by omega) (by omega) ⟨_, fa2.2.2.1.bd.su⟩ 0).mpr (Cn.no (cf_bd hpp hw).su nd)
    exact this.2 w
  refine ⟨L2.t25, h0 + 46, L2.p25_9, L2.t25, c_canGoIn (by omega) (ln 0 (by omega)) hq2 L2.t25 L2.p25_8 L2.t45 L2.n45 (fun v hv => ⟨(D2 v hv).1, by have := (D2 v hv).2; have := dm_le (v := v) xyz; omega⟩) (fun cg => ⟨fun w => absurd w (by decide), fun _ => ?_⟩) (fun cg => ⟨fun _ => h S2 D F (fi2.skipn hpp hk (fun d hd => by rw [lkd d hd]; exact dv_cgo hpp (ln d hd) fa2.2.2.1 fa2.2.2.2 cg)), fun w => absurd rfl w⟩)⟩
  have pq36 := PtL.q36 L2 h62
  refine ⟨L2.t25, h0 + 36, L2.p25_5, L2.t25, h0 + 46, L2.p25_9, L2.t36, c_isZeroOn hpp (ln 0 (by omega)) hq2 pq36.1 pq36.2.1 pq36.2.2.2.1 pq36.2.2.2.2.2.1 fr2.2.2.2.1 (pts_z hpp fr2.2.2.2) (fun vn => ⟨fun _ => ?_, fun w => absurd w (by decide)⟩) (fun nv => ⟨fun w => absurd rfl w, fun _ => ?_⟩)⟩
  rotate_left
  · -- the sieve
    refine h S2 D F (fi2.skipn hpp hk (fun d hd => rk2_nd d hd ?_))
    intro dv
    apply nv
    obtain ⟨wt, g, g1, g2, g3⟩ := hi
    intro x y z hx hy hz on
    rw [lkd d hd] at dv
    exact hi_zero hpp (ln d hd) hw wt g1 g2 g3 dv on
  -- the lines of one direction
  have loop : ∀ r d S3 D3 F3, d + r = p → FI h0 X0 S0 S S3 p L (k0 + d) X Y Z Lt D3 F3 → wl_X2_tryLines_40 M K (r + 1) (h0 + 25) (ι a) (ι b) (ι c) (ι d) S3 := by
    intro r
    induction r with
    | zero =>
      intro d S3 D3 F3 hd fi3
      have e : d = p := by omega
      subst e
      show wb_X2_tryLines_40 _ _ _ _ _ _ _ _ _
      unfold wb_X2_tryLines_40
      rw [fi3.2.1.1.2.2.2.1]
      exact ⟨fi3.2.1.1.1.t25, fun _ => h S3 D3 F3 fi3, fun w => absurd (by rw [ι_le (by omega) (by omega)]; omega) w⟩
    | succ r ih =>
      intro d S3 D3 F3 hd fi3
      have hdp : d < p := by omega
      have L3 := fi3.2.1.1.1
      show wb_X2_tryLines_40 _ _ _ _ _ _ _ _ _
      unfold wb_X2_tryLines_40
      rw [fi3.2.1.1.2.2.2.1]
      refine ⟨L3.t25, fun w => absurd w (by rw [ι_le (by omega) (by omega)]; omega), fun _ => ⟨L3.t25, h0 + 46, L3.p25_9, L3.t46, c_set (p := p) hp (ln d hdp) L3.t46 (fun S4 e4 x4 y4 hq4 => ?_)⟩⟩
      have fi4 := fi3.set h60 e4 x4 y4
      obtain ⟨ft4, fa4, rk4, fr4, sz4⟩ := id fi4
      obtain ⟨L4, h64, -⟩ := id fa4.1
      have pq33 := PtL.q33 L4 h64
      have lt : k0 + d < lns p := by omega
      have one : (1 : Int32) = ι 1 := rfl
      refine ⟨L4.t25, h0 + 33, L4.p25_4, L4.t25, h0 + 46, L4.p25_9, L4.t33, c_isZeroOn hpp (ln d hdp) hq4 pq33.1 pq33.2.1 pq33.2.2.2.1 pq33.2.2.2.2.2.1 fr4.2.2.1.1 (pts_z hpp fr4.2.2.1) (fun vn => ⟨fun w => absurd w (by decide), fun _ => ?_⟩) (fun nv => ⟨fun _ => ?_, fun w => absurd rfl w⟩)⟩
      · -- it may go in
        refine ⟨L4.t25, h0 + 46, L4.p25_9, L4.t25, c_takeOut h60 ft4 fa4 (ln d hdp) hq4 (qo46 fa4) r1 r2 (fun n S5 D5 F5 hn ft5 fa5 hq5 hqo5 al nd sm kp => ?_)⟩
        rw [← lkd d hdp] at al nd
        have tk := rk4.take hpp lt fa4.2.2.1.bd fa5.2.2.1.bd (by rw [hln d hdp]; exact vn) al nd hn
        have fr5 : FR h0 S5 p L (k0 + d) Lt := fr4.go (fun x hx j => (kp x (by omega) j).1)
        have L5 := fa5.1.1
        unfold w_X2_tryLines_87
        rw [show (0 : Int32) = ι 0 from rfl, ι_le (by omega) (by omega), one, ι_add]
        refine ⟨fun z => ih (d + 1) S5 D5 F5 (by omega) ⟨ft5, fa5, tk.1, fr5.skip (by omega), ?_⟩, fun z => ⟨L5.t25, ?_⟩⟩
        · show (flS p L (k0 + d + 1)).length + _ ≤ 120
          rw [flS_s0 (by omega)]; omega
        · have szl : (flS p L (k0 + d)).length < 120 := by omega
          rw [fr5.1, show (120 : Int32) = ι 120 from rfl, ι_le (by omega) (by omega)]
          refine ⟨fun w => absurd w (by omega), fun _ => ⟨L5.t25, c_noteF L5 fr5.1 szl (fun S6 e6 x6 y6 n6 old o1 o2 o3 o4 o5 => ih (d + 1) S6 D5 F5 (by omega) ⟨ft5.scr h60 e6 (fun b k w => by unfold Wno at w; unfold Wy; omega) x6 y6, fa5.go e6 (fun b k w => by unfold Wno at w; omega) x6, tk.1, ?_, ?_⟩)⟩⟩
          · have fl : flS p L (k0 + d + 1) = flS p L (k0 + d) ++ [k0 + d] := flS_s1 (by omega)
            have ll : (flS p L (k0 + d) ++ [k0 + d]).length = (flS p L (k0 + d)).length + 1 := by rw [List.length_append]; rfl
            have h65 := fa5.1.2.1
            have kp6 : ∀ x, (h0 + 27 ≤ x ∧ x ≤ h0 + 38) → ∀ j, hI S6 x j = hI S5 x j := fun x hx j => (e6.2.2.1 x (by omega)).2.2.1 j (by unfold Wno; omega)
            obtain ⟨f1, f2, f3, f4⟩ := fr5
            show FR h0 S6 p L (k0 + d + 1) Lt
            unfold FR
            rw [fl, ll]
            refine ⟨n6, fun i hi w hw => ?_, ⟨by rw [kp6 _ (by omega)]; exact f3.1, fun x y z hx hy hz => by rw [kp6 _ (by omega)]; exact f3.2 x y z hx hy hz⟩, ⟨by rw [kp6 _ (by omega)]; exact f4.1, fun x y z hx hy hz => by rw [kp6 _ (by omega)]; exact f4.2 x y z hx hy hz⟩⟩
            by_cases g : i < (flS p L (k0 + d)).length
            · rw [fl_g1 g, old _ (by omega)]; exact f2 i g w hw
            · have ei : i = (flS p L (k0 + d)).length := by omega
              rw [ei, fl_g2, tk.2]
              unfold lnV
              rw [hln d hdp]
              have : w = 0 ∨ w = 1 ∨ w = 2 ∨ w = 3 ∨ w = 4 := by omega
              rcases this with rfl | rfl | rfl | rfl | rfl
              · exact o1
              · exact o2
              · exact o3
              · exact o4
              · exact o5
          · show (flS p L (k0 + d + 1)).length + _ ≤ 120
            rw [flS_s1 (by omega), List.length_append, List.length_singleton]; omega
      · -- a value that is not 0
        unfold w_X2_tryLines_87
        refine ⟨fun _ => ?_, fun w => absurd (by decide) w⟩
        rw [one, ι_add]
        have ndv : ¬ Dv (p : Int) (lk p (k0 + d)) (nz3 (cf L)) := fun dv => nv (by
          rw [lkd d hdp] at dv
          exact dv_van hpp hw dv)
        exact ih (d + 1) S4 D3 F3 (by omega) (fi4.skip hpp lt (rk4.nd hpp lt hw fa4.2.2.1.bd ndv))
  exact ⟨p + 1, loop p 0 S2 D F (by omega) fi2⟩
end TRY
