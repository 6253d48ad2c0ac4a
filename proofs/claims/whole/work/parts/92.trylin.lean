/-! Lines taken out one after another: what is left, how often each went in. -/
abbrev lk (p k : Nat) : Lv := lv (lnK p k).1 (lnK p k).2.1 (lnK p k).2.2.1 (lnK p k).2.2.2
section RKL
variable {p k j n : Nat} {L : Po} {F F0 F1 : N3}
theorem lnK_1 {b c d : Nat} (hb : b < p) (hc : c < p) (hd : d < p) : lnK p ((b * p + c) * p + d) = (1, b, c, d) := by
  have i := idx_x (x := b) hc hd
  have l := idx_lt hb hc hd
  unfold lnK
  rw [if_pos l, ← Nat.div_div_eq_div_mul, i.1, i.2.1, i.2.2]
theorem lnK_2 {c d : Nat} (hc : c < p) (hd : d < p) : lnK p (p * p * p + (c * p + d)) = (0, 1, c, d) := by
  have i := two_dm (a := c) hd
  have l := two_lt hc hd
  unfold lnK
  rw [if_neg (by omega), if_pos (by omega), Nat.add_sub_cancel_left, i.1, i.2]
theorem lnK_3 {d : Nat} (hd : d < p) : lnK p (p * p * p + p * p + d) = (0, 0, 1, d) := by
  unfold lnK
  rw [if_neg (by omega), if_neg (by omega), show p * p * p + p * p + d - p * p * p - p * p = d by omega]
/-- a line's number -/
def nmL (p a b c d : Nat) : Nat := if a = 1 then (b * p + c) * p + d else if b = 1 then p * p * p + (c * p + d) else p * p * p + p * p + d
theorem lnK_nm (hp : 2 ≤ p) (hk : k < lns p) : nmL p (lnK p k).1 (lnK p k).2.1 (lnK p k).2.2.1 (lnK p k).2.2.2 = k := by
  have hk : k < p * p * p + p * p + p := hk
  unfold lnK
  split
  · rename_i g
    show (k / (p * p) * p + k / p % p) * p + k % p = k
    have i := idx_i (p := p) (by omega) g
    rw [← Nat.div_div_eq_div_mul]
    exact i.1
  · split
    · rename_i g1 g2
      show p * p * p + ((k - p * p * p) / p * p + (k - p * p * p) % p) = k
      have := Nat.div_add_mod (k - p * p * p) p
      rw [Nat.mul_comm] at this
      omega
    · show p * p * p + p * p + (k - p * p * p - p * p) = k
      omega
theorem lk_ap (hpp : PrP p) (hj : j < lns p) (hk : k < lns p) (ne : j ≠ k) : Ap (p : Int) (lk p j) (lk p k) := by
  have hp := hpp.le
  refine (lnK_ln (by omega) hj).ap hpp.pq (by omega) (lnK_ln (by omega) hk) (fun w => ne ?_)
  have e1 := lnK_nm (p := p) (by omega) hj
  have e2 := lnK_nm (p := p) (by omega) hk
  rw [w.1, w.2.1, w.2.2.1, w.2.2.2, e2] at e1
  exact e1.symm
theorem lk_nz (hpp : PrP p) (hk : k < lns p) : Nz (p : Int) (lk p k) := (lnK_ln (by have := hpp.le; omega) hk).nz (by have := hpp.le; omega)
/-- what is left has its Box, and counts as L does for later lines -/
theorem RoK.cn (hpp : PrP p) : ∀ k F, k ≤ j → j < lns p → RoK p L k F → (∃ N, Su (p : Int) N (nz3 F)) → ∀ n, Cn (p : Int) (lk p j) n (nz3 F) ↔ Cn (p : Int) (lk p j) n (nz3 (cf L)) := by
  intro k
  induction k with
  | zero => intro F _ _ h _ n; rw [show F = cf L from h]
  | succ k ih =>
    intro F hk hj h hs n
    obtain ⟨F0, h0, hh⟩ := h
    rcases hh with ⟨-, m, al, -⟩ | ⟨-, e⟩
    · obtain ⟨N, hN⟩ := hs
      have s0 : Su (p : Int) (N + m) (nz3 F0) := (hN.lmn (L := lk p k) m).al al.sy
      rw [← ih F0 (by omega) hj h0 ⟨_, s0⟩ n, ← Cn.apn (L := lk p j) (L' := lk p k) hpp.pq (lk_nz hpp hj) (lk_ap hpp hj (by omega) (by omega)) hN m]
      exact ⟨fun w => w.al al.sy, fun w => w.al al⟩
    · rw [e] at hs ⊢
      exact ih F0 (by omega) hj h0 hs n
theorem RoK.nd (hpp : PrP p) (hk : k < lns p) (hw : wf p L) (h : RoK p L k F) (hF : Bd p F) (nd : ¬ Dv (p : Int) (lk p k) (nz3 (cf L))) : ¬ Dv (p : Int) (lk p k) (nz3 F) := fun w => by
  have := (h.cn hpp k F (Nat.le_refl _) hk ⟨_, hF.su⟩ 0).mpr (Cn.no (cf_bd hpp hw).su nd)
  exact this.2 w
theorem RoK.take (hpp : PrP p) (hk : k < lns p) (h : RoK p L k F0) (hF0 : Bd p F0) (hF : Bd p F) (vn : van p (lnK p k).1 (lnK p k).2.1 (lnK p k).2.2.1 (lnK p k).2.2.2 (vF p L)) (al : Al (p : Int) (nz3 F0) (lmn (lk p k) n (nz3 F))) (nd : ¬ Dv (p : Int) (lk p k) (nz3 F)) (hn : n ≤ 40) : RoK p L (k + 1) F ∧ mk3 p L k = n := by
  refine ⟨⟨F0, h, Or.inl ⟨vn, n, al, nd⟩⟩, Mlt.eq ⟨hn, fun _ => ?_, fun w => absurd vn w⟩⟩
  rw [← h.cn hpp k F0 (Nat.le_refl _) hk ⟨_, hF0.su⟩ n]
  have := (Cn.lmk hpp.pq (lk_nz hpp hk) hF.su (k := 0) n).mpr (Cn.no hF.su nd)
  rw [Nat.zero_add] at this
  exact this.al al.sy
theorem RoK.skip (hpp : PrP p) (hk : k < lns p) (h : RoK p L k F) (hF : Bd p F) (nd : ¬ Dv (p : Int) (lk p k) (nz3 F)) : RoK p L (k + 1) F ∧ mk3 p L k = 0 := by
  refine ⟨⟨F, h, ?_⟩, Mlt.eq ⟨by omega, fun _ => ?_, fun _ => rfl⟩⟩
  · by_cases vn : van p (lnK p k).1 (lnK p k).2.1 (lnK p k).2.2.1 (lnK p k).2.2.2 (vF p L)
    · exact Or.inl ⟨vn, 0, Al.rf, nd⟩
    · exact Or.inr ⟨vn, rfl⟩
  · exact (h.cn hpp k F (Nat.le_refl _) hk ⟨_, hF.su⟩ 0).mp (Cn.no hF.su nd)
/-- what is left is one alone -/
theorem RoK.un (hpp : PrP p) : ∀ k F F', k ≤ lns p → RoK p L k F → RoK p L k F' → (∃ N, Su (p : Int) N (nz3 F)) → (∃ N, Su (p : Int) N (nz3 F')) → Al (p : Int) (nz3 F) (nz3 F') := by
  intro k
  induction k with
  | zero => intro F F' _ h h' _ _; rw [show F = cf L from h, show F' = cf L from h']; exact Al.rf
  | succ k ih =>
    intro F F' hk h h' hs hs'
    obtain ⟨F0, r0, hh⟩ := h
    obtain ⟨F1, r1, hh'⟩ := h'
    rcases hh with ⟨v, m, al, nd⟩ | ⟨v, e⟩
    · rcases hh' with ⟨v', m', al', nd'⟩ | ⟨v', e'⟩
      · obtain ⟨N, hN⟩ := hs
        obtain ⟨N', hN'⟩ := hs'
        have s0 : Su (p : Int) (N + m) (nz3 F0) := (hN.lmn (L := lk p k) m).al al.sy
        have s1 : Su (p : Int) (N' + m') (nz3 F1) := (hN'.lmn (L := lk p k) m').al al'.sy
        have a01 := ih F0 F1 (by omega) r0 r1 ⟨_, s0⟩ ⟨_, s1⟩
        have c0 := (Cn.lmk hpp.pq (lk_nz hpp (by omega)) hN (k := 0) m).mpr (Cn.no hN nd)
        have c1 := (Cn.lmk hpp.pq (lk_nz hpp (by omega)) hN' (k := 0) m').mpr (Cn.no hN' nd')
        have em : 0 + m = 0 + m' := (c0.al ((al.sy.tr a01).tr al')).un c1
        have em : m = m' := by omega
        subst em
        have big := (al.sy.tr a01).tr al'
        -- the lines go away
        have can : ∀ m, Al (p : Int) (lmn (lk p k) m (nz3 F)) (lmn (lk p k) m (nz3 F')) → Al (p : Int) (nz3 F) (nz3 F') := by
          intro m
          induction m with
          | zero => intro h; exact h
          | succ m ihm =>
            intro h
            exact ihm (lm_can (N := N + N' + m) hpp.pq (lk_nz hpp (by omega)) ((hN.lmn m).mo (by omega)) ((hN'.lmn m).mo (by omega)) h)
        exact can m big
      · exact absurd v v'
    · rcases hh' with ⟨v', m', al', nd'⟩ | ⟨v', e'⟩
      · exact absurd v' v
      · rw [e] at hs ⊢
        rw [e'] at hs' ⊢
        exact ih F0 F1 (by omega) r0 r1 hs hs'
theorem RoK.eq (hpp : PrP p) (h : RoK p L (lns p) F) (h' : RoK p L (lns p) F1) (hF : Bd p F) (hF' : Bd p F1) : F = F1 := by
  funext x y z
  have := RoK.un hpp _ F F1 (Nat.le_refl _) h h' ⟨_, hF.su⟩ ⟨_, hF'.su⟩ x y z
  refine lt_dv2 (p := p) (hF x y z).1 (hF' x y z).1 ?_
  rw [show (F x y z : Int) + -1 * (F1 x y z : Int) = (F x y z : Int) - (F1 x y z : Int) by omega]
  exact this
/-- the lines that go in, one by one -/
theorem flS_s0 (h : mk3 p L k = 0) : flS p L (k + 1) = flS p L k := by
  unfold flS
  rw [List.range_succ, List.filter_append]
  simp [h]
theorem flS_s1 (h : mk3 p L k ≠ 0) : flS p L (k + 1) = flS p L k ++ [k] := by
  unfold flS
  rw [List.range_succ, List.filter_append]
  simp [h]
theorem fl_g1 {A : List Nat} {k i : Nat} (hi : i < A.length) : (A ++ [k]).getD i 0 = A.getD i 0 := by
  rw [List.getD_eq_getElem?_getD, List.getD_eq_getElem?_getD, List.getElem?_append_left hi]
theorem fl_g2 {A : List Nat} {k : Nat} : (A ++ [k]).getD A.length 0 = k := by simp [List.getD]
theorem fcN_0 : fcN p L 0 = (flS p L (lns p)).length := by
  unfold fcN
  generalize lns p = m
  induction m with
  | zero => rfl
  | succ m ih =>
    rw [sumTo, ih]
    by_cases h : mk3 p L m = 0
    · rw [flS_s0 h, h]; rfl
    · rw [flS_s1 h, List.length_append, if_pos rfl]
      show _ + min 1 (mk3 p L m) = _ + 1
      omega
theorem fcN_1 : fcN p L 1 = sumTo (flS p L (lns p)).length (fun i => mk3 p L ((flS p L (lns p)).getD i 0)) := by
  unfold fcN
  generalize lns p = m
  induction m with
  | zero => rfl
  | succ m ih =>
    rw [sumTo, ih]
    by_cases h : mk3 p L m = 0
    · rw [flS_s0 h, h]; rfl
    · rw [flS_s1 h, List.length_append, List.length_singleton, sumTo, fl_g2]
      congr 1
      exact sumTo_congr (fun i hi => by rw [fl_g1 hi])
theorem fck_eq : ∀ n k left, fck p L n k left = ((List.range' k n).filter (fun j => decide (mk3 p L j ≠ 0)))[left]? := by
  intro n
  induction n with
  | zero => intro k left; simp [fck]
  | succ n ih =>
    intro k left
    rw [fck, List.range'_succ]
    by_cases h : mk3 p L k = 0
    · rw [if_pos h, ih, List.filter_cons_of_neg (by simp [h])]
    · rw [if_neg h, List.filter_cons_of_pos (by simp [h])]
      by_cases hl : left = 0
      · rw [if_pos hl, hl]; rfl
      · rw [if_neg hl, ih]
        obtain ⟨l, rfl⟩ : ∃ l, left = l + 1 := ⟨left - 1, by omega⟩
        simp
theorem fck_fl {left : Nat} : fck p L (lns p) 0 left = (flS p L (lns p))[left]? := by
  rw [fck_eq]
  unfold flS
  rw [List.range_eq_range']
end RKL
/-! Lines tried one after another. -/
def Pts (S : HS) (q p : Nat) (L : Po) : Prop := hI S q 2 = ι p ∧ ∀ x y z, x < p → y < p → z < p → hI S (q + 1) ((x * p + y) * p + z) = ι (vF p L x y z)
/-- what was noted of the first k lines, and the values -/
def FR (h0 : Nat) (S : HS) (p : Nat) (L : Po) (k : Nat) (Lt : Po) : Prop := hI S (h0 + 25) 1 = ι (flS p L k).length ∧ (∀ i, i < (flS p L k).length → ∀ w, w ≤ 4 → hI S (h0 + 26) (5 * i + w) = ι (lnV p L ((flS p L k).getD i 0) w (mk3 p L ((flS p L k).getD i 0)))) ∧ Pts S (h0 + 33) p L ∧ Pts S (h0 + 36) p Lt
/-- where a variable's line stands among the lines -/
def jv (p v : Nat) : Nat := if v = 0 then 0 else if v = 1 then p * p * p else p * p * p + p * p
/-- what of the variables is still to come behind k lines -/
def Ek (p : Nat) (L : Po) (k v : Nat) : Nat := if k ≤ jv p v then lsL L v else 0
section EKV
variable {p k v w : Nat} {L : Po} {F : N3}
theorem jv_lt (hp : 2 ≤ p) (hv : v ≤ 2) : jv p v < lns p := by
  have a0 : jv p 0 = 0 := rfl
  have a1 : jv p 1 = p * p * p := rfl
  have a2 : jv p 2 = p * p * p + p * p := rfl
  show jv p v < p * p * p + p * p + p
  have : v = 0 ∨ v = 1 ∨ v = 2 := by omega
  rcases this with rfl | rfl | rfl <;> omega
theorem jv_ne (hp : 2 ≤ p) (hv : v ≤ 2) (hw : w ≤ 2) (ne : v ≠ w) : jv p v ≠ jv p w := by
  have a0 : jv p 0 = 0 := rfl
  have a1 : jv p 1 = p * p * p := rfl
  have a2 : jv p 2 = p * p * p + p * p := rfl
  have h1 : 0 < p * p := Nat.mul_pos (by omega) (by omega)
  have h2 : 0 < p * p * p := Nat.mul_pos h1 (by omega)
  have hv3 : v = 0 ∨ v = 1 ∨ v = 2 := by omega
  have hw3 : w = 0 ∨ w = 1 ∨ w = 2 := by omega
  rcases hv3 with rfl | rfl | rfl <;> rcases hw3 with rfl | rfl | rfl <;> omega
theorem lk_jv (hp : 2 ≤ p) (hv : v ≤ 2) : lk p (jv p v) = vl v := by
  have : v = 0 ∨ v = 1 ∨ v = 2 := by omega
  unfold lk
  rcases this with rfl | rfl | rfl
  · have e := lnK_1 (p := p) (b := 0) (c := 0) (d := 0) (by omega) (by omega) (by omega)
    rw [Nat.zero_mul, Nat.zero_mul] at e
    have e : lnK p (jv p 0) = (1, 0, 0, 0) := e
    rw [e]; rfl
  · have e := lnK_2 (p := p) (c := 0) (d := 0) (by omega) (by omega)
    rw [Nat.zero_mul] at e
    have e : lnK p (jv p 1) = (0, 1, 0, 0) := e
    rw [e]; rfl
  · have e := lnK_3 (p := p) (d := 0) (by omega)
    have e : lnK p (jv p 2) = (0, 0, 1, 0) := e
    rw [e]; rfl
/-- a line is a variable just where the variables stand -/
theorem nm_isV {a b c d : Nat} (hln : Ln p a b c d) (h : isV a b c d) : nmL p a b c d = jv p (led a b) := by
  obtain ⟨h1, h2, rfl⟩ := h
  obtain ⟨g | g | g, -⟩ := hln
  · obtain ⟨rfl, hb, hc⟩ := g
    have h1 : b = 0 := h1
    have h2 : c = 0 := h2
    subst h1 h2
    show (0 * p + 0) * p + 0 = 0
    rw [Nat.zero_mul, Nat.zero_mul]
  · obtain ⟨rfl, rfl, hc⟩ := g
    have h2 : c = 0 := h2
    subst h2
    show p * p * p + (0 * p + 0) = p * p * p
    rw [Nat.zero_mul]
    omega
  · obtain ⟨rfl, rfl, rfl⟩ := g
    rfl
theorem jv_isV {a b c d : Nat} (hp : 2 ≤ p) (hv : v ≤ 2) (e : lnK p (jv p v) = (a, b, c, d)) : isV a b c d := by
  have : v = 0 ∨ v = 1 ∨ v = 2 := by omega
  rcases this with rfl | rfl | rfl
  · have e0 := lnK_1 (p := p) (b := 0) (c := 0) (d := 0) (by omega) (by omega) (by omega)
    rw [Nat.zero_mul, Nat.zero_mul] at e0
    have e0 : lnK p (jv p 0) = (1, 0, 0, 0) := e0
    rw [e0] at e
    injection e with e1 e; injection e with e2 e; injection e with e3 e4
    subst e1 e2 e3 e4
    exact ⟨rfl, rfl, rfl⟩
  · have e0 := lnK_2 (p := p) (c := 0) (d := 0) (by omega) (by omega)
    rw [Nat.zero_mul] at e0
    have e0 : lnK p (jv p 1) = (0, 1, 0, 0) := e0
    rw [e0] at e
    injection e with e1 e; injection e with e2 e; injection e with e3 e4
    subst e1 e2 e3 e4
    exact ⟨rfl, rfl, rfl⟩
  · have e0 := lnK_3 (p := p) (d := 0) (by omega)
    have e0 : lnK p (jv p 2) = (0, 0, 1, 0) := e0
    rw [e0] at e
    injection e with e1 e; injection e with e2 e; injection e with e3 e4
    subst e1 e2 e3 e4
    exact ⟨rfl, rfl, rfl⟩
theorem Ek_le : Ek p L k v ≤ lsL L v := by unfold Ek; split <;> omega
theorem Ek_0 : Ek p L 0 v = lsL L v := by unfold Ek; rw [if_pos (Nat.zero_le _)]
theorem Ek_end (hp : 2 ≤ p) (hv : v ≤ 2) : Ek p L (lns p) v = 0 := by
  unfold Ek
  rw [if_neg (by have := jv_lt hp hv; omega)]
theorem Ek_n (h : k ≠ jv p v) : Ek p L (k + 1) v = Ek p L k v := by
  unfold Ek
  by_cases c : k ≤ jv p v
  · rw [if_pos c, if_pos (by omega)]
  · rw [if_neg c, if_neg (by omega)]
theorem Ek_v (hp : 2 ≤ p) (hv : v ≤ 2) (hw : w ≤ 2) : Ek p L (jv p v + 1) w = zr (Ek p L (jv p v)) v w := by
  unfold zr
  by_cases c : w = v
  · subst c
    unfold Ek
    rw [if_pos rfl, if_neg (by omega)]
  · rw [if_neg c]
    exact Ek_n (jv_ne hp hv hw (fun e => c e.symm))
theorem Ek_at : Ek p L (jv p v) v = lsL L v := by unfold Ek; rw [if_pos (Nat.le_refl _)]
theorem she_cg {E E' : Nat → Nat} (h : ∀ v, v ≤ 2 → E v = E' v) : she E F = she E' F := by
  show sh (E 0) (E 1) (E 2) F = sh (E' 0) (E' 1) (E' 2) F
  rw [h 0 (by omega), h 1 (by omega), h 2 (by omega)]
end EKV
/-- the work on L when k lines were tried -/
def FI (h0 X0 S0 : Nat) (S S1 : HS) (p : Nat) (L : Po) (k X Y Z : Nat) (Lt : Po) (D : Nat → Nat) (T : Nat) (F : N3) : Prop := FT h0 X0 S0 S S1 X Y Z ∧ FA h0 S1 p D T X Y Z F ∧ RoK p L k (she (Ek p L k) F) ∧ FR h0 S1 p L k Lt ∧ (flS p L k).length + (D 0 + D 1 + D 2) + (Ek p L k 0 + Ek p L k 1 + Ek p L k 2) ≤ 120 ∧ (∀ v, v ≤ 2 → hI S1 (h0 + 46) v = ι (lsL L v)) ∧ ∀ v, v ≤ 2 → D v + lsL L v ≤ 40
section TRY
variable {M : Nat × Nat} {S S1 S2 : HS} {K : Int32 → HS → Prop} {h0 X0 S0 p k k0 T X Y Z a b c d : Nat} {L Lt : Po} {D : Nat → Nat} {F : N3}
theorem FR.go (h : FR h0 S1 p L k Lt) (e : ∀ x, x = h0 + 25 ∨ x = h0 + 26 ∨ (h0 + 27 ≤ x ∧ x ≤ h0 + 38) → ∀ j, ¬ (x = h0 + 25 ∧ j = 9) → hI S2 x j = hI S1 x j) : FR h0 S2 p L k Lt := by
  obtain ⟨a1, a2, a3, a4⟩ := h
  exact ⟨by rw [e _ (by omega) _ (by omega)]; exact a1, fun i hi w hw => by rw [e _ (by omega) _ (by omega)]; exact a2 i hi w hw, ⟨by rw [e _ (by omega) _ (by omega)]; exact a3.1, fun x y z hx hy hz => by rw [e _ (by omega) _ (by omega)]; exact a3.2 x y z hx hy hz⟩, ⟨by rw [e _ (by omega) _ (by omega)]; exact a4.1, fun x y z hx hy hz => by rw [e _ (by omega) _ (by omega)]; exact a4.2 x y z hx hy hz⟩⟩
theorem FR.skip (h : FR h0 S1 p L k Lt) (m0 : mk3 p L k = 0) : FR h0 S1 p L (k + 1) Lt := by
  unfold FR
  rw [flS_s0 m0]
  exact h
theorem FA.go {W : Nat → Nat → Prop} (h : FA h0 S1 p D T X Y Z F) (e : Ext S1 S2 W V0) (hw : ∀ b k, W b k → b = h0 + 47 ∨ (b = h0 + 25 ∧ k = 1) ∨ b = h0 + 26 ∨ (h0 + 30 ≤ b ∧ b ≤ h0 + 38)) (hx : hX S2 = hX S1) : FA h0 S2 p D T X Y Z F := by
  obtain ⟨⟨a1, a2, a3, a4, a5, a6, a7, a8, a9⟩, bo, sp, ne⟩ := h
  have p9 := a3.1.2.2.1.2.2.2.2.1
  refine ⟨⟨a1.go a2 e (fun _ _ c => c), by omega, a3.go e (fun o ho => (e.2.2.1 _ (by omega)).2.2.2 0 (fun c => c)), ?_, fun v hv => ?_, a6, a7, ?_, a9⟩, bo.go2 a3.1.2.2.1 (by omega) a2 e (fun c => c) (fun k => ⟨fun w => by have := hw _ _ w; omega, fun w => by have := hw _ _ w; omega, fun w => by have := hw _ _ w; omega⟩), sp, ne⟩
  · rw [(e.2.2.1 (h0 + 25) (by omega)).2.2.1 12 (fun w => by have := hw _ _ w; omega)]; exact a4
  · rw [(e.2.2.1 (h0 + 45) (by omega)).2.2.1 v (fun w => by have := hw _ _ w; omega)]; exact a5 v hv
  · rw [(e.2.2.1 (h0 + 25) (by omega)).2.2.1 9 (fun w => by have := hw _ _ w; omega)]; exact a8
theorem FI.bd (hp : 0 < p) {k' : Nat} (h : FI h0 X0 S0 S S1 p L k X Y Z Lt D T F) : Bd p (she (Ek p L k') F) := she_bd hp h.2.1.2.2.1 (fun v hv => by
  have := h.2.2.2.2.2.2 v hv
  have := Ek_le (p := p) (L := L) (k := k') (v := v)
  omega)
/-- a line that doesn't go in -/
theorem FI.skip (hpp : PrP p) (hw : wf p L) (hL : L ≠ []) (hk : k < lns p) (h : FI h0 X0 S0 S S1 p L k X Y Z Lt D T F) (nd : ¬ Dv (p : Int) (lk p k) (nz3 (cf L))) : FI h0 X0 S0 S S1 p L (k + 1) X Y Z Lt D T F := by
  have hp := hpp.le
  have bd := h.bd (k' := k) (by omega)
  obtain ⟨a1, a2, a3, a4, a5, a6⟩ := h
  obtain ⟨r, m0⟩ := a3.skip hpp hk bd (a3.nd hpp hk hw bd nd)
  have eE : ∀ v, v ≤ 2 → Ek p L (k + 1) v = Ek p L k v := fun v hv => by
    by_cases c : k = jv p v
    · have z : lsL L v = 0 := by
        rw [c, lk_jv (by omega) hv] at nd
        have cn := cn_var hpp hw hL hv
        refine Classical.byContradiction fun n0 => nd ?_
        exact Mu.one (n := lsL L v - 1) (by rw [show lsL L v - 1 + 1 = lsL L v by omega]; exact cn.1)
      have e1 := Ek_le (p := p) (L := L) (k := k + 1) (v := v)
      have e2 := Ek_le (p := p) (L := L) (k := k) (v := v)
      omega
    · exact Ek_n c
  refine ⟨a1, a2, by rw [she_cg eE]; exact r, a4.skip m0, ?_, a6⟩
  rw [flS_s0 m0, eE 0 (by omega), eE 1 (by omega), eE 2 (by omega)]; exact a5
theorem FI.skipn (hpp : PrP p) (hw : wf p L) (hL : L ≠ []) (hk : k0 + p ≤ lns p) (h : FI h0 X0 S0 S S1 p L k0 X Y Z Lt D T F) (nd : ∀ d, d < p → ¬ Dv (p : Int) (lk p (k0 + d)) (nz3 (cf L))) : FI h0 X0 S0 S S1 p L (k0 + p) X Y Z Lt D T F := by
  have : ∀ m, m ≤ p → FI h0 X0 S0 S S1 p L (k0 + m) X Y Z Lt D T F := by
    intro m
    induction m with
    | zero => intro _; exact h
    | succ m ih => intro hm; exact (ih (by omega)).skip hpp hw hL (by show k0 + m < lns p; omega) (nd m (by omega))
  exact this p (Nat.le_refl _)
/-- a variable's turn -/
theorem FI.var {v : Nat} (hpp : PrP p) (hw : wf p L) (hL : L ≠ []) (hv : v ≤ 2) (hk : k = jv p v) (h : FI h0 X0 S0 S S1 p L k X Y Z Lt D T F) (vn : van p (lnK p k).1 (lnK p k).2.1 (lnK p k).2.2.1 (lnK p k).2.2.2 (vF p L)) : RoK p L (k + 1) (she (Ek p L (k + 1)) F) ∧ mk3 p L k = lsL L v ∧ Ek p L (k + 1) 0 + Ek p L (k + 1) 1 + Ek p L (k + 1) 2 + lsL L v ≤ Ek p L k 0 + Ek p L k 1 + Ek p L k 2 := by
  have hp := hpp.le
  have hk2 : k < lns p := by rw [hk]; exact jv_lt (by omega) hv
  have b0 := h.bd (k' := k) (by omega)
  have b1 := h.bd (k' := k + 1) (by omega)
  have l40 : lsL L v ≤ 40 := by have := h.2.2.2.2.2.2 v hv; omega
  have ek : lk p k = vl v := by rw [hk]; exact lk_jv (by omega) hv
  have eE : ∀ w, w ≤ 2 → Ek p L (k + 1) w = zr (Ek p L k) v w := fun w hw => by rw [hk]; exact Ek_v (by omega) hv hw
  have eA : Ek p L k v = lsL L v := by rw [hk]; exact Ek_at
  have e : nz3 (she (Ek p L k) F) = lmn (lk p k) (lsL L v) (nz3 (she (Ek p L (k + 1)) F)) := by
    rw [she_cg eE, ek, ← eA]; exact she_take hv
  have rk := h.2.2.1
  have nd : ¬ Dv (p : Int) (lk p k) (nz3 (she (Ek p L (k + 1)) F)) := fun hd => by
    have c1 := (rk.cn hpp k _ (Nat.le_refl _) hk2 ⟨_, b0.su⟩ (lsL L v)).mpr (by rw [ek]; exact cn_var hpp hw hL hv)
    rw [e] at c1
    have c2 := (Cn.lmk hpp.pq (lk_nz hpp hk2) b1.su (k := 0) (lsL L v)).mp (by rw [Nat.zero_add]; exact c1)
    exact c2.2 hd
  have tk := rk.take hpp hk2 b0 b1 vn (by rw [e]; exact Al.rf) nd l40
  refine ⟨tk.1, tk.2, ?_⟩
  rw [eE 0 (by omega), eE 1 (by omega), eE 2 (by omega), ← eA]
  have : v = 0 ∨ v = 1 ∨ v = 2 := by omega
  unfold zr
  rcases this with rfl | rfl | rfl <;> simp <;> omega
theorem FI.set (h60 : h0 + 60 ≤ hX S) (h : FI h0 X0 S0 S S1 p L k X Y Z Lt D T F) (e : Ext S1 S2 (Wl (h0 + 47)) V0) (hx : hX S2 = hX S1) (hs : hS S2 = hS S1) : FI h0 X0 S0 S S2 p L k X Y Z Lt D T F := by
  obtain ⟨a1, a2, a3, a4, a5, a6, a7⟩ := h
  have h61 := a2.1.2.1
  exact ⟨a1.scr h60 e (fun b k w => by unfold Wl at w; unfold Wy; omega) hx hs, a2.go e (fun b k w => by unfold Wl at w; omega) hx, a3, a4.go (fun x hx j _ => (e.2.2.1 x (by omega)).2.2.1 j (by unfold Wl; omega)), a5, fun v hv => by rw [(e.2.2.1 (h0 + 46) (by omega)).2.2.1 v (by unfold Wl; omega)]; exact a6 v hv, a7⟩
theorem qo46 (h : FA h0 S1 p D T X Y Z F) : Qo h0 S1 (h0 + 47) := by
  have h61 := h.1.2.1
  have p9 := h.1.2.2.1.1.2.2.1.2.2.2.2.1
  have p2 := h.1.2.2.1.1.2.2.2.2.2.2.2.1
  exact ⟨by omega, Or.inl rfl, by omega, by omega⟩
def Wno (h0 b k : Nat) : Prop := (b = h0 + 25 ∧ k = 1) ∨ b = h0 + 26
theorem c_noteF {m : Nat} {x1 x2 x3 x4 x5 : Int32} (hL : Lay h0 S1) (hm : hI S1 (h0 + 25) 1 = ι m) (hm1 : m < 120) (h : ∀ S', Ext S1 S' (Wno h0) V0 → hX S' = hX S1 → hS S' = hS S1 → hI S' (h0 + 25) 1 = ι (m + 1) → (∀ j, j < 5 * m → hI S' (h0 + 26) j = hI S1 (h0 + 26) j) → hI S' (h0 + 26) (5 * m) = x1 → hI S' (h0 + 26) (5 * m + 1) = x2 → hI S' (h0 + 26) (5 * m + 2) = x3 → hI S' (h0 + 26) (5 * m + 3) = x4 → hI S' (h0 + 26) (5 * m + 4) = x5 → K 0 S') : wp_X2_note M (h0 + 25) x1 x2 x3 x4 x5 S1 K := by
  unfold wp_X2_note
  have n1 : ¬ h0 + 25 = h0 + 26 := by omega
  rw [hm, show (5 : Int32) = ι 5 from rfl, show (1 : Int32) = ι 1 from rfl, show (2 : Int32) = ι 2 from rfl, show (3 : Int32) = ι 3 from rfl, show (4 : Int32) = ι 4 from rfl, ι_mul, ι_add, ι_add, ι_add, ι_add, ι_cl (by omega), ι_cl (by omega), ι_cl (by omega), ι_cl (by omega), ι_cl (by omega)]
  have vin : ∀ j, j ≤ 4 → vp_in (ι (m * 5 + j)) 600 := fun j hj => ι_in (by omega) (by omega)
  have pr := hL.p25_0
  have tr := hL.t26
  have nr := hL.n26
  refine ⟨hL.t25, hL.t25, h0 + 26, pr, tr, by rw [nr]; exact vin 0 (by omega), hL.t25, h0 + 26, pr, tr, by rw [sI_N, nr]; exact vin 1 (by omega), hL.t25, h0 + 26, pr, tr, by rw [sI_N, sI_N, nr]; exact vin 2 (by omega), hL.t25, h0 + 26, pr, tr, by rw [sI_N, sI_N, sI_N, nr]; exact vin 3 (by omega), hL.t25, h0 + 26, pr, tr, by rw [sI_N, sI_N, sI_N, sI_N, nr]; exact vin 4 (by omega), hL.t25, hL.t25, ?_⟩
  have m5 : m * 5 = 5 * m := Nat.mul_comm _ _
  rw [m5]
  refine h _ ((((((((Ext.rf S1 (Wno h0) V0).sI (Or.inr rfl)).sI (Or.inr rfl)).sI (Or.inr rfl)).sI (Or.inr rfl)).sI (Or.inr rfl))).sI (Or.inl ⟨rfl, rfl⟩)) rfl rfl ?_ (fun j hj => ?_) ?_ ?_ ?_ ?_ ?_
  · rw [sI_eq, if_pos rfl, sI_ne n1, sI_ne n1, sI_ne n1, sI_ne n1, sI_ne n1, hm, ι_add]
  all_goals
    rw [sI_ne (fun e => n1 e.symm)]
    simp only [sI_eq]
  · rw [if_neg (by omega), if_neg (by omega), if_neg (by omega), if_neg (by omega), if_neg (by omega)]
  · rw [if_neg (by omega), if_neg (by omega), if_neg (by omega), if_neg (by omega), if_pos trivial]
  · rw [if_neg (by omega), if_neg (by omega), if_neg (by omega), if_pos trivial]
  · rw [if_neg (by omega), if_neg (by omega), if_pos trivial]
  · rw [if_neg (by omega), if_pos trivial]
  · rw [if_pos trivial]
/-- the sieve: the highest part -/
def HiP (p : Nat) (L Lt : Po) : Prop := wf p Lt ∧ ∃ d, 0 < d ∧ (∀ x y z, d < x + y + z → cf L x y z = 0) ∧ ∀ x y z, cf Lt x y z = if x + y + z = d then cf L x y z else 0
theorem pts_z {q : Nat} (hpp : PrP p) (h : Pts S1 q p L) : ∀ x y z, x < p → y < p → z < p → hI S1 (q + 1) ((x * p + y) * p + z) = ι (vF p L x y z) ∧ vF p L x y z < p := fun x y z hx hy hz => ⟨h.2 x y z hx hy hz, vF_lt (by omega)⟩
theorem c_tryLines (h60 : h0 + 60 ≤ hX S) (hpp : PrP p) (hw : wf p L) (hL : L ≠ []) (hi : HiP p L Lt) (hk : k0 + p ≤ lns p) (hln : ∀ d, d < p → lnK p (k0 + d) = (a, b, c, d)) (fi : FI h0 X0 S0 S S1 p L k0 X Y Z Lt D T F) (r1 : X0 + 2 ≤ M.1) (r2 : S0 + 2000000 ≤ M.2) (h : ∀ S2 D' T' F', FI h0 X0 S0 S S2 p L (k0 + p) X Y Z Lt D' T' F' → K 0 S2) : wp_X2_tryLines M (h0 + 25) (ι a) (ι b) (ι c) S1 K := by
  have hp := hpp.le
  have ln : ∀ d, d < p → Ln p a b c d := fun d hd => by
    have := lnK_ln (p := p) (k := k0 + d) (by omega) (by show k0 + d < lns p; omega)
    rw [hln d hd] at this
    exact this
  have lkd : ∀ d, d < p → lk p (k0 + d) = lv a b c d := fun d hd => by unfold lk; rw [hln d hd]
  have nmd : ∀ d, d < p → nmL p a b c d = k0 + d := fun d hd => by
    have := lnK_nm (p := p) (k := k0 + d) (by omega) (by show k0 + d < lns p; omega)
    rw [hln d hd] at this
    exact this
  have L1 := fi.2.1.1.1
  unfold wp_X2_tryLines
  refine ⟨L1.t25, h0 + 47, L1.p25_11, L1.t47, ?_⟩
  rw [show (0 : Int32) = ι 0 from rfl]
  refine c_set (p := p) hp (ln 0 (by omega)) L1.t47 (fun S2 e2 x2 y2 hq2 => ?_)
  have fi2 := fi.set h60 e2 x2 y2
  obtain ⟨ft2, fa2, rk2, fr2, sz2, -⟩ := id fi2
  obtain ⟨L2, h62, -⟩ := id fa2.1
  rw [← show (0 : Int32) = ι 0 from rfl]
  have pq36 := PtL.q36 L2 h62
  refine ⟨L2.t25, h0 + 36, L2.p25_5, L2.t25, h0 + 47, L2.p25_11, L2.t36, c_isZeroOn hpp (ln 0 (by omega)) hq2 pq36.1 pq36.2.1 pq36.2.2.2.1 pq36.2.2.2.2.2.1 fr2.2.2.2.1 (pts_z hpp fr2.2.2.2) (fun vn => ⟨fun _ => ?_, fun w => absurd w (by decide)⟩) (fun nv => ⟨fun w => absurd rfl w, fun _ => ?_⟩)⟩
  rotate_left
  · -- the sieve
    refine h S2 D T F (fi2.skipn hpp hw hL hk (fun d hd dv => nv ?_))
    obtain ⟨wt, g, g1, g2, g3⟩ := hi
    intro x y z hx hy hz on
    rw [lkd d hd] at dv
    exact hi_zero hpp (ln d hd) hw wt g1 g2 g3 dv on
  -- the lines of one direction
  have loop : ∀ r d S3 D3 T3 F3, d + r = p → FI h0 X0 S0 S S3 p L (k0 + d) X Y Z Lt D3 T3 F3 → wl_X2_tryLines_29 M K (r + 1) (h0 + 25) (ι a) (ι b) (ι c) (ι d) S3 := by
    intro r
    induction r with
    | zero =>
      intro d S3 D3 T3 F3 hd fi3
      have e : d = p := by omega
      subst e
      show wb_X2_tryLines_29 _ _ _ _ _ _ _ _ _
      unfold wb_X2_tryLines_29
      rw [fi3.2.1.1.2.2.2.1]
      exact ⟨fi3.2.1.1.1.t25, fun _ => h S3 D3 T3 F3 fi3, fun w => absurd (by rw [ι_le (by omega) (by omega)]; omega) w⟩
    | succ r ih =>
      intro d S3 D3 T3 F3 hd fi3
      have hdp : d < p := by omega
      have L3 := fi3.2.1.1.1
      show wb_X2_tryLines_29 _ _ _ _ _ _ _ _ _
      unfold wb_X2_tryLines_29
      rw [fi3.2.1.1.2.2.2.1]
      refine ⟨L3.t25, fun w => absurd w (by rw [ι_le (by omega) (by omega)]; omega), fun _ => ⟨L3.t25, h0 + 47, L3.p25_11, L3.t47, c_set (p := p) hp (ln d hdp) L3.t47 (fun S4 e4 x4 y4 hq4 => ?_)⟩⟩
      have fi4 := fi3.set h60 e4 x4 y4
      obtain ⟨ft4, fa4, rk4, fr4, sz4, ls4, dl4⟩ := id fi4
      obtain ⟨L4, h64, -⟩ := id fa4.1
      have pq33 := PtL.q33 L4 h64
      have lt : k0 + d < lns p := by omega
      have one : (1 : Int32) = ι 1 := rfl
      -- behind the line
      have cont : ∀ n S5 D5 T5 F5, n ≤ 40 → FT h0 X0 S0 S S5 X Y Z → FA h0 S5 p D5 T5 X Y Z F5 → RoK p L (k0 + d + 1) (she (Ek p L (k0 + d + 1)) F5) → mk3 p L (k0 + d) = n → FR h0 S5 p L (k0 + d) Lt → D5 0 + D5 1 + D5 2 + (Ek p L (k0 + d + 1) 0 + Ek p L (k0 + d + 1) 1 + Ek p L (k0 + d + 1) 2) + n ≤ D3 0 + D3 1 + D3 2 + (Ek p L (k0 + d) 0 + Ek p L (k0 + d) 1 + Ek p L (k0 + d) 2) → (∀ v, v ≤ 2 → hI S5 (h0 + 46) v = ι (lsL L v)) → (∀ v, v ≤ 2 → D5 v + lsL L v ≤ 40) → w_X2_tryLines_76 M (wl_X2_tryLines_29 M K (r + 1)) K (h0 + 25) (ι a) (ι b) (ι c) (ι d) (ι n) S5 := by
        intro n S5 D5 T5 F5 hn ft5 fa5 tk1 tk2 fr5 sm ls5 dl5
        have L5 := fa5.1.1
        unfold w_X2_tryLines_76
        rw [show (0 : Int32) = ι 0 from rfl, ι_le (by omega) (by omega), one, ι_add]
        refine ⟨fun z => ih (d + 1) S5 D5 T5 F5 (by omega) ⟨ft5, fa5, tk1, fr5.skip (by omega), ?_, ls5, dl5⟩, fun z => ⟨L5.t25, ?_⟩⟩
        · show (flS p L (k0 + d + 1)).length + _ + _ ≤ 120
          rw [flS_s0 (by omega)]
          show (flS p L (k0 + d)).length + (D5 0 + D5 1 + D5 2) + (Ek p L (k0 + d + 1) 0 + Ek p L (k0 + d + 1) 1 + Ek p L (k0 + d + 1) 2) ≤ 120
          omega
        · have szl : (flS p L (k0 + d)).length < 120 := by omega
          rw [fr5.1, show (120 : Int32) = ι 120 from rfl, ι_le (by omega) (by omega)]
          refine ⟨fun w => absurd w (by omega), fun _ => ⟨L5.t25, c_noteF L5 fr5.1 szl (fun S6 e6 x6 y6 n6 old o1 o2 o3 o4 o5 => ih (d + 1) S6 D5 T5 F5 (by omega) ⟨ft5.scr h60 e6 (fun b k w => by unfold Wno at w; unfold Wy; omega) x6 y6, fa5.go e6 (fun b k w => by unfold Wno at w; omega) x6, tk1, ?_, ?_, fun v hv => ?_, dl5⟩)⟩⟩
          · have fl : flS p L (k0 + d + 1) = flS p L (k0 + d) ++ [k0 + d] := flS_s1 (by omega)
            have ll : (flS p L (k0 + d) ++ [k0 + d]).length = (flS p L (k0 + d)).length + 1 := by rw [List.length_append]; rfl
            have h65 := fa5.1.2.1
            have kp6 : ∀ x, (h0 + 27 ≤ x ∧ x ≤ h0 + 38) → ∀ j, hI S6 x j = hI S5 x j := fun x hx j => (e6.2.2.1 x (by omega)).2.2.1 j (by unfold Wno; omega)
            obtain ⟨f1, f2, f3, f4⟩ := fr5
            show FR h0 S6 p L (k0 + d + 1) Lt
            unfold FR
            rw [fl, ll]
            refine ⟨n6, fun i hi w hw => ?_, ⟨by rw [kp6 _ (by omega)]; exact f3.1, fun x y z hx hy hz => by rw [kp6 _ (by omega)]; exact f3.2 x y z hx hy hz⟩, ⟨by rw [kp6 _ (by omega)]; exact f4.1, fun x y z hx hy hz => by rw [kp6 _ (by omega)]; exact f4.2 x y z hx hy hz⟩⟩
            by_cases g : i < (flS p L (k0 + d)).length
            · rw [fl_g1 g, old _ (by omega)]; exact f2 i g w hw
            · have ei : i = (flS p L (k0 + d)).length := by omega
              rw [ei, fl_g2, tk2]
              unfold lnV
              rw [hln d hdp]
              have : w = 0 ∨ w = 1 ∨ w = 2 ∨ w = 3 ∨ w = 4 := by omega
              rcases this with rfl | rfl | rfl | rfl | rfl
              · exact o1
              · exact o2
              · exact o3
              · exact o4
              · exact o5
          · show (flS p L (k0 + d + 1)).length + (D5 0 + D5 1 + D5 2) + (Ek p L (k0 + d + 1) 0 + Ek p L (k0 + d + 1) 1 + Ek p L (k0 + d + 1) 2) ≤ 120
            rw [flS_s1 (by omega), List.length_append, List.length_singleton]; omega
          · have h65 := fa5.1.2.1
            rw [(e6.2.2.1 (h0 + 46) (by omega)).2.2.1 v (by unfold Wno; omega)]; exact ls5 v hv
      refine ⟨L4.t25, h0 + 33, L4.p25_4, L4.t25, h0 + 47, L4.p25_11, L4.t33, c_isZeroOn hpp (ln d hdp) hq4 pq33.1 pq33.2.1 pq33.2.2.2.1 pq33.2.2.2.2.2.1 fr4.2.2.1.1 (pts_z hpp fr4.2.2.1) (fun vn => ⟨fun w => absurd w (by decide), fun _ => ?_⟩) (fun nv => ⟨fun _ => ?_, fun w => absurd rfl w⟩)⟩
      · -- it may go in
        have vn2 : van p (lnK p (k0 + d)).1 (lnK p (k0 + d)).2.1 (lnK p (k0 + d)).2.2.1 (lnK p (k0 + d)).2.2.2 (vF p L) := by rw [hln d hdp]; exact vn
        refine ⟨L4.t25, h0 + 47, L4.p25_11, L4.t25, c_takeOut h60 ft4 fa4 (ln d hdp) hq4 (qo46 fa4) r1 r2 (fun isv => ?_) (fun nv n S5 D5 T5 F5 hn ft5 fa5 hq5 hqo5 al nd sm dl kp => ?_)⟩
        · -- a variable
          have hv := led_le (a := a) (b := b)
          have ejv : k0 + d = jv p (led a b) := by rw [← nmd d hdp]; exact nm_isV (ln d hdp) isv
          obtain ⟨t1, t2, t3⟩ := fi4.var hpp hw hL hv ejv vn2
          rw [ls4 _ hv]
          exact cont (lsL L (led a b)) S4 D3 T3 F3 (by have := dl4 _ hv; omega) ft4 fa4 t1 t2 fr4 (by omega) ls4 dl4
        · have njv : ∀ v, v ≤ 2 → k0 + d ≠ jv p v := fun v hv e => nv (jv_isV (p := p) (by omega) hv (by rw [← e]; exact hln d hdp))
          have eE : ∀ v, v ≤ 2 → Ek p L (k0 + d + 1) v = Ek p L (k0 + d) v := fun v hv => Ek_n (njv v hv)
          have b4 := fi4.bd (k' := k0 + d) (by omega)
          have b5 : Bd p (she (Ek p L (k0 + d)) F5) := she_bd (by omega) fa5.2.2.1 (fun v hv => by
            have := dl4 v hv
            have := dl v
            have := Ek_le (p := p) (L := L) (k := k0 + d) (v := v)
            omega)
          have nd2 : ¬ Dv (p : Int) (lk p (k0 + d)) (nz3 (she (Ek p L (k0 + d)) F5)) := fun w => by
            rw [lkd d hdp] at w
            have := (she_cn (E := Ek p L (k0 + d)) hpp.pq ((ln d hdp).nz (by omega)) (ap_vl hpp (ln d hdp) nv) fa5.2.2.1.bd.su).mpr (Cn.no fa5.2.2.1.bd.su nd)
            exact this.2 w
          have tk := rk4.take hpp lt b4 b5 vn2 (by rw [lkd d hdp]; exact she_al al) nd2 hn
          refine cont n S5 D5 T5 F5 hn ft5 fa5 (by rw [she_cg eE]; exact tk.1) tk.2 (fr4.go (fun x hx j w => (kp x (by omega) j).1 w)) ?_ (fun v hv => ?_) (fun v hv => ?_)
          · rw [eE 0 (by omega), eE 1 (by omega), eE 2 (by omega)]; omega
          · rw [(kp (h0 + 46) (by omega) v).1 (by omega)]; exact ls4 v hv
          · have := dl4 v hv
            have := dl v
            omega
      · -- a value that is not 0
        unfold w_X2_tryLines_76
        refine ⟨fun _ => ?_, fun w => absurd (by decide) w⟩
        rw [one, ι_add]
        have ndv : ¬ Dv (p : Int) (lk p (k0 + d)) (nz3 (cf L)) := fun dv => nv (by
          rw [lkd d hdp] at dv
          exact dv_van hpp hw dv)
        exact ih (d + 1) S4 D3 T3 F3 (by omega) (fi4.skip hpp hw hL lt ndv)
  exact ⟨p + 1, loop p 0 S2 D T F (by omega) fi2⟩
end TRY
