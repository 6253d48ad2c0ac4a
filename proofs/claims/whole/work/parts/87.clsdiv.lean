/-! The class's division by a line: one slice. -/
abbrev prc (i k u v : Nat) : Prop := u < i ∨ (u = i ∧ v < k)
def ctS (ku kv kd : Nat) (n : Nat → Nat → Nat) (i k u v : Nat) : Nat := (if prc i k u v then kd * n u v else 0) + (if 0 < u ∧ prc i k (u - 1) v then ku * n (u - 1) v else 0) + (if 0 < v ∧ prc i k u (v - 1) then kv * n u (v - 1) else 0)
theorem prc_s {i k u v : Nat} : prc i (k + 1) u v ↔ prc i k u v ∨ (u = i ∧ v = k) := by unfold prc; omega
theorem prc_n {i k : Nat} : ¬ prc i k i k := by unfold prc; omega
theorem ctS_s {ku kv kd i k u v : Nat} {n : Nat → Nat → Nat} : ctS ku kv kd n i (k + 1) u v = ctS ku kv kd n i k u v + (if u = i ∧ v = k then kd * n i k else 0) + (if u = i + 1 ∧ v = k then ku * n i k else 0) + (if u = i ∧ v = k + 1 then kv * n i k else 0) := by
  have a1 : (if prc i (k + 1) u v then kd * n u v else 0) = (if prc i k u v then kd * n u v else 0) + (if u = i ∧ v = k then kd * n i k else 0) := by
    by_cases e : u = i ∧ v = k
    · obtain ⟨rfl, rfl⟩ := e
      rw [if_pos (prc_s.mpr (Or.inr ⟨rfl, rfl⟩)), if_neg prc_n, if_pos ⟨rfl, rfl⟩, Nat.zero_add]
    · rw [if_neg e]
      by_cases g : prc i k u v
      · rw [if_pos g, if_pos (prc_s.mpr (Or.inl g))]; rfl
      · rw [if_neg g, if_neg (fun w => (prc_s.mp w).elim g e)]
  have a2 : (if 0 < u ∧ prc i (k + 1) (u - 1) v then ku * n (u - 1) v else 0) = (if 0 < u ∧ prc i k (u - 1) v then ku * n (u - 1) v else 0) + (if u = i + 1 ∧ v = k then ku * n i k else 0) := by
    by_cases e : u = i + 1 ∧ v = k
    · obtain ⟨rfl, rfl⟩ := e
      rw [if_pos ⟨by omega, prc_s.mpr (Or.inr ⟨by omega, rfl⟩)⟩, if_neg (fun w => prc_n w.2), if_pos ⟨rfl, rfl⟩, Nat.zero_add]
      rfl
    · rw [if_neg e]
      by_cases g : 0 < u ∧ prc i k (u - 1) v
      · rw [if_pos g, if_pos ⟨g.1, prc_s.mpr (Or.inl g.2)⟩]; rfl
      · rw [if_neg g, if_neg (fun w => (prc_s.mp w.2).elim (fun w2 => g ⟨w.1, w2⟩) (fun w2 => e (by omega)))]
  have a3 : (if 0 < v ∧ prc i (k + 1) u (v - 1) then kv * n u (v - 1) else 0) = (if 0 < v ∧ prc i k u (v - 1) then kv * n u (v - 1) else 0) + (if u = i ∧ v = k + 1 then kv * n i k else 0) := by
    by_cases e : u = i ∧ v = k + 1
    · obtain ⟨rfl, rfl⟩ := e
      rw [if_pos ⟨by omega, prc_s.mpr (Or.inr ⟨rfl, by omega⟩)⟩, if_neg (fun w => prc_n w.2), if_pos ⟨rfl, rfl⟩, Nat.zero_add]
      rfl
    · rw [if_neg e]
      by_cases g : 0 < v ∧ prc i k u (v - 1)
      · rw [if_pos g, if_pos ⟨g.1, prc_s.mpr (Or.inl g.2)⟩]; rfl
      · rw [if_neg g, if_neg (fun w => (prc_s.mp w.2).elim (fun w2 => g ⟨w.1, w2⟩) (fun w2 => e (by omega)))]
  unfold ctS
  rw [a1, a2, a3]
  omega
theorem ctS_r {ku kv kd i u v B : Nat} {n : Nat → Nat → Nat} (hv : v ≤ B) : ctS ku kv kd n i (B + 1) u v = ctS ku kv kd n (i + 1) 0 u v := by
  have h : ∀ w t, t ≤ B → (prc i (B + 1) w t ↔ prc (i + 1) 0 w t) := fun w t ht => by unfold prc; omega
  unfold ctS
  simp only [h u v hv, h (u - 1) v hv, h u (v - 1) (by omega)]
theorem ctS_0 {ku kv kd u v : Nat} {n : Nat → Nat → Nat} : ctS ku kv kd n 0 0 u v = 0 := by
  have h : ∀ w t, ¬ prc 0 0 w t := fun w t => by unfold prc; omega
  unfold ctS
  simp only [h, and_false, if_false]
theorem ctS_e {ku kv kd i u v : Nat} {n : Nat → Nat → Nat} (hu : u < i) : ctS ku kv kd n i 0 u v = n u v * kd + dnN (fun w => n w v) u * ku + dnN (fun w => n u w) v * kv := by
  have h : ∀ w t, w ≤ u → prc i 0 w t := fun w t ht => by unfold prc; omega
  unfold ctS dnN
  simp only [h u v (by omega), h (u - 1) v (by omega), h u (v - 1) (by omega), and_true, if_true]
  rw [Nat.mul_comm kd]
  congr 1
  · congr 1
    by_cases e : u = 0
    · rw [if_neg (by omega), if_pos e, Nat.zero_mul]
    · rw [if_pos (by omega), if_neg e, Nat.mul_comm]
  · by_cases e : v = 0
    · rw [if_neg (by omega), if_pos e, Nat.zero_mul]
    · rw [if_pos (by omega), if_neg e, Nat.mul_comm]
def badS (ku kv Du Dw u v : Nat) : Prop := (ku ≠ 0 ∧ u = Du) ∨ (kv ≠ 0 ∧ v = Dw)
/-- what the cells look like at (i, k) of slice m -/
def LiS (S S1 : HS) (cc N m Du Dw s0 s1 s2 ku kv kd : Nat) (n t g : Nat → Nat → Nat) (i k : Nat) : Prop := Ext S S1 (fun b _ => b = cc) V0 ∧ hX S1 = hX S ∧ hS S1 = hS S ∧ (∀ e u v, e ≤ N → u ≤ Du → v ≤ Dw → hI S1 cc (e * s0 + u * s1 + v * s2) = if e = m then (if prc i k u v then ι (n u v) else ι (t u v)) else if e + 1 = m then ι (g u v + ctS ku kv kd n i k u v) else hI S cc (e * s0 + u * s1 + v * s2)) ∧ ∀ u v, u ≤ Du → v ≤ Dw → prc i k u v → badS ku kv Du Dw u v → n u v = 0
/-- the last one of a loop -/
theorem lst_lt {T x B k : Nat} (hT : T ≤ 1000) (hx : x ≤ 1000) (hB : B ≤ 1000) (hk : k ≤ 1000) : ((if ι T - ι x < ι B then ι T - ι x else ι B) < ι k) ↔ T < x + k ∨ B < k := by
  by_cases c : x ≤ T
  · rw [ι_sub c]
    by_cases d : T - x < B
    · rw [if_pos ((ι_lt (by omega) (by omega)).mpr d), ι_lt (by omega) (by omega)]; omega
    · rw [if_neg (fun w => d ((ι_lt (by omega) (by omega)).mp w)), ι_lt (by omega) (by omega)]; omega
  · have e : (ι T - ι x).toInt = (T : Int) - (x : Int) := by
      rw [Int32.toInt_sub, ι_int (by omega), ι_int (by omega)]
      exact Int.bmod_eq_of_le (by omega) (by omega)
    have lt : ∀ b, b ≤ 1000 → ι T - ι x < ι b := fun b hb => by
      rw [Int32.lt_iff_toInt_lt, e, ι_int (by omega)]; omega
    rw [if_pos (lt B hB)]
    exact ⟨fun _ => Or.inl (by omega), fun _ => lt k hk⟩
theorem ι_sub2 (T m i : Nat) : ι T - ι m - ι i = ι T - ι (m + i) := by
  rw [← ι_add]
  grind
/-- where nothing stands nothing is done -/
theorem LiS.sk {S S1 : HS} {cc N m Du Dw s0 s1 s2 ku kv kd : Nat} {n t g : Nat → Nat → Nat} {i k i' k' : Nat} (h : LiS S S1 cc N m Du Dw s0 s1 s2 ku kv kd n t g i k) (mo : ∀ u v, prc i k u v → prc i' k' u v) (hz : ∀ u v, u ≤ Du → v ≤ Dw → prc i' k' u v → ¬ prc i k u v → t u v = 0 ∧ n u v = 0) : LiS S S1 cc N m Du Dw s0 s1 s2 ku kv kd n t g i' k' := by
  obtain ⟨l1, l2, l3, l4, l5⟩ := h
  have tt : ∀ c u v, u ≤ Du → v ≤ Dw → (if prc i k u v then c * n u v else 0) = (if prc i' k' u v then c * n u v else 0) := fun c u v hu hv => by
    by_cases a : prc i k u v
    · rw [if_pos a, if_pos (mo u v a)]
    · rw [if_neg a]
      by_cases b : prc i' k' u v
      · rw [if_pos b, (hz u v hu hv b a).2, Nat.mul_zero]
      · rw [if_neg b]
  have tu : ∀ (P : Prop) [Decidable P] c u v, u ≤ Du → v ≤ Dw → (if P ∧ prc i k u v then c * n u v else 0) = (if P ∧ prc i' k' u v then c * n u v else 0) := fun P _ c u v hu hv => by
    by_cases a : P
    · simp only [a, true_and]; exact tt c u v hu hv
    · rw [if_neg (fun w => a w.1), if_neg (fun w => a w.1)]
  refine ⟨l1, l2, l3, fun e u v he hu hv => ?_, fun u v hu hv pc bd => ?_⟩
  · rw [l4 e u v he hu hv]
    by_cases c : e = m
    · rw [if_pos c, if_pos c]
      by_cases a : prc i k u v
      · rw [if_pos a, if_pos (mo u v a)]
      · rw [if_neg a]
        by_cases b : prc i' k' u v
        · rw [if_pos b, (hz u v hu hv b a).1, (hz u v hu hv b a).2]
        · rw [if_neg b]
    · rw [if_neg c, if_neg c]
      have ec : ctS ku kv kd n i k u v = ctS ku kv kd n i' k' u v := by
        unfold ctS
        rw [tt kd u v hu hv, tu (0 < u) ku (u - 1) v (by omega) hv, tu (0 < v) kv u (v - 1) hu (by omega)]
      rw [ec]
  · by_cases a : prc i k u v
    · exact l5 u v hu hv a bd
    · exact (hz u v hu hv pc a).2
section DSL
variable {M : Nat × Nat} {S : HS} {K : Int32 → HS → Prop} {p w cc N m T Du Dw s0 s1 s2 ku kv kd : Nat} {n t g : Nat → Nat → Nat}
theorem c_ds (hp : 2 ≤ p ∧ p ≤ 13) (wc : w ≠ cc) (hcx : cc < hX S) (tw3 : hT S w = 3) (tc : hT S cc = 21) (pw : hI S w 12 = ι p) (pT : hI S w 9 = ι T) (hT9 : T ≤ 120) (hm : 1 ≤ m ∧ m ≤ N) (hN4 : N ≤ 40) (hN9 : hN S cc ≤ 1000000)
    (hix : ∀ e u v, e ≤ N → u ≤ Du → v ≤ Dw → e * s0 + u * s1 + v * s2 < hN S cc)
    (inj : ∀ e u v e' u' v', e ≤ N → u ≤ Du → v ≤ Dw → e' ≤ N → u' ≤ Du → v' ≤ Dw → e * s0 + u * s1 + v * s2 = e' * s0 + u' * s1 + v' * s2 → e = e' ∧ u = u' ∧ v = v')
    (hwx : w < hX S) (hD4 : Du ≤ 40 ∧ Dw ≤ 40) (hk : ku < 14 ∧ kv < 14 ∧ kd < 14) (ht : ∀ u v, u ≤ Du → v ≤ Dw → t u v < 2000 ∧ t u v % p = n u v ∧ (T < m + u + v → t u v = 0))
    (h1 : ∀ S', LiS S S' cc N m Du Dw s0 s1 s2 ku kv kd n t g (Du + 1) 0 → K 1 S')
    (h0 : ∀ S', Ext S S' (fun b _ => b = cc) V0 → hX S' = hX S → hS S' = hS S → (∃ u v, u ≤ Du ∧ v ≤ Dw ∧ badS ku kv Du Dw u v ∧ n u v ≠ 0) → K 0 S') :
    ∀ (r i : Nat) (S1 : HS), i + r = Du + 1 → LiS S S1 cc N m Du Dw s0 s1 s2 ku kv kd n t g i 0 → wl_X2_divideSlice_141 M K (r + 1) w (ι m) cc (ι s0) (ι s1) (ι s2) (ι ku) (ι kv) (ι kd) (ι Du) (ι Dw) (ι i) S1 := by
  have one : (1 : Int32) = ι 1 := rfl
  have nul : (0 : Int32) = ι 0 := rfl
  have inner : ∀ (K141 : Nat → Int32 → Nat → Int32 → Int32 → Int32 → Int32 → Int32 → Int32 → Int32 → Int32 → Int32 → HS → Prop) (i : Nat) (lw : Int32), i ≤ Du → (∀ k, k ≤ 1000 → (lw < ι k ↔ T < m + i + k ∨ Dw < k)) → (∀ S1, LiS S S1 cc N m Du Dw s0 s1 s2 ku kv kd n t g (i + 1) 0 → K141 w (ι m) cc (ι s0) (ι s1) (ι s2) (ι ku) (ι kv) (ι kd) (ι Du) (ι Dw) (ι (i + 1)) S1) → ∀ (r k : Nat) (S1 : HS), k + r = Dw + 1 → LiS S S1 cc N m Du Dw s0 s1 s2 ku kv kd n t g i k → wl_X2_divideSlice_176 M K141 K (r + 1) w (ι m) cc (ι s0) (ι s1) (ι s2) (ι ku) (ι kv) (ι kd) (ι Du) (ι Dw) (ι i) lw (ι k) S1 := by
    intro K141 i lw hi hlw hn r
    -- the row's end
    have row : ∀ k S1, k ≤ Dw + 1 → (T < m + i + k ∨ Dw < k) → LiS S S1 cc N m Du Dw s0 s1 s2 ku kv kd n t g i k → LiS S S1 cc N m Du Dw s0 s1 s2 ku kv kd n t g (i + 1) 0 := fun k S1 hk1 hk li => li.sk (fun u v a => by unfold prc at a ⊢; omega) (fun u v hu hv a b => by
      have huv : u = i ∧ k ≤ v := by unfold prc at a b; omega
      have := ht u v hu hv
      have z := this.2.2 (by omega)
      exact ⟨z, by rw [← this.2.1, z, Nat.zero_mod]⟩)
    induction r with
    | zero =>
      intro k S1 hkr li
      show wb_X2_divideSlice_176 _ _ _ _ _ _ _ _ _ _ _ _ _ _ _ _ _ _ _
      unfold wb_X2_divideSlice_176
      rw [one, ι_add]
      exact ⟨fun q => hn S1 (row k S1 (by omega) (Or.inr (by omega)) li), fun q => absurd ((hlw k (by omega)).mpr (Or.inr (by omega))) q⟩
    | succ r ih =>
      intro k S1 hkr li
      have hkd : k ≤ Dw := by omega
      have li0 := li
      obtain ⟨l1, l2, l3, l4, l5⟩ := li
      have q1 := l1.2.2.1 w hwx
      have q2 := l1.2.2.1 cc hcx
      have tw1 : hT S1 w = 3 := by rw [q1.1]; exact tw3
      have tc1 : hT S1 cc = 21 := by rw [q2.1]; exact tc
      have nc1 : hN S1 cc = hN S cc := q2.2.1
      have pw1 : hI S1 w 12 = ι p := by rw [q1.2.2.1 12 wc]; exact pw
      have hc := hix m i k (by omega) hi hkd
      have hcb := hix (m - 1) i k (by omega) hi hkd
      have cm := l4 m i k (by omega) hi hkd
      rw [if_pos rfl, if_neg prc_n] at cm
      obtain ⟨t1, t2, -⟩ := ht i k hi hkd
      have hnl : n i k < p := by rw [← t2]; exact Nat.mod_lt _ (by omega)
      have hsub : m * s0 + i * s1 + k * s2 - s0 = (m - 1) * s0 + i * s1 + k * s2 := by
        have : m * s0 = (m - 1) * s0 + s0 := by rw [← Nat.succ_mul]; congr 1; omega
        omega
      have hle0 : s0 ≤ m * s0 + i * s1 + k * s2 := by
        have : m * s0 = (m - 1) * s0 + s0 := by rw [← Nat.succ_mul]; congr 1; omega
        omega
      -- the cell is set
      have st2 : ∀ e u v, e ≤ N → u ≤ Du → v ≤ Dw → hI (sI S1 cc (m * s0 + i * s1 + k * s2) (ι (n i k))) cc (e * s0 + u * s1 + v * s2) = if e = m then (if prc i (k + 1) u v then ι (n u v) else ι (t u v)) else if e + 1 = m then ι (g u v + ctS ku kv kd n i k u v) else hI S cc (e * s0 + u * s1 + v * s2) := fun e u v he hu hv => by
        rw [sI_eq]
        by_cases c : e * s0 + u * s1 + v * s2 = m * s0 + i * s1 + k * s2
        · obtain ⟨rfl, rfl, rfl⟩ := inj e u v m i k he hu hv (by omega) hi hkd c
          rw [if_pos rfl, if_pos rfl, if_pos (prc_s.mpr (Or.inr ⟨rfl, rfl⟩))]
        · rw [if_neg c, l4 e u v he hu hv]
          by_cases c2 : e = m
          · rw [if_pos c2, if_pos c2]
            have c3 : ¬ (u = i ∧ v = k) := fun c3 => c (by rw [c2, c3.1, c3.2])
            have : prc i (k + 1) u v ↔ prc i k u v := ⟨fun z => (prc_s.mp z).elim id (fun z2 => absurd z2 c3), fun z => prc_s.mpr (Or.inl z)⟩
            simp only [this]
          · rw [if_neg c2, if_neg c2]
      have eS2 : Ext S (sI S1 cc (m * s0 + i * s1 + k * s2) (ι (n i k))) (fun b _ => b = cc) V0 := l1.sI rfl
      show wb_X2_divideSlice_176 _ _ _ _ _ _ _ _ _ _ _ _ _ _ _ _ _ _ _
      unfold wb_X2_divideSlice_176
      refine ⟨fun q => by rw [one, ι_add]; exact hn S1 (row k S1 (by omega) ((hlw k (by omega)).mp q) li0), fun _ => fun v1 e1 => ?_⟩
      rw [ι_mul, ι_mul, ι_mul, ι_add, ι_add] at e1
      subst e1
      rw [ι_cl (by omega), cm, pw1, nul, ι_eq (by omega) (by omega), ι_rem (by omega) (by omega), t2]
      refine ⟨tc1, by rw [nc1]; exact ι_in hc (by omega), tw1, by omega, fun v2 e2 => ⟨tc1, by rw [nc1]; exact ι_in hc (by omega), ?_, ?_⟩⟩
      · subst e2
        rw [ι_eq (by omega) (by omega), ι_eq (by omega) (by omega), ι_eq (by omega) (by omega)]
        intro nz
        have bad0 : badS ku kv Du Dw i k → K 0 (sI S1 cc (m * s0 + i * s1 + k * s2) (ι (n i k))) := fun bd => h0 _ eS2 l2 l3 ⟨i, k, hi, hkd, bd, nz⟩
        have go227 : ¬ badS ku kv Du Dw i k → w_X2_divideSlice_252 M K141 (wl_X2_divideSlice_176 M K141 K (r + 1)) K w (ι m) cc (ι s0) (ι s1) (ι s2) (ι ku) (ι kv) (ι kd) (ι Du) (ι Dw) (ι i) lw (ι k) (ι (m * s0 + i * s1 + k * s2)) (ι (n i k)) (sI S1 cc (m * s0 + i * s1 + k * s2) (ι (n i k))) := fun nb => by
          unfold badS at nb
          generalize hS2 : sI S1 cc (m * s0 + i * s1 + k * s2) (ι (n i k)) = S2 at st2 eS2
          have x2 : hX S2 = hX S := by rw [← hS2]; exact l2
          have y2 : hS S2 = hS S := by rw [← hS2]; exact l3
          have tc2 : hT S2 cc = 21 := by rw [(eS2.2.2.1 cc hcx).1]; exact tc
          have nc2 : hN S2 cc = hN S cc := (eS2.2.2.1 cc hcx).2.1
          -- the cell below
          have st3 : ∀ e u v, e ≤ N → u ≤ Du → v ≤ Dw → hI (sI S2 cc ((m - 1) * s0 + i * s1 + k * s2) (ι (g i k + ctS ku kv kd n i k i k + kd * n i k))) cc (e * s0 + u * s1 + v * s2) = if e = m then (if prc i (k + 1) u v then ι (n u v) else ι (t u v)) else if e + 1 = m then ι (g u v + ctS ku kv kd n i k u v + (if u = i ∧ v = k then kd * n i k else 0)) else hI S cc (e * s0 + u * s1 + v * s2) := fun e u v he hu hv => by
            rw [sI_eq]
            by_cases c : e * s0 + u * s1 + v * s2 = (m - 1) * s0 + i * s1 + k * s2
            · obtain ⟨rfl, rfl, rfl⟩ := inj e u v (m - 1) i k he hu hv (by omega) hi hkd c
              rw [if_pos rfl, if_neg (by omega), if_pos (by omega), if_pos ⟨rfl, rfl⟩]
            · rw [if_neg c, st2 e u v he hu hv]
              by_cases c2 : e = m
              · rw [if_pos c2, if_pos c2]
              · rw [if_neg c2, if_neg c2]
                by_cases c3 : e + 1 = m
                · rw [if_pos c3, if_pos c3, if_neg (fun c4 => c (by rw [c4.1, c4.2, show e = m - 1 by omega])), Nat.add_zero]
                · rw [if_neg c3, if_neg c3]
          have cb := st2 (m - 1) i k (by omega) hi hkd
          rw [if_neg (by omega), if_pos (by omega)] at cb
          have eS3 : Ext S (sI S2 cc ((m - 1) * s0 + i * s1 + k * s2) (ι (g i k + ctS ku kv kd n i k i k + kd * n i k))) (fun b _ => b = cc) V0 := eS2.sI rfl
          generalize hS3 : sI S2 cc ((m - 1) * s0 + i * s1 + k * s2) (ι (g i k + ctS ku kv kd n i k i k + kd * n i k)) = S3 at st3 eS3
          have x3 : hX S3 = hX S := by rw [← hS3]; exact x2
          have y3 : hS S3 = hS S := by rw [← hS3]; exact y2
          have tc3 : hT S3 cc = 21 := by rw [(eS3.2.2.1 cc hcx).1]; exact tc
          have nc3 : hN S3 cc = hN S cc := (eS3.2.2.1 cc hcx).2.1
          -- the last one
          have go266 : ∀ S4, Ext S S4 (fun b _ => b = cc) V0 → hX S4 = hX S → hS S4 = hS S → (∀ e u v, e ≤ N → u ≤ Du → v ≤ Dw → hI S4 cc (e * s0 + u * s1 + v * s2) = if e = m then (if prc i (k + 1) u v then ι (n u v) else ι (t u v)) else if e + 1 = m then ι (g u v + ctS ku kv kd n i k u v + (if u = i ∧ v = k then kd * n i k else 0) + (if u = i + 1 ∧ v = k then ku * n i k else 0)) else hI S cc (e * s0 + u * s1 + v * s2)) → w_X2_divideSlice_291 M K141 (wl_X2_divideSlice_176 M K141 K (r + 1)) K w (ι m) cc (ι s0) (ι s1) (ι s2) (ι ku) (ι kv) (ι kd) (ι Du) (ι Dw) (ι i) lw (ι k) (ι (n i k)) (ι ((m - 1) * s0 + i * s1 + k * s2)) S4 := by
            intro S4 eS4 x4 y4 st4
            have tc4 : hT S4 cc = 21 := by rw [(eS4.2.2.1 cc hcx).1]; exact tc
            have nc4 : hN S4 cc = hN S cc := (eS4.2.2.1 cc hcx).2.1
            have fin : ∀ S5, Ext S S5 (fun b _ => b = cc) V0 → hX S5 = hX S → hS S5 = hS S → (∀ e u v, e ≤ N → u ≤ Du → v ≤ Dw → hI S5 cc (e * s0 + u * s1 + v * s2) = if e = m then (if prc i (k + 1) u v then ι (n u v) else ι (t u v)) else if e + 1 = m then ι (g u v + ctS ku kv kd n i k u v + (if u = i ∧ v = k then kd * n i k else 0) + (if u = i + 1 ∧ v = k then ku * n i k else 0) + (if u = i ∧ v = k + 1 then kv * n i k else 0)) else hI S cc (e * s0 + u * s1 + v * s2)) → wl_X2_divideSlice_176 M K141 K (r + 1) w (ι m) cc (ι s0) (ι s1) (ι s2) (ι ku) (ι kv) (ι kd) (ι Du) (ι Dw) (ι i) lw (ι (k + 1)) S5 := by
              intro S5 eS5 x5 y5 st5
              refine ih (k + 1) S5 (by omega) ⟨eS5, x5, y5, fun e u v he hu hv => ?_, fun u v hu hv pc bd => ?_⟩
              · rw [st5 e u v he hu hv, ctS_s, ← Nat.add_assoc, ← Nat.add_assoc, ← Nat.add_assoc]
              · rcases prc_s.mp pc with z | z
                · exact l5 u v hu hv z bd
                · exact absurd (by rw [z.1, z.2] at bd; exact bd) nb
            unfold w_X2_divideSlice_291
            rw [nul, ι_eq (by omega) (by omega), ι_add, one, ι_add]
            refine ⟨fun z => fin S4 eS4 x4 y4 (fun e u v he hu hv => ?_), fun z => ?_⟩
            · rw [st4 e u v he hu hv, z, Nat.zero_mul]
              simp only [ite_self, Nat.add_zero]
            · have hk1 : k + 1 ≤ Dw := by omega
              have hcv := hix (m - 1) i (k + 1) (by omega) hi hk1
              have ev : (m - 1) * s0 + i * s1 + k * s2 + s2 = (m - 1) * s0 + i * s1 + (k + 1) * s2 := by rw [Nat.succ_mul]; omega
              have cv := st4 (m - 1) i (k + 1) (by omega) hi hk1
              rw [if_neg (by omega), if_pos (by omega)] at cv
              rw [ev, ι_cl (by omega), cv, ι_mul, ι_add, nc4]
              refine ⟨tc4, ι_in hcv (by omega), tc4, ι_in hcv (by omega), fin _ (eS4.sI rfl) x4 y4 (fun e u v he hu hv => ?_)⟩
              rw [sI_eq]
              by_cases c : e * s0 + u * s1 + v * s2 = (m - 1) * s0 + i * s1 + (k + 1) * s2
              · obtain ⟨c1, c2, c3⟩ := inj e u v (m - 1) i (k + 1) he hu hv (by omega) hi hk1 c
                rw [if_pos c, if_neg (c := e = m) (by omega), if_pos (c := e + 1 = m) (by omega), if_pos (c := u = i ∧ v = k + 1) ⟨c2, c3⟩, c2, c3]
              · rw [if_neg c, st4 e u v he hu hv]
                by_cases c2 : e = m
                · rw [if_pos c2, if_pos c2]
                · rw [if_neg c2, if_neg c2]
                  by_cases c3 : e + 1 = m
                  · rw [if_pos c3, if_pos c3]
                    congr 1
                    rw [if_neg (c := u = i ∧ v = k + 1) (fun c4 => c (by rw [c4.1, c4.2, show e = m - 1 by omega]))]; rfl
                  · rw [if_neg c3, if_neg c3]
          unfold w_X2_divideSlice_252
          rw [ι_sub hle0, hsub, ι_cl (by omega), cb, ι_mul, ι_add, nul, ι_eq (by omega) (by omega), hS3, nc2, nc3, ι_add]
          refine ⟨tc2, ι_in hcb (by omega), tc2, ι_in hcb (by omega), fun z => go266 S3 eS3 x3 y3 (fun e u v he hu hv => ?_), fun z => ?_⟩
          · rw [st3 e u v he hu hv, z, Nat.zero_mul]
            simp only [ite_self, Nat.add_zero]
          · have hi1 : i + 1 ≤ Du := by omega
            have hcv := hix (m - 1) (i + 1) k (by omega) hi1 hkd
            have ev : (m - 1) * s0 + i * s1 + k * s2 + s1 = (m - 1) * s0 + (i + 1) * s1 + k * s2 := by rw [Nat.succ_mul]; omega
            have cv := st3 (m - 1) (i + 1) k (by omega) hi1 hkd
            rw [if_neg (by omega), if_pos (by omega)] at cv
            rw [ev, ι_cl (by omega), cv, ι_mul, ι_add]
            refine ⟨tc3, ι_in hcv (by omega), tc3, ι_in hcv (by omega), go266 _ (eS3.sI rfl) x3 y3 (fun e u v he hu hv => ?_)⟩
            rw [sI_eq]
            by_cases c : e * s0 + u * s1 + v * s2 = (m - 1) * s0 + (i + 1) * s1 + k * s2
            · obtain ⟨c1, c2, c3⟩ := inj e u v (m - 1) (i + 1) k he hu hv (by omega) hi1 hkd c
              rw [if_pos c, if_neg (c := e = m) (by omega), if_pos (c := e + 1 = m) (by omega), if_pos (c := u = i + 1 ∧ v = k) ⟨c2, c3⟩, c2, c3]
            · rw [if_neg c, st3 e u v he hu hv]
              by_cases c2 : e = m
              · rw [if_pos c2, if_pos c2]
              · rw [if_neg c2, if_neg c2]
                by_cases c3 : e + 1 = m
                · rw [if_pos c3, if_pos c3]
                  congr 1
                  rw [if_neg (c := u = i + 1 ∧ v = k) (fun c4 => c (by rw [c4.1, c4.2, show e = m - 1 by omega]))]; rfl
                · rw [if_neg c3, if_neg c3]
        have go213 : ¬ (ku ≠ 0 ∧ i = Du) → w_X2_divideSlice_238 M K141 (wl_X2_divideSlice_176 M K141 K (r + 1)) K w (ι m) cc (ι s0) (ι s1) (ι s2) (ι ku) (ι kv) (ι kd) (ι Du) (ι Dw) (ι i) lw (ι k) (ι (m * s0 + i * s1 + k * s2)) (ι (n i k)) (sI S1 cc (m * s0 + i * s1 + k * s2) (ι (n i k))) := fun nb => by
          unfold w_X2_divideSlice_238
          rw [nul, ι_eq (by omega) (by omega), ι_eq (by omega) (by omega)]
          refine ⟨fun z => go227 (by unfold badS; omega), fun z => ⟨fun z2 => go227 (by unfold badS; omega), fun z2 => bad0 (Or.inr ⟨z, z2⟩)⟩⟩
        exact ⟨fun z => go213 (by omega), fun z => ⟨fun z2 => bad0 (Or.inl ⟨z, z2⟩), fun z2 => go213 (by omega)⟩⟩
      · subst e2
        rw [ι_eq (by omega) (by omega), one, ι_add]
        intro z
        refine ih (k + 1) _ (by omega) ⟨eS2, l2, l3, fun e u v he hu hv => ?_, fun u v hu hv pc bd => ?_⟩
        · rw [st2 e u v he hu hv, ctS_s, z, Nat.mul_zero, Nat.mul_zero, Nat.mul_zero]
          simp only [ite_self, Nat.add_zero]
        · rcases prc_s.mp pc with z1 | z1
          · exact l5 u v hu hv z1 bd
          · rw [z1.1, z1.2]; exact z
  intro r
  have pT1 : ∀ S1, Ext S S1 (fun b _ => b = cc) V0 → hI S1 w 9 = ι T ∧ hT S1 w = 3 := fun S1 e => ⟨by rw [(e.2.2.1 w hwx).2.2.1 9 wc]; exact pT, by rw [(e.2.2.1 w hwx).1]; exact tw3⟩
  have fin : ∀ i S1, i ≤ Du + 1 → (T < m + i ∨ Du < i) → LiS S S1 cc N m Du Dw s0 s1 s2 ku kv kd n t g i 0 → K 1 S1 := fun i S1 hi1 hi li => h1 S1 (li.sk (fun u v a => by unfold prc at a ⊢; omega) (fun u v hu hv a b => by
    have huv : i ≤ u := by unfold prc at a b; omega
    have := ht u v hu hv
    have z := this.2.2 (by omega)
    exact ⟨z, by rw [← this.2.1, z, Nat.zero_mod]⟩))
  induction r with
  | zero =>
    intro i S1 hir li
    obtain ⟨g1, g2⟩ := pT1 S1 li.1
    show wb_X2_divideSlice_141 _ _ _ _ _ _ _ _ _ _ _ _ _ _ _ _
    unfold wb_X2_divideSlice_141
    rw [g1, lst_lt (by omega) (by omega) (by omega) (by omega)]
    exact ⟨g2, fun q => fin i S1 (by omega) q li, fun q => absurd (Or.inr (by omega)) q⟩
  | succ r ih =>
    intro i S1 hir li
    obtain ⟨g1, g2⟩ := pT1 S1 li.1
    show wb_X2_divideSlice_141 _ _ _ _ _ _ _ _ _ _ _ _ _ _ _ _
    unfold wb_X2_divideSlice_141
    rw [g1, lst_lt (by omega) (by omega) (by omega) (by omega), ι_sub2]
    exact ⟨g2, fun q => fin i S1 (by omega) q li, fun q => ⟨g2, fun v1 e1 => ⟨Dw + 1 + 1, inner _ i v1 (by omega) (fun k hk => by rw [e1]; exact lst_lt (by omega) (by omega) (by omega) hk) (fun S2 l2 => ih (i + 1) S2 (by omega) l2) (Dw + 1) 0 S1 (by omega) li⟩⟩⟩
end DSL
/-! Division by a line inside the box of its degrees. -/
theorem pl_out {q b c d : Int} {G : Z3} {N Du Dw : Nat} (hG : ∀ e u v, Du < u ∨ Dw < v → q ∣ G e u v) (H : ∀ i, i ≤ N → ∀ u v, u ≤ Du → v ≤ Dw → (¬ q ∣ b ∧ u = Du) ∨ (¬ q ∣ c ∧ v = Dw) → q ∣ pln b c d G N i u v) : ∀ i, i ≤ N + 1 → ∀ u v, Du < u ∨ Dw < v → q ∣ pln b c d G N i u v := by
  intro i
  induction i with
  | zero => intro _ u v _; exact Int.dvd_zero q
  | succ i ih =>
    intro hi u v huv
    have ih := ih (by omega)
    have a1 := hG (N - i) u v huv
    have a2 := ih u v huv
    have a3 : q ∣ b * dn (fun w => pln b c d G N i w v) u := by
      cases u with
      | zero => rw [dn0, Int.mul_zero]; exact Int.dvd_zero q
      | succ u =>
        rw [dn1]
        by_cases hb : q ∣ b
        · exact Int.dvd_mul_of_dvd_left hb
        · refine Int.dvd_mul_of_dvd_right ?_
          by_cases c1 : Du < u ∨ Dw < v
          · exact ih u v c1
          · exact H i (by omega) u v (by omega) (by omega) (Or.inl ⟨hb, by omega⟩)
    have a4 : q ∣ c * dn (fun w => pln b c d G N i u w) v := by
      cases v with
      | zero => rw [dn0, Int.mul_zero]; exact Int.dvd_zero q
      | succ v =>
        rw [dn1]
        by_cases hb : q ∣ c
        · exact Int.dvd_mul_of_dvd_left hb
        · refine Int.dvd_mul_of_dvd_right ?_
          by_cases c1 : Du < u ∨ Dw < v
          · exact ih u v c1
          · exact H i (by omega) u v (by omega) (by omega) (Or.inr ⟨hb, by omega⟩)
    show q ∣ G (N - i) u v - d * pln b c d G N i u v - b * dn (fun w => pln b c d G N i w v) u - c * dn (fun w => pln b c d G N i u w) v
    exact Int.dvd_sub (Int.dvd_sub (Int.dvd_sub a1 (Int.dvd_mul_of_dvd_right a2)) a3) a4
/-- planes keep the degree -/
theorem pl_dg {q b c d : Int} {G : Z3} {N T : Nat} (hG : ∀ e u v, T < e + u + v → q ∣ G e u v) : ∀ i, i ≤ N + 1 → ∀ u v, T < N + 1 - i + u + v → q ∣ pln b c d G N i u v := by
  intro i
  induction i with
  | zero => intro _ u v _; exact Int.dvd_zero q
  | succ i ih =>
    intro hi u v huv
    have ih := ih (by omega)
    have a1 := hG (N - i) u v (by omega)
    have a2 := ih u v (by omega)
    have a3 : q ∣ b * dn (fun w => pln b c d G N i w v) u := by
      cases u with
      | zero => rw [dn0, Int.mul_zero]; exact Int.dvd_zero q
      | succ u => rw [dn1]; exact Int.dvd_mul_of_dvd_right (ih u v (by omega))
    have a4 : q ∣ c * dn (fun w => pln b c d G N i u w) v := by
      cases v with
      | zero => rw [dn0, Int.mul_zero]; exact Int.dvd_zero q
      | succ v => rw [dn1]; exact Int.dvd_mul_of_dvd_right (ih u v (by omega))
    show q ∣ G (N - i) u v - d * pln b c d G N i u v - b * dn (fun w => pln b c d G N i w v) u - c * dn (fun w => pln b c d G N i u w) v
    exact Int.dvd_sub (Int.dvd_sub (Int.dvd_sub a1 (Int.dvd_mul_of_dvd_right a2)) a3) a4
/-- nothing of a higher degree -/
def Dg3 (T : Nat) (F : N3) : Prop := ∀ x y z, T < x + y + z → F x y z = 0
theorem Dg3.tw {T l : Nat} {F : N3} (h : Dg3 T F) (e u v : Nat) (k : T < e + u + v) : twN l F e u v = 0 := by
  unfold twN
  split
  · exact h e u v k
  · split
    · exact h u e v (by omega)
    · exact h u v e (by omega)
/-- numbers below p, none outside the degrees -/
def Sp3 (p : Nat) (D : Nat → Nat) (F : N3) : Prop := (∀ v, v ≤ 2 → D v ≤ 40) ∧ ∀ x y z, F x y z < p ∧ (D 0 < x ∨ D 1 < y ∨ D 2 < z → F x y z = 0)
/-- the degrees behind a division -/
def dcD (D : Nat → Nat) (a b c v : Nat) : Nat := D v - (if v = led a b then 1 else if v = fsL (led a b) then (if l1 a b = 0 then 0 else 1) else (if l2 a b c = 0 then 0 else 1))
section BOX
variable {p a b c d : Nat} {D : Nat → Nat} {F : N3}
theorem Sp3.bd (h : Sp3 p D F) : Bd p F := fun x y z => ⟨(h.2 x y z).1, fun k => (h.2 x y z).2 (by have := h.1 0 (by omega); have := h.1 1 (by omega); have := h.1 2 (by omega); omega)⟩
theorem Sp3.tw (h : Sp3 p D F) {l : Nat} (hl : l ≤ 2) (e u v : Nat) (k : D l < e ∨ D (fsL l) < u ∨ D (scL l) < v) : twN l F e u v = 0 := by
  have : l = 0 ∨ l = 1 ∨ l = 2 := by omega
  rcases this with rfl | rfl | rfl
  · exact (h.2 e u v).2 k
  · have k : D 1 < e ∨ D 0 < u ∨ D 2 < v := k
    exact (h.2 u e v).2 (by omega)
  · have k : D 2 < e ∨ D 0 < u ∨ D 1 < v := k
    exact (h.2 u v e).2 (by omega)
theorem led_le : led a b ≤ 2 := by unfold led; split; omega; split <;> omega
theorem Ln.lb (h : Ln p a b c d) : l1 a b < p ∧ l2 a b c < p ∧ d < p := by
  obtain ⟨h | h | h, hd⟩ := h
  · obtain ⟨rfl, hb, hc⟩ := h; exact ⟨hb, hc, hd⟩
  · obtain ⟨rfl, rfl, hc⟩ := h; exact ⟨by show 0 < p; omega, hc, hd⟩
  · obtain ⟨rfl, rfl, rfl⟩ := h; exact ⟨by show 0 < p; omega, by show 0 < p; omega, hd⟩
theorem dv0 {n : Nat} (h : n < p) : (p : Int) ∣ (n : Int) ↔ n = 0 := ⟨lt_dv h, fun e => by rw [e]; exact Int.dvd_zero _⟩
/-- what a plane of the division is -/
def plS (p a b c d : Nat) (D : Nat → Nat) (F : N3) (i u v : Nat) : Nat := rsN p (pln (l1 a b : Int) (l2 a b c : Int) (d : Int) (nz3 (twN (led a b) F)) (D (led a b)) i u v)
def badL (a b c : Nat) (D : Nat → Nat) (u v : Nat) : Prop := (l1 a b ≠ 0 ∧ u = D (fsL (led a b))) ∨ (l2 a b c ≠ 0 ∧ v = D (scL (led a b)))
theorem plS_dg {T : Nat} (hp : 0 < p) (hg : Dg3 T F) {i u v : Nat} (hi : i ≤ D (led a b) + 1) (k : T < D (led a b) + 1 - i + u + v) : plS p a b c d D F i u v = 0 := (rs_0 hp).mpr (pl_dg (fun e u v w => by
  show (p : Int) ∣ ((twN (led a b) F e u v : Nat) : Int)
  rw [hg.tw e u v w]; exact Int.dvd_zero _) i hi u v k)
theorem dv_tw (hln : Ln p a b c d) : Dv (p : Int) (lv a b c d) (nz3 F) ↔ Dv (p : Int) (1, (l1 a b : Int), (l2 a b c : Int), (d : Int)) (nz3 (twN (led a b) F)) := by
  rw [nz_tw, ← hln.tv]
  exact tw_dv.symm
theorem tw_su0 (hs : Sp3 p D F) : (∀ e u v, D (led a b) < e → (p : Int) ∣ nz3 (twN (led a b) F) e u v) ∧ (∀ e u v, D (fsL (led a b)) < u → (p : Int) ∣ nz3 (twN (led a b) F) e u v) ∧ (∀ e u v, D (scL (led a b)) < v → (p : Int) ∣ nz3 (twN (led a b) F) e u v) := by
  have z : ∀ e u v, twN (led a b) F e u v = 0 → (p : Int) ∣ nz3 (twN (led a b) F) e u v := fun e u v h => by
    show (p : Int) ∣ ((twN (led a b) F e u v : Nat) : Int)
    rw [h]; exact Int.dvd_zero _
  exact ⟨fun e u v k => z e u v (hs.tw led_le e u v (Or.inl k)), fun e u v k => z e u v (hs.tw led_le e u v (Or.inr (Or.inl k))), fun e u v k => z e u v (hs.tw led_le e u v (Or.inr (Or.inr k)))⟩
theorem dv_bad (hpp : PrP p) (hln : Ln p a b c d) (hs : Sp3 p D F) {i u v : Nat} (hi : i ≤ D (led a b)) (bd : badL a b c D u v) (hn : plS p a b c d D F i u v ≠ 0) : ¬ Dv (p : Int) (lv a b c d) (nz3 F) := fun hd => by
  have hp := hpp.le
  have lb := hln.lb
  rw [dv_tw hln] at hd
  have su := tw_su0 (a := a) (b := b) hs
  refine hn ((rs_0 (by omega)).mpr ?_)
  rcases bd with ⟨h1, h2⟩ | ⟨h1, h2⟩
  · exact (dv_le hpp.pq hpp.n1 su.1 hd (m := D (fsL (led a b)))).2.1 (fun w => h1 ((dv0 lb.1).mp w)) su.2.1 i hi u v (by omega)
  · exact (dv_le hpp.pq hpp.n1 su.1 hd (m := D (scL (led a b)))).2.2 (fun w => h1 ((dv0 lb.2.1).mp w)) su.2.2 i hi u v (by omega)
theorem dv_rem (hpp : PrP p) (hln : Ln p a b c d) (hs : Sp3 p D F) {u v : Nat} (hn : plS p a b c d D F (D (led a b) + 1) u v ≠ 0) : ¬ Dv (p : Int) (lv a b c d) (nz3 F) := fun hd => by
  have hp := hpp.le
  rw [dv_tw hln] at hd
  exact hn ((rs_0 (by omega)).mpr (dv_rm0 hpp.pq hpp.n1 (tw_su0 (a := a) (b := b) hs).1 hd u v))
theorem dv_cgo (hpp : PrP p) (hln : Ln p a b c d) (hs : Sp3 p D F) (ne : ∃ x y z, F x y z ≠ 0) (hc : ¬ cgo D a b c) : ¬ Dv (p : Int) (lv a b c d) (nz3 F) := fun hd => by
  have hp := hpp.le
  have lb := hln.lb
  rw [dv_tw hln] at hd
  have su := tw_su0 (a := a) (b := b) hs
  obtain ⟨x, y, z, hne⟩ := ne
  have ne2 : ∃ e u v, twN (led a b) F e u v ≠ 0 := by
    have : led a b = 0 ∨ led a b = 1 ∨ led a b = 2 := by have := led_le (a := a) (b := b); omega
    rcases this with h | h | h <;> rw [h]
    · exact ⟨x, y, z, hne⟩
    · exact ⟨y, x, z, hne⟩
    · exact ⟨z, x, y, hne⟩
  obtain ⟨e, u, v, hn2⟩ := ne2
  have dl := dv_le hpp.pq hpp.n1 su.1 hd (m := 0)
  -- all planes are nothing, so is F
  have fin : (∀ e u v, (p : Int) ∣ quo (l1 a b : Int) (l2 a b c : Int) (d : Int) (nz3 (twN (led a b) F)) (D (led a b)) e u v) → False := fun hq => by
    have hz : Su (p : Int) 41 (nz3 (twN (led a b) F)) := (Bd.tw hs.bd).su
    have al := dv_rm hz su.1 (dv_rm0 hpp.pq hpp.n1 su.1 hd)
    have a0 : Al (p : Int) (quo (l1 a b : Int) (l2 a b c : Int) (d : Int) (nz3 (twN (led a b) F)) (D (led a b))) z3 := fun x y z => by
      rw [show z3 x y z = 0 from rfl, Int.sub_zero]; exact hq x y z
    have a1 := al.tr (a0.by_ (L := (1, (l1 a b : Int), (l2 a b c : Int), (d : Int))))
    have a2 := a1 e u v
    have a3 : lm (1, (l1 a b : Int), (l2 a b c : Int), (d : Int)) z3 e u v = 0 := by
      have dz : ∀ x, dn (fun _ => (0 : Int)) x = 0 := fun x => by cases x <;> rfl
      show 1 * dn (fun _ => (0 : Int)) e + _ * dn (fun _ => (0 : Int)) u + _ * dn (fun _ => (0 : Int)) v + _ * (0 : Int) = 0
      rw [dz, dz, dz]; simp
    rw [a3, Int.sub_zero] at a2
    exact hn2 (lt_dv ((Bd.tw hs.bd e u v).1) a2)
  unfold cgo at hc
  by_cases h1 : 0 < D (led a b)
  · by_cases h2 : l1 a b = 0 ∨ 0 < D (fsL (led a b))
    · have h3 : l2 a b c ≠ 0 ∧ D (scL (led a b)) = 0 := by omega
      exact fin (fun e u v => dl.2.2 (fun w => h3.1 ((dv0 lb.2.1).mp w)) (fun e u v k => su.2.2 e u v (by omega)) _ (by omega) u v (by omega))
    · exact fin (fun e u v => dl.2.1 (fun w => (show l1 a b ≠ 0 by omega) ((dv0 lb.1).mp w)) (fun e u v k => su.2.1 e u v (by omega)) _ (by omega) u v (by omega))
  · exact fin (fun e u v => dl.1 e u v (by omega))
/-- what is left behind a division that goes out -/
def dvF (p a b c d : Nat) (D : Nat → Nat) (F : N3) : N3 := utN (led a b) (fun e u v => plS p a b c d D F (D (led a b) - e) u v)
theorem dvF_dg {T : Nat} (hp : 0 < p) (hg : Dg3 T F) {x y z : Nat} (k : T ≤ x + y + z) : dvF p a b c d D F x y z = 0 := by
  have key : ∀ e u v, T ≤ e + u + v → plS p a b c d D F (D (led a b) - e) u v = 0 := fun e u v k => by
    by_cases g : e ≤ D (led a b)
    · exact plS_dg hp hg (by omega) (by omega)
    · unfold plS
      rw [show D (led a b) - e = 0 by omega]
      exact (rs_0 hp).mpr (Int.dvd_zero _)
  unfold dvF utN
  split
  · exact key x y z k
  · split
    · exact key y x z (by omega)
    · exact key z x y (by omega)
theorem fsL_ne {l : Nat} (hl : l ≤ 2) : fsL l ≠ l ∧ scL l ≠ l ∧ fsL l ≠ scL l ∧ fsL l ≤ 2 ∧ scL l ≤ 2 := by unfold fsL scL; split <;> split <;> omega
theorem dv_ok (hpp : PrP p) (hln : Ln p a b c d) (hs : Sp3 p D F) (hc : cgo D a b c) (H : ∀ i, i ≤ D (led a b) → ∀ u v, u ≤ D (fsL (led a b)) → v ≤ D (scL (led a b)) → badL a b c D u v → plS p a b c d D F i u v = 0) (hr : ∀ u v, u ≤ D (fsL (led a b)) → v ≤ D (scL (led a b)) → plS p a b c d D F (D (led a b) + 1) u v = 0) : Al (p : Int) (nz3 F) (lm (lv a b c d) (nz3 (dvF p a b c d D F))) ∧ Sp3 p (dcD D a b c) (dvF p a b c d D F) := by
  have hp := hpp.le
  have lb := hln.lb
  have hl2 := led_le (a := a) (b := b)
  obtain ⟨f1, f2, f3, f4, f5⟩ := fsL_ne hl2
  have su := tw_su0 (a := a) (b := b) hs
  have hz : Su (p : Int) 41 (nz3 (twN (led a b) F)) := (Bd.tw hs.bd).su
  have out := pl_out (q := (p : Int)) (b := (l1 a b : Int)) (c := (l2 a b c : Int)) (d := (d : Int)) (G := nz3 (twN (led a b) F)) (N := D (led a b)) (Du := D (fsL (led a b))) (Dw := D (scL (led a b))) (fun e u v k => k.elim (su.2.1 e u v) (su.2.2 e u v)) (fun i hi u v hu hv k => (rs_0 (by omega)).mp (H i hi u v hu hv (by
    rw [dv0 lb.1, dv0 lb.2.1] at k
    unfold badL; omega)))
  have all0 : ∀ u v, (p : Int) ∣ pln (l1 a b : Int) (l2 a b c : Int) (d : Int) (nz3 (twN (led a b) F)) (D (led a b)) (D (led a b) + 1) u v := fun u v => by
    by_cases k : D (fsL (led a b)) < u ∨ D (scL (led a b)) < v
    · exact out _ (Nat.le_refl _) u v k
    · exact (rs_0 (by omega)).mp (hr u v (by omega) (by omega))
  have al := dv_rm hz su.1 all0
  refine ⟨?_, fun v hv => ?_, fun x y z => ?_⟩
  · rw [← tw_al (l := led a b), tw_lm, hln.tv, ← nz_tw, ← nz_tw]
    refine al.tr (Al.by_ (fun e u v => ?_))
    unfold dvF
    rw [twN_ut]
    have := rs_cg (p := p) (x := quo (l1 a b : Int) (l2 a b c : Int) (d : Int) (nz3 (twN (led a b) F)) (D (led a b)) e u v) (by omega)
    have e2 : nz3 (fun e u v => plS p a b c d D F (D (led a b) - e) u v) e u v = (rsN p (quo (l1 a b : Int) (l2 a b c : Int) (d : Int) (nz3 (twN (led a b) F)) (D (led a b)) e u v) : Int) := rfl
    rw [e2, show ∀ s t : Int, s - t = (t - s) * (-1) from fun s t => by omega]
    exact Int.dvd_mul_of_dvd_left this
  · have := hs.1 v hv
    unfold dcD; omega
  · have pl0 : ∀ e u v, D (led a b) ≤ e → plS p a b c d D F (D (led a b) - e) u v = 0 := fun e u v k => by
      unfold plS
      rw [show D (led a b) - e = 0 by omega]
      exact (rs_0 (by omega)).mpr (Int.dvd_zero _)
    have plt : ∀ i u v, plS p a b c d D F i u v < p := fun i u v => rs_lt (by omega)
    have plo : ∀ e u v, D (fsL (led a b)) < u ∨ D (scL (led a b)) < v ∨ badL a b c D u v → plS p a b c d D F (D (led a b) - e) u v = 0 := fun e u v k => by
      by_cases k2 : D (fsL (led a b)) < u ∨ D (scL (led a b)) < v
      · exact (rs_0 (by omega)).mpr (out _ (by omega) u v k2)
      · exact H _ (by omega) u v (by omega) (by omega) (by rcases k with k | k | k; omega; omega; exact k)
    -- in the order of the line
    have key : ∀ e u v, dcD D a b c (led a b) < e ∨ dcD D a b c (fsL (led a b)) < u ∨ dcD D a b c (scL (led a b)) < v → plS p a b c d D F (D (led a b) - e) u v = 0 := fun e u v k => by
      unfold dcD at k
      rw [if_pos (c := led a b = led a b) rfl, if_neg (c := fsL (led a b) = led a b) f1, if_pos (c := fsL (led a b) = fsL (led a b)) rfl, if_neg (c := scL (led a b) = led a b) f2, if_neg (c := scL (led a b) = fsL (led a b)) (fun w => f3 w.symm)] at k
      unfold cgo at hc
      rcases k with k | k | k
      · exact pl0 e u v (by omega)
      · refine plo e u v ?_
        unfold badL
        by_cases g : l1 a b = 0
        · rw [if_pos g] at k; omega
        · rw [if_neg g] at k; omega
      · refine plo e u v ?_
        unfold badL
        by_cases g : l2 a b c = 0
        · rw [if_pos g] at k; omega
        · rw [if_neg g] at k; omega
    unfold dvF utN
    have h3 : led a b = 0 ∨ led a b = 1 ∨ led a b = 2 := by omega
    generalize dcD D a b c = D' at key
    rcases h3 with h | h | h <;> rw [h] at key ⊢
    · exact ⟨plt _ _ _, fun k => key x y z k⟩
    · exact ⟨plt _ _ _, fun k => key y x z (by show D' 1 < y ∨ D' 0 < x ∨ D' 2 < z; omega)⟩
    · exact ⟨plt _ _ _, fun k => key z x y (by show D' 2 < z ∨ D' 0 < x ∨ D' 1 < y; omega)⟩
end BOX
/-! The class's division: strides, slices. -/
def sB (Y Z v : Nat) : Nat := if v = 0 then (Y + 1) * (Z + 1) else if v = 1 then Z + 1 else 1
def dm (X Y Z v : Nat) : Nat := if v = 0 then X else if v = 1 then Y else Z
def cxl (Y Z l e u v : Nat) : Nat := if l = 0 then cx Y Z e u v else if l = 1 then cx Y Z u e v else cx Y Z u v e
section STR
variable {X Y Z l e u v e' u' v' : Nat}
theorem sB_ix (hl : l ≤ 2) : e * sB Y Z l + u * sB Y Z (fsL l) + v * sB Y Z (scL l) = cxl Y Z l e u v := by
  have : l = 0 ∨ l = 1 ∨ l = 2 := by omega
  rcases this with rfl | rfl | rfl
  · show e * ((Y + 1) * (Z + 1)) + u * (Z + 1) + v * 1 = e * ((Y + 1) * (Z + 1)) + (u * (Z + 1) + v)
    omega
  · show e * (Z + 1) + u * ((Y + 1) * (Z + 1)) + v * 1 = u * ((Y + 1) * (Z + 1)) + (e * (Z + 1) + v)
    omega
  · show e * 1 + u * ((Y + 1) * (Z + 1)) + v * (Z + 1) = u * ((Y + 1) * (Z + 1)) + (v * (Z + 1) + e)
    omega
theorem cxl_lt (hl : l ≤ 2) (h1 : e ≤ dm X Y Z l) (h2 : u ≤ dm X Y Z (fsL l)) (h3 : v ≤ dm X Y Z (scL l)) : cxl Y Z l e u v < usd X Y Z := by
  have : l = 0 ∨ l = 1 ∨ l = 2 := by omega
  rcases this with rfl | rfl | rfl
  · exact cx_lt h1 h2 h3
  · exact cx_lt h2 h1 h3
  · exact cx_lt h2 h3 h1
theorem cxl_inj (hl : l ≤ 2) (h1 : e ≤ dm X Y Z l) (h2 : u ≤ dm X Y Z (fsL l)) (h3 : v ≤ dm X Y Z (scL l)) (h1' : e' ≤ dm X Y Z l) (h2' : u' ≤ dm X Y Z (fsL l)) (h3' : v' ≤ dm X Y Z (scL l)) (h : cxl Y Z l e u v = cxl Y Z l e' u' v') : e = e' ∧ u = u' ∧ v = v' := by
  have : l = 0 ∨ l = 1 ∨ l = 2 := by omega
  rcases this with rfl | rfl | rfl
  · have := cx_inj (Y := Y) (Z := Z) h2 h3 h2' h3' h
    omega
  · have := cx_inj (Y := Y) (Z := Z) h1 h3 h1' h3' h
    omega
  · have := cx_inj (Y := Y) (Z := Z) h3 h1 h3' h1' h
    omega
/-- how many cells are used, by the degrees -/
def ub (D : Nat → Nat) (Y Z : Nat) : Nat := cx Y Z (D 0) (D 1) (D 2) + 1
theorem cx_mo {x y z x' y' z' : Nat} (hx : x ≤ x') (hy : y ≤ y') (hz : z ≤ z') : cx Y Z x y z ≤ cx Y Z x' y' z' := by
  unfold cx
  have h1 := Nat.mul_le_mul_right ((Y + 1) * (Z + 1)) hx
  have h2 := Nat.mul_le_mul_right (Z + 1) hy
  omega
theorem cxl_ub {D : Nat → Nat} (hl : l ≤ 2) (h1 : e ≤ D l) (h2 : u ≤ D (fsL l)) (h3 : v ≤ D (scL l)) : cxl Y Z l e u v < ub D Y Z := by
  have : l = 0 ∨ l = 1 ∨ l = 2 := by omega
  rcases this with rfl | rfl | rfl
  · exact Nat.lt_succ_of_le (cx_mo h1 h2 h3)
  · exact Nat.lt_succ_of_le (cx_mo h2 h1 h3)
  · exact Nat.lt_succ_of_le (cx_mo h2 h3 h1)
theorem ub_le {D : Nat → Nat} (h : ∀ v, v ≤ 2 → D v ≤ dm X Y Z v) : ub D Y Z ≤ usd X Y Z := cx_lt (h 0 (by omega)) (h 1 (by omega)) (h 2 (by omega))
theorem ub_mo {D D' : Nat → Nat} (h : ∀ v, v ≤ 2 → D' v ≤ D v) : ub D' Y Z ≤ ub D Y Z := Nat.succ_le_succ (cx_mo (h 0 (by omega)) (h 1 (by omega)) (h 2 (by omega)))
theorem ub_usd {D : Nat → Nat} (h0 : D 0 = X) (h1 : D 1 = Y) (h2 : D 2 = Z) : ub D Y Z = usd X Y Z := by
  unfold ub cx usd
  rw [h0, h1, h2, Nat.succ_mul X]
  have : (Y + 1) * (Z + 1) = Y * (Z + 1) + (Z + 1) := Nat.succ_mul _ _
  omega
end STR
/-- Factors at work: degrees, p, the degree of what is left -/
def FL (h0 : Nat) (S : HS) (p : Nat) (D : Nat → Nat) (T X Y Z : Nat) : Prop := Lay h0 S ∧ h0 + 60 ≤ hX S ∧ CBx h0 S ∧ hI S (h0 + 25) 12 = ι p ∧ (∀ v, v ≤ 2 → hI S (h0 + 45) v = ι (D v) ∧ D v ≤ dm X Y Z v) ∧ (X ≤ 40 ∧ Y ≤ 40 ∧ Z ≤ 40) ∧ PrP p ∧ hI S (h0 + 25) 9 = ι T ∧ T ≤ 120
/-- the trial's strides and room -/
def Tb (h0 : Nat) (S : HS) (Y Z : Nat) (D : Nat → Nat) : Prop := (∀ v, v ≤ 2 → hI S (h0 + 44) v = ι (sB Y Z v)) ∧ ub D Y Z ≤ hN S (bxC h0 S 42)
def Wc (cc b _k : Nat) : Prop := b = cc
theorem dm_le {X Y Z v : Nat} (h : X ≤ 40 ∧ Y ≤ 40 ∧ Z ≤ 40) : dm X Y Z v ≤ 40 := by unfold dm; split; omega; split <;> omega
section FLG
variable {h0 p T X Y Z o : Nat} {D : Nat → Nat} {S S' : HS}
theorem FL.go (h : FL h0 S p D T X Y Z) (ho : o = 39 ∨ o = 42) (e : Ext S S' (Wc (bxC h0 S o)) V0) : FL h0 S' p D T X Y Z := by
  obtain ⟨a1, a2, a3, a4, a5, a6, a7, a8, a9⟩ := h
  have hb : bxC h0 S o = h0 + o + 1 ∨ h0 + 58 ≤ bxC h0 S o := by rcases ho with rfl | rfl; exact a3.1.2.2.1.2.2.2.2.1; exact a3.1.2.2.2.2.2.2.2.1
  refine ⟨a1.go a2 e (fun _ _ c => c), by have := e.1; omega, a3.go e (fun o ho => (e.2.2.1 _ (by omega)).2.2.2 0 (fun c => c)), ?_, fun v hv => ?_, a6, a7, ?_, a9⟩
  · rw [(e.2.2.1 (h0 + 25) (by omega)).2.2.1 12 (by unfold Wc; omega)]; exact a4
  · rw [(e.2.2.1 (h0 + 45) (by omega)).2.2.1 v (by unfold Wc; omega)]; exact a5 v hv
  · rw [(e.2.2.1 (h0 + 25) (by omega)).2.2.1 9 (by unfold Wc; omega)]; exact a8
theorem Tb.go (h : Tb h0 S Y Z D) (hf : FL h0 S p D T X Y Z) (ho : o = 39 ∨ o = 42) (e : Ext S S' (Wc (bxC h0 S o)) V0) : Tb h0 S' Y Z D := by
  obtain ⟨a1, a2, a3, -⟩ := hf
  have hb : bxC h0 S o = h0 + o + 1 ∨ h0 + 58 ≤ bxC h0 S o := by rcases ho with rfl | rfl; exact a3.1.2.2.1.2.2.2.2.1; exact a3.1.2.2.2.2.2.2.2.1
  have e42 : bxC h0 S' 42 = bxC h0 S 42 := bxC.go ((e.2.2.1 _ (by omega)).2.2.2 0 (fun c => c))
  refine ⟨fun v hv => ?_, ?_⟩
  · rw [(e.2.2.1 (h0 + 44) (by omega)).2.2.1 v (by unfold Wc; omega)]; exact h.1 v hv
  · rw [e42, (e.2.2.1 _ a3.1.2.2.2.2.1).2.1]; exact h.2
theorem LnAt.go {q a b c d : Nat} {W V : Nat → Nat → Prop} (h : LnAt S q a b c d) (hq : q < hX S) (e : Ext S S' W V) (hw : ∀ k, ¬ W q k) : LnAt S' q a b c d := by
  obtain ⟨a0, a1, a2, a3, a4, a5, a6⟩ := h
  have ee := e.2.2.1 q hq
  refine ⟨by rw [ee.1]; exact a0, ?_, ?_, ?_, ?_, ?_, ?_⟩ <;> rw [ee.2.2.1 _ (hw _)] <;> assumption
end FLG
/-- the trial's cells when slice m is next -/
def SIx (h0 : Nat) (S : HS) (Y Z p a b c d : Nat) (D : Nat → Nat) (T : Nat) (F : N3) (m : Nat) : Prop := ∀ e u v, e ≤ D (led a b) → u ≤ D (fsL (led a b)) → v ≤ D (scL (led a b)) → (m < e → hI S (bxC h0 S 42) (cxl Y Z (led a b) e u v) = ι (plS p a b c d D F (D (led a b) + 1 - e) u v)) ∧ (e = m → ∃ t, t < 2000 ∧ hI S (bxC h0 S 42) (cxl Y Z (led a b) e u v) = ι t ∧ t % p = plS p a b c d D F (D (led a b) + 1 - m) u v ∧ (T < e + u + v → t = 0)) ∧ (e < m → hI S (bxC h0 S 42) (cxl Y Z (led a b) e u v) = ι (twN (led a b) F e u v))
def kz (p b : Nat) : Nat := if b = 0 then 0 else p - b
theorem kz_dv {p b : Nat} (h : b < p) : (p : Int) ∣ (kz p b : Int) + (b : Int) := by
  unfold kz
  split
  · rename_i e; rw [e]; exact Int.dvd_zero _
  · rw [show ((p - b : Nat) : Int) + (b : Int) = (p : Int) by omega]; exact Int.dvd_refl _
theorem kz_0 {p b : Nat} (h : b < p) : kz p b ≠ 0 ↔ b ≠ 0 := by unfold kz; split <;> omega
theorem kz_lt {p b : Nat} (h : b < p) : kz p b ≤ p := by unfold kz; split <;> omega
section CDS
variable {M : Nat × Nat} {S : HS} {K : Int32 → HS → Prop} {h0 p q a b c d T X Y Z m : Nat} {D : Nat → Nat} {F : N3}
theorem c_divideSlice (hfl : FL h0 S p D T X Y Z) (tb : Tb h0 S Y Z D) (hln : Ln p a b c d) (hq : LnAt S q a b c d) (hqx : q < hX S) (qn : q ≠ bxC h0 S 42) (hm : 1 ≤ m ∧ m ≤ D (led a b)) (hs : Sp3 p D F) (hg : Dg3 T F) (si : SIx h0 S Y Z p a b c d D T F m)
    (h1 : ∀ S', Ext S S' (Wc (bxC h0 S 42)) V0 → hX S' = hX S → hS S' = hS S → SIx h0 S' Y Z p a b c d D T F (m - 1) → (∀ u v, u ≤ D (fsL (led a b)) → v ≤ D (scL (led a b)) → badL a b c D u v → plS p a b c d D F (D (led a b) + 1 - m) u v = 0) → K 1 S')
    (hz : ∀ S', Ext S S' (Wc (bxC h0 S 42)) V0 → hX S' = hX S → hS S' = hS S → ¬ Dv (p : Int) (lv a b c d) (nz3 F) → K 0 S') : wp_X2_divideSlice M (h0 + 25) q (ι m) S K := by
  obtain ⟨hL, h60, hb, hp10, hD, hXYZ, hpp, hT9⟩ := hfl
  have hp := hpp.le
  have lb := hln.lb
  have hl2 := led_le (a := a) (b := b)
  obtain ⟨f1, f2, f3, f4, f5⟩ := fsL_ne hl2
  obtain ⟨q0, q1, q2, q3, q4, q5, q6⟩ := hq
  obtain ⟨⟨-, -, -, bx⟩, -⟩ := hb
  have d0 := hD _ hl2
  have d1 := hD _ f4
  have d2 := hD _ f5
  have m0 := dm_le (v := led a b) hXYZ
  have m1 := dm_le (v := fsL (led a b)) hXYZ
  have m2 := dm_le (v := scL (led a b)) hXYZ
  have nul : (0 : Int32) = ι 0 := rfl
  have ku := kz_lt lb.1
  have kv := kz_lt lb.2.1
  have kd := kz_lt lb.2.2
  have hbp := bx.2.2.2.2.1
  -- what slice m holds
  have htu : ∀ u v, u ≤ D (fsL (led a b)) → v ≤ D (scL (led a b)) → (hI S (bxC h0 S 42) (cxl Y Z (led a b) m u v)).toNatClampNeg < 2000 ∧ (hI S (bxC h0 S 42) (cxl Y Z (led a b) m u v)).toNatClampNeg % p = plS p a b c d D F (D (led a b) + 1 - m) u v ∧ hI S (bxC h0 S 42) (cxl Y Z (led a b) m u v) = ι (hI S (bxC h0 S 42) (cxl Y Z (led a b) m u v)).toNatClampNeg ∧ (T < m + u + v → (hI S (bxC h0 S 42) (cxl Y Z (led a b) m u v)).toNatClampNeg = 0) := fun u v hu hv => by
    obtain ⟨t, t1, t2, t3, t4⟩ := (si m u v hm.2 hu hv).2.1 rfl
    rw [t2, ι_cl (by omega)]
    exact ⟨t1, t3, rfl, t4⟩
  have core := c_ds (M := M) (S := S) (K := K) (p := p) (w := h0 + 25) (cc := bxC h0 S 42) (N := D (led a b)) (m := m) (T := T) (Du := D (fsL (led a b))) (Dw := D (scL (led a b))) (s0 := sB Y Z (led a b)) (s1 := sB Y Z (fsL (led a b))) (s2 := sB Y Z (scL (led a b))) (ku := kz p (l1 a b)) (kv := kz p (l2 a b c)) (kd := kz p d) (n := fun u v => plS p a b c d D F (D (led a b) + 1 - m) u v) (t := fun u v => (hI S (bxC h0 S 42) (cxl Y Z (led a b) m u v)).toNatClampNeg) (g := fun u v => twN (led a b) F (m - 1) u v) hp (by omega) bx.2.1 hL.t25 bx.2.2.1 hp10 hT9.1 hT9.2 hm (by omega) (by have := bx.2.2.2.1; omega)
    (fun e u v he hu hv => by rw [sB_ix hl2]; have := cxl_ub (D := D) (Y := Y) (Z := Z) (e := e) (u := u) (v := v) hl2 he hu hv; have := tb.2; omega)
    (fun e u v e' u' v' he hu hv he' hu' hv' hh => by rw [sB_ix hl2, sB_ix hl2] at hh; exact cxl_inj (X := X) (Y := Y) (Z := Z) hl2 (by omega) (by omega) (by omega) (by omega) (by omega) (by omega) hh)
    (by omega) ⟨by omega, by omega⟩ ⟨by omega, by omega, by omega⟩ (fun u v hu hv => ⟨(htu u v hu hv).1, (htu u v hu hv).2.1, (htu u v hu hv).2.2.2⟩)
    (fun S' li => by
      obtain ⟨e1, x1, y1, st, bd⟩ := li
      have e42 : bxC h0 S' 42 = bxC h0 S 42 := bxC.go ((e1.2.2.1 _ (by omega)).2.2.2 0 (fun c => c))
      refine h1 S' e1 x1 y1 (fun e u v he hu hv => ?_) (fun u v hu hv bl => bd u v hu hv (by unfold prc; omega) ?_)
      · have sv := st e u v he hu hv
        rw [sB_ix hl2] at sv
        rw [e42]
        refine ⟨fun k => ?_, fun k => ?_, fun k => ?_⟩
        · by_cases ee : e = m
          · rw [if_pos ee, if_pos (by unfold prc; omega)] at sv
            rw [sv, ee]
          · rw [if_neg ee, if_neg (by omega)] at sv
            rw [sv]
            exact (si e u v he hu hv).1 (by omega)
        · rw [if_neg (by omega), if_pos (by omega), ctS_e (by omega)] at sv
          refine ⟨_, ?_, sv, ?_, ?_⟩
          · have pl : ∀ i u v, plS p a b c d D F i u v ≤ 12 := fun i u v => by have : plS p a b c d D F i u v < p := rs_lt (by omega); omega
            have dl : ∀ (f : Nat → Nat), (∀ w, f w ≤ 12) → ∀ w, dnN f w ≤ 12 := fun f hf w => by unfold dnN; split; omega; exact hf _
            have b0 := (Bd.tw hs.bd (l := led a b) (m - 1) u v).1
            have b1 := Nat.mul_le_mul (pl (D (led a b) + 1 - m) u v) (show kz p d ≤ 13 by omega)
            have b2 := Nat.mul_le_mul (dl (fun w => plS p a b c d D F (D (led a b) + 1 - m) w v) (fun w => pl _ w v) u) (show kz p (l1 a b) ≤ 13 by omega)
            have b3 := Nat.mul_le_mul (dl (fun w => plS p a b c d D F (D (led a b) + 1 - m) u w) (fun w => pl _ u w) v) (show kz p (l2 a b c) ≤ 13 by omega)
            show twN (led a b) F (m - 1) u v + (plS p a b c d D F (D (led a b) + 1 - m) u v * kz p d + dnN (fun w => plS p a b c d D F (D (led a b) + 1 - m) w v) u * kz p (l1 a b) + dnN (fun w => plS p a b c d D F (D (led a b) + 1 - m) u w) v * kz p (l2 a b c)) < 2000
            omega
          · have nx := congrFun (congrFun (nxp_rs (p := p) (G := twN (led a b) F) (ku := kz p (l1 a b)) (kv := kz p (l2 a b c)) (kd := kz p d) (by omega) (Bd.tw hs.bd) (kz_dv lb.1) (kz_dv lb.2.1) (kz_dv lb.2.2) (D (led a b)) (D (led a b) + 1 - m)) u) v
            unfold nxp at nx
            rw [if_pos (by omega), show D (led a b) - (D (led a b) + 1 - m) = m - 1 by omega, show D (led a b) + 1 - m + 1 = D (led a b) + 1 - (m - 1) by omega] at nx
            rw [show D (led a b) + 1 - (m - 1) = D (led a b) + 1 - (m - 1) from rfl]
            refine Eq.trans ?_ nx
            congr 1
            show twN (led a b) F (m - 1) u v + (plS p a b c d D F (D (led a b) + 1 - m) u v * kz p d + dnN (fun w => plS p a b c d D F (D (led a b) + 1 - m) w v) u * kz p (l1 a b) + dnN (fun w => plS p a b c d D F (D (led a b) + 1 - m) u w) v * kz p (l2 a b c)) = twN (led a b) F (m - 1) u v + plS p a b c d D F (D (led a b) + 1 - m) u v * kz p d + dnN (fun w => plS p a b c d D F (D (led a b) + 1 - m) w v) u * kz p (l1 a b) + dnN (fun w => plS p a b c d D F (D (led a b) + 1 - m) u w) v * kz p (l2 a b c)
            omega
          · intro kk
            have zp : ∀ u' v', T < m + u' + v' → plS p a b c d D F (D (led a b) + 1 - m) u' v' = 0 := fun u' v' w => plS_dg (by omega) hg (by omega) (by omega)
            have z0 : twN (led a b) F (m - 1) u v = 0 := hg.tw _ _ _ (by omega)
            have z1 : dnN (fun w => plS p a b c d D F (D (led a b) + 1 - m) w v) u = 0 := by
              unfold dnN
              split
              · rfl
              · exact zp (u - 1) v (by omega)
            have z2 : dnN (fun w => plS p a b c d D F (D (led a b) + 1 - m) u w) v = 0 := by
              unfold dnN
              split
              · rfl
              · exact zp u (v - 1) (by omega)
            show twN (led a b) F (m - 1) u v + (plS p a b c d D F (D (led a b) + 1 - m) u v * kz p d + dnN (fun w => plS p a b c d D F (D (led a b) + 1 - m) w v) u * kz p (l1 a b) + dnN (fun w => plS p a b c d D F (D (led a b) + 1 - m) u w) v * kz p (l2 a b c)) = 0
            rw [z0, z1, z2, zp u v (by omega)]
            simp only [Nat.zero_mul, Nat.add_zero]
        · rw [if_neg (by omega), if_neg (by omega)] at sv
          rw [sv]
          exact (si e u v he hu hv).2.2 (by omega)
      · unfold badS
        rw [kz_0 lb.1, kz_0 lb.2.1]
        exact bl)
    (fun S' e1 x1 y1 ⟨u, v, hu, hv, bd, nz⟩ => hz S' e1 x1 y1 (dv_bad hpp hln hs (i := D (led a b) + 1 - m) (u := u) (v := v) (by omega) (by unfold badS at bd; rw [kz_0 lb.1, kz_0 lb.2.1] at bd; exact bd) nz))
    (D (fsL (led a b)) + 1) 0 S (by omega) ⟨Ext.rf S _ _, rfl, rfl, fun e u v he hu hv => by
      rw [ctS_0, if_neg (c := prc 0 0 u v) (by unfold prc; omega), sB_ix hl2]
      by_cases k : e = m
      · rw [if_pos k, k]; exact (htu u v hu hv).2.2.1
      · rw [if_neg k]
        by_cases k2 : e + 1 = m
        · rw [if_pos k2, (si e u v he hu hv).2.2 (by omega), show e = m - 1 by omega]; rfl
        · rw [if_neg k2], fun u v hu hv pc => absurd pc (by unfold prc; omega)⟩
  have g114 : w_X2_divideSlice_114 M K (h0 + 25) q (ι m) (bxC h0 S 42) (ι (sB Y Z (led a b))) (ι (sB Y Z (fsL (led a b)))) (ι (sB Y Z (scL (led a b)))) (ι (kz p (l1 a b))) (ι (kz p (l2 a b c))) (ι (kz p d)) S := by
    unfold w_X2_divideSlice_114
    rw [q2, q3, ι_cl (by omega), ι_cl (by omega)]
    refine ⟨hL.t25, h0 + 45, hL.p25_8, q0, hL.t45, by rw [hL.n45]; exact ι_in (by omega) (by omega), fun v2 e2 => ⟨hL.t25, h0 + 45, hL.p25_8, q0, hL.t45, by rw [hL.n45]; exact ι_in (by omega) (by omega), fun v4 e4 => ⟨D (fsL (led a b)) + 1 + 1, ?_⟩⟩⟩
    rw [e2, e4, d1.1, d2.1]
    exact core
  have g92 : w_X2_divideSlice_92 M K (h0 + 25) q (ι m) (bxC h0 S 42) (ι (sB Y Z (led a b))) (ι (sB Y Z (fsL (led a b)))) (ι (sB Y Z (scL (led a b)))) (ι (kz p (l1 a b))) (ι (kz p (l2 a b c))) S := by
    unfold w_X2_divideSlice_92
    rw [q6, hp10, nul, ι_eq (by omega) (by omega), ι_sub (by omega)]
    unfold kz at g114
    refine ⟨q0, fun k => ⟨hL.t25, q0, ?_⟩, fun k => ?_⟩
    · rw [if_neg (c := d = 0) k] at g114; exact g114
    · rw [if_pos (c := d = 0) k] at g114; exact g114
  have g70 : w_X2_divideSlice_70 M K (h0 + 25) q (ι m) (bxC h0 S 42) (ι (sB Y Z (led a b))) (ι (sB Y Z (fsL (led a b)))) (ι (sB Y Z (scL (led a b)))) (ι (kz p (l1 a b))) S := by
    unfold w_X2_divideSlice_70
    rw [q5, hp10, nul, ι_eq (by omega) (by omega), ι_sub (by omega)]
    refine ⟨q0, fun k => ⟨hL.t25, q0, ?_⟩, fun k => ?_⟩
    · rw [show kz p (l2 a b c) = p - l2 a b c by unfold kz; rw [if_neg k]] at g92; exact g92
    · rw [show kz p (l2 a b c) = 0 by unfold kz; rw [if_pos k]] at g92; exact g92
  unfold wp_X2_divideSlice
  rw [q1, q2, q3, q4, ι_cl (by omega), ι_cl (by omega), ι_cl (by omega), hp10, nul, ι_eq (by omega) (by omega), ι_sub (by omega)]
  refine ⟨hL.t25, h0 + 42, hL.p25_7, hL.t42, bxC h0 S 42, bx.1, hL.t25, h0 + 42, hL.p25_7, hL.t42, h0 + 44, hL.p42_2, q0, hL.t44, by rw [hL.n44]; exact ι_in (by omega) (by omega), fun v5 e5 => ⟨hL.t25, h0 + 42, hL.p25_7, hL.t42, h0 + 44, hL.p42_2, q0, hL.t44, by rw [hL.n44]; exact ι_in (by omega) (by omega), fun v8 e8 => ⟨hL.t25, h0 + 42, hL.p25_7, hL.t42, h0 + 44, hL.p42_2, q0, hL.t44, by rw [hL.n44]; exact ι_in (by omega) (by omega), fun v11 e11 => ⟨q0, fun k => ⟨hL.t25, q0, ?_⟩, fun k => ?_⟩⟩⟩⟩
  · rw [e5, e8, e11, tb.1 _ hl2, tb.1 _ f4, tb.1 _ f5]
    rw [show kz p (l1 a b) = p - l1 a b by unfold kz; rw [if_neg k]] at g70; exact g70
  · rw [e5, e8, e11, tb.1 _ hl2, tb.1 _ f4, tb.1 _ f5]
    rw [show kz p (l1 a b) = 0 by unfold kz; rw [if_pos k]] at g70; exact g70
end CDS
