/-! Lines in the reference. -/
def c41 (x y z : Nat) : Nat := (x * 41 + y) * 41 + z
theorem c41_inj {x y z a b c : Nat} (hx : y ≤ 40 ∧ z ≤ 40) (ha : b ≤ 40 ∧ c ≤ 40) (h : c41 x y z = c41 a b c) : x = a ∧ y = b ∧ z = c := by unfold c41 at h; omega
theorem c41_lt {x y z : Nat} (hx : x ≤ 40) (hy : y ≤ 40) (hz : z ≤ 40) : c41 x y z < 68921 := by unfold c41; omega
theorem c41_ex {k : Nat} (h : k < 68921) : ∃ x y z, x ≤ 40 ∧ y ≤ 40 ∧ z ≤ 40 ∧ k = c41 x y z := ⟨k / 1681, k / 41 % 41, k % 41, by omega, by omega, by omega, by unfold c41; omega⟩
section RLN
variable {R : RS} {K : Int32 → RS → Prop} {p s : Nat} {L : Po}
/-- the first t terms at a cell -/
def wtT (L : Po) (t j : Nat) : Nat := sumTo t (fun i => if k41 (tm L i) = j then (tm L i).n else 0)
theorem wt_new {t : Nat} (hw : wf p L) (ht : t < L.length) : wtT L t (k41 (tm L t)) = 0 := sumTo_zero (fun i hi => if_neg (fun e => by
  have := hw.2.2 i t hi ht
  omega))
theorem wt_all {x y z : Nat} (hw : wf p L) (hx : x ≤ 40) (hy : y ≤ 40) (hz : z ≤ 40) : wtT L L.length (c41 x y z) = cf L x y z := by
  unfold wtT cf
  refine sumTo_congr (fun i hi => ?_)
  have := hw.sm hi
  by_cases c : k41 (tm L i) = c41 x y z
  · have e : isAt (tm L i) x y z := c41_inj (x := (tm L i).x) ⟨this.2.1, this.2.2⟩ ⟨hy, hz⟩ c
    rw [if_pos c, if_pos e]
  · rw [if_neg c, if_neg (fun e => c (by unfold k41 c41; rw [e.1, e.2.1, e.2.2]))]
theorem s_layWhole (hs : s < 56) (hw : wf p L) (hl : Sl R s L) (h : ∀ R', Fr R R' [17] [] → (∀ x y z, x ≤ 40 → y ≤ 40 → z ≤ 40 → R' 17 (c41 x y z) = ι (cf L x y z)) → K 0 R') : wp_layWhole (ι s) R K := by
  have hle := hw.1
  have goL : ∀ {R1 : RS}, Fr R R1 [17] [] → Sl R1 s L := fun r => hl.go hle (r.fs [] (by simp)) (by simp)
  have key2 : ∀ (k t : Nat) (R1 : RS), t + k = L.length → Fr R R1 [17] [] → (∀ j, j < 68921 → R1 17 j = ι (wtT L t j)) → wl_layWhole_26 K (k + 1) (ι s) (ι t) R1 := by
    intro k
    induction k with
    | zero =>
      intro t R1 ht r1 z1
      show wb_layWhole_26 _ _ _ _ _
      unfold wb_layWhole_26
      rw [ι_cl (by omega), (goL r1).1]
      refine ⟨ι_in (by omega) (by omega), fun _ => h R1 r1 (fun x y z hx hy hz => ?_), fun c => absurd (by rw [ι_le (by omega) (by omega)]; omega) c⟩
      rw [z1 _ (c41_lt hx hy hz), show t = L.length by omega, wt_all hw hx hy hz]
    | succ k ih =>
      intro t R1 ht r1 z1
      have l1 := goL r1
      have hk := k41_lt (hw.sm (i := t) (by omega))
      show wb_layWhole_26 _ _ _ _ _
      unfold wb_layWhole_26
      rw [ι_cl (by omega), l1.1]
      refine ⟨ι_in (by omega) (by omega), fun c => absurd c (by rw [ι_le (by omega) (by omega)]; omega), fun _ => s_keyAt rfl rfl hs (by omega) (s_numAt rfl rfl hs (by omega) ?_)⟩
      rw [(l1.2 t (by omega)).1, (l1.2 t (by omega)).2, ι_cl (by omega), show (1 : Int32) = ι 1 from rfl, ι_add]
      refine ⟨ι_in hk (by omega), ih (t + 1) _ (by omega) (r1.w (by simp) (by omega)) (fun j hj => ?_)⟩
      rw [upE]
      have hn := wt_new hw (show t < L.length by omega)
      by_cases c : j = k41 (tm L t)
      · rw [if_pos c]
        unfold wtT
        rw [sumTo, if_pos c.symm, show sumTo t (fun i => if k41 (tm L i) = j then (tm L i).n else 0) = 0 by rw [c]; exact hn, Nat.zero_add]
      · rw [if_neg c, z1 j hj]
        unfold wtT
        rw [sumTo, if_neg (fun e => c e.symm), Nat.add_zero]
  have key1 : ∀ (k e : Nat) (R1 : RS), e + k = 68921 → Fr R R1 [17] [] → (∀ j, j < e → R1 17 j = ι 0) → wl_layWhole_2 K (k + 1) (ι s) (ι e) R1 := by
    intro k
    induction k with
    | zero =>
      intro e R1 he r1 z1
      show wb_layWhole_2 _ _ _ _ _
      unfold wb_layWhole_2
      refine ⟨fun _ => ⟨L.length + 1, key2 L.length 0 R1 (by omega) r1 (fun j hj => z1 j (by omega))⟩, fun c => absurd (by rw [show (68921 : Int32) = ι 68921 from rfl, ι_le (by omega) (by omega)]; omega) c⟩
    | succ k ih =>
      intro e R1 he r1 z1
      show wb_layWhole_2 _ _ _ _ _
      unfold wb_layWhole_2
      refine ⟨fun c => absurd c (by rw [show (68921 : Int32) = ι 68921 from rfl, ι_le (by omega) (by omega)]; omega), fun _ => ⟨ι_in (by omega) (by omega), ?_⟩⟩
      rw [ι_cl (by omega), show (1 : Int32) = ι 1 from rfl, ι_add]
      refine ih (e + 1) _ (by omega) (r1.w (by simp) (by omega)) (fun j hj => ?_)
      rw [upE]
      by_cases c : j = e
      · rw [if_pos c]; rfl
      · rw [if_neg c]; exact z1 j (by omega)
  exact ⟨68921 + 1, key1 68921 0 R (by omega) (Fr.rf _ _ _) (fun j hj => by omega)⟩
/-- values at the points before one -/
def Vr (R : RS) (p : Nat) (V : Nat → Nat → Nat → Nat) (n : Nat) : Prop := ∀ x y z, x < p → y < p → z < p → (x * p + y) * p + z < n → R 21 ((x * p + y) * p + z) = ι (V x y z)
theorem idx_inj {x y z a b c : Nat} (hy : y < p) (hz : z < p) (hb : b < p) (hc : c < p) (h : (x * p + y) * p + z = (a * p + b) * p + c) : x = a ∧ y = b ∧ z = c := by
  obtain ⟨u1, u2, u3⟩ := idx_x (x := x) hy hz
  obtain ⟨v1, v2, v3⟩ := idx_x (x := a) hb hc
  rw [h] at u1 u2 u3
  exact ⟨u1.symm.trans v1, u2.symm.trans v2, u3.symm.trans v3⟩
theorem s_layValues (hpp : PrP p) (hp1 : R 0 1 = ι p) (hs : s < 56) (hw : wf p L) (hl : Sl R s L) (h : ∀ R', Fr R R' [8, 21] [] → Vr R' p (vF p L) (p * p * p) → K 0 R') : wp_layValues (ι s) R K := by
  have hp := hpp.le
  obtain ⟨p3, p4⟩ := p3_le hpp
  have goA : ∀ {R1 : RS}, Fr R R1 [8, 21] [] → Sl R1 s L := fun r => hl.go hw.1 (r.fs [] (by simp)) (by simp)
  have goP : ∀ {R1 : RS}, Fr R R1 [8, 21] [] → R1 0 1 = ι p := fun r => by rw [r.2 1 (by simp)]; exact hp1
  have kz : ∀ (K2 : Int32 → Int32 → RS → Prop) (K12 : Int32 → Int32 → Int32 → RS → Prop) (x y : Nat), x < p → y < p → (∀ R1, Fr R R1 [8, 21] [] → Vr R1 p (vF p L) ((x * p + (y + 1)) * p + 0) → K12 (ι s) (ι x) (ι (y + 1)) R1) → ∀ (k z : Nat) (R1 : RS), z + k = p → Fr R R1 [8, 21] [] → Vr R1 p (vF p L) ((x * p + y) * p + z) → wl_layValues_23 K2 K12 K (k + 1) (ι s) (ι x) (ι y) (ι z) R1 := by
    intro K2 K12 x y hx hy hn k
    induction k with
    | zero =>
      intro z R1 hz r1 v1
      show wb_layValues_23 _ _ _ _ _ _ _ _ _
      unfold wb_layValues_23
      rw [goP r1, show (1 : Int32) = ι 1 from rfl, ι_add]
      refine ⟨fun _ => hn R1 r1 ?_, fun c => absurd (by rw [ι_le (by omega) (by omega)]; omega) c⟩
      rw [show z = p by omega, idx_step] at v1
      exact v1
    | succ k ih =>
      intro z R1 hz r1 v1
      show wb_layValues_23 _ _ _ _ _ _ _ _ _
      unfold wb_layValues_23
      rw [goP r1]
      refine ⟨fun c => absurd c (by rw [ι_le (by omega) (by omega)]; omega), fun _ => ?_⟩
      refine s_valueOf hpp (goP r1) hw (goA r1) rfl hs rfl rfl rfl hx hy (by omega) (fun R2 r2 => ?_)
      have r12 : Fr R R2 [8, 21] [] := r1.tr (r2.mo (by decide) (by decide))
      have hlt := idx_lt hx hy (show z < p by omega)
      rw [ι_mul, ι_add, ι_mul, ι_add, ι_cl (by omega), show (1 : Int32) = ι 1 from rfl, ι_add]
      refine ⟨ι_in (by omega) (by omega), ih (z + 1) _ (by omega) (r12.w (by simp) (by omega)) (fun a b c ha hb hc hi => ?_)⟩
      rw [upE]
      by_cases e : (a * p + b) * p + c = (x * p + y) * p + z
      · obtain ⟨rfl, rfl, rfl⟩ := idx_inj hb hc hy (show z < p by omega) e
        rw [if_pos rfl]
      · rw [if_neg e, r2.1 21 (by omega) (by simp)]
        exact v1 a b c ha hb hc (by omega)
  have ky : ∀ (K2 : Int32 → Int32 → RS → Prop) (x : Nat), x < p → (∀ R1, Fr R R1 [8, 21] [] → Vr R1 p (vF p L) (((x + 1) * p + 0) * p + 0) → K2 (ι s) (ι (x + 1)) R1) → ∀ (k y : Nat) (R1 : RS), y + k = p → Fr R R1 [8, 21] [] → Vr R1 p (vF p L) ((x * p + y) * p + 0) → wl_layValues_12 K2 K (k + 1) (ι s) (ι x) (ι y) R1 := by
    intro K2 x hx hn k
    induction k with
    | zero =>
      intro y R1 hy r1 v1
      show wb_layValues_12 _ _ _ _ _ _ _
      unfold wb_layValues_12
      rw [goP r1, show (1 : Int32) = ι 1 from rfl, ι_add]
      refine ⟨fun _ => hn R1 r1 ?_, fun c => absurd (by rw [ι_le (by omega) (by omega)]; omega) c⟩
      rw [show y = p by omega, idx_step2] at v1
      exact v1
    | succ k ih =>
      intro y R1 hy r1 v1
      show wb_layValues_12 _ _ _ _ _ _ _
      unfold wb_layValues_12
      rw [goP r1]
      refine ⟨fun c => absurd c (by rw [ι_le (by omega) (by omega)]; omega), fun _ => ⟨p + 1, ?_⟩⟩
      exact kz K2 _ x y hx (by omega) (fun R2 r2 v2 => ih (y + 1) R2 (by omega) r2 v2) p 0 R1 (by omega) r1 v1
  have kx : ∀ (k x : Nat) (R1 : RS), x + k = p → Fr R R1 [8, 21] [] → Vr R1 p (vF p L) ((x * p + 0) * p + 0) → wl_layValues_2 K (k + 1) (ι s) (ι x) R1 := by
    intro k
    induction k with
    | zero =>
      intro x R1 hx r1 v1
      show wb_layValues_2 _ _ _ _ _
      unfold wb_layValues_2
      rw [goP r1]
      refine ⟨fun _ => h R1 r1 ?_, fun c => absurd (by rw [ι_le (by omega) (by omega)]; omega) c⟩
      rw [show x = p by omega, Nat.add_zero, Nat.add_zero] at v1
      exact v1
    | succ k ih =>
      intro x R1 hx r1 v1
      show wb_layValues_2 _ _ _ _ _
      unfold wb_layValues_2
      rw [goP r1]
      refine ⟨fun c => absurd c (by rw [ι_le (by omega) (by omega)]; omega), fun _ => ⟨p + 1, ?_⟩⟩
      exact ky _ x (by omega) (fun R2 r2 v2 => ih (x + 1) R2 (by omega) r2 v2) p 0 R1 (by omega) r1 v1
  refine ⟨p + 1, kx p 0 R (by omega) (Fr.rf _ _ _) (fun a b c _ _ _ hi => ?_)⟩
  rw [Nat.zero_mul, Nat.zero_mul] at hi
  omega
def Lf (R : RS) (a b c d : Nat) : Prop := R 0 22 = ι a ∧ R 0 23 = ι b ∧ R 0 24 = ι c ∧ R 0 25 = ι d
theorem lin_le {a b c d x y z : Nat} (hp : p ≤ 13) (ha : a < p) (hb : b < p) (hc : c < p) (hd : d < p) (hx : x < p) (hy : y < p) (hz : z < p) : a * x + b * y + c * z + d ≤ 1000 := by
  have := Nat.mul_le_mul (show a ≤ 12 by omega) (show x ≤ 12 by omega)
  have := Nat.mul_le_mul (show b ≤ 12 by omega) (show y ≤ 12 by omega)
  have := Nat.mul_le_mul (show c ≤ 12 by omega) (show z ≤ 12 by omega)
  omega
theorem s_vanishes {a b c d : Nat} {V : Nat → Nat → Nat → Nat} (hpp : PrP p) (hp1 : R 0 1 = ι p) (ha : a < p) (hb : b < p) (hc : c < p) (hd : d < p) (hl : Lf R a b c d) (hv : Vr R p V (p * p * p)) (hV : ∀ x y z, V x y z < p) (h1 : van p a b c d V → K 1 R) (h0 : ¬ van p a b c d V → K 0 R) : wp_vanishes R K := by
  have hp := hpp.le
  obtain ⟨p3, p4⟩ := p3_le hpp
  obtain ⟨l1, l2, l3, l4⟩ := hl
  let Ok : Nat → Prop := fun n => ∀ x y z, x < p → y < p → z < p → (x * p + y) * p + z < n → (a * x + b * y + c * z + d) % p = 0 → V x y z = 0
  have kz : ∀ (K2 : Int32 → RS → Prop) (K12 : Int32 → Int32 → RS → Prop) (x y : Nat), x < p → y < p → (Ok ((x * p + (y + 1)) * p + 0) → K12 (ι x) (ι (y + 1)) R) → ∀ (k z : Nat), z + k = p → Ok ((x * p + y) * p + z) → wl_vanishes_22 K2 K12 K (k + 1) (ι x) (ι y) (ι z) R := by
    intro K2 K12 x y hx hy hn k
    induction k with
    | zero =>
      intro z hz v1
      show wb_vanishes_22 _ _ _ _ _ _ _ _
      unfold wb_vanishes_22
      rw [hp1, show (1 : Int32) = ι 1 from rfl, ι_add]
      refine ⟨fun _ => hn ?_, fun c => absurd (by rw [ι_le (by omega) (by omega)]; omega) c⟩
      rw [show z = p by omega, idx_step] at v1
      exact v1
    | succ k ih =>
      intro z hz v1
      have hzp : z < p := by omega
      have hlt := idx_lt hx hy hzp
      have hle := lin_le (by omega) ha hb hc hd hx hy hzp
      have hVv := hV x y z
      have nxt : ((a * x + b * y + c * z + d) % p = 0 → V x y z = 0) → Ok ((x * p + y) * p + (z + 1)) := fun g x' y' z' hx' hy' hz' hi => by
        by_cases e : (x' * p + y') * p + z' = (x * p + y) * p + z
        · obtain ⟨rfl, rfl, rfl⟩ := idx_inj hy' hz' hy hzp e
          exact g
        · exact v1 x' y' z' hx' hy' hz' (by omega)
      show wb_vanishes_22 _ _ _ _ _ _ _ _
      unfold wb_vanishes_22
      rw [hp1, l1, l2, l3, l4, ι_mul, ι_mul, ι_mul, ι_add, ι_add, ι_add, ι_rem (by omega) (by omega), ι_mul, ι_add, ι_mul, ι_add, ι_cl (by omega), hv x y z hx hy hzp hlt, show (0 : Int32) = ι 0 from rfl, ι_eq (by omega) (by omega), ι_eq (by have := Nat.mod_lt (a * x + b * y + c * z + d) (show 0 < p by omega); omega) (by omega), ι_eq (by omega) (by omega), show (1 : Int32) = ι 1 from rfl, ι_add, ι_add]
      refine ⟨fun c => absurd c (by rw [ι_le (by omega) (by omega)]; omega), fun _ => ⟨by omega, fun c => ih (z + 1) (by omega) (nxt (fun k => absurd k c)), fun c => ⟨ι_in (by omega) (by omega), fun e => ih (z + 1) (by omega) (nxt (fun _ => e)), fun e => h0 (fun w => e (w x y z hx hy hzp c))⟩⟩⟩
  have ky : ∀ (K2 : Int32 → RS → Prop) (x : Nat), x < p → (Ok (((x + 1) * p + 0) * p + 0) → K2 (ι (x + 1)) R) → ∀ (k y : Nat), y + k = p → Ok ((x * p + y) * p + 0) → wl_vanishes_12 K2 K (k + 1) (ι x) (ι y) R := by
    intro K2 x hx hn k
    induction k with
    | zero =>
      intro y hy v1
      show wb_vanishes_12 _ _ _ _ _ _
      unfold wb_vanishes_12
      rw [hp1, show (1 : Int32) = ι 1 from rfl, ι_add]
      refine ⟨fun _ => hn ?_, fun c => absurd (by rw [ι_le (by omega) (by omega)]; omega) c⟩
      rw [show y = p by omega, idx_step2] at v1
      exact v1
    | succ k ih =>
      intro y hy v1
      show wb_vanishes_12 _ _ _ _ _ _
      unfold wb_vanishes_12
      rw [hp1]
      refine ⟨fun c => absurd c (by rw [ι_le (by omega) (by omega)]; omega), fun _ => ⟨p + 1, ?_⟩⟩
      exact kz K2 _ x y hx (by omega) (fun v2 => ih (y + 1) (by omega) v2) p 0 (by omega) v1
  have kx : ∀ (k x : Nat), x + k = p → Ok ((x * p + 0) * p + 0) → wl_vanishes_2 K (k + 1) (ι x) R := by
    intro k
    induction k with
    | zero =>
      intro x hx v1
      show wb_vanishes_2 _ _ _ _
      unfold wb_vanishes_2
      rw [hp1]
      refine ⟨fun _ => h1 (fun x' y' z' hx' hy' hz' => v1 x' y' z' hx' hy' hz' ?_), fun c => absurd (by rw [ι_le (by omega) (by omega)]; omega) c⟩
      rw [show x = p by omega, Nat.add_zero, Nat.add_zero]
      exact idx_lt hx' hy' hz'
    | succ k ih =>
      intro x hx v1
      show wb_vanishes_2 _ _ _ _
      unfold wb_vanishes_2
      rw [hp1]
      refine ⟨fun c => absurd c (by rw [ι_le (by omega) (by omega)]; omega), fun _ => ⟨p + 1, ?_⟩⟩
      exact ky _ x (by omega) (fun v2 => ih (x + 1) (by omega) v2) p 0 (by omega) v1
  refine ⟨p + 1, kx p 0 (by omega) (fun a b c _ _ _ hi => ?_)⟩
  rw [Nat.zero_mul, Nat.zero_mul] at hi
  omega
end RLN
section RL2
variable {R : RS} {K : Int32 → RS → Prop} {p s : Nat} {L : Po}
theorem lnK_ln {k : Nat} (hp : 2 ≤ p) (hk : k < p * p * p + p * p + p) : Ln p (lnK p k).1 (lnK p k).2.1 (lnK p k).2.2.1 (lnK p k).2.2.2 := by
  unfold lnK
  by_cases c : k < p * p * p
  · rw [if_pos c]
    refine ⟨Or.inl ⟨rfl, ?_, Nat.mod_lt _ (by omega)⟩, Nat.mod_lt _ (by omega)⟩
    show k / (p * p) < p
    rw [Nat.div_lt_iff_lt_mul (Nat.mul_pos (by omega) (by omega)), ← Nat.mul_assoc]
    exact c
  · rw [if_neg c]
    by_cases c2 : k - p * p * p < p * p
    · rw [if_pos c2]
      refine ⟨Or.inr (Or.inl ⟨rfl, rfl, ?_⟩), Nat.mod_lt _ (by omega)⟩
      show (k - p * p * p) / p < p
      rw [Nat.div_lt_iff_lt_mul (by omega)]
      exact c2
    · rw [if_neg c2]
      exact ⟨Or.inr (Or.inr ⟨rfl, rfl, rfl⟩), by show k - p * p * p - p * p < p; omega⟩
theorem up0_1 {j : Nat} {x : Int32} {R1 : RS} (h : 1 ≠ j) : up R1 0 j x 0 1 = R1 0 1 := by rw [upE, if_neg h]
theorem s_layLine {k : Nat} (hpp : PrP p) (hp1 : R 0 1 = ι p) (hk : k < p * p * p + p * p + p) (h : ∀ R', Fr R R' [] [22, 23, 24, 25] → Lf R' (lnK p k).1 (lnK p k).2.1 (lnK p k).2.2.1 (lnK p k).2.2.2 → K 0 R') : wp_layLine (ι k) R K := by
  have hp := hpp.le
  obtain ⟨p3, p4⟩ := p3_le hpp
  have fin : ∀ a b c d : Nat, lnK p k = (a, b, c, d) → K 0 (up (up (up (up R 0 22 (ι a)) 0 23 (ι b)) 0 24 (ι c)) 0 25 (ι d)) := fun a b c d e => by
    refine h _ (((((Fr.rf R [] [22, 23, 24, 25]).w0 (by simp)).w0 (by simp)).w0 (by simp)).w0 (by simp)) ?_
    rw [e]
    refine ⟨?_, ?_, ?_, ?_⟩ <;> simp only [upE] <;> simp
  have one : (1 : Int32) = ι 1 := rfl
  have nul : (0 : Int32) = ι 0 := rfl
  have f22 : ∀ x, up R 0 22 x 0 22 = x := fun x => by rw [upE, if_pos rfl]
  have f23 : ∀ x y, up (up R 0 22 x) 0 23 y 0 23 = y := fun x y => by rw [upE, if_pos rfl]
  have f23b : ∀ x y w, up (up (up R 0 22 x) 0 23 y) 0 24 w 0 23 = y := fun x y w => by rw [upE, if_neg (by decide), upE, if_pos rfl]
  unfold wp_layLine
  rw [hp1, ι_mul, ι_mul, ι_le (by omega) (by omega)]
  refine ⟨fun c => ?_, fun c => ?_⟩
  · unfold w_layLine_26
    rw [f22, up0_1 (by decide), hp1, ι_mul, ι_mul]
    refine ⟨fun _ v1 e1 => ?_, fun q => absurd q (by decide)⟩
    rw [ι_sub c] at e1
    rw [e1, ι_le (by omega) (by omega)]
    refine ⟨fun c2 => ?_, fun c2 => ?_⟩
    · unfold w_layLine_114
      rw [f23]
      refine ⟨fun _ => ?_, fun q => absurd q (by decide)⟩
      unfold w_layLine_136
      rw [f23b]
      refine ⟨fun _ => ?_, fun q => absurd q (by decide)⟩
      rw [up0_1 (by decide), up0_1 (by decide), up0_1 (by decide), hp1, ι_mul, ι_sub c2]
      exact fin 0 0 1 _ (by unfold lnK; rw [if_neg (by omega), if_neg (by omega)])
    · unfold w_layLine_114
      rw [f23]
      refine ⟨fun q => absurd rfl q, fun _ => ?_⟩
      rw [up0_1 (by decide), up0_1 (by decide), hp1, ι_div (by omega) (by omega), nul, ι_eq (by omega) (by omega)]
      refine ⟨by omega, ?_⟩
      unfold w_layLine_136
      rw [f23b]
      refine ⟨fun q => absurd rfl q, fun _ => ?_⟩
      rw [up0_1 (by decide), up0_1 (by decide), up0_1 (by decide), hp1, ι_rem (by omega) (by omega), nul, ι_eq (by omega) (by omega)]
      exact ⟨by omega, fin 0 1 _ _ (by unfold lnK; rw [if_neg (by omega), if_pos (by omega)])⟩
  · unfold w_layLine_26
    rw [f22]
    refine ⟨fun q => absurd rfl q, fun _ => ?_⟩
    have g1 : ∀ x, up R 0 22 x 0 1 = ι p := fun x => by rw [up0_1 (by decide)]; exact hp1
    have g2 : ∀ x y, up (up R 0 22 x) 0 23 y 0 1 = ι p := fun x y => by rw [up0_1 (by decide)]; exact g1 x
    have g3 : ∀ x y w, up (up (up R 0 22 x) 0 23 y) 0 24 w 0 1 = ι p := fun x y w => by rw [up0_1 (by decide)]; exact g2 x y
    have pz : 0 < p * p := Nat.mul_pos (by omega) (by omega)
    have hd : k / p < 2147483648 := Nat.lt_of_le_of_lt (Nat.div_le_self _ _) (by omega)
    rw [g1, g2, g3, ι_mul, ι_div (by omega) (by omega), ι_div (by omega) (by omega), ι_rem hd (by omega), ι_rem (by omega) (by omega), nul, ι_eq (by omega) (by omega), ι_eq (by omega) (by omega)]
    exact ⟨by omega, by omega, by omega, by omega, fin 1 _ _ _ (by unfold lnK; rw [if_pos (by omega)])⟩
end RL2
/-! One step of the division in the reference. -/
def cl41 (l e u v : Nat) : Nat := if l = 0 then c41 e u v else if l = 1 then c41 u e v else c41 u v e
theorem cl41_lt {l e u v : Nat} (he : e ≤ 40) (hu : u ≤ 40) (hv : v ≤ 40) : cl41 l e u v < 68921 := by
  unfold cl41
  split
  · exact c41_lt he hu hv
  · split
    · exact c41_lt hu he hv
    · exact c41_lt hu hv he
theorem s_cell {l e u v : Nat} {R : RS} {K : Int32 → RS → Prop} (hl : l ≤ 2) (h : K (ι (cl41 l e u v)) R) : wp_cell (ι l) (ι e) (ι u) (ι v) R K := by
  unfold wp_cell
  rw [show (0 : Int32) = ι 0 from rfl, show (1 : Int32) = ι 1 from rfl, ι_eq (by omega) (by omega), ι_eq (by omega) (by omega)]
  unfold cl41 at h
  refine ⟨fun c => ⟨fun c2 => ?_, fun c2 => ?_⟩, fun c => ?_⟩
  · rw [if_neg c, if_neg c2] at h
    exact s_keyOf (t := (u, v, e, 0)) rfl rfl rfl h
  · rw [if_neg c, if_pos c2] at h
    exact s_keyOf (t := (u, e, v, 0)) rfl rfl rfl h
  · rw [if_pos c] at h
    exact s_keyOf (t := (e, u, v, 0)) rfl rfl rfl h
def dnN (f : Nat → Nat) (x : Nat) : Nat := if x = 0 then 0 else f (x - 1)
/-- the next plane -/
def nxp (p ku kv kd : Nat) (G P : Nat → Nat → Nat) (u v : Nat) : Nat := ((if u ≤ 40 ∧ v ≤ 40 then G u v else 0) + P u v * kd + dnN (fun w => P w v) u * ku + dnN (fun w => P u w) v * kv) % p
def Pla (R : RS) (p : Nat) (P : Nat → Nat → Nat) : Prop := ∀ u v, u ≤ 41 → v ≤ 41 → R 19 (u * 42 + v) = ι (P u v) ∧ P u v < p
section STP
variable {R : RS} {K : Int32 → RS → Prop} {p l e ku kv kd : Nat} {G P : Nat → Nat → Nat}
def okE (N : Nat → Nat → Nat) (n : Nat) : Prop := ∀ u v, u ≤ 41 → v ≤ 41 → u * 42 + v < n → (41 ≤ u ∨ 41 ≤ v) → N u v = 0
def Fg (N : Nat → Nat → Nat) (x : Int32) (n : Nat) : Prop := (x = 1 ∧ okE N n) ∨ (x = 0 ∧ ¬ okE N n)
theorem okE_s {N : Nat → Nat → Nat} {u v : Nat} (hu : u ≤ 41) (hv : v ≤ 41) : okE N (u * 42 + v + 1) ↔ okE N (u * 42 + v) ∧ ((41 ≤ u ∨ 41 ≤ v) → N u v = 0) := by
  constructor
  · exact fun h => ⟨fun a b ha hb hi => h a b ha hb (by omega), fun c => h u v hu hv (by omega) c⟩
  · rintro ⟨h1, h2⟩ a b ha hb hi c
    by_cases q : a * 42 + b = u * 42 + v
    · obtain ⟨rfl, rfl⟩ : a = u ∧ b = v := by omega
      exact h2 c
    · exact h1 a b ha hb (by omega) c
theorem st_bd {a k : Nat} (ha : a < p) (hk : k ≤ p) (hp : p ≤ 13) : a * k ≤ 200 := by
  have := Nat.mul_le_mul (show a ≤ 12 by omega) (show k ≤ 13 by omega)
  omega
theorem s_steps (hpp : PrP p) (hp1 : R 0 1 = ι p) (hl : l ≤ 2) (he : e ≤ 40) {b c d : Nat} (hb : b < p) (hc : c < p) (hd : d < p) (hlf : R 0 23 = ι b ∧ R 0 24 = ι c ∧ R 0 25 = ι d) (eu : ku = if l = 0 then p - b else 0) (ev : kv = if l = 2 then 0 else p - c) (ed : kd = p - d) (hG : ∀ u v, u ≤ 40 → v ≤ 40 → R 17 (cl41 l e u v) = ι (G u v) ∧ G u v < p) (hP : Pla R p P)
    (h : ∀ R', Fr R R' [19, 20] [] → Pla R' p (nxp p ku kv kd G P) → (okE (nxp p ku kv kd G P) 1764 → K 1 R') ∧ (¬ okE (nxp p ku kv kd G P) 1764 → K 0 R')) : wp_steps (ι l) (ι e) R K := by
  have hp := hpp.le
  have kul : ku ≤ p := by rw [eu]; split <;> omega
  have kvl : kv ≤ p := by rw [ev]; split <;> omega
  have kdl : kd ≤ p := by omega
  have one : (1 : Int32) = ι 1 := rfl
  have nul : (0 : Int32) = ι 0 := rfl
  have f41 : (41 : Int32) = ι 41 := rfl
  have f42 : (42 : Int32) = ι 42 := rfl
  generalize eN : nxp p ku kv kd G P = N at h
  have nlt : ∀ u v, N u v < p := fun u v => by rw [← eN]; exact Nat.mod_lt _ (by omega)
  have go : ∀ {R1 : RS}, Fr R R1 [20] [] → R1 0 1 = ι p ∧ R1 0 25 = ι d ∧ R1 17 = R 17 ∧ R1 19 = R 19 := fun r => ⟨by rw [r.2 1 (by simp)]; exact hp1, by rw [r.2 25 (by simp)]; exact hlf.2.2, r.1 17 (by omega) (by simp), r.1 19 (by omega) (by simp)⟩
  -- the end: copy
  have kC : ∀ (k i : Nat) (x5 : Int32) (R1 : RS), i + k = 1764 → Fr R R1 [19, 20] [] → (∀ u v, u ≤ 41 → v ≤ 41 → R1 20 (u * 42 + v) = ι (N u v)) → (∀ u v, u ≤ 41 → v ≤ 41 → u * 42 + v < i → R1 19 (u * 42 + v) = ι (N u v)) → Fg N x5 1764 → wl_steps_257 K (k + 1) x5 (ι i) R1 := by
    intro k
    induction k with
    | zero =>
      intro i x5 R1 hi r1 w1 w2 fg
      show wb_steps_257 _ _ _ _ _
      unfold wb_steps_257
      rw [show (1764 : Int32) = ι 1764 from rfl, ι_le (by omega) (by omega)]
      refine ⟨fun _ => ?_, fun q => absurd (by omega) q⟩
      have hh := h R1 r1 (fun u v hu hv => ⟨w2 u v hu hv (by omega), nlt u v⟩)
      rcases fg with ⟨rfl, q⟩ | ⟨rfl, q⟩
      · exact ⟨Or.inr rfl, hh.1 q⟩
      · exact ⟨Or.inl rfl, hh.2 q⟩
    | succ k ih =>
      intro i x5 R1 hi r1 w1 w2 fg
      show wb_steps_257 _ _ _ _ _
      unfold wb_steps_257
      rw [show (1764 : Int32) = ι 1764 from rfl, ι_le (by omega) (by omega), ι_cl (by omega), one, ι_add]
      refine ⟨fun q => absurd q (by omega), fun _ => ⟨ι_in (by omega) (by omega), ι_in (by omega) (by omega), ih (i + 1) x5 _ (by omega) (r1.w (by simp) (by omega)) (fun u v hu hv => by rw [upN (by decide)]; exact w1 u v hu hv) (fun u v hu hv hi2 => ?_) fg⟩⟩
      rw [upE]
      by_cases q : u * 42 + v = i
      · rw [if_pos q, ← q]; exact w1 u v hu hv
      · rw [if_neg q]; exact w2 u v hu hv (by omega)
  -- a row
  have kv1 : ∀ (K44 : Int32 → Int32 → Int32 → Int32 → Int32 → Int32 → RS → Prop) (u : Nat), u ≤ 41 → (∀ x5 R1, Fr R R1 [20] [] → (∀ a b, a ≤ 41 → b ≤ 41 → a * 42 + b < (u + 1) * 42 → R1 20 (a * 42 + b) = ι (N a b)) → Fg N x5 ((u + 1) * 42) → K44 (ι l) (ι e) (ι ku) (ι kv) x5 (ι (u + 1)) R1) → ∀ (k v : Nat) (x5 : Int32) (R1 : RS), v + k = 42 → Fr R R1 [20] [] → (∀ a b, a ≤ 41 → b ≤ 41 → a * 42 + b < u * 42 + v → R1 20 (a * 42 + b) = ι (N a b)) → Fg N x5 (u * 42 + v) → wl_steps_54 K44 K (k + 1) (ι l) (ι e) (ι ku) (ι kv) x5 (ι u) (ι v) R1 := by
    intro K44 u hu hn k
    induction k with
    | zero =>
      intro v x5 R1 hv r1 w1 fg
      show wb_steps_54 _ _ _ _ _ _ _ _ _ _ _
      unfold wb_steps_54
      rw [f41, ι_lt (by omega) (by omega), one, ι_add]
      refine ⟨fun _ => hn x5 R1 r1 (fun a b ha hb hi => w1 a b ha hb (by omega)) ?_, fun q => absurd (by omega) q⟩
      rw [show (u + 1) * 42 = u * 42 + v by omega]; exact fg
    | succ k ih =>
      intro v x5 R1 hv r1 w1 fg
      obtain ⟨g1, g2, g3, g4⟩ := go r1
      have hv41 : v ≤ 41 := by omega
      have pb := hP u v hu hv41
      have b0 := st_bd pb.2 kdl hp.2
      -- the end of a cell
      have fin : ∀ a b : Nat, a + b < 3000 → (a + b) % p = N u v → w_steps_183 K44 (wl_steps_54 K44 K (k + 1)) K (ι l) (ι e) (ι ku) (ι kv) x5 (ι u) (ι v) (ι b) (ι a) R1 := fun a b hab hN => by
        have hNl := nlt u v
        unfold w_steps_183
        have u1 : ∀ x, up R1 20 (Int32.toNatClampNeg ((ι u) * 42 + ι v)) x 0 1 = ι p := fun x => by rw [upN (by decide)]; exact g1
        rw [u1, g1, f42, ι_mul, ι_add, ι_add, ι_cl (by omega), ι_rem (by omega) (by omega), hN, nul, one, f41, ι_add, ι_le (by omega) (by omega), ι_le (by omega) (by omega), ι_eq (by omega) (by omega), ι_eq (by omega) (by omega)]
        have r2 : Fr R (up R1 20 (u * 42 + v) (ι (N u v))) [20] [] := r1.w (by simp) (by omega)
        have w2 : ∀ a b, a ≤ 41 → b ≤ 41 → a * 42 + b < u * 42 + (v + 1) → (up R1 20 (u * 42 + v) (ι (N u v))) 20 (a * 42 + b) = ι (N a b) := fun a b ha hb hi => by
          rw [upE]
          by_cases q : a * 42 + b = u * 42 + v
          · obtain ⟨rfl, rfl⟩ : a = u ∧ b = v := by omega
            rw [if_pos rfl]
          · rw [if_neg q]; exact w1 a b ha hb (by omega)
        have os := okE_s (N := N) hu hv41
        refine ⟨by omega, ι_in (by omega) (by omega), fun q => ih (v + 1) 0 _ (by omega) r2 w2 (Or.inr ⟨rfl, fun w => ?_⟩), fun q => ⟨by omega, fun z => ih (v + 1) 1 _ (by omega) r2 w2 (Or.inl ⟨rfl, ?_⟩), fun z => ⟨fun c1 => ih (v + 1) 0 _ (by omega) r2 w2 (Or.inr ⟨rfl, fun w => z ((os.1 w).2 (Or.inl c1))⟩), fun c1 => ⟨fun c2 => ih (v + 1) 0 _ (by omega) r2 w2 (Or.inr ⟨rfl, fun w => z ((os.1 w).2 (Or.inr c2))⟩), fun c2 => ih (v + 1) 1 _ (by omega) r2 w2 (Or.inl ⟨rfl, ?_⟩)⟩⟩⟩⟩
        · rcases fg with ⟨f, f2⟩ | ⟨f, f2⟩
          · rw [f] at q; exact absurd q (by decide)
          · exact f2 (os.1 w).1
        · rcases fg with ⟨f, f2⟩ | ⟨f, f2⟩
          · exact os.2 ⟨f2, fun _ => z⟩
          · exact absurd f q
        · rcases fg with ⟨f, f2⟩ | ⟨f, f2⟩
          · exact os.2 ⟨f2, fun w => absurd w (by omega)⟩
          · exact absurd f q
      have mid : w_steps_93 K44 (wl_steps_54 K44 K (k + 1)) K (ι l) (ι e) (ι ku) (ι kv) x5 (ι u) (ι v) (ι (if u ≤ 40 ∧ v ≤ 40 then G u v else 0)) R1 := by
        have Wl : (if u ≤ 40 ∧ v ≤ 40 then G u v else 0) < p := by
          split
          · rename_i q; exact (hG u v q.1 q.2).2
          · omega
        have hN : N u v = ((if u ≤ 40 ∧ v ≤ 40 then G u v else 0) + P u v * kd + dnN (fun w => P w v) u * ku + dnN (fun w => P u w) v * kv) % p := by rw [← eN]; rfl
        generalize (if u ≤ 40 ∧ v ≤ 40 then G u v else 0) = W at *
        unfold w_steps_93
        rw [g1, g2, g4, f42, ι_mul, ι_add, ι_cl (by omega), pb.1, ι_sub (by omega), ← ed, ι_mul, ι_add]
        refine ⟨ι_in (by omega) (by omega), fun v1 e1 => ?_⟩
        rw [e1]
        have nx : ∀ b : Nat, b ≤ 200 → b = dnN (fun w => P w v) u * ku → w_steps_151 K44 (wl_steps_54 K44 K (k + 1)) K (ι l) (ι e) (ι ku) (ι kv) x5 (ι u) (ι v) (ι b) (ι (W + P u v * kd)) R1 := fun b hb eb => by
          unfold w_steps_151
          rw [nul, ι_le (by omega) (by omega), ι_add]
          refine ⟨fun q => fin _ 0 (by omega) ?_, fun q => ?_⟩
          · rw [hN, ← eb, show dnN (fun w => P u w) v = 0 by unfold dnN; rw [if_pos (by omega)], Nat.zero_mul]
          · have pb2 := hP u (v - 1) hu (by omega)
            have b2 := st_bd pb2.2 kvl hp.2
            rw [f42, ι_mul, ι_add, one, ι_sub (by omega), ι_cl (by omega), g4, show u * 42 + v - 1 = u * 42 + (v - 1) by omega, pb2.1, ι_mul]
            refine ⟨ι_in (by omega) (by omega), fin _ _ (by omega) ?_⟩
            rw [hN, ← eb, show dnN (fun w => P u w) v = P u (v - 1) by unfold dnN; rw [if_neg (by omega)]]
        rw [nul, ι_le (by omega) (by omega)]
        refine ⟨fun q => nx 0 (by omega) ?_, fun q => ?_⟩
        · rw [show dnN (fun w => P w v) u = 0 by unfold dnN; rw [if_pos (by omega)], Nat.zero_mul]
        · have pb2 := hP (u - 1) v (by omega) hv41
          have b2 := st_bd pb2.2 kul hp.2
          rw [one, ι_sub (by omega), ι_mul, ι_add, ι_cl (by omega), pb2.1, ι_mul]
          refine ⟨ι_in (by omega) (by omega), nx _ b2 ?_⟩
          rw [show dnN (fun w => P w v) u = P (u - 1) v by unfold dnN; rw [if_neg (by omega)]]
      show wb_steps_54 _ _ _ _ _ _ _ _ _ _ _
      unfold wb_steps_54
      rw [f41, ι_lt (by omega) (by omega), ι_le (by omega) (by omega), ι_le (by omega) (by omega)]
      refine ⟨fun q => absurd q (by omega), fun _ => ⟨fun q => ?_, fun q => ⟨fun q2 => ?_, fun q2 => s_cell hl ?_⟩⟩⟩
      · rw [if_neg (by omega)] at mid; exact mid
      · rw [if_neg (by omega)] at mid; exact mid
      · rw [if_pos (by omega)] at mid
        have hk := cl41_lt (l := l) he (show u ≤ 40 by omega) (show v ≤ 40 by omega)
        rw [ι_cl (by omega), g3, (hG u v (by omega) (by omega)).1]
        exact ⟨ι_in hk (by omega), mid⟩
  have ku1 : ∀ (k u : Nat) (x5 : Int32) (R1 : RS), u + k = 42 → Fr R R1 [20] [] → (∀ a b, a ≤ 41 → b ≤ 41 → a * 42 + b < u * 42 → R1 20 (a * 42 + b) = ι (N a b)) → Fg N x5 (u * 42) → wl_steps_44 K (k + 1) (ι l) (ι e) (ι ku) (ι kv) x5 (ι u) R1 := by
    intro k
    induction k with
    | zero =>
      intro u x5 R1 hu r1 w1 fg
      show wb_steps_44 _ _ _ _ _ _ _ _ _
      unfold wb_steps_44
      rw [f41, ι_lt (by omega) (by omega)]
      refine ⟨fun _ => ⟨1764 + 1, kC 1764 0 x5 R1 (by omega) (r1.mo (by decide) (by decide)) (fun a b ha hb => w1 a b ha hb (by omega)) (fun a b _ _ hi => absurd hi (by omega)) ?_⟩, fun q => absurd (by omega) q⟩
      rw [show u * 42 = 1764 by omega] at fg; exact fg
    | succ k ih =>
      intro u x5 R1 hu r1 w1 fg
      show wb_steps_44 _ _ _ _ _ _ _ _ _
      unfold wb_steps_44
      rw [f41, ι_lt (by omega) (by omega)]
      refine ⟨fun q => absurd q (by omega), fun _ => ⟨42 + 1, kv1 _ u (by omega) (fun x R2 r2 w2 f2 => ih (u + 1) x R2 (by omega) r2 w2 f2) 42 0 x5 R1 (by omega) r1 (fun a b ha hb hi => w1 a b ha hb (by omega)) fg⟩⟩
  have st : wl_steps_44 K (42 + 1) (ι l) (ι e) (ι ku) (ι kv) (ι 1) (ι 0) R := ku1 42 0 1 R (by omega) (Fr.rf _ _ _) (fun a b _ _ hi => absurd hi (by omega)) (Or.inl ⟨rfl, fun a b _ _ hi => absurd hi (by omega)⟩)
  unfold wp_steps
  rw [hp1, hlf.1, ι_sub (by omega), nul, ι_eq (by omega) (by omega)]
  have k17 : ∀ s0 : Nat, s0 = ku → w_steps_17 K (ι l) (ι e) (ι s0) R := fun s0 es => by
    unfold w_steps_17
    rw [hp1, hlf.2.1, ι_sub (by omega), show (2 : Int32) = ι 2 from rfl, ι_eq (by omega) (by omega), es]
    refine ⟨fun q => ?_, fun q => ?_⟩
    · rw [if_neg q] at ev; rw [← ev]; exact ⟨_, st⟩
    · rw [if_pos q] at ev; rw [nul, ← ev]; exact ⟨_, st⟩
  refine ⟨fun q => k17 0 ?_, fun q => k17 (p - b) ?_⟩
  · rw [eu, if_neg q]
  · rw [eu, if_pos q]
end STP
