/-! Division in the reference. -/
section PLF
variable {q b c d : Int} {G : Z3} {N m : Nat}
theorem pl_0u (hb : q ∣ b) (hG : ∀ e u v, m < u → q ∣ G e u v) : ∀ i u v, m < u → q ∣ pln b c d G N i u v := by
  intro i
  induction i with
  | zero => intro u v _; exact Int.dvd_zero q
  | succ i ih =>
    intro u v h
    simp only [pln]
    exact Int.dvd_sub (Int.dvd_sub (Int.dvd_sub (hG _ u v h) (Int.dvd_mul_of_dvd_right (ih u v h))) (Int.dvd_mul_of_dvd_left hb)) (Int.dvd_mul_of_dvd_right (dn_dv (fun w _ => ih u w h)))
theorem pl_0v (hc : q ∣ c) (hG : ∀ e u v, m < v → q ∣ G e u v) : ∀ i u v, m < v → q ∣ pln b c d G N i u v := by
  intro i
  induction i with
  | zero => intro u v _; exact Int.dvd_zero q
  | succ i ih =>
    intro u v h
    simp only [pln]
    exact Int.dvd_sub (Int.dvd_sub (Int.dvd_sub (hG _ u v h) (Int.dvd_mul_of_dvd_right (ih u v h))) (Int.dvd_mul_of_dvd_right (dn_dv (fun w _ => ih w v h)))) (Int.dvd_mul_of_dvd_left hc)
theorem dv_rm0 (hq : Pq q) (h1 : ¬ q ∣ 1) (hG : ∀ e u v, N < e → q ∣ G e u v) (hD : Dv q (1, b, c, d) G) (u v : Nat) : q ∣ pln b c d G N (N + 1) u v := by
  obtain ⟨M, Q, hs, h⟩ := hD
  exact (pln_un hq h1 hs hG h).2 u v
/-- what goes in stays in its box -/
theorem pl_far (hq : Pq q) (h1 : ¬ q ∣ 1) (hG : Su q (N + 1) G) (hD : Dv q (1, b, c, d) G) {i u v : Nat} (hi : i ≤ N + 1) (h : N < u ∨ N < v) : q ∣ pln b c d G N i u v := by
  have hGe : ∀ e u v, N < e → q ∣ G e u v := fun e u v k => hG e u v (by omega)
  by_cases hl : i = N + 1
  · rw [hl]; exact dv_rm0 hq h1 hGe hD u v
  · have le := dv_le (m := N) hq h1 hGe hD
    rcases h with k | k
    · by_cases hb : q ∣ b
      · exact pl_0u (m := N) hb (fun e u v k => hG e u v (by omega)) i u v k
      · exact le.2.1 hb (fun e u v k => hG e u v (by omega)) i (by omega) u v (by omega)
    · by_cases hc : q ∣ c
      · exact pl_0v (m := N) hc (fun e u v k => hG e u v (by omega)) i u v k
      · exact le.2.2 hc (fun e u v k => hG e u v (by omega)) i (by omega) u v (by omega)
end PLF
def twN (l : Nat) (F : N3) : N3 := fun e u v => if l = 0 then F e u v else if l = 1 then F u e v else F u v e
def utN (l : Nat) (F : N3) : N3 := fun x y z => if l = 0 then F x y z else if l = 1 then F y x z else F z x y
def Wh (R : RS) (f : Nat) (F : N3) : Prop := ∀ x y z, x ≤ 40 → y ≤ 40 → z ≤ 40 → R f (c41 x y z) = ι (F x y z)
section NZ3
variable {p l : Nat} {F : N3} {R : RS} {f : Nat}
theorem nz_tw : nz3 (twN l F) = tw l (nz3 F) := by
  funext e u v
  unfold nz3 twN tw
  split
  · rfl
  · split <;> rfl
theorem twN_ut : twN l (utN l F) = F := by
  funext e u v
  unfold twN utN
  rcases tw_c (l := l) with h | h | h
  · simp [h]
  · simp [h]
  · simp [h.1, h.2]
theorem Bd.tw (h : Bd p F) : Bd p (twN l F) := fun e u v => by
  unfold twN
  split
  · exact h e u v
  · split
    · exact ⟨(h u e v).1, fun c => (h u e v).2 (by omega)⟩
    · exact ⟨(h u v e).1, fun c => (h u v e).2 (by omega)⟩
theorem Bd.ut (h : Bd p F) : Bd p (utN l F) := fun x y z => by
  unfold utN
  split
  · exact h x y z
  · split
    · exact ⟨(h y x z).1, fun c => (h y x z).2 (by omega)⟩
    · exact ⟨(h z x y).1, fun c => (h z x y).2 (by omega)⟩
theorem Bd.su (h : Bd p F) : Su (p : Int) 41 (nz3 F) := fun x y z c => by
  show (p : Int) ∣ ((F x y z : Nat) : Int)
  rw [(h x y z).2 (by omega)]; exact Int.dvd_zero _
theorem Wh.tw (h : Wh R f F) {e u v : Nat} (he : e ≤ 40) (hu : u ≤ 40) (hv : v ≤ 40) : R f (cl41 l e u v) = ι (twN l F e u v) := by
  unfold cl41 twN
  split
  · exact h e u v he hu hv
  · split
    · exact h u e v hu he hv
    · exact h u v e hu hv he
theorem Wh.ut (h : ∀ e u v, e ≤ 40 → u ≤ 40 → v ≤ 40 → R f (cl41 l e u v) = ι (F e u v)) : Wh R f (utN l F) := fun x y z hx hy hz => by
  unfold utN
  rcases tw_c (l := l) with c | c | c
  · have := h x y z hx hy hz
    unfold cl41 at this
    rw [if_pos c] at this ⊢; exact this
  · have := h y x z hy hx hz
    unfold cl41 at this
    rw [if_neg (by omega), if_pos c] at this ⊢; exact this
  · have := h z x y hz hx hy
    unfold cl41 at this
    rw [if_neg c.1, if_neg c.2] at this ⊢; exact this
theorem cl41_inj {e u v e' u' v' : Nat} (h1 : e ≤ 40 ∧ u ≤ 40 ∧ v ≤ 40) (h2 : e' ≤ 40 ∧ u' ≤ 40 ∧ v' ≤ 40) (h : cl41 l e u v = cl41 l e' u' v') : e = e' ∧ u = u' ∧ v = v' := by
  unfold cl41 c41 at h
  rcases tw_c (l := l) with c | c | c
  · rw [if_pos c, if_pos c] at h; omega
  · rw [if_neg (by omega), if_pos c, if_neg (by omega), if_pos c] at h; omega
  · rw [if_neg c.1, if_neg c.2, if_neg c.1, if_neg c.2] at h; omega
end NZ3
theorem s_layRow {p l e : Nat} {P : Nat → Nat → Nat} {R : RS} {K : Int32 → RS → Prop} (hl : l ≤ 2) (he : e ≤ 40) (hP : Pla R p P) (h : ∀ R', Fr R R' [18] [] → (∀ u v, u ≤ 40 → v ≤ 40 → R' 18 (cl41 l e u v) = ι (P u v)) → (∀ e' u v, e' ≤ 40 → u ≤ 40 → v ≤ 40 → e' ≠ e → R' 18 (cl41 l e' u v) = R 18 (cl41 l e' u v)) → K 0 R') : wp_layRow (ι l) (ι e) R K := by
  have f41 : (41 : Int32) = ι 41 := rfl
  have f42 : (42 : Int32) = ι 42 := rfl
  have one : (1 : Int32) = ι 1 := rfl
  let Inn : RS → Nat → Prop := fun R1 n => Fr R R1 [18] [] ∧ (∀ u v, u ≤ 40 → v ≤ 40 → u * 41 + v < n → R1 18 (cl41 l e u v) = ι (P u v)) ∧ ∀ e' u v, e' ≤ 40 → u ≤ 40 → v ≤ 40 → e' ≠ e → R1 18 (cl41 l e' u v) = R 18 (cl41 l e' u v)
  have kv : ∀ (K2 : Int32 → Int32 → Int32 → RS → Prop) (u : Nat), u ≤ 40 → (∀ R1, Inn R1 ((u + 1) * 41) → K2 (ι l) (ι e) (ι (u + 1)) R1) → ∀ (k v : Nat) (R1 : RS), v + k = 41 → Inn R1 (u * 41 + v) → wl_layRow_11 K2 K (k + 1) (ι l) (ι e) (ι u) (ι v) R1 := by
    intro K2 u hu hn k
    induction k with
    | zero =>
      intro v R1 hv i1
      show wb_layRow_11 _ _ _ _ _ _ _ _
      unfold wb_layRow_11
      rw [f41, ι_le (by omega) (by omega), one, ι_add]
      refine ⟨fun _ => hn R1 ?_, fun q => absurd (by omega) q⟩
      rw [show (u + 1) * 41 = u * 41 + v by omega]; exact i1
    | succ k ih =>
      intro v R1 hv i1
      obtain ⟨r1, w1, w2⟩ := i1
      show wb_layRow_11 _ _ _ _ _ _ _ _
      unfold wb_layRow_11
      rw [f41, ι_le (by omega) (by omega)]
      refine ⟨fun q => absurd q (by omega), fun _ => s_cell hl ?_⟩
      have hk := cl41_lt (l := l) he hu (show v ≤ 40 by omega)
      rw [f42, ι_mul, ι_add, ι_cl (by omega), ι_cl (by omega), r1.1 19 (by omega) (by simp), (hP u v (by omega) (by omega)).1, one, ι_add]
      refine ⟨ι_in (by omega) (by omega), ι_in hk (by omega), ih (v + 1) _ (by omega) ⟨r1.w (by simp) (by omega), fun a b ha hb hi => ?_, fun e' a b he' ha hb hne => ?_⟩⟩
      · rw [upE]
        by_cases c : cl41 l e a b = cl41 l e u v
        · obtain ⟨-, rfl, rfl⟩ := cl41_inj ⟨he, ha, hb⟩ ⟨he, hu, by omega⟩ c
          rw [if_pos rfl]
        · rw [if_neg c]
          refine w1 a b ha hb ?_
          have : ¬ (a = u ∧ b = v) := fun w => c (by rw [w.1, w.2])
          omega
      · rw [upE, if_neg (fun c => hne (cl41_inj ⟨he', ha, hb⟩ ⟨he, hu, by omega⟩ c).1)]
        exact w2 e' a b he' ha hb hne
  have kx : ∀ (k u : Nat) (R1 : RS), u + k = 41 → Inn R1 (u * 41) → wl_layRow_2 K (k + 1) (ι l) (ι e) (ι u) R1 := by
    intro k
    induction k with
    | zero =>
      intro u R1 hu i1
      show wb_layRow_2 _ _ _ _ _ _
      unfold wb_layRow_2
      rw [f41, ι_le (by omega) (by omega)]
      exact ⟨fun _ => h R1 i1.1 (fun a b ha hb => i1.2.1 a b ha hb (by omega)) i1.2.2, fun q => absurd (by omega) q⟩
    | succ k ih =>
      intro u R1 hu i1
      show wb_layRow_2 _ _ _ _ _ _
      unfold wb_layRow_2
      rw [f41, ι_le (by omega) (by omega)]
      exact ⟨fun q => absurd q (by omega), fun _ => ⟨41 + 1, kv _ u (by omega) (fun R2 i2 => ih (u + 1) R2 (by omega) i2) 41 0 R1 (by omega) i1⟩⟩
  exact ⟨41 + 1, kx 41 0 R (by omega) ⟨Fr.rf _ _ _, fun a b _ _ hi => absurd hi (by omega), fun _ _ _ _ _ _ _ => rfl⟩⟩
/-- the number of an Int by p -/
def rsN (p : Nat) (x : Int) : Nat := (x % (p : Int)).toNat
section RSN
variable {p : Nat} {x y : Int}
theorem rs_cg (hp : 0 < p) : (p : Int) ∣ (rsN p x : Int) - x := by
  unfold rsN
  rw [Int.toNat_of_nonneg (Int.emod_nonneg x (by omega))]
  have := Int.emod_add_mul_ediv x (p : Int)
  refine ⟨-(x / (p : Int)), ?_⟩
  rw [Int.mul_neg]; omega
theorem rs_lt (hp : 0 < p) : rsN p x < p := by
  unfold rsN
  have := Int.emod_lt_of_pos x (show (0 : Int) < (p : Int) by omega)
  have := Int.emod_nonneg x (show (p : Int) ≠ 0 by omega)
  omega
theorem rs_of {a : Nat} (hp : 0 < p) (h : (p : Int) ∣ (a : Int) - x) : a % p = rsN p x := by
  refine lt_dv2 (Nat.mod_lt _ hp) (rs_lt hp) ?_
  have h1 := mod_dv (p := p) a
  have h2 := rs_cg (x := x) hp
  rw [show ((a % p : Nat) : Int) + -1 * (rsN p x : Int) = (((a % p : Nat) : Int) - (a : Int)) + ((a : Int) - x) - ((rsN p x : Int) - x) by omega]
  exact Int.dvd_sub (Int.dvd_add h1 h) h2
theorem rs_0 (hp : 0 < p) : rsN p x = 0 ↔ (p : Int) ∣ x := by
  constructor
  · intro h
    have := rs_cg (x := x) hp
    rw [h] at this
    rw [show x = -(((0 : Nat) : Int) - x) by omega]
    exact Int.dvd_neg.2 this
  · intro h
    unfold rsN
    rw [Int.emod_eq_zero_of_dvd h]; rfl
end RSN
section DVS
variable {p l : Nat} {b c d ku kv kd : Nat} {G : N3}
theorem dnN_cg {f : Nat → Nat} {g : Nat → Int} (h : ∀ w, (p : Int) ∣ (f w : Int) - g w) (u : Nat) : (p : Int) ∣ (dnN f u : Int) - dn g u := by
  cases u with
  | zero => exact Int.dvd_zero _
  | succ u => exact h u
theorem nxp_rs (hp : 0 < p) (hG : Bd p G) (hku : (p : Int) ∣ (ku : Int) + (b : Int)) (hkv : (p : Int) ∣ (kv : Int) + (c : Int)) (hkd : (p : Int) ∣ (kd : Int) + (d : Int)) (N i : Nat) : nxp p ku kv kd (G (N - i)) (fun u v => rsN p (pln b c d (nz3 G) N i u v)) = fun u v => rsN p (pln b c d (nz3 G) N (i + 1) u v) := by
  funext u v
  unfold nxp
  refine rs_of hp ?_
  have e0 : (if u ≤ 40 ∧ v ≤ 40 then G (N - i) u v else 0) = G (N - i) u v := by
    split
    · rfl
    · exact ((hG (N - i) u v).2 (by omega)).symm
  rw [e0]
  have a0 := rs_cg (p := p) (x := pln b c d (nz3 G) N i u v) hp
  have a1 := dnN_cg (p := p) (f := fun w => rsN p (pln b c d (nz3 G) N i w v)) (g := fun w => pln b c d (nz3 G) N i w v) (fun w => rs_cg hp) u
  have a2 := dnN_cg (p := p) (f := fun w => rsN p (pln b c d (nz3 G) N i u w)) (g := fun w => pln b c d (nz3 G) N i u w) (fun w => rs_cg hp) v
  simp only [pln]
  generalize pln b c d (nz3 G) N i u v = X at *
  generalize rsN p X = x at *
  generalize dn (fun w => pln b c d (nz3 G) N i w v) u = Y at *
  generalize dnN (fun w => rsN p (pln b c d (nz3 G) N i w v)) u = y at *
  generalize dn (fun w => pln b c d (nz3 G) N i u w) v = Z at *
  generalize dnN (fun w => rsN p (pln b c d (nz3 G) N i u w)) v = z at *
  have hg : nz3 G (N - i) u v = ((G (N - i) u v : Nat) : Int) := rfl
  rw [hg]
  simp only [Int.natCast_add, Int.natCast_mul]
  rw [show ((G (N - i) u v : Nat) : Int) + (x : Int) * (kd : Int) + (y : Int) * (ku : Int) + (z : Int) * (kv : Int) - (((G (N - i) u v : Nat) : Int) - (d : Int) * X - (b : Int) * Y - (c : Int) * Z) = (x : Int) * ((kd : Int) + (d : Int)) - (d : Int) * ((x : Int) - X) + ((y : Int) * ((ku : Int) + (b : Int)) - (b : Int) * ((y : Int) - Y)) + ((z : Int) * ((kv : Int) + (c : Int)) - (c : Int) * ((z : Int) - Z)) by grind]
  exact Int.dvd_add (Int.dvd_add (Int.dvd_sub (Int.dvd_mul_of_dvd_right hkd) (Int.dvd_mul_of_dvd_right a0)) (Int.dvd_sub (Int.dvd_mul_of_dvd_right hku) (Int.dvd_mul_of_dvd_right a1))) (Int.dvd_sub (Int.dvd_mul_of_dvd_right hkv) (Int.dvd_mul_of_dvd_right a2))
/-- nothing lies outside -/
def Fz4 (q b c d : Int) (G : Z3) (i : Nat) : Prop := ∀ u v, 40 < u ∨ 40 < v → q ∣ pln b c d G 40 i u v
theorem Fz4.s {q b c d : Int} {G : Z3} {i : Nat} (hG : Su q 41 G) (h : Fz4 q b c d G i) (ok : ∀ u v, u ≤ 41 → v ≤ 41 → (41 ≤ u ∨ 41 ≤ v) → q ∣ pln b c d G 40 (i + 1) u v) : Fz4 q b c d G (i + 1) := fun u v k => by
  by_cases s : u ≤ 41 ∧ v ≤ 41
  · exact ok u v s.1 s.2 (by omega)
  · simp only [pln]
    exact Int.dvd_sub (Int.dvd_sub (Int.dvd_sub (hG _ u v (by omega)) (Int.dvd_mul_of_dvd_right (h u v k))) (Int.dvd_mul_of_dvd_right (dn_dv (fun w hw => h w v (by omega))))) (Int.dvd_mul_of_dvd_right (dn_dv (fun w hw => h u w (by omega))))
theorem s_divides {a : Nat} {F : N3} {R : RS} {K : Int32 → RS → Prop} (hpp : PrP p) (hp1 : R 0 1 = ι p) (hln : Ln p a b c d) (hlf : Lf R a b c d) (hw : Wh R 17 F) (hF : Bd p F)
    (h1 : ∀ R' F', Fr R R' [17, 18, 19, 20] [] → Wh R' 17 F' → Bd p F' → Al (p : Int) (nz3 F) (lm (lv a b c d) (nz3 F')) → K 1 R')
    (h0 : ∀ R', Fr R R' [18, 19, 20] [] → ¬ Dv (p : Int) (lv a b c d) (nz3 F) → K 0 R') : wp_divides R K := by
  have hp := hpp.le
  have one : (1 : Int32) = ι 1 := rfl
  have nul : (0 : Int32) = ι 0 := rfl
  obtain ⟨f22, f23, f24, f25⟩ := hlf
  have abc : a < p ∧ b < p ∧ c < p ∧ d < p := by
    obtain ⟨h | h | h, hd⟩ := hln <;> omega
  have htv := hln.tv
  have hl2 : led a b ≤ 2 := by unfold led; split; omega; split <;> omega
  -- the reference's numbers
  have ke : (p : Int) ∣ ((if led a b = 0 then p - b else 0 : Nat) : Int) + (l1 a b : Int) ∧ (p : Int) ∣ ((if led a b = 2 then 0 else p - c : Nat) : Int) + (l2 a b c : Int) := by
    have pm1 : ∀ n : Nat, n < p → (p : Int) ∣ ((p - n : Nat) : Int) + (n : Int) := fun n hn => by rw [show ((p - n : Nat) : Int) + (n : Int) = (p : Int) by omega]; exact Int.dvd_refl _
    obtain ⟨h | h | h, hd⟩ := hln
    · obtain ⟨rfl, hb, hc⟩ := h
      exact ⟨pm1 b hb, pm1 c hc⟩
    · obtain ⟨rfl, rfl, hc⟩ := h
      exact ⟨Int.dvd_zero _, pm1 c hc⟩
    · obtain ⟨rfl, rfl, rfl⟩ := h
      exact ⟨Int.dvd_zero _, Int.dvd_zero _⟩
  have kde : (p : Int) ∣ ((p - d : Nat) : Int) + (d : Int) := by rw [show ((p - d : Nat) : Int) + (d : Int) = (p : Int) by omega]; exact Int.dvd_refl _
  generalize eku : (if led a b = 0 then p - b else 0 : Nat) = ku at ke
  generalize ekv : (if led a b = 2 then 0 else p - c : Nat) = kv at ke
  generalize ekd : p - d = kd at kde
  have hld : ∀ R1 : RS, R1 0 22 = ι a → R1 0 23 = ι b → ∀ K' : Int32 → RS → Prop, K' (ι (led a b)) R1 → wp_lead R1 K' := fun R1 e1 e2 K' hk => by
    unfold wp_lead
    rw [e1, e2, one, ι_eq (by omega) (by omega), ι_eq (by omega) (by omega)]
    unfold led at hk
    refine ⟨fun q => ⟨fun q2 => ?_, fun q2 => ?_⟩, fun q => ?_⟩
    · rw [if_neg q, if_neg q2] at hk; exact hk
    · rw [if_neg q, if_pos q2] at hk; exact hk
    · rw [if_pos q] at hk; exact hk
  generalize el : led a b = l at *
  have hwt : ∀ e u v, e ≤ 40 → u ≤ 40 → v ≤ 40 → R 17 (cl41 l e u v) = ι (twN l F e u v) := fun e u v he hu hv => hw.tw he hu hv
  have hGb : Bd p (twN l F) := hF.tw
  have hDv : Dv (p : Int) (1, (l1 a b : Int), (l2 a b c : Int), (d : Int)) (nz3 (twN l F)) ↔ Dv (p : Int) (lv a b c d) (nz3 F) := by rw [← htv, nz_tw, tw_dv]
  have hAl : ∀ Q : N3, Al (p : Int) (nz3 (twN l F)) (lm (1, (l1 a b : Int), (l2 a b c : Int), (d : Int)) (nz3 Q)) → Al (p : Int) (nz3 F) (lm (lv a b c d) (nz3 (utN l Q))) := fun Q hh => by
    refine tw_al (l := l).1 ?_
    rw [← nz_tw, tw_lm, htv, ← nz_tw, twN_ut]
    exact hh
  generalize l1 a b = β at *
  generalize l2 a b c = γ at *
  generalize eG : twN l F = G at *
  have hSu : Su (p : Int) 41 (nz3 G) := hGb.su
  have nx := nxp_rs (by omega) hGb ke.1 ke.2 kde 40
  -- copying
  have kC : ∀ (k i : Nat) (R1 : RS), i + k = 68921 → Fr R R1 [17, 18, 19, 20] [] → (∀ j, j < i → R1 17 j = R1 18 j) → (∀ R', Fr R R' [17, 18, 19, 20] [] → R' 18 = R1 18 → (∀ j, j < 68921 → R' 17 j = R' 18 j) → K 1 R') → wl_divides_119 K (k + 1) (ι i) R1 := by
    intro k
    induction k with
    | zero =>
      intro i R1 hi r1 w1 hk
      show wb_divides_119 _ _ _ _
      unfold wb_divides_119
      rw [show (68921 : Int32) = ι 68921 from rfl, ι_le (by omega) (by omega)]
      exact ⟨fun _ => hk R1 r1 rfl (fun j hj => w1 j (by omega)), fun q => absurd (by omega) q⟩
    | succ k ih =>
      intro i R1 hi r1 w1 hk
      show wb_divides_119 _ _ _ _
      unfold wb_divides_119
      rw [show (68921 : Int32) = ι 68921 from rfl, ι_le (by omega) (by omega), ι_cl (by omega), one, ι_add]
      refine ⟨fun q => absurd q (by omega), fun _ => ⟨ι_in (by omega) (by omega), ι_in (by omega) (by omega), ih (i + 1) _ (by omega) (r1.w (by simp) (by omega)) (fun j hj => ?_) (fun R' r' e' => hk R' r' (by rw [e', upN (by decide)]))⟩⟩
      rw [upE, show up R1 17 i (R1 18 i) 18 j = R1 18 j by rw [upN (by decide)]]
      by_cases q : j = i
      · rw [if_pos q, q]
      · rw [if_neg q]; exact w1 j (by omega)
  -- the state after i steps
  let St : RS → Nat → Prop := fun R1 i => Fr R R1 [18, 19, 20] [] ∧ Pla R1 p (fun u v => rsN p (pln β γ d (nz3 G) 40 i u v)) ∧ Fz4 p β γ d (nz3 G) i ∧ ∀ e u v, e ≤ 40 → u ≤ 40 → v ≤ 40 → 40 ≤ e + i → R1 18 (cl41 l e u v) = ι (rsN p (pln β γ d (nz3 G) 40 (40 - e) u v))
  have kE : ∀ (R1 : RS), St R1 41 → ∀ (k i : Nat), i + k = 1764 → (∀ u v, u ≤ 41 → v ≤ 41 → u * 42 + v < i → (p : Int) ∣ pln β γ d (nz3 G) 40 41 u v) → wl_divides_91 K (k + 1) (ι i) R1 := by
    rintro R1 ⟨r1, pl1, fz1, q1⟩ k
    induction k with
    | zero =>
      intro i hi z1
      show wb_divides_91 _ _ _ _
      unfold wb_divides_91
      rw [show (1764 : Int32) = ι 1764 from rfl, ι_le (by omega) (by omega)]
      refine ⟨fun _ => ⟨68921 + 1, kC 68921 0 R1 (by omega) (r1.mo (by decide) (by decide)) (fun j hj => absurd hj (by omega)) (fun R' r' e' w' => ?_)⟩, fun q => absurd (by omega) q⟩
      have rz : ∀ u v, (p : Int) ∣ pln β γ d (nz3 G) 40 (40 + 1) u v := fun u v => by
        by_cases s : u ≤ 41 ∧ v ≤ 41
        · exact z1 u v s.1 s.2 (by omega)
        · exact fz1 u v (by omega)
      have al := dv_rm hSu (fun e u v he => hSu e u v (by omega)) rz
      let Q : N3 := fun e u v => rsN p (quo β γ d (nz3 G) 40 e u v)
      have qal : Al (p : Int) (quo β γ d (nz3 G) 40) (nz3 Q) := Al.sy (fun e u v => rs_cg (by omega))
      have w2 : ∀ e u v, e ≤ 40 → u ≤ 40 → v ≤ 40 → R' 17 (cl41 l e u v) = ι (Q e u v) := fun e u v he hu hv => by
        rw [w' _ (cl41_lt he hu hv), e']
        exact q1 e u v he hu hv (by omega)
      have far : ∀ i, i ≤ 40 → Fz4 p β γ d (nz3 G) i := fun i hi u v k => by
        have hD : Dv (p : Int) (1, (β : Int), (γ : Int), (d : Int)) (nz3 G) := ⟨_, _, quo_su hSu, al⟩
        exact pl_far hpp.pq hpp.n1 hSu hD (by omega) k
      have qb : Bd p Q := fun e u v => ⟨rs_lt (by omega), fun k => by
        refine (rs_0 (by omega)).2 ?_
        show (p : Int) ∣ pln β γ d (nz3 G) 40 (40 - e) u v
        by_cases s : 40 < e
        · rw [show 40 - e = 0 by omega]; exact Int.dvd_zero _
        · exact far (40 - e) (by omega) u v (by omega)⟩
      exact h1 R' (utN l Q) r' (Wh.ut w2) qb.ut (hAl Q (al.tr qal.by_))
    | succ k ih =>
      intro i hi z1
      obtain ⟨u, v, hu, hv, rfl⟩ : ∃ u v, u ≤ 41 ∧ v ≤ 41 ∧ i = u * 42 + v := ⟨i / 42, i % 42, by omega, by omega, by omega⟩
      have pv := pl1 u v hu hv
      show wb_divides_91 _ _ _ _
      unfold wb_divides_91
      rw [show (1764 : Int32) = ι 1764 from rfl, ι_le (by omega) (by omega), ι_cl (by omega), pv.1, nul, ι_eq (by have := pv.2; omega) (by omega), one, ι_add, rs_0 (by omega)]
      refine ⟨fun q => absurd q (by omega), fun _ => ⟨ι_in (by omega) (by omega), fun q => ih (u * 42 + v + 1) (by omega) (fun a b ha hb hi2 => ?_), fun q => h0 R1 r1 (fun w => q (dv_rm0 hpp.pq hpp.n1 (fun e u v he => hSu e u v (by omega)) (hDv.2 w) u v))⟩⟩
      by_cases s : a * 42 + b = u * 42 + v
      · obtain ⟨rfl, rfl⟩ : a = u ∧ b = v := by omega
        exact q
      · exact z1 a b ha hb (by omega)
  have kS : ∀ (k i : Nat) (R1 : RS), i + k = 41 → St R1 i → wl_divides_56 K (k + 1) (ι l) (ιm k) R1 := by
    intro k
    induction k with
    | zero =>
      intro i R1 hi st
      show wb_divides_56 _ _ _ _ _
      unfold wb_divides_56
      rw [show i = 41 by omega] at st
      exact ⟨fun _ => ⟨1764 + 1, kE R1 st 1764 0 (by omega) (fun u v _ _ hh => absurd hh (by omega))⟩, fun q => absurd ((ιm_neg (by omega)).2 rfl) q⟩
    | succ k ih =>
      intro i R1 hi st
      obtain ⟨r1, pl1, fz1, q1⟩ := st
      have hk40 : k = 40 - i := by omega
      show wb_divides_56 _ _ _ _ _
      unfold wb_divides_56
      rw [ιm_s]
      refine ⟨fun q => absurd q (ι_nn (by omega)), fun _ => ?_⟩
      have g0 : ∀ f, f ∉ ([] : List Nat) → R1 0 f = R 0 f := fun f hf => r1.2 f hf
      refine s_steps hpp (by rw [g0 1 (by simp)]; exact hp1) hl2 (by omega) abc.2.1 abc.2.2.1 abc.2.2.2 ⟨by rw [g0 23 (by simp)]; exact f23, by rw [g0 24 (by simp)]; exact f24, by rw [g0 25 (by simp)]; exact f25⟩ eku.symm ekv.symm ekd.symm (G := G k) (fun u v hu hv => ⟨by rw [r1.1 17 (by omega) (by simp)]; exact hwt k u v (by omega) hu hv, (hGb k u v).1⟩) pl1 (fun R2 r2 pl2 => ?_)
      have nxi := nx i
      rw [← hk40] at nxi
      rw [nxi] at pl2 ⊢
      have r12 : Fr R R2 [18, 19, 20] [] := r1.tr (r2.mo (by decide) (by decide))
      refine ⟨fun ok => ⟨?_, ?_⟩, fun nok => ⟨fun q => absurd rfl q, fun _ => h0 R2 r12 (fun w => nok (fun u v hu hv _ k2 => ?_))⟩⟩
      · intro _
        have fz2 : Fz4 p β γ d (nz3 G) (i + 1) := fz1.s hSu (fun u v hu hv k2 => (rs_0 (by omega)).1 (ok u v hu hv (by omega) k2))
        rw [ιm_dec, nul, ι_le (by omega) (by omega), one]
        refine ⟨fun q => ih (i + 1) R2 (by omega) ⟨r12, pl2, fz2, fun e u v he hu hv hh => ?_⟩, fun q => ?_⟩
        · rw [r2.1 18 (by omega) (by simp)]
          exact q1 e u v he hu hv (by omega)
        · rw [ι_sub (by omega)]
          refine s_layRow hl2 (by omega) pl2 (fun R3 r3 w3 w4 => ih (i + 1) R3 (by omega) ⟨r12.tr (r3.mo (by decide) (by decide)), fun u v hu hv => by rw [r3.1 19 (by omega) (by simp)]; exact pl2 u v hu hv, fz2, fun e u v he hu hv hh => ?_⟩)
          by_cases s : e = k - 1
          · subst s
            rw [w3 u v hu hv, show 40 - (k - 1) = i + 1 by omega]
          · rw [w4 e u v he hu hv s, r2.1 18 (by omega) (by simp)]
            exact q1 e u v he hu hv (by omega)
      · intro q; exact absurd q (by decide)
      · exact (rs_0 (by omega)).2 (pl_far hpp.pq hpp.n1 hSu (hDv.2 w) (by omega) (by omega))
  -- zeros first
  have kZ : ∀ (k j : Nat) (R1 : RS), j + k = 68921 → Fr R R1 [18, 19, 20] [] → (∀ i, i < 1764 → R1 19 i = ι 0) → (∀ i, i < j → R1 18 i = ι 0) → wl_divides_31 K (k + 1) (ι l) (ι j) R1 := by
    intro k
    induction k with
    | zero =>
      intro j R1 hj r1 z1 z2
      show wb_divides_31 _ _ _ _ _
      unfold wb_divides_31
      rw [show (68921 : Int32) = ι 68921 from rfl, ι_le (by omega) (by omega)]
      have r00 : ∀ u v, rsN p (pln β γ d (nz3 G) 40 0 u v) = 0 := fun u v => (rs_0 (by omega)).2 (Int.dvd_zero _)
      refine ⟨fun _ => ⟨41 + 1, kS 41 0 R1 (by omega) ⟨r1, fun u v hu hv => ⟨?_, rs_lt (by omega)⟩, fun u v _ => Int.dvd_zero _, fun e u v he hu hv hh => ?_⟩⟩, fun q => absurd (by omega) q⟩
      · show R1 19 (u * 42 + v) = ι (rsN p (pln β γ d (nz3 G) 40 0 u v))
        rw [z1 _ (by omega), r00]
      · rw [z2 _ (by have := cl41_lt (l := l) he hu hv; omega), show 40 - e = 0 by omega, r00]
    | succ k ih =>
      intro j R1 hj r1 z1 z2
      show wb_divides_31 _ _ _ _ _
      unfold wb_divides_31
      rw [show (68921 : Int32) = ι 68921 from rfl, ι_le (by omega) (by omega), ι_cl (by omega), one, ι_add]
      refine ⟨fun q => absurd q (by omega), fun _ => ⟨ι_in (by omega) (by omega), ih (j + 1) _ (by omega) (r1.w (by simp) (by omega)) (fun i hi => by rw [upN (by decide)]; exact z1 i hi) (fun i hi => ?_)⟩⟩
      rw [upE]
      by_cases q : i = j
      · rw [if_pos q]; rfl
      · rw [if_neg q]; exact z2 i (by omega)
  have kP : ∀ (k j : Nat) (R1 : RS), j + k = 1764 → Fr R R1 [18, 19, 20] [] → (∀ i, i < j → R1 19 i = ι 0) → wl_divides_7 K (k + 1) (ι l) (ι j) R1 := by
    intro k
    induction k with
    | zero =>
      intro j R1 hj r1 z1
      show wb_divides_7 _ _ _ _ _
      unfold wb_divides_7
      rw [show (1764 : Int32) = ι 1764 from rfl, ι_le (by omega) (by omega)]
      exact ⟨fun _ => ⟨68921 + 1, kZ 68921 0 R1 (by omega) r1 (fun i hi => z1 i (by omega)) (fun i hi => absurd hi (by omega))⟩, fun q => absurd (by omega) q⟩
    | succ k ih =>
      intro j R1 hj r1 z1
      show wb_divides_7 _ _ _ _ _
      unfold wb_divides_7
      rw [show (1764 : Int32) = ι 1764 from rfl, ι_le (by omega) (by omega), ι_cl (by omega), one, ι_add]
      refine ⟨fun q => absurd q (by omega), fun _ => ⟨ι_in (by omega) (by omega), ih (j + 1) _ (by omega) (r1.w (by simp) (by omega)) (fun i hi => ?_)⟩⟩
      rw [upE]
      by_cases q : i = j
      · rw [if_pos q]; rfl
      · rw [if_neg q]; exact z1 i (by omega)
  refine hld R f22 f23 _ ⟨1764 + 1, kP 1764 0 R (by omega) (Fr.rf _ _ _) (fun i hi => absurd hi (by omega))⟩
end DVS
