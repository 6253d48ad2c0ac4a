/-! Variables that go in by themselves: a polynomial times a monomial. -/
def sh (e0 e1 e2 : Nat) (F : N3) : N3 := fun x y z => if e0 ≤ x ∧ e1 ≤ y ∧ e2 ≤ z then F (x - e0) (y - e1) (z - e2) else 0
abbrev she (E : Nat → Nat) (F : N3) : N3 := sh (E 0) (E 1) (E 2) F
/-- the line of a variable -/
def vl (v : Nat) : Lv := if v = 0 then lv 1 0 0 0 else if v = 1 then lv 0 1 0 0 else lv 0 0 1 0
/-- all but one -/
def zr (E : Nat → Nat) (v w : Nat) : Nat := if w = v then 0 else E w
section SHF3
variable {e0 e1 e2 : Nat} {F F' : N3} {G : Z3} {q : Int} {L L' : Lv} {n N : Nat}
theorem lm_X : lm (lv 1 0 0 0) G = fun x y z => dn (fun w => G w y z) x := by
  funext x y z
  show (1 : Int) * dn (fun w => G w y z) x + (0 : Int) * dn (fun w => G x w z) y + (0 : Int) * dn (fun w => G x y w) z + (0 : Int) * G x y z = dn (fun w => G w y z) x
  simp
theorem lm_Y : lm (lv 0 1 0 0) G = fun x y z => dn (fun w => G x w z) y := by
  funext x y z
  show (0 : Int) * dn (fun w => G w y z) x + (1 : Int) * dn (fun w => G x w z) y + (0 : Int) * dn (fun w => G x y w) z + (0 : Int) * G x y z = dn (fun w => G x w z) y
  simp
theorem lm_Z : lm (lv 0 0 1 0) G = fun x y z => dn (fun w => G x y w) z := by
  funext x y z
  show (0 : Int) * dn (fun w => G w y z) x + (0 : Int) * dn (fun w => G x w z) y + (1 : Int) * dn (fun w => G x y w) z + (0 : Int) * G x y z = dn (fun w => G x y w) z
  simp
theorem sh_0 : sh 0 0 0 F = F := by
  funext x y z
  unfold sh
  rw [if_pos ⟨Nat.zero_le _, Nat.zero_le _, Nat.zero_le _⟩]
  rfl
theorem sh_x : nz3 (sh (e0 + 1) e1 e2 F) = lm (lv 1 0 0 0) (nz3 (sh e0 e1 e2 F)) := by
  rw [lm_X]
  funext x y z
  cases x with
  | zero =>
    show ((sh (e0 + 1) e1 e2 F 0 y z : Nat) : Int) = 0
    unfold sh
    rw [if_neg (by omega)]; rfl
  | succ x =>
    show ((sh (e0 + 1) e1 e2 F (x + 1) y z : Nat) : Int) = ((sh e0 e1 e2 F x y z : Nat) : Int)
    unfold sh
    rw [show x + 1 - (e0 + 1) = x - e0 by omega]
    by_cases c : e0 ≤ x ∧ e1 ≤ y ∧ e2 ≤ z
    · rw [if_pos c, if_pos (by omega)]
    · rw [if_neg c, if_neg (by omega)]
theorem sh_y : nz3 (sh e0 (e1 + 1) e2 F) = lm (lv 0 1 0 0) (nz3 (sh e0 e1 e2 F)) := by
  rw [lm_Y]
  funext x y z
  cases y with
  | zero =>
    show ((sh e0 (e1 + 1) e2 F x 0 z : Nat) : Int) = 0
    unfold sh
    rw [if_neg (by omega)]; rfl
  | succ y =>
    show ((sh e0 (e1 + 1) e2 F x (y + 1) z : Nat) : Int) = ((sh e0 e1 e2 F x y z : Nat) : Int)
    unfold sh
    rw [show y + 1 - (e1 + 1) = y - e1 by omega]
    by_cases c : e0 ≤ x ∧ e1 ≤ y ∧ e2 ≤ z
    · rw [if_pos c, if_pos (by omega)]
    · rw [if_neg c, if_neg (by omega)]
theorem sh_z : nz3 (sh e0 e1 (e2 + 1) F) = lm (lv 0 0 1 0) (nz3 (sh e0 e1 e2 F)) := by
  rw [lm_Z]
  funext x y z
  cases z with
  | zero =>
    show ((sh e0 e1 (e2 + 1) F x y 0 : Nat) : Int) = 0
    unfold sh
    rw [if_neg (by omega)]; rfl
  | succ z =>
    show ((sh e0 e1 (e2 + 1) F x y (z + 1) : Nat) : Int) = ((sh e0 e1 e2 F x y z : Nat) : Int)
    unfold sh
    rw [show z + 1 - (e2 + 1) = z - e2 by omega]
    by_cases c : e0 ≤ x ∧ e1 ≤ y ∧ e2 ≤ z
    · rw [if_pos c, if_pos (by omega)]
    · rw [if_neg c, if_neg (by omega)]
theorem sh_tx : ∀ e0, nz3 (sh e0 e1 e2 F) = lmn (lv 1 0 0 0) e0 (nz3 (sh 0 e1 e2 F))
  | 0 => rfl
  | e0 + 1 => by rw [sh_x, sh_tx e0]; rfl
theorem sh_ty : ∀ e1, nz3 (sh e0 e1 e2 F) = lmn (lv 0 1 0 0) e1 (nz3 (sh e0 0 e2 F))
  | 0 => rfl
  | e1 + 1 => by rw [sh_y, sh_ty e1]; rfl
theorem sh_tz : ∀ e2, nz3 (sh e0 e1 e2 F) = lmn (lv 0 0 1 0) e2 (nz3 (sh e0 e1 0 F))
  | 0 => rfl
  | e2 + 1 => by rw [sh_z, sh_tz e2]; rfl
theorem sh_lmn : nz3 (sh e0 e1 e2 F) = lmn (lv 1 0 0 0) e0 (lmn (lv 0 1 0 0) e1 (lmn (lv 0 0 1 0) e2 (nz3 F))) := by
  rw [sh_tx, sh_ty, sh_tz, sh_0]
theorem lmn_com2 : ∀ m, lmn L' m (lmn L n G) = lmn L n (lmn L' m G)
  | 0 => rfl
  | m + 1 => by
    show lm L' (lmn L' m (lmn L n G)) = lmn L n (lm L' (lmn L' m G))
    rw [lmn_com2 m, lmn_com]
/-- a variable taken out -/
theorem she_take {E : Nat → Nat} {v : Nat} (hv : v ≤ 2) : nz3 (she E F) = lmn (vl v) (E v) (nz3 (she (zr E v) F)) := by
  have : v = 0 ∨ v = 1 ∨ v = 2 := by omega
  rcases this with rfl | rfl | rfl
  · exact sh_tx _
  · exact sh_ty _
  · exact sh_tz _
theorem she_al {E : Nat → Nat} (al : Al q (nz3 F) (lmn L n (nz3 F'))) : Al q (nz3 (she E F)) (lmn L n (nz3 (she E F'))) := by
  show Al q (nz3 (sh (E 0) (E 1) (E 2) F)) (lmn L n (nz3 (sh (E 0) (E 1) (E 2) F')))
  have h3 := ((al.lmn (L := lv 0 0 1 0) (E 2)).lmn (L := lv 0 1 0 0) (E 1)).lmn (L := lv 1 0 0 0) (E 0)
  rw [sh_lmn, sh_lmn]
  rw [lmn_com2 (L := L) (L' := lv 0 0 1 0), lmn_com2 (L := L) (L' := lv 0 1 0 0), lmn_com2 (L := L) (L' := lv 1 0 0 0)] at h3
  exact h3
theorem she_cn {E : Nat → Nat} (hq : Pq q) (hl : Nz q L) (ap : ∀ v, v ≤ 2 → Ap q L (vl v)) (hs : Su q N (nz3 F)) : Cn q L n (nz3 (she E F)) ↔ Cn q L n (nz3 F) := by
  show Cn q L n (nz3 (sh (E 0) (E 1) (E 2) F)) ↔ _
  have a0 : Ap q L (lv 1 0 0 0) := ap 0 (by omega)
  have a1 : Ap q L (lv 0 1 0 0) := ap 1 (by omega)
  have a2 : Ap q L (lv 0 0 1 0) := ap 2 (by omega)
  rw [sh_lmn, Cn.apn hq hl a0 ((hs.lmn (L := lv 0 0 1 0) (E 2)).lmn (L := lv 0 1 0 0) (E 1)), Cn.apn hq hl a1 (hs.lmn (L := lv 0 0 1 0) (E 2)), Cn.apn hq hl a2 hs]
theorem she_bd {p : Nat} {D E : Nat → Nat} (hp : 0 < p) (hs : Sp3 p D F) (hDE : ∀ v, v ≤ 2 → D v + E v ≤ 40) : Bd p (she E F) := fun x y z => by
  have h0 := hDE 0 (by omega)
  have h1 := hDE 1 (by omega)
  have h2 := hDE 2 (by omega)
  show sh (E 0) (E 1) (E 2) F x y z < p ∧ (_ → sh (E 0) (E 1) (E 2) F x y z = 0)
  unfold sh
  by_cases c : E 0 ≤ x ∧ E 1 ≤ y ∧ E 2 ≤ z
  · rw [if_pos c]
    exact ⟨(hs.2 _ _ _).1, fun k => (hs.2 _ _ _).2 (by omega)⟩
  · rw [if_neg c]
    exact ⟨hp, fun _ => rfl⟩
/-- a variable goes in only where nothing stands without it -/
theorem vl_dv {v : Nat} (hv : v ≤ 2) (h : Dv q (vl v) G) (x y z : Nat) (h0 : (if v = 0 then x else if v = 1 then y else z) = 0) : q ∣ G x y z := by
  obtain ⟨N, Q, -, al⟩ := h
  have a := al x y z
  have : v = 0 ∨ v = 1 ∨ v = 2 := by omega
  rcases this with rfl | rfl | rfl
  · have h0 : x = 0 := h0
    subst h0
    rw [show vl 0 = lv 1 0 0 0 from rfl, lm_X] at a
    have a : q ∣ G 0 y z - 0 := a
    rw [Int.sub_zero] at a
    exact a
  · have h0 : y = 0 := h0
    subst h0
    rw [show vl 1 = lv 0 1 0 0 from rfl, lm_Y] at a
    have a : q ∣ G x 0 z - 0 := a
    rw [Int.sub_zero] at a
    exact a
  · have h0 : z = 0 := h0
    subst h0
    rw [show vl 2 = lv 0 0 1 0 from rfl, lm_Z] at a
    have a : q ∣ G x y 0 - 0 := a
    rw [Int.sub_zero] at a
    exact a
end SHF3
/-- the least exponent, from the other end -/
def mnr (L : Po) (g : Tm → Nat) : Nat → Nat
  | 0 => 40
  | n + 1 => if g (rt L n) < mnr L g n then g (rt L n) else mnr L g n
/-- the least exponent, 0 of none -/
def lsL (L : Po) (v : Nat) : Nat := if L.length = 0 then 0 else mnr L (fun t => exv t v) L.length
theorem mnr_le {L : Po} {g : Tm → Nat} : ∀ {n i : Nat}, i < n → mnr L g n ≤ g (rt L i) := by
  intro n
  induction n with
  | zero => intro i hi; omega
  | succ n ih =>
    intro i hi
    unfold mnr
    by_cases e : i = n
    · subst e; split <;> omega
    · have := ih (i := i) (by omega)
      split <;> omega
theorem mnr_40 {L : Po} {g : Tm → Nat} : ∀ n, mnr L g n ≤ 40 := by
  intro n
  induction n with
  | zero => exact Nat.le_refl _
  | succ n ih => unfold mnr; split <;> omega
theorem mnr_ex {L : Po} {g : Tm → Nat} : ∀ {n : Nat}, 0 < n → (∀ i, i < n → g (rt L i) ≤ 40) → ∃ i, i < n ∧ mnr L g n = g (rt L i) := by
  intro n
  induction n with
  | zero => intro h; omega
  | succ n ih =>
    intro _ hg
    unfold mnr
    by_cases c : g (rt L n) < mnr L g n
    · rw [if_pos c]; exact ⟨n, by omega, rfl⟩
    · rw [if_neg c]
      by_cases e : n = 0
      · subst e
        have := hg 0 (by omega)
        refine ⟨0, by omega, ?_⟩
        show 40 = g (rt L 0)
        have c : ¬ g (rt L 0) < 40 := c
        omega
      · obtain ⟨i, hi, h⟩ := ih (by omega) (fun i hi => hg i (by omega))
        exact ⟨i, by omega, h⟩
section LSL
variable {p : Nat} {L : Po}
theorem lsL_le {v i : Nat} (hi : i < L.length) : lsL L v ≤ exv (rt L i) v := by
  unfold lsL
  rw [if_neg (by omega)]
  exact mnr_le (g := fun t => exv t v) hi
theorem lsL_tm {v i : Nat} (hi : i < L.length) : lsL L v ≤ exv (tm L i) v := by
  have := lsL_le (L := L) (v := v) (i := L.length - 1 - i) (by omega)
  unfold rt at this
  rw [show L.length - 1 - (L.length - 1 - i) = i by omega] at this
  exact this
theorem lsL_ex (hw : wf p L) (hL : L ≠ []) (v : Nat) : ∃ i, i < L.length ∧ lsL L v = exv (tm L i) v := by
  have h0 : 0 < L.length := List.length_pos_iff.2 hL
  obtain ⟨i, hi, h⟩ := mnr_ex (L := L) (g := fun t => exv t v) h0 (fun i hi => exv_le (rt_sm hw hi) v)
  refine ⟨L.length - 1 - i, by omega, ?_⟩
  unfold lsL
  rw [if_neg (by omega), h]
  rfl
theorem lsL_dg (v : Nat) : lsL L v ≤ mA L v - 1 := by
  by_cases c : L.length = 0
  · unfold lsL; rw [if_pos c]; omega
  · have a := lsL_tm (L := L) (v := v) (i := 0) (by omega)
    have b := mA_tm (L := L) (v := v) (i := 0) (by omega)
    omega
/-- what is left when the variables are out -/
def dnL (L : Po) : N3 := fun x y z => cf L (x + lsL L 0) (y + lsL L 1) (z + lsL L 2)
theorem dnL_sh : she (lsL L) (dnL L) = cf L := by
  funext x y z
  show sh (lsL L 0) (lsL L 1) (lsL L 2) (dnL L) x y z = _
  unfold sh dnL
  by_cases c : lsL L 0 ≤ x ∧ lsL L 1 ≤ y ∧ lsL L 2 ≤ z
  · rw [if_pos c, show x - lsL L 0 + lsL L 0 = x by omega, show y - lsL L 1 + lsL L 1 = y by omega, show z - lsL L 2 + lsL L 2 = z by omega]
  · rw [if_neg c]
    refine (cf_none (fun i hi w => c ?_)).symm
    have a0 : lsL L 0 ≤ (tm L i).x := lsL_tm (v := 0) hi
    have a1 : lsL L 1 ≤ (tm L i).y := lsL_tm (v := 1) hi
    have a2 : lsL L 2 ≤ (tm L i).z := lsL_tm (v := 2) hi
    obtain ⟨w1, w2, w3⟩ := w
    omega
/-- degrees without the variables -/
def dlL (L : Po) (v : Nat) : Nat := mA L v - 1 - lsL L v
def dtL (L : Po) : Nat := mx L dgt L.length - 1 - (lsL L 0 + lsL L 1 + lsL L 2)
theorem dnL_sp (hpp : PrP p) (hw : wf p L) : Sp3 p (dlL L) (dnL L) := by
  have hp := hpp.le
  refine ⟨fun v _ => by have := mA_le (v := v) hw; unfold dlL; omega, fun x y z => ⟨cf_lt (by omega) hw _ _ _, fun k => cf_none (fun i hi w => ?_)⟩⟩
  have u0 : (tm L i).x + 1 ≤ mA L 0 := mA_tm (v := 0) hi
  have u1 : (tm L i).y + 1 ≤ mA L 1 := mA_tm (v := 1) hi
  have u2 : (tm L i).z + 1 ≤ mA L 2 := mA_tm (v := 2) hi
  unfold dlL at k
  obtain ⟨w1, w2, w3⟩ := w
  omega
theorem dnL_dg : Dg3 (dtL L) (dnL L) := fun x y z k => cf_none (fun i hi w => by
  have u : dgt (tm L i) + 1 ≤ mx L dgt L.length := mx_ge hi
  have e : dgt (tm L i) = (tm L i).x + (tm L i).y + (tm L i).z := rfl
  unfold dtL at k
  obtain ⟨w1, w2, w3⟩ := w
  omega)
theorem dnL_nn (hw : wf p L) (hL : L ≠ []) : ∃ x y z, dnL L x y z ≠ 0 := by
  obtain ⟨x, y, z, h⟩ := cf_nn hw hL
  rw [← dnL_sh] at h
  have h : sh (lsL L 0) (lsL L 1) (lsL L 2) (dnL L) x y z ≠ 0 := h
  unfold sh at h
  by_cases c : lsL L 0 ≤ x ∧ lsL L 1 ≤ y ∧ lsL L 2 ≤ z
  · rw [if_pos c] at h; exact ⟨_, _, _, h⟩
  · rw [if_neg c] at h; exact absurd rfl h
theorem vl_ln (hp : 2 ≤ p) {v : Nat} (hv : v ≤ 2) : ∃ a b c, Ln p a b c 0 ∧ vl v = lv a b c 0 ∧ led a b = v ∧ l1 a b = 0 ∧ l2 a b c = 0 := by
  have : v = 0 ∨ v = 1 ∨ v = 2 := by omega
  rcases this with rfl | rfl | rfl
  · exact ⟨1, 0, 0, ⟨Or.inl ⟨rfl, by omega, by omega⟩, by omega⟩, rfl, rfl, rfl, rfl⟩
  · exact ⟨0, 1, 0, ⟨Or.inr (Or.inl ⟨rfl, rfl, by omega⟩), by omega⟩, rfl, rfl, rfl, rfl⟩
  · exact ⟨0, 0, 1, ⟨Or.inr (Or.inr ⟨rfl, rfl, rfl⟩), by omega⟩, rfl, rfl, rfl, rfl⟩
theorem vl_nz (hp : 2 ≤ p) {v : Nat} (hv : v ≤ 2) : Nz (p : Int) (vl v) := by
  obtain ⟨a, b, c, h, e, -⟩ := vl_ln hp hv
  rw [e]; exact h.nz hp
/-- how often a variable goes in -/
theorem cn_var (hpp : PrP p) (hw : wf p L) (hL : L ≠ []) {v : Nat} (hv : v ≤ 2) : Cn (p : Int) (vl v) (lsL L v) (nz3 (cf L)) := by
  have hp := hpp.le
  have sp := dnL_sp hpp hw
  have bd : Bd p (she (zr (lsL L) v) (dnL L)) := she_bd (by omega) sp (fun w _ => by
    have := mA_le (v := w) hw
    have := lsL_dg (L := L) w
    unfold zr dlL
    split <;> omega)
  have e : nz3 (cf L) = lmn (vl v) (lsL L v) (nz3 (she (zr (lsL L) v) (dnL L))) := by
    rw [← dnL_sh]; exact she_take hv
  have nd : ¬ Dv (p : Int) (vl v) (nz3 (she (zr (lsL L) v) (dnL L))) := fun hd => by
    obtain ⟨i, hi, he⟩ := lsL_ex hw hL v
    have a0 : lsL L 0 ≤ (tm L i).x := lsL_tm (v := 0) hi
    have a1 : lsL L 1 ≤ (tm L i).y := lsL_tm (v := 1) hi
    have a2 : lsL L 2 ≤ (tm L i).z := lsL_tm (v := 2) hi
    have nz : cf L (tm L i).x (tm L i).y (tm L i).z ≠ 0 := by
      rw [cf_at hw hi]
      have := (hw.2.1 i hi).2.2.2.1
      omega
    have key : ∀ x y z, (if v = 0 then x else if v = 1 then y else z) = 0 → she (zr (lsL L) v) (dnL L) x y z = 0 := fun x y z h0 => lt_dv (bd x y z).1 (vl_dv hv hd x y z h0)
    have : v = 0 ∨ v = 1 ∨ v = 2 := by omega
    rcases this with rfl | rfl | rfl
    · have he : lsL L 0 = (tm L i).x := he
      have k := key 0 (tm L i).y (tm L i).z rfl
      have k : sh 0 (lsL L 1) (lsL L 2) (dnL L) 0 (tm L i).y (tm L i).z = 0 := k
      unfold sh dnL at k
      rw [if_pos (by omega), show 0 - 0 + lsL L 0 = (tm L i).x by omega, show (tm L i).y - lsL L 1 + lsL L 1 = (tm L i).y by omega, show (tm L i).z - lsL L 2 + lsL L 2 = (tm L i).z by omega] at k
      exact nz k
    · have he : lsL L 1 = (tm L i).y := he
      have k := key (tm L i).x 0 (tm L i).z rfl
      have k : sh (lsL L 0) 0 (lsL L 2) (dnL L) (tm L i).x 0 (tm L i).z = 0 := k
      unfold sh dnL at k
      rw [if_pos (by omega), show 0 - 0 + lsL L 1 = (tm L i).y by omega, show (tm L i).x - lsL L 0 + lsL L 0 = (tm L i).x by omega, show (tm L i).z - lsL L 2 + lsL L 2 = (tm L i).z by omega] at k
      exact nz k
    · have he : lsL L 2 = (tm L i).z := he
      have k := key (tm L i).x (tm L i).y 0 rfl
      have k : sh (lsL L 0) (lsL L 1) 0 (dnL L) (tm L i).x (tm L i).y 0 = 0 := k
      unfold sh dnL at k
      rw [if_pos (by omega), show 0 - 0 + lsL L 2 = (tm L i).z by omega, show (tm L i).x - lsL L 0 + lsL L 0 = (tm L i).x by omega, show (tm L i).y - lsL L 1 + lsL L 1 = (tm L i).y by omega] at k
      exact nz k
  rw [e]
  have := (Cn.lmk hpp.pq (vl_nz (by omega) hv) bd.su (k := 0) (lsL L v)).mpr (Cn.no bd.su nd)
  rw [Nat.zero_add] at this
  exact this
end LSL
