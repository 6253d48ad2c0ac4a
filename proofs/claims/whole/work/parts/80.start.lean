/-! The start: both constructors, walked at address 0 and moved. -/
/-- the heap S moved by h0 cells and s0 slots -/
def shf (h0 s0 : Nat) (S : HS) : HS := (fun b k => if b < h0 then 0 else hI S (b - h0) k, fun b k => if b < h0 then none else (hP S (b - h0) k).map (fun q => h0 + q), fun b => if b < h0 then 0 else hT S (b - h0), fun b => if b < h0 then 0 else hN S (b - h0), h0 + hX S, s0 + hS S)
section SHF
variable {h0 s0 : Nat} {S : HS} {j k t n : Nat} {v : Int32} {r : Option Nat}
theorem shf_T : hT (shf h0 s0 S) (h0 + j) = hT S j := by
  show (if h0 + j < h0 then 0 else hT S (h0 + j - h0)) = _
  rw [if_neg (by omega), show h0 + j - h0 = j by omega]
theorem shf_N : hN (shf h0 s0 S) (h0 + j) = hN S j := by
  show (if h0 + j < h0 then 0 else hN S (h0 + j - h0)) = _
  rw [if_neg (by omega), show h0 + j - h0 = j by omega]
theorem shf_I : hI (shf h0 s0 S) (h0 + j) k = hI S j k := by
  show (if h0 + j < h0 then 0 else hI S (h0 + j - h0) k) = _
  rw [if_neg (by omega), show h0 + j - h0 = j by omega]
theorem shf_P : hP (shf h0 s0 S) (h0 + j) k = (hP S j k).map (fun q => h0 + q) := by
  show (if h0 + j < h0 then none else (hP S (h0 + j - h0) k).map (fun q => h0 + q)) = _
  rw [if_neg (by omega), show h0 + j - h0 = j by omega]
theorem shf_X : hX (shf h0 s0 S) = h0 + hX S := rfl
theorem shf_S : hS (shf h0 s0 S) = s0 + hS S := rfl
theorem shf_sI : sI (shf h0 s0 S) (h0 + j) k v = shf h0 s0 (sI S j k v) := by
  refine Prod.ext ?_ rfl
  funext b i
  show hI (sI (shf h0 s0 S) (h0 + j) k v) b i = hI (shf h0 s0 (sI S j k v)) b i
  by_cases d : b < h0
  · rw [sI_ne (by omega)]
    show (if b < h0 then _ else _) = if b < h0 then _ else _
    rw [if_pos d, if_pos d]
  · obtain ⟨w, rfl⟩ : ∃ w, b = h0 + w := ⟨b - h0, by omega⟩
    rw [shf_I]
    by_cases c : w = j
    · subst c
      rw [sI_eq, sI_eq, shf_I]
    · rw [sI_ne (by omega), sI_ne c, shf_I]
theorem shf_sP (r : Option Nat) : sP (shf h0 s0 S) (h0 + j) k (r.map (fun q => h0 + q)) = shf h0 s0 (sP S j k r) := by
  refine Prod.ext rfl (Prod.ext ?_ rfl)
  funext b i
  show hP (sP (shf h0 s0 S) (h0 + j) k _) b i = hP (shf h0 s0 (sP S j k r)) b i
  by_cases d : b < h0
  · rw [sP_ne (by omega)]
    show (if b < h0 then _ else _) = if b < h0 then _ else _
    rw [if_pos d, if_pos d]
  · obtain ⟨w, rfl⟩ : ∃ w, b = h0 + w := ⟨b - h0, by omega⟩
    rw [shf_P]
    by_cases c : w = j
    · subst c
      rw [sP_eq, sP_eq, shf_P]
      split <;> rfl
    · rw [sP_ne (by omega), sP_ne c, shf_P]
theorem shf_sP1 {q : Nat} : sP (shf h0 s0 S) (h0 + j) k (some (h0 + q)) = shf h0 s0 (sP S j k (some q)) := shf_sP (some q)
theorem shf_sP0 : sP (shf h0 s0 S) (h0 + j) k none = shf h0 s0 (sP S j k none) := shf_sP none
theorem shf_nO : nO (shf h0 s0 S) t n = shf h0 s0 (nO S t n) := by
  have low : ∀ b, ¬ b < h0 → ∃ w, b = h0 + w := fun b hb => ⟨b - h0, by omega⟩
  refine Prod.ext ?_ (Prod.ext ?_ (Prod.ext ?_ (Prod.ext ?_ (Prod.ext ?_ ?_))))
  · funext b i
    show hI (nO (shf h0 s0 S) t n) b i = hI (shf h0 s0 (nO S t n)) b i
    by_cases d : b < h0
    · rw [nO_I1 (by rw [shf_X]; omega)]
      show (if b < h0 then _ else _) = if b < h0 then _ else _
      rw [if_pos d, if_pos d]
    · obtain ⟨w, rfl⟩ := low b d
      rw [shf_I]
      by_cases c : w = hX S
      · subst c; rw [← shf_X (h0 := h0) (s0 := s0), nO_I2, nO_I2]
      · rw [nO_I1 (by rw [shf_X]; omega), nO_I1 c, shf_I]
  · funext b i
    show hP (nO (shf h0 s0 S) t n) b i = hP (shf h0 s0 (nO S t n)) b i
    by_cases d : b < h0
    · rw [nO_P1 (by rw [shf_X]; omega)]
      show (if b < h0 then _ else _) = if b < h0 then _ else _
      rw [if_pos d, if_pos d]
    · obtain ⟨w, rfl⟩ := low b d
      rw [shf_P]
      by_cases c : w = hX S
      · subst c; rw [← shf_X (h0 := h0) (s0 := s0), nO_P2, nO_P2]; rfl
      · rw [nO_P1 (by rw [shf_X]; omega), nO_P1 c, shf_P]
  · funext b
    show hT (nO (shf h0 s0 S) t n) b = hT (shf h0 s0 (nO S t n)) b
    by_cases d : b < h0
    · rw [nO_T1 (by rw [shf_X]; omega)]
      show (if b < h0 then _ else _) = if b < h0 then _ else _
      rw [if_pos d, if_pos d]
    · obtain ⟨w, rfl⟩ := low b d
      rw [shf_T]
      by_cases c : w = hX S
      · subst c; rw [← shf_X (h0 := h0) (s0 := s0), nO_T2, nO_T2]
      · rw [nO_T1 (by rw [shf_X]; omega), nO_T1 c, shf_T]
  · funext b
    show hN (nO (shf h0 s0 S) t n) b = hN (shf h0 s0 (nO S t n)) b
    by_cases d : b < h0
    · rw [nO_N1 (by rw [shf_X]; omega)]
      show (if b < h0 then _ else _) = if b < h0 then _ else _
      rw [if_pos d, if_pos d]
    · obtain ⟨w, rfl⟩ := low b d
      rw [shf_N]
      by_cases c : w = hX S
      · subst c; rw [← shf_X (h0 := h0) (s0 := s0), nO_N2, nO_N2]
      · rw [nO_N1 (by rw [shf_X]; omega), nO_N1 c, shf_N]
  · show h0 + hX S + 1 = h0 + (hX S + 1); omega
  · show s0 + hS S + n = s0 + (hS S + n); omega
theorem q_t (h : hT S j = t) : hT (shf h0 s0 S) (h0 + j) = t := shf_T.trans h
theorem q_x (h : hX S + 1 ≤ 601024) : hX (shf h0 s0 S) + 1 ≤ h0 + 601024 := by show h0 + hX S + 1 ≤ h0 + 601024; omega
theorem q_s (h : hS S + n ≤ 7293034) : hS (shf h0 s0 S) + n ≤ s0 + 7293034 := by show s0 + hS S + n ≤ s0 + 7293034; omega
theorem q_in {i : Int32} (h : vp_in i (hN S j)) : vp_in i (hN (shf h0 s0 S) (h0 + j)) := by rw [shf_N]; exact h
theorem q_p {q : Nat} (h : hP S j k = some q) : hP (shf h0 s0 S) (h0 + j) k = some (h0 + q) := by rw [shf_P, h]; rfl
end SHF
/-! Both constructors walked. -/
/-- nothing lies behind the end; numbers from cell 57 on are 0 -/
def Fz (S : HS) : Prop := (∀ b, hX S ≤ b → hT S b = 0) ∧ ∀ b, 57 ≤ b → hI S b = fun _ => 0
theorem Fz.nO {S : HS} {t n : Nat} (h : Fz S) : Fz (nO S t n) := ⟨fun b hb => by
  rw [nO_X] at hb
  rw [nO_T1 (by omega)]; exact h.1 b (by omega), fun b hb => by
  by_cases c : b = hX S
  · subst c; exact nO_I2
  · rw [nO_I1 c]; exact h.2 b hb⟩
theorem Fz.sI {S : HS} {j k : Nat} {v : Int32} (hj : j < 57) (h : Fz S) : Fz (sI S j k v) := ⟨h.1, fun b hb => by rw [sI_ne (by omega)]; exact h.2 b hb⟩
theorem Fz.sP {S : HS} {j k : Nat} {r : Option Nat} (h : Fz S) : Fz (sP S j k r) := h
theorem Fz.s0 : Fz (S0n 0 0) := ⟨fun _ _ => rfl, fun _ _ => rfl⟩
theorem shf_0 (h0 s0 : Nat) : S0n h0 s0 = shf h0 s0 (S0n 0 0) := by
  refine Prod.ext ?_ (Prod.ext ?_ (Prod.ext ?_ (Prod.ext ?_ rfl)))
  · funext b k; show (0 : Int32) = if b < h0 then 0 else 0; split <;> rfl
  · funext b k; show none = if b < h0 then none else none; split <;> rfl
  · funext b; show 0 = if b < h0 then 0 else 0; split <;> rfl
  · funext b; show 0 = if b < h0 then 0 else 0; split <;> rfl
theorem i_X3 {M : Nat × Nat} {h0 s0 j : Nat} {S : HS} {K : Int32 → HS → Prop} (ht : hT S j = 4) (k : K 0 (shf h0 s0 (sI (sI (sI (sI (sI (sI S j 0 0) j 1 1) j 2 2) j 3 0) j 4 0) j 5 0))) : wp_X3_init M (h0 + j) 1 0 0 0 (shf h0 s0 S) K := by
  have t : ∀ S' : HS, hT S' = hT S → hT (shf h0 s0 S') (h0 + j) = 4 := fun S' e => q_t (by rw [e]; exact ht)
  refine ⟨t _ rfl, fun c => absurd c (by decide), fun _ => ⟨t _ rfl, ?_⟩⟩
  rw [shf_sI]
  refine ⟨t _ rfl, fun c => absurd (by rw [shf_I, sI_eq, if_pos rfl]) c, fun _ => ⟨t _ rfl, ?_⟩⟩
  rw [shf_sI]
  have f0 : hI (sI (sI S j 0 0) j 1 1) j 0 = 0 := by rw [sI_eq, if_neg (by decide), sI_eq, if_pos rfl]
  refine ⟨t _ rfl, fun _ => ⟨t _ rfl, ?_⟩, fun c => absurd (shf_I.symm.trans c) (by rw [f0]; decide)⟩
  rw [shf_sI]
  have f1 : hI (sI (sI (sI S j 0 0) j 1 1) j 2 2) j 0 = 0 := by rw [sI_eq, if_neg (by decide)]; exact f0
  refine ⟨t _ rfl, fun c => absurd (shf_I.trans f1) c, fun _ => ⟨t _ rfl, ?_⟩⟩
  rw [shf_sI]
  have f2 : hI (sI (sI (sI (sI S j 0 0) j 1 1) j 2 2) j 3 0) j 0 = 0 := by rw [sI_eq, if_neg (by decide)]; exact f1
  refine ⟨t _ rfl, fun _ => ⟨t _ rfl, ?_⟩, fun c => absurd (shf_I.symm.trans c) (by rw [f2]; decide)⟩
  rw [shf_sI]
  refine ⟨t _ rfl, ?_⟩
  rw [shf_sI]
  exact k
/-- what a constructor needs of its own object -/
def Ow (S : HS) (j t d e : Nat) : Prop := hT S j = t ∧ j < hX S ∧ hX S + d ≤ 601024 ∧ hS S + e ≤ 7293034
def iX6 (S : HS) (j n : Nat) : HS := sP (nO (sP (nO (sI (sI S j 2 0) j 3 0) 21 n) j 0 (some (hX S))) 21 n) j 1 (some (hX S + 1))
theorem i_X6 {h0 s0 j : Nat} {x : Int32} {S : HS} {K : Int32 → HS → Prop} (h : Ow S j 7 2 600) (hn : ¬ x < 0) (hm : Int32.toNatClampNeg x ≤ 300) (k : K 0 (shf h0 s0 (iX6 S j (Int32.toNatClampNeg x)))) : wp_X6_init (h0 + 601024, s0 + 7293034) (h0 + j) x (shf h0 s0 S) K := by
  obtain ⟨ht, hj, hx, hs⟩ := h
  have e1 : hT (nO (sI (sI S j 2 0) j 3 0) 21 (Int32.toNatClampNeg x)) j = 7 := (nO_T1 (S := sI (sI S j 2 0) j 3 0) (Nat.ne_of_lt hj)).trans ht
  unfold wp_X6_init
  simp only [shf_sI]
  refine ⟨q_t ht, q_t ht, hn, by omega, q_x (by show hX S + 1 ≤ _; omega), q_s (by show hS S + _ ≤ _; omega), fun b S' hb hs' => ?_⟩
  rw [shf_X] at hb; rw [shf_nO] at hs'; subst hb; subst hs'
  simp only [shf_sP1]
  refine ⟨q_t e1, hn, by omega, q_x (by show hX S + 1 + 1 ≤ _; omega), q_s (by show hS S + _ + _ ≤ _; omega), fun b S' hb hs' => ?_⟩
  rw [shf_X] at hb; rw [shf_nO] at hs'; subst hb; subst hs'
  simp only [shf_sP1]
  exact ⟨q_t ((nO_T1 (by show ¬ j = hX S + 1; omega)).trans e1), k⟩
def iX1 (S : HS) (j : Nat) : HS := sP (sI (sI (sI (nO (sI (sP (nO S 21 0) j 0 (some (hX S))) j 1 0) 21 3) (hX S + 1) 0 1) (hX S + 1) 1 1) (hX S + 1) 2 1) j 2 (some (hX S + 1))
theorem i_X1 {h0 s0 j : Nat} {S : HS} {K : Int32 → HS → Prop} (h : Ow S j 2 2 3) (k : K 0 (shf h0 s0 (iX1 S j))) : wp_X1_init (h0 + 601024, s0 + 7293034) (h0 + j) (shf h0 s0 S) K := by
  obtain ⟨ht, hj, hx, hs⟩ := h
  have e1 : hT (nO S 21 (Int32.toNatClampNeg 0)) j = 2 := (nO_T1 (Nat.ne_of_lt hj)).trans ht
  unfold wp_X1_init
  refine ⟨by decide, by decide, q_x (by omega), q_s (by show hS S + 0 ≤ _; omega), fun b S' hb hs' => ?_⟩
  rw [shf_X] at hb; rw [shf_nO] at hs'; subst hb; subst hs'
  simp only [shf_sP1, shf_sI]
  refine ⟨q_t e1, q_t e1, by decide, by decide, q_x (by show hX S + 1 + 1 ≤ _; omega), q_s (by show hS S + 0 + 3 ≤ _; omega), fun b S' hb hs' => ?_⟩
  rw [shf_X] at hb; rw [shf_nO] at hs'; subst hb; subst hs'
  simp only [shf_sP1, shf_sI]
  have t2 : hT (nO (sI (sP (nO S 21 (Int32.toNatClampNeg 0)) j 0 (some (hX S))) j 1 0) 21 (Int32.toNatClampNeg 3)) (hX S + 1) = 21 := nO_T2
  have n2 : hN (nO (sI (sP (nO S 21 (Int32.toNatClampNeg 0)) j 0 (some (hX S))) j 1 0) 21 (Int32.toNatClampNeg 3)) (hX S + 1) = 3 := nO_N2
  refine ⟨q_t t2, q_in (by show vp_in 0 (hN (nO _ _ _) (hX S + 1)); rw [n2]; unfold vp_in; decide), q_t t2, q_in (by show vp_in 1 (hN (nO _ _ _) (hX S + 1)); rw [n2]; unfold vp_in; decide), q_t t2, q_in (by show vp_in 2 (hN (nO _ _ _) (hX S + 1)); rw [n2]; unfold vp_in; decide), q_t ((nO_T1 (by show ¬ j = hX S + 1; omega)).trans e1), k⟩
def iX5 (S : HS) (j : Nat) : HS := sI (sI (sP (nO (sP (nO S 21 2197) j 0 (some (hX S))) 21 13) j 1 (some (hX S + 1))) j 2 2) j 3 8
theorem i_X5 {h0 s0 j : Nat} {S : HS} {K : Int32 → HS → Prop} (h : Ow S j 6 2 2210) (k : K 0 (shf h0 s0 (iX5 S j))) : wp_X5_init (h0 + 601024, s0 + 7293034) (h0 + j) (shf h0 s0 S) K := by
  obtain ⟨ht, hj, hx, hs⟩ := h
  have e1 : hT (nO S 21 (Int32.toNatClampNeg 2197)) j = 6 := (nO_T1 (Nat.ne_of_lt hj)).trans ht
  unfold wp_X5_init
  refine ⟨by decide, by decide, q_x (by omega), q_s (by show hS S + 2197 ≤ _; omega), fun b S' hb hs' => ?_⟩
  rw [shf_X] at hb; rw [shf_nO] at hs'; subst hb; subst hs'
  simp only [shf_sP1, shf_sI]
  refine ⟨q_t e1, by decide, by decide, q_x (by show hX S + 1 + 1 ≤ _; omega), q_s (by show hS S + 2197 + 13 ≤ _; omega), fun b S' hb hs' => ?_⟩
  rw [shf_X] at hb; rw [shf_nO] at hs'; subst hb; subst hs'
  simp only [shf_sP1, shf_sI]
  have e2 := (nO_T1 (S := sP (nO S 21 (Int32.toNatClampNeg 2197)) j 0 (some (hX S))) (t := 21) (n := Int32.toNatClampNeg 13) (show ¬ j = hX S + 1 by omega)).trans e1
  exact ⟨q_t e2, q_t e2, q_t e2, k⟩
def iX4 (S : HS) (j : Nat) : HS := sP (nO S 21 300) j 0 (some (hX S))
theorem i_X4 {h0 s0 j : Nat} {S : HS} {K : Int32 → HS → Prop} (h : Ow S j 5 1 300) (k : K 0 (shf h0 s0 (iX4 S j))) : wp_X4_init (h0 + 601024, s0 + 7293034) (h0 + j) (shf h0 s0 S) K := by
  obtain ⟨ht, hj, hx, hs⟩ := h
  unfold wp_X4_init
  refine ⟨by decide, by decide, q_x (by omega), q_s (by show hS S + 300 ≤ _; omega), fun b S' hb hs' => ?_⟩
  rw [shf_X] at hb; rw [shf_nO] at hs'; subst hb; subst hs'
  simp only [shf_sP1, shf_sI]
  exact ⟨q_t ((nO_T1 (Nat.ne_of_lt hj)).trans ht), k⟩
def iX10 (S : HS) (j : Nat) : HS := sP (nO (sI S j 0 0) 22 5400) j 1 (some (hX S))
theorem i_X10 {h0 s0 j : Nat} {S : HS} {K : Int32 → HS → Prop} (h : Ow S j 11 1 5400) (k : K 0 (shf h0 s0 (iX10 S j))) : wp_X10_init (h0 + 601024, s0 + 7293034) (h0 + j) (shf h0 s0 S) K := by
  obtain ⟨ht, hj, hx, hs⟩ := h
  unfold wp_X10_init
  simp only [shf_sI]
  refine ⟨q_t ht, by decide, by decide, q_x (by show hX S + 1 ≤ _; omega), q_s (by show hS S + 5400 ≤ _; omega), fun b S' hb hs' => ?_⟩
  rw [shf_X] at hb; rw [shf_nO] at hs'; subst hb; subst hs'
  simp only [shf_sP1, shf_sI]
  exact ⟨q_t ((nO_T1 (S := sI S j 0 0) (Nat.ne_of_lt hj)).trans ht), k⟩
def iX0 (S : HS) (j : Nat) : HS := sP (nO (sP (nO (sI (sI S j 0 0) j 1 0) 21 20) j 2 (some (hX S))) 23 20) j 3 (some (hX S + 1))
theorem i_X0 {h0 s0 j : Nat} {S : HS} {K : Int32 → HS → Prop} (h : Ow S j 1 2 40) (k : K 0 (shf h0 s0 (iX0 S j))) : wp_X0_init (h0 + 601024, s0 + 7293034) (h0 + j) (shf h0 s0 S) K := by
  obtain ⟨ht, hj, hx, hs⟩ := h
  have e1 : hT (nO (sI (sI S j 0 0) j 1 0) 21 (Int32.toNatClampNeg 20)) j = 1 := (nO_T1 (S := sI (sI S j 0 0) j 1 0) (Nat.ne_of_lt hj)).trans ht
  unfold wp_X0_init
  simp only [shf_sI]
  refine ⟨q_t ht, q_t ht, by decide, by decide, q_x (by show hX S + 1 ≤ _; omega), q_s (by show hS S + 20 ≤ _; omega), fun b S' hb hs' => ?_⟩
  rw [shf_X] at hb; rw [shf_nO] at hs'; subst hb; subst hs'
  simp only [shf_sP1, shf_sI]
  refine ⟨q_t e1, by decide, by decide, q_x (by show hX S + 1 + 1 ≤ _; omega), q_s (by show hS S + 20 + 20 ≤ _; omega), fun b S' hb hs' => ?_⟩
  rw [shf_X] at hb; rw [shf_nO] at hs'; subst hb; subst hs'
  simp only [shf_sP1, shf_sI]
  exact ⟨q_t ((nO_T1 (by show ¬ j = hX S + 1; omega)).trans e1), k⟩
/-- an array made into field k; an object made into field k -/
def mkA (S : HS) (j k t n : Nat) : HS := sP (nO S t n) j k (some (hX S))
def mkO (S : HS) (j k : Nat) (f : HS → Nat → HS) (t n : Nat) : HS := sP (f (nO S t n) (hX S)) j k (some (hX S))
def iX3 (S : HS) (j : Nat) : HS := sI (sI (sI (sI (sI (sI S j 0 0) j 1 1) j 2 2) j 3 0) j 4 0) j 5 0
def iX6a (S : HS) (j : Nat) : HS := iX6 S j (Int32.toNatClampNeg 0)
def iX6b (S : HS) (j : Nat) : HS := iX6 S j (Int32.toNatClampNeg 300)
def iX9 (S : HS) (j : Nat) : HS := mkA (mkA (mkA (mkA (mkO (mkO (mkO (mkO (sI S j 0 5) j 1 iX6b 7 4) j 2 iX6b 7 4) j 3 iX1 2 3) j 4 iX1 2 3) j 5 21 (Int32.toNatClampNeg 300)) j 6 21 (Int32.toNatClampNeg 123)) j 7 21 (Int32.toNatClampNeg 41)) j 8 21 (Int32.toNatClampNeg 41)
def iX2 (S : HS) (j : Nat) : HS := sP (sI (mkO (mkA (sI (mkA (mkO (mkO (mkO (mkO (mkO (mkO (sI (mkA S j 0 21 (Int32.toNatClampNeg 600)) j 1 0) j 2 iX6a 7 4) j 3 iX6b 7 4) j 4 iX5 6 4) j 5 iX5 6 4) j 6 iX1 2 3) j 7 iX1 2 3) j 8 21 (Int32.toNatClampNeg 3)) j 9 0) j 10 21 (Int32.toNatClampNeg 3)) j 11 iX3 4 6) j 12 2) j 13 none
def stA : HS := mkA (mkO (nO (S0n 0 0) 12 12) 0 0 iX6a 7 4) 0 1 23 (Int32.toNatClampNeg 6)
def stB : HS := mkO (mkO stA 0 2 iX9 10 9) 0 3 iX5 6 4
def stC : HS := mkA (mkO (mkO (mkO (mkO stB 0 4 iX2 3 14) 0 5 iX4 5 1) 0 6 iX10 11 2) 0 7 iX0 1 4) 0 8 21 (Int32.toNatClampNeg 200)
def stD : HS := sP (sI (sI stC 0 9 0) 0 10 (-1)) 0 11 none
def stE : HS := sP (sP (sP (sP (sP (sP stD 4 0 (some 1)) 4 1 (some 1)) 4 2 (some 1)) 4 3 (some 1)) 4 4 (some 1)) 4 5 (some 1)
theorem st_9 {h0 s0 : Nat} {K : Int32 → HS → Prop} (k : K 0 (shf h0 s0 (iX9 (nO stA 10 9) (hX stA)))) : wp_X9_init (h0 + 601024, s0 + 7293034) (h0 + hX stA) (shf h0 s0 (nO stA 10 9)) K := by
  unfold wp_X9_init
  repeat (first
    | simp only [shf_sI, shf_sP1, shf_sP0]
    | (refine i_X6 (by unfold Ow; decide +kernel) (by decide) (by decide) ?_)
    | (refine i_X1 (by unfold Ow; decide +kernel) ?_)
    | (refine i_X5 (by unfold Ow; decide +kernel) ?_)
    | (refine And.intro (by first | exact q_t (by decide +kernel) | exact q_x (by decide +kernel) | exact q_s (by decide +kernel) | decide +kernel) ?_)
    | (intro b S hb hs; rw [shf_nO] at hs; rw [shf_X] at hb; subst hb; subst hs))
  exact k
theorem st_2 {h0 s0 : Nat} {K : Int32 → HS → Prop} (k : K 0 (shf h0 s0 (iX2 (nO stB 3 14) (hX stB)))) : wp_X2_init (h0 + 601024, s0 + 7293034) (h0 + hX stB) (shf h0 s0 (nO stB 3 14)) K := by
  unfold wp_X2_init
  repeat (first
    | simp only [shf_sI, shf_sP1, shf_sP0]
    | (refine i_X6 (by unfold Ow; decide +kernel) (by decide) (by decide) ?_)
    | (refine i_X1 (by unfold Ow; decide +kernel) ?_)
    | (refine i_X5 (by unfold Ow; decide +kernel) ?_)
    | (refine i_X3 (by decide +kernel) ?_)
    | (refine And.intro (by first | exact q_t (by decide +kernel) | exact q_x (by decide +kernel) | exact q_s (by decide +kernel) | decide +kernel) ?_)
    | (intro b S hb hs; rw [shf_nO] at hs; rw [shf_X] at hb; subst hb; subst hs))
  exact k
set_option maxRecDepth 100000 in
theorem st_11 {h0 s0 : Nat} {K : Int32 → HS → Prop} (k : K 0 (shf h0 s0 stE)) : wp_X11_init (h0 + 601024, s0 + 7293034) (h0 + 0) (shf h0 s0 (nO (S0n 0 0) 12 12)) K := by
  unfold wp_X11_init
  repeat (first
    | simp only [shf_sI, shf_sP1, shf_sP0]
    | (refine i_X6 (by unfold Ow; decide +kernel) (by decide) (by decide) ?_)
    | (refine st_9 ?_)
    | (refine st_2 ?_)
    | (refine i_X5 (by unfold Ow; decide +kernel) ?_)
    | (refine i_X4 (by unfold Ow; decide +kernel) ?_)
    | (refine i_X10 (by unfold Ow; decide +kernel) ?_)
    | (refine i_X0 (by unfold Ow; decide +kernel) ?_)
    | (refine And.intro (by first | exact q_t (by decide +kernel) | exact q_x (by decide +kernel) | exact q_s (by decide +kernel) | decide +kernel) ?_)
    | (intro b S hb hs; rw [shf_nO] at hs; rw [shf_X] at hb; subst hb; subst hs))
  refine ⟨7, ?_⟩
  show wl_X11_init_117 _ K 7 (h0 + 0) 0 (shf h0 s0 stD)
  have go : ∀ (S : HS) (i : Int32), hT S 0 = 12 → hP S 0 1 = some 4 → hP S 0 0 = some 1 → hT S 4 = 23 → vp_in i (hN S 4) → hT S 1 = 7 → ¬ 6 ≤ i → ∀ n, wl_X11_init_117 (h0 + 601024, s0 + 7293034) K n (h0 + 0) (i + 1) (shf h0 s0 (sP S 4 (Int32.toNatClampNeg i) (some 1))) → wl_X11_init_117 (h0 + 601024, s0 + 7293034) K (n + 1) (h0 + 0) i (shf h0 s0 S) := fun S i a1 a2 a3 a4 a5 a6 a7 n w => ⟨fun c => absurd c a7, fun _ => ⟨q_t a1, h0 + 4, q_p a2, q_t a1, h0 + 1, q_p a3, q_t a4, q_in a5, q_t a6, by rw [shf_sP1]; exact w⟩⟩
  refine go stD 0 (by decide +kernel) (by decide +kernel) (by decide +kernel) (by decide +kernel) (by unfold vp_in; decide +kernel) (by decide +kernel) (by decide) 6 ?_
  refine go _ 1 (by decide +kernel) (by decide +kernel) (by decide +kernel) (by decide +kernel) (by unfold vp_in; decide +kernel) (by decide +kernel) (by decide) 5 ?_
  refine go _ 2 (by decide +kernel) (by decide +kernel) (by decide +kernel) (by decide +kernel) (by unfold vp_in; decide +kernel) (by decide +kernel) (by decide) 4 ?_
  refine go _ 3 (by decide +kernel) (by decide +kernel) (by decide +kernel) (by decide +kernel) (by unfold vp_in; decide +kernel) (by decide +kernel) (by decide) 3 ?_
  refine go _ 4 (by decide +kernel) (by decide +kernel) (by decide +kernel) (by decide +kernel) (by unfold vp_in; decide +kernel) (by decide +kernel) (by decide) 2 ?_
  refine go _ 5 (by decide +kernel) (by decide +kernel) (by decide +kernel) (by decide +kernel) (by unfold vp_in; decide +kernel) (by decide +kernel) (by decide) 1 ?_
  exact ⟨fun _ => k, fun c => absurd (show (6 : Int32) ≤ 6 by decide) c⟩
def stF : HS := nO stE 13 52
def iX12 (S : HS) (j : Nat) : HS := sI (rArr.foldl (fun S f => mkA S j f 21 (rlen f)) (sI S j 1 5)) j 51 (-1)
def stG : HS := iX12 stF 56
set_option maxRecDepth 100000 in
theorem st_12 {h0 s0 : Nat} {K : Int32 → HS → Prop} (k : K 0 (shf h0 s0 stG)) : wp_X12_init (h0 + 601024, s0 + 7293034) (h0 + 56) (shf h0 s0 stF) K := by
  unfold wp_X12_init
  repeat (first
    | simp only [shf_sI, shf_sP1, shf_sP0]
    | (refine And.intro (by first | exact q_t (by decide +kernel) | exact q_x (by decide +kernel) | exact q_s (by decide +kernel) | decide +kernel) ?_)
    | (intro b S hb hs; rw [shf_nO] at hs; rw [shf_X] at hb; subst hb; subst hs))
  exact k
/-! The start gives the invariant. -/
set_option maxRecDepth 100000 in
theorem fz_G : Fz stG := by
  unfold stG iX12 stF stE stD stC stB stA
  simp only [rArr, List.foldl, mkA, mkO, iX9, iX2, iX6a, iX6b, iX6, iX1, iX5, iX4, iX10, iX0, iX3]
  repeat (first | with_reducible exact Fz.s0 | with_reducible apply Fz.sP | with_reducible apply Fz.nO | with_reducible apply Fz.sI (by decide +kernel))
def aG (f : Nat) : Nat := (hP stG 56 f).getD 0
theorem g_r : ∀ f ∈ rArr, 57 ≤ aG f ∧ aG f < 89 ∧ hP stG 56 f = some (aG f) ∧ hT stG (aG f) = 21 ∧ hN stG (aG f) = rlen f := by decide +kernel
theorem g_nd : (rArr.map aG).Nodup := by decide +kernel
theorem g_tag : ∀ q ∈ tagL, hT stG q.1 = q.2.1 ∧ hN stG q.1 = q.2.2 ∧ q.1 < 56 := by decide +kernel
theorem g_ptr : ∀ q ∈ ptrL, hP stG q.1 q.2.1 = some q.2.2 := by decide +kernel
theorem g_X : hX stG = 89 := by decide +kernel
theorem g_S : hS stG ≤ 1390000 := by decide +kernel
section STZ
variable (h0 s0 : Nat)
/-- the law's heap at the start of the loop -/
def stZ : HS := spl (shf h0 s0 stG) (h0 + 56)
theorem z_aR (f : Nat) (hf : f ∈ rArr) : aR (shf h0 s0 stG) (h0 + 56) f = h0 + aG f := by
  unfold aR
  rw [shf_P, (g_r f hf).2.2.1]
  rfl
theorem z_T {j : Nat} (hj : j < 56) : hT (stZ h0 s0) (h0 + j) = hT stG j := by
  show (if h0 + j = h0 + 56 ∨ h0 + j ∈ rArr.map (aR (shf h0 s0 stG) (h0 + 56)) then 0 else hT (shf h0 s0 stG) (h0 + j)) = _
  rw [if_neg, shf_T]
  rintro (c | c)
  · omega
  · obtain ⟨f, hf, e⟩ := List.mem_map.1 c
    rw [z_aR h0 s0 f hf] at e
    have := (g_r f hf).1
    omega
theorem z_T0 {b : Nat} (hb : h0 + 89 ≤ b) : hT (stZ h0 s0) b = 0 := by
  show (if _ then 0 else hT (shf h0 s0 stG) b) = _
  split
  · rfl
  · obtain ⟨j, rfl⟩ : ∃ j, b = h0 + j := ⟨b - h0, by omega⟩
    rw [shf_T]
    exact fz_G.1 j (by rw [g_X]; omega)
theorem z_T7 {b : Nat} (hb : h0 + 56 ≤ b) : hT (stZ h0 s0) b ≠ 7 := by
  by_cases c : h0 + 89 ≤ b
  · rw [z_T0 h0 s0 c]; decide
  · obtain ⟨j, rfl⟩ : ∃ j, b = h0 + j := ⟨b - h0, by omega⟩
    show (if _ then 0 else hT (shf h0 s0 stG) (h0 + j)) ≠ 7
    split
    · decide
    · rw [shf_T]
      have h : ∀ j, j < 89 → 56 ≤ j → hT stG j ≠ 7 := by decide +kernel
      exact h j (by omega) (by omega)
theorem z_I {j k : Nat} : hI (stZ h0 s0) (h0 + j) k = hI stG j k := by
  show hI (shf h0 s0 stG) (h0 + j) k = hI stG j k
  exact shf_I
theorem z_N {j : Nat} : hN (stZ h0 s0) (h0 + j) = hN stG j := by
  show hN (shf h0 s0 stG) (h0 + j) = hN stG j
  exact shf_N
theorem z_P {j k q : Nat} (h : hP stG j k = some q) : hP (stZ h0 s0) (h0 + j) k = some (h0 + q) := by
  show hP (shf h0 s0 stG) (h0 + j) k = some (h0 + q)
  exact q_p h
theorem z_Pn {j k : Nat} (h : hP stG j k = none) : hP (stZ h0 s0) (h0 + j) k = none := by
  show hP (shf h0 s0 stG) (h0 + j) k = none
  rw [shf_P, h]; rfl
theorem z_X : hX (stZ h0 s0) = h0 + 90 := by show h0 + hX stG + 1 = _; rw [g_X]
theorem z_poly {j : Nat} (h : j + 2 < 56 ∧ hT stG j = 7 ∧ hP stG j 0 = some (j + 1) ∧ hP stG j 1 = some (j + 2) ∧ hT stG (j + 1) = 21 ∧ hT stG (j + 2) = 21 ∧ hN stG (j + 1) = 0 ∧ hN stG (j + 2) = 0 ∧ hI stG j 2 = ι 0 ∧ hI stG j 3 = ι 0) : PolyAt (stZ h0 s0) (h0 + j) [] := by
  obtain ⟨a0, a1, a2, a3, a4, a5, a6, a7, a8, a9⟩ := h
  refine ⟨by rw [z_X]; omega, by rw [z_T h0 s0 (by omega)]; exact a1, z_P h0 s0 a2, z_P h0 s0 a3, (z_T h0 s0 (j := j + 1) (by omega)).trans a4, (z_T h0 s0 (j := j + 2) (by omega)).trans a5, (z_N h0 s0 (j := j + 1)).trans a6, (z_N h0 s0 (j := j + 2)).trans a7, (z_I h0 s0).trans a8, (z_I h0 s0).trans a9, fun i hi => absurd hi (by simp)⟩
theorem z_bx {o : Nat} (h : 2 ≤ o ∧ o + 1 < 56 ∧ hP stG o 0 = some (o + 1) ∧ hT stG (o + 1) = 21 ∧ hN stG (o + 1) = 0 ∧ hT stG o ≠ 7 ∧ hT stG (o - 1) ≠ 7) : bxC h0 (stZ h0 s0) o = h0 + o + 1 ∧ Bx h0 (stZ h0 s0) o := by
  obtain ⟨a0, a1, a2, a3, a4, a5, a6⟩ := h
  have e : bxC h0 (stZ h0 s0) o = h0 + o + 1 := by unfold bxC; rw [z_P h0 s0 a2]; rfl
  refine ⟨e, ?_⟩
  unfold Bx
  rw [e]
  refine ⟨z_P h0 s0 a2, by rw [z_X]; omega, (z_T h0 s0 (j := o + 1) (by omega)).trans a3, by rw [show hN (stZ h0 s0) (h0 + o + 1) = 0 from (z_N h0 s0 (j := o + 1)).trans a4]; omega, Or.inl rfl, ?_, ?_⟩
  · rw [show h0 + o + 1 - 1 = h0 + o by omega, z_T h0 s0 (by omega)]; exact a5
  · rw [show h0 + o + 1 - 2 = h0 + (o - 1) by omega, z_T h0 s0 (by omega)]; exact a6
theorem z_bn (o : Nat) (h : o = 12 ∨ o = 15 ∨ o = 39 ∨ o = 42) : bxC h0 (stZ h0 s0) o = h0 + o + 1 ∧ Bx h0 (stZ h0 s0) o ∧ hN (stZ h0 s0) (bxC h0 (stZ h0 s0) o) = 0 := by
  have w : ∀ o, o < 56 → (o = 12 ∨ o = 15 ∨ o = 39 ∨ o = 42) → 2 ≤ o ∧ o + 1 < 56 ∧ hP stG o 0 = some (o + 1) ∧ hT stG (o + 1) = 21 ∧ hN stG (o + 1) = 0 ∧ hT stG o ≠ 7 ∧ hT stG (o - 1) ≠ 7 := by decide +kernel
  have q := w o (by omega) h
  have r := z_bx h0 s0 q
  refine ⟨r.1, r.2, ?_⟩
  rw [r.1]
  exact (z_N h0 s0 (j := o + 1)).trans q.2.2.2.2.1
/-- what both hold at the start -/
def g0 : Gh := (5, fun _ => [], [], [], [], -1, [], fun _ => 0)
theorem z_ci : CI h0 s0 0 (stZ h0 s0) g0 := by
  have x := z_X h0 s0
  have p1 : PolyAt (stZ h0 s0) (h0 + 1) [] := z_poly h0 s0 (by decide +kernel)
  have p2 : PolyAt (stZ h0 s0) (h0 + 27) [] := z_poly h0 s0 (by decide +kernel)
  obtain ⟨c1, b1, n1⟩ := z_bn h0 s0 12 (by omega)
  obtain ⟨c2, b2, n2⟩ := z_bn h0 s0 15 (by omega)
  obtain ⟨c3, b3, n3⟩ := z_bn h0 s0 39 (by omega)
  obtain ⟨c4, b4, n4⟩ := z_bn h0 s0 42 (by omega)
  refine ⟨⟨fun q hq => ?_, fun q hq => z_P h0 s0 (g_ptr q hq)⟩, ⟨by omega, fun b hb => z_T0 h0 s0 (by omega), p1, p2, ?_, ?_⟩, ?_, fun k hk => ⟨h0 + 1, ?_, Or.inl rfl, p1⟩, ⟨0, by omega, ?_, ?_, fun k hk => absurd hk (by simp)⟩, ⟨?_, fun i hi => absurd hi (by simp)⟩, ⟨?_, fun i hi => absurd hi (by simp)⟩, ?_, Or.inl ⟨?_, rfl⟩, ⟨⟨b1, b2, b3, b4⟩, by omega, by omega, by omega, by omega, by omega, by omega⟩, ⟨⟨?_, ?_⟩, Or.inl ?_⟩, by omega, 0, 0, 0, 0, ?_, by omega, by omega, Or.inl (by omega), by omega, by omega, by omega, by omega⟩
  · obtain ⟨t1, t2, t3⟩ := g_tag q hq
    exact ⟨(z_T h0 s0 t3).trans t1, (z_N h0 s0).trans t2⟩
  · exact z_T7 h0 s0 (by omega)
  · exact z_T7 h0 s0 (by omega)
  · exact (z_I h0 s0).trans (by decide +kernel)
  · have w : ∀ k, k < 6 → hP stG 4 k = some 1 := by decide +kernel
    exact z_P h0 s0 (w k hk)
  · exact (z_I h0 s0).trans (by decide +kernel)
  · exact (z_I h0 s0).trans (by decide +kernel)
  · exact (z_I h0 s0 (j := 0)).trans (by decide +kernel)
  · exact (z_I h0 s0).trans (by decide +kernel)
  · exact (z_I h0 s0 (j := 0)).trans (by decide +kernel)
  · exact z_Pn h0 s0 (j := 0) (by decide +kernel)
  · exact (z_I h0 s0).trans (by decide +kernel)
  · exact (z_I h0 s0).trans (by decide +kernel)
  · exact z_Pn h0 s0 (by decide +kernel)
  · rw [if_pos rfl]
    show s0 + hS stG + 1 + 0 ≤ _
    have := g_S
    omega
def rZ : RS := rOf (shf h0 s0 stG) (h0 + 56)
theorem z_R0 (k : Nat) : rZ h0 s0 0 k = hI stG 56 k := by
  show (if 0 = 0 then hI (shf h0 s0 stG) (h0 + 56) else hI (shf h0 s0 stG) (aR (shf h0 s0 stG) (h0 + 56) 0)) k = _
  rw [if_pos rfl]
  exact shf_I
theorem z_R (f : Nat) (hf : f ∈ rArr) (k : Nat) : rZ h0 s0 f k = ι 0 := by
  have h : f ≠ 0 := by rintro rfl; revert hf; decide
  show (if f = 0 then hI (shf h0 s0 stG) (h0 + 56) else hI (shf h0 s0 stG) (aR (shf h0 s0 stG) (h0 + 56) f)) k = _
  rw [if_neg h, z_aR h0 s0 f hf, shf_I, fz_G.2 _ (g_r f hf).1]
  rfl
theorem z_sl (s : Nat) : Sl (rZ h0 s0) s [] := ⟨z_R h0 s0 2 (by decide) s, fun i hi => absurd hi (by simp)⟩
theorem z_ri : RI (rZ h0 s0) g0 := by
  have i0 : ∀ k v, hI stG 56 k = v → rZ h0 s0 0 k = v := fun k v e => (z_R0 h0 s0 k).trans e
  refine ⟨⟨i0 _ _ (by decide +kernel), i0 _ _ (by decide +kernel), fun x y z _ _ _ => z_R h0 s0 5 (by decide) _, fun _ _ _ => (by omega : 0 < 5), fun i hi => absurd hi (by omega), fun x y z c => absurd rfl c⟩, fun k hk => z_sl h0 s0 k, ⟨i0 _ _ (by decide +kernel), fun k hk => absurd hk (by simp)⟩, ⟨i0 _ _ (by decide +kernel), fun i hi => absurd hi (by simp)⟩, ⟨i0 _ _ (by decide +kernel), fun i hi => absurd hi (by simp)⟩, i0 _ _ (by decide +kernel), i0 _ _ (by decide +kernel), fun s hs => absurd hs (by simp)⟩
theorem z_vi : VI g0 := ⟨Or.inr (Or.inr (Or.inl rfl)), fun _ _ => wf_nil 5, ⟨by simp, fun k hk => absurd hk (by simp)⟩, ⟨by simp, fun k hk => absurd hk (by simp)⟩, ⟨by simp, fun k hk => absurd hk (by simp)⟩, by simp, fun k hk => absurd hk (by simp)⟩
theorem z_spl : Spl (shf h0 s0 stG) (h0 + 56) := by
  refine ⟨q_t (by decide +kernel), fun f hf => ?_, ?_⟩
  · obtain ⟨a1, a2, a3, a4, a5⟩ := g_r f hf
    rw [z_aR h0 s0 f hf]
    exact ⟨q_p a3, q_t a4, shf_N.trans a5⟩
  · rw [show rArr.map (aR (shf h0 s0 stG) (h0 + 56)) = (rArr.map aG).map (fun a => h0 + a) from by rw [List.map_map]; exact List.map_congr_left (fun f hf => z_aR h0 s0 f hf)]
    exact List.Pairwise.map _ (fun a b c e => c (by omega)) g_nd
theorem start_ok : wq_st (h0 + 601024, s0 + 7293034) (S0n h0 s0) (Inv h0 s0 0) := by
  refine ⟨by show h0 + 1 ≤ h0 + 601024; omega, by show s0 + 12 ≤ s0 + 7293034; omega, ?_⟩
  rw [shf_0, shf_nO]
  show wp_X11_init _ (h0 + 0) _ _
  refine st_11 ?_
  refine ⟨q_x (by decide +kernel), q_s (by decide +kernel), ?_⟩
  rw [shf_nO, shf_X, show hX stE = 56 by decide +kernel]
  refine st_12 ?_
  exact ⟨z_spl h0 s0, q_x (by decide +kernel), q_s (by decide +kernel), g0, z_ci h0 s0, z_vi, z_ri h0 s0⟩
end STZ
