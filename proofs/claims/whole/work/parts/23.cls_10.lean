def wp_X12_init (M : Nat × Nat) (x0 : Nat) (S : HS) (K : Int32 → HS → Prop) : Prop := hT S x0 = 13 ∧ ¬ (56 : Int32) < 0 ∧ (Int32.toNatClampNeg 56) ≤ 100000000 ∧ hX (sI S x0 1 5) + 1 ≤ M.1 ∧ hS (sI S x0 1 5) + (Int32.toNatClampNeg 56) ≤ M.2 ∧ ∀ (b1 : Nat) (S1 : HS), b1 = hX (sI S x0 1 5) → S1 = nO (sI S x0 1 5) 21 (Int32.toNatClampNeg 56) → hT S1 x0 = 13 ∧ ¬ (16800 : Int32) < 0 ∧ (Int32.toNatClampNeg 16800) ≤ 100000000 ∧ hX (sP S1 x0 2 (some b1)) + 1 ≤ M.1 ∧ hS (sP S1 x0 2 (some b1)) + (Int32.toNatClampNeg 16800) ≤ M.2 ∧ ∀ (b2 : Nat) (S2 : HS), b2 = hX (sP S1 x0 2 (some b1)) → S2 = nO (sP S1 x0 2 (some b1)) 21 (Int32.toNatClampNeg 16800) → hT S2 x0 = 13 ∧ ¬ (16800 : Int32) < 0 ∧ (Int32.toNatClampNeg 16800) ≤ 100000000 ∧ hX (sP S2 x0 3 (some b2)) + 1 ≤ M.1 ∧ hS (sP S2 x0 3 (some b2)) + (Int32.toNatClampNeg 16800) ≤ M.2 ∧ ∀ (b3 : Nat) (S3 : HS), b3 = hX (sP S2 x0 3 (some b2)) → S3 = nO (sP S2 x0 3 (some b2)) 21 (Int32.toNatClampNeg 16800) → hT S3 x0 = 13 ∧ ¬ (531441 : Int32) < 0 ∧ (Int32.toNatClampNeg 531441) ≤ 100000000 ∧ hX (sP S3 x0 4 (some b3)) + 1 ≤ M.1 ∧ hS (sP S3 x0 4 (some b3)) + (Int32.toNatClampNeg 531441) ≤ M.2 ∧ ∀ (b4 : Nat) (S4 : HS), b4 = hX (sP S3 x0 4 (some b3)) → S4 = nO (sP S3 x0 4 (some b3)) 21 (Int32.toNatClampNeg 531441) → hT S4 x0 = 13 ∧ ¬ (90600 : Int32) < 0 ∧ (Int32.toNatClampNeg 90600) ≤ 100000000 ∧ hX (sP S4 x0 5 (some b4)) + 1 ≤ M.1 ∧ hS (sP S4 x0 5 (some b4)) + (Int32.toNatClampNeg 90600) ≤ M.2 ∧ ∀ (b5 : Nat) (S5 : HS), b5 = hX (sP S4 x0 5 (some b4)) → S5 = nO (sP S4 x0 5 (some b4)) 21 (Int32.toNatClampNeg 90600) → hT S5 x0 = 13 ∧ ¬ (123 : Int32) < 0 ∧ (Int32.toNatClampNeg 123) ≤ 100000000 ∧ hX (sP S5 x0 6 (some b5)) + 1 ≤ M.1 ∧ hS (sP S5 x0 6 (some b5)) + (Int32.toNatClampNeg 123) ≤ M.2 ∧ ∀ (b6 : Nat) (S6 : HS), b6 = hX (sP S5 x0 6 (some b5)) → S6 = nO (sP S5 x0 6 (some b5)) 21 (Int32.toNatClampNeg 123) → hT S6 x0 = 13 ∧ ¬ (20 : Int32) < 0 ∧ (Int32.toNatClampNeg 20) ≤ 100000000 ∧ hX (sP S6 x0 8 (some b6)) + 1 ≤ M.1 ∧ hS (sP S6 x0 8 (some b6)) + (Int32.toNatClampNeg 20) ≤ M.2 ∧ ∀ (b7 : Nat) (S7 : HS), b7 = hX (sP S6 x0 8 (some b6)) → S7 = nO (sP S6 x0 8 (some b6)) 21 (Int32.toNatClampNeg 20) → hT S7 x0 = 13 ∧ ¬ (20 : Int32) < 0 ∧ (Int32.toNatClampNeg 20) ≤ 100000000 ∧ hX (sP S7 x0 9 (some b7)) + 1 ≤ M.1 ∧ hS (sP S7 x0 9 (some b7)) + (Int32.toNatClampNeg 20) ≤ M.2 ∧ ∀ (b8 : Nat) (S8 : HS), b8 = hX (sP S7 x0 9 (some b7)) → S8 = nO (sP S7 x0 9 (some b7)) 21 (Int32.toNatClampNeg 20) → hT S8 x0 = 13 ∧ ¬ (6000 : Int32) < 0 ∧ (Int32.toNatClampNeg 6000) ≤ 100000000 ∧ hX (sP S8 x0 10 (some b8)) + 1 ≤ M.1 ∧ hS (sP S8 x0 10 (some b8)) + (Int32.toNatClampNeg 6000) ≤ M.2 ∧ ∀ (b9 : Nat) (S9 : HS), b9 = hX (sP S8 x0 10 (some b8)) → S9 = nO (sP S8 x0 10 (some b8)) 21 (Int32.toNatClampNeg 6000) → hT S9 x0 = 13 ∧ ¬ (6000 : Int32) < 0 ∧ (Int32.toNatClampNeg 6000) ≤ 100000000 ∧ hX (sP S9 x0 11 (some b9)) + 1 ≤ M.1 ∧ hS (sP S9 x0 11 (some b9)) + (Int32.toNatClampNeg 6000) ≤ M.2 ∧ ∀ (b10 : Nat) (S10 : HS), b10 = hX (sP S9 x0 11 (some b9)) → S10 = nO (sP S9 x0 11 (some b9)) 21 (Int32.toNatClampNeg 6000) → hT S10 x0 = 13 ∧ ¬ (3 : Int32) < 0 ∧ (Int32.toNatClampNeg 3) ≤ 100000000 ∧ hX (sP S10 x0 12 (some b10)) + 1 ≤ M.1 ∧ hS (sP S10 x0 12 (some b10)) + (Int32.toNatClampNeg 3) ≤ M.2 ∧ ∀ (b11 : Nat) (S11 : HS), b11 = hX (sP S10 x0 12 (some b10)) → S11 = nO (sP S10 x0 12 (some b10)) 21 (Int32.toNatClampNeg 3) → hT S11 x0 = 13 ∧ ¬ (41 : Int32) < 0 ∧ (Int32.toNatClampNeg 41) ≤ 100000000 ∧ hX (sP S11 x0 14 (some b11)) + 1 ≤ M.1 ∧ hS (sP S11 x0 14 (some b11)) + (Int32.toNatClampNeg 41) ≤ M.2 ∧ ∀ (b12 : Nat) (S12 : HS), b12 = hX (sP S11 x0 14 (some b11)) → S12 = nO (sP S11 x0 14 (some b11)) 21 (Int32.toNatClampNeg 41) → hT S12 x0 = 13 ∧ ¬ (41 : Int32) < 0 ∧ (Int32.toNatClampNeg 41) ≤ 100000000 ∧ hX (sP S12 x0 15 (some b12)) + 1 ≤ M.1 ∧ hS (sP S12 x0 15 (some b12)) + (Int32.toNatClampNeg 41) ≤ M.2 ∧ ∀ (b13 : Nat) (S13 : HS), b13 = hX (sP S12 x0 15 (some b12)) → S13 = nO (sP S12 x0 15 (some b12)) 21 (Int32.toNatClampNeg 41) → hT S13 x0 = 13 ∧ ¬ (68921 : Int32) < 0 ∧ (Int32.toNatClampNeg 68921) ≤ 100000000 ∧ hX (sP S13 x0 16 (some b13)) + 1 ≤ M.1 ∧ hS (sP S13 x0 16 (some b13)) + (Int32.toNatClampNeg 68921) ≤ M.2 ∧ ∀ (b14 : Nat) (S14 : HS), b14 = hX (sP S13 x0 16 (some b13)) → S14 = nO (sP S13 x0 16 (some b13)) 21 (Int32.toNatClampNeg 68921) → hT S14 x0 = 13 ∧ ¬ (68921 : Int32) < 0 ∧ (Int32.toNatClampNeg 68921) ≤ 100000000 ∧ hX (sP S14 x0 17 (some b14)) + 1 ≤ M.1 ∧ hS (sP S14 x0 17 (some b14)) + (Int32.toNatClampNeg 68921) ≤ M.2 ∧ ∀ (b15 : Nat) (S15 : HS), b15 = hX (sP S14 x0 17 (some b14)) → S15 = nO (sP S14 x0 17 (some b14)) 21 (Int32.toNatClampNeg 68921) → hT S15 x0 = 13 ∧ ¬ (1764 : Int32) < 0 ∧ (Int32.toNatClampNeg 1764) ≤ 100000000 ∧ hX (sP S15 x0 18 (some b15)) + 1 ≤ M.1 ∧ hS (sP S15 x0 18 (some b15)) + (Int32.toNatClampNeg 1764) ≤ M.2 ∧ ∀ (b16 : Nat) (S16 : HS), b16 = hX (sP S15 x0 18 (some b15)) → S16 = nO (sP S15 x0 18 (some b15)) 21 (Int32.toNatClampNeg 1764) → hT S16 x0 = 13 ∧ ¬ (1764 : Int32) < 0 ∧ (Int32.toNatClampNeg 1764) ≤ 100000000 ∧ hX (sP S16 x0 19 (some b16)) + 1 ≤ M.1 ∧ hS (sP S16 x0 19 (some b16)) + (Int32.toNatClampNeg 1764) ≤ M.2 ∧ ∀ (b17 : Nat) (S17 : HS), b17 = hX (sP S16 x0 19 (some b16)) → S17 = nO (sP S16 x0 19 (some b16)) 21 (Int32.toNatClampNeg 1764) → hT S17 x0 = 13 ∧ ¬ (2197 : Int32) < 0 ∧ (Int32.toNatClampNeg 2197) ≤ 100000000 ∧ hX (sP S17 x0 20 (some b17)) + 1 ≤ M.1 ∧ hS (sP S17 x0 20 (some b17)) + (Int32.toNatClampNeg 2197) ≤ M.2 ∧ ∀ (b18 : Nat) (S18 : HS), b18 = hX (sP S17 x0 20 (some b17)) → S18 = nO (sP S17 x0 20 (some b17)) 21 (Int32.toNatClampNeg 2197) → hT S18 x0 = 13 ∧ ¬ (531441 : Int32) < 0 ∧ (Int32.toNatClampNeg 531441) ≤ 100000000 ∧ hX (sP S18 x0 21 (some b18)) + 1 ≤ M.1 ∧ hS (sP S18 x0 21 (some b18)) + (Int32.toNatClampNeg 531441) ≤ M.2 ∧ ∀ (b19 : Nat) (S19 : HS), b19 = hX (sP S18 x0 21 (some b18)) → S19 = nO (sP S18 x0 21 (some b18)) 21 (Int32.toNatClampNeg 531441) → hT S19 x0 = 13 ∧ ¬ (6000 : Int32) < 0 ∧ (Int32.toNatClampNeg 6000) ≤ 100000000 ∧ hX (sP S19 x0 26 (some b19)) + 1 ≤ M.1 ∧ hS (sP S19 x0 26 (some b19)) + (Int32.toNatClampNeg 6000) ≤ M.2 ∧ ∀ (b20 : Nat) (S20 : HS), b20 = hX (sP S19 x0 26 (some b19)) → S20 = nO (sP S19 x0 26 (some b19)) 21 (Int32.toNatClampNeg 6000) → hT S20 x0 = 13 ∧ ¬ (23 : Int32) < 0 ∧ (Int32.toNatClampNeg 23) ≤ 100000000 ∧ hX (sP S20 x0 27 (some b20)) + 1 ≤ M.1 ∧ hS (sP S20 x0 27 (some b20)) + (Int32.toNatClampNeg 23) ≤ M.2 ∧ ∀ (b21 : Nat) (S21 : HS), b21 = hX (sP S20 x0 27 (some b20)) → S21 = nO (sP S20 x0 27 (some b20)) 21 (Int32.toNatClampNeg 23) → hT S21 x0 = 13 ∧ ¬ (23 : Int32) < 0 ∧ (Int32.toNatClampNeg 23) ≤ 100000000 ∧ hX (sP S21 x0 29 (some b21)) + 1 ≤ M.1 ∧ hS (sP S21 x0 29 (some b21)) + (Int32.toNatClampNeg 23) ≤ M.2 ∧ ∀ (b22 : Nat) (S22 : HS), b22 = hX (sP S21 x0 29 (some b21)) → S22 = nO (sP S21 x0 29 (some b21)) 21 (Int32.toNatClampNeg 23) → hT S22 x0 = 13 ∧ ¬ (46 : Int32) < 0 ∧ (Int32.toNatClampNeg 46) ≤ 100000000 ∧ hX (sP S22 x0 30 (some b22)) + 1 ≤ M.1 ∧ hS (sP S22 x0 30 (some b22)) + (Int32.toNatClampNeg 46) ≤ M.2 ∧ ∀ (b23 : Nat) (S23 : HS), b23 = hX (sP S22 x0 30 (some b22)) → S23 = nO (sP S22 x0 30 (some b22)) 21 (Int32.toNatClampNeg 46) → hT S23 x0 = 13 ∧ ¬ (46 : Int32) < 0 ∧ (Int32.toNatClampNeg 46) ≤ 100000000 ∧ hX (sP S23 x0 31 (some b23)) + 1 ≤ M.1 ∧ hS (sP S23 x0 31 (some b23)) + (Int32.toNatClampNeg 46) ≤ M.2 ∧ ∀ (b24 : Nat) (S24 : HS), b24 = hX (sP S23 x0 31 (some b23)) → S24 = nO (sP S23 x0 31 (some b23)) 21 (Int32.toNatClampNeg 46) → hT S24 x0 = 13 ∧ ¬ (23 : Int32) < 0 ∧ (Int32.toNatClampNeg 23) ≤ 100000000 ∧ hX (sP S24 x0 32 (some b24)) + 1 ≤ M.1 ∧ hS (sP S24 x0 32 (some b24)) + (Int32.toNatClampNeg 23) ≤ M.2 ∧ ∀ (b25 : Nat) (S25 : HS), b25 = hX (sP S24 x0 32 (some b24)) → S25 = nO (sP S24 x0 32 (some b24)) 21 (Int32.toNatClampNeg 23) → hT S25 x0 = 13 ∧ ¬ (23 : Int32) < 0 ∧ (Int32.toNatClampNeg 23) ≤ 100000000 ∧ hX (sP S25 x0 33 (some b25)) + 1 ≤ M.1 ∧ hS (sP S25 x0 33 (some b25)) + (Int32.toNatClampNeg 23) ≤ M.2 ∧ ∀ (b26 : Nat) (S26 : HS), b26 = hX (sP S25 x0 33 (some b25)) → S26 = nO (sP S25 x0 33 (some b25)) 21 (Int32.toNatClampNeg 23) → hT S26 x0 = 13 ∧ ¬ (46 : Int32) < 0 ∧ (Int32.toNatClampNeg 46) ≤ 100000000 ∧ hX (sP S26 x0 34 (some b26)) + 1 ≤ M.1 ∧ hS (sP S26 x0 34 (some b26)) + (Int32.toNatClampNeg 46) ≤ M.2 ∧ ∀ (b27 : Nat) (S27 : HS), b27 = hX (sP S26 x0 34 (some b26)) → S27 = nO (sP S26 x0 34 (some b26)) 21 (Int32.toNatClampNeg 46) → hT S27 x0 = 13 ∧ ¬ (46 : Int32) < 0 ∧ (Int32.toNatClampNeg 46) ≤ 100000000 ∧ hX (sP S27 x0 35 (some b27)) + 1 ≤ M.1 ∧ hS (sP S27 x0 35 (some b27)) + (Int32.toNatClampNeg 46) ≤ M.2 ∧ ∀ (b28 : Nat) (S28 : HS), b28 = hX (sP S27 x0 35 (some b27)) → S28 = nO (sP S27 x0 35 (some b27)) 21 (Int32.toNatClampNeg 46) → hT S28 x0 = 13 ∧ ¬ (23 : Int32) < 0 ∧ (Int32.toNatClampNeg 23) ≤ 100000000 ∧ hX (sP S28 x0 36 (some b28)) + 1 ≤ M.1 ∧ hS (sP S28 x0 36 (some b28)) + (Int32.toNatClampNeg 23) ≤ M.2 ∧ ∀ (b29 : Nat) (S29 : HS), b29 = hX (sP S28 x0 36 (some b28)) → S29 = nO (sP S28 x0 36 (some b28)) 21 (Int32.toNatClampNeg 23) → hT S29 x0 = 13 ∧ ¬ (23 : Int32) < 0 ∧ (Int32.toNatClampNeg 23) ≤ 100000000 ∧ hX (sP S29 x0 39 (some b29)) + 1 ≤ M.1 ∧ hS (sP S29 x0 39 (some b29)) + (Int32.toNatClampNeg 23) ≤ M.2 ∧ ∀ (b30 : Nat) (S30 : HS), b30 = hX (sP S29 x0 39 (some b29)) → S30 = nO (sP S29 x0 39 (some b29)) 21 (Int32.toNatClampNeg 23) → hT S30 x0 = 13 ∧ ¬ (23 : Int32) < 0 ∧ (Int32.toNatClampNeg 23) ≤ 100000000 ∧ hX (sP S30 x0 40 (some b30)) + 1 ≤ M.1 ∧ hS (sP S30 x0 40 (some b30)) + (Int32.toNatClampNeg 23) ≤ M.2 ∧ ∀ (b31 : Nat) (S31 : HS), b31 = hX (sP S30 x0 40 (some b30)) → S31 = nO (sP S30 x0 40 (some b30)) 21 (Int32.toNatClampNeg 23) → hT S31 x0 = 13 ∧ ¬ (200 : Int32) < 0 ∧ (Int32.toNatClampNeg 200) ≤ 100000000 ∧ hX (sP S31 x0 41 (some b31)) + 1 ≤ M.1 ∧ hS (sP S31 x0 41 (some b31)) + (Int32.toNatClampNeg 200) ≤ M.2 ∧ ∀ (b32 : Nat) (S32 : HS), b32 = hX (sP S31 x0 41 (some b31)) → S32 = nO (sP S31 x0 41 (some b31)) 21 (Int32.toNatClampNeg 200) → hT S32 x0 = 13 ∧ hT (sP S32 x0 42 (some b32)) x0 = 13 ∧ K 0 (sI (sP S32 x0 42 (some b32)) x0 51 (-1))
set_option maxHeartbeats 4000000 in
set_option maxRecDepth 100000 in
theorem ok_X12_init {G : CG} {x0 : Nat} {S : HS} {K : Int32 → HS → Prop} (hw : wp_X12_init (gC G, gS G) x0 S K) : CC 1 yX12_init cX12_init 1 none [.ref x0] G S (kV K) := by
  refine CC.of (by decide +kernel) (Nat.le_of_ble_eq_true rfl) (fun X hc hr hname => ?_)
  have hnm : Ci X := hname
  show MC G S X 1 S 0 [(0, .ref x0)] []
  unfold wp_X12_init at hw
  refine m_aload_n hc 0 dX12_init_0 rfl rfl ?_
  refine c_bnd (fun g1 g2 => ?_)
  refine q_objinit hc dX12_init_1 lh_X12m_3 lObj (c_room hr g1 g2) (Nat.le_of_ble_eq_true rfl) ?_
  refine m_aload_n hc 0 dX12_init_4 rfl rfl ?_
  refine m_iconst hc 5 dX12_init_5 (by decide) ?_
  obtain ⟨ht, hw⟩ := hw
  refine c_puti hc hr ciX12 (Nat.le_of_ble_eq_true rfl) 1 (Nat.le_of_ble_eq_true rfl) rfl dX12_init_6 lh_X12_9 ht (Or.inl rfl) ⟨rfl, rfl⟩ ?_
  refine m_aload_n hc 0 dX12_init_9 rfl rfl ?_
  refine m_bipush hc 56 dX12_init_10 (by decide) ?_
  obtain ⟨hn0, hn1, hm, hm2, hw⟩ := hw
  refine n_newi hc hr dX12_init_12 laI hn0 hn1 hm hm2 (fun b1 S1 e_b1 e_S1 => ?_)
  have hw := hw b1 S1 e_b1 e_S1
  obtain ⟨ht, hw⟩ := hw
  refine c_putr hc hr ciX12 (Nat.le_of_ble_eq_true rfl) 2 (Nat.le_of_ble_eq_true rfl) rfl dX12_init_14 lh_X12_13 ht (Or.inr ⟨rfl, hnm, rfl⟩) (Or.inr ⟨_, rfl⟩) ?_
  refine m_aload_n hc 0 dX12_init_17 rfl rfl ?_
  refine m_sipush hc 16800 dX12_init_18 (by decide) ?_
  obtain ⟨hn0, hn1, hm, hm2, hw⟩ := hw
  refine n_newi hc hr dX12_init_21 laI hn0 hn1 hm hm2 (fun b2 S2 e_b2 e_S2 => ?_)
  have hw := hw b2 S2 e_b2 e_S2
  obtain ⟨ht, hw⟩ := hw
  refine c_putr hc hr ciX12 (Nat.le_of_ble_eq_true rfl) 3 (Nat.le_of_ble_eq_true rfl) rfl dX12_init_23 lh_X12_17 ht (Or.inr ⟨rfl, hnm, rfl⟩) (Or.inr ⟨_, rfl⟩) ?_
  refine m_aload_n hc 0 dX12_init_26 rfl rfl ?_
  refine m_sipush hc 16800 dX12_init_27 (by decide) ?_
  obtain ⟨hn0, hn1, hm, hm2, hw⟩ := hw
  refine n_newi hc hr dX12_init_30 laI hn0 hn1 hm hm2 (fun b3 S3 e_b3 e_S3 => ?_)
  have hw := hw b3 S3 e_b3 e_S3
  obtain ⟨ht, hw⟩ := hw
  refine c_putr hc hr ciX12 (Nat.le_of_ble_eq_true rfl) 4 (Nat.le_of_ble_eq_true rfl) rfl dX12_init_32 lh_X12_20 ht (Or.inr ⟨rfl, hnm, rfl⟩) (Or.inr ⟨_, rfl⟩) ?_
  refine m_aload_n hc 0 dX12_init_35 rfl rfl ?_
  refine m_ldc hc dX12_init_36 lh_X12c_23 ?_
  obtain ⟨hn0, hn1, hm, hm2, hw⟩ := hw
  refine n_newi hc hr dX12_init_38 laI hn0 hn1 hm hm2 (fun b4 S4 e_b4 e_S4 => ?_)
  have hw := hw b4 S4 e_b4 e_S4
  obtain ⟨ht, hw⟩ := hw
  refine c_putr hc hr ciX12 (Nat.le_of_ble_eq_true rfl) 5 (Nat.le_of_ble_eq_true rfl) rfl dX12_init_40 lh_X12_24 ht (Or.inr ⟨rfl, hnm, rfl⟩) (Or.inr ⟨_, rfl⟩) ?_
  refine m_aload_n hc 0 dX12_init_43 rfl rfl ?_
  refine m_ldc hc dX12_init_44 lh_X12c_27 ?_
  obtain ⟨hn0, hn1, hm, hm2, hw⟩ := hw
  refine n_newi hc hr dX12_init_46 laI hn0 hn1 hm hm2 (fun b5 S5 e_b5 e_S5 => ?_)
  have hw := hw b5 S5 e_b5 e_S5
  obtain ⟨ht, hw⟩ := hw
  refine c_putr hc hr ciX12 (Nat.le_of_ble_eq_true rfl) 6 (Nat.le_of_ble_eq_true rfl) rfl dX12_init_48 lh_X12_28 ht (Or.inr ⟨rfl, hnm, rfl⟩) (Or.inr ⟨_, rfl⟩) ?_
  refine m_aload_n hc 0 dX12_init_51 rfl rfl ?_
  refine m_bipush hc 123 dX12_init_52 (by decide) ?_
  obtain ⟨hn0, hn1, hm, hm2, hw⟩ := hw
  refine n_newi hc hr dX12_init_54 laI hn0 hn1 hm hm2 (fun b6 S6 e_b6 e_S6 => ?_)
  have hw := hw b6 S6 e_b6 e_S6
  obtain ⟨ht, hw⟩ := hw
  refine c_putr hc hr ciX12 (Nat.le_of_ble_eq_true rfl) 8 (Nat.le_of_ble_eq_true rfl) rfl dX12_init_56 lh_X12_31 ht (Or.inr ⟨rfl, hnm, rfl⟩) (Or.inr ⟨_, rfl⟩) ?_
  refine m_aload_n hc 0 dX12_init_59 rfl rfl ?_
  refine m_bipush hc 20 dX12_init_60 (by decide) ?_
  obtain ⟨hn0, hn1, hm, hm2, hw⟩ := hw
  refine n_newi hc hr dX12_init_62 laI hn0 hn1 hm hm2 (fun b7 S7 e_b7 e_S7 => ?_)
  have hw := hw b7 S7 e_b7 e_S7
  obtain ⟨ht, hw⟩ := hw
  refine c_putr hc hr ciX12 (Nat.le_of_ble_eq_true rfl) 9 (Nat.le_of_ble_eq_true rfl) rfl dX12_init_64 lh_X12_34 ht (Or.inr ⟨rfl, hnm, rfl⟩) (Or.inr ⟨_, rfl⟩) ?_
  refine m_aload_n hc 0 dX12_init_67 rfl rfl ?_
  refine m_bipush hc 20 dX12_init_68 (by decide) ?_
  obtain ⟨hn0, hn1, hm, hm2, hw⟩ := hw
  refine n_newi hc hr dX12_init_70 laI hn0 hn1 hm hm2 (fun b8 S8 e_b8 e_S8 => ?_)
  have hw := hw b8 S8 e_b8 e_S8
  obtain ⟨ht, hw⟩ := hw
  refine c_putr hc hr ciX12 (Nat.le_of_ble_eq_true rfl) 10 (Nat.le_of_ble_eq_true rfl) rfl dX12_init_72 lh_X12_37 ht (Or.inr ⟨rfl, hnm, rfl⟩) (Or.inr ⟨_, rfl⟩) ?_
  refine m_aload_n hc 0 dX12_init_75 rfl rfl ?_
  refine m_sipush hc 6000 dX12_init_76 (by decide) ?_
  obtain ⟨hn0, hn1, hm, hm2, hw⟩ := hw
  refine n_newi hc hr dX12_init_79 laI hn0 hn1 hm hm2 (fun b9 S9 e_b9 e_S9 => ?_)
  have hw := hw b9 S9 e_b9 e_S9
  obtain ⟨ht, hw⟩ := hw
  refine c_putr hc hr ciX12 (Nat.le_of_ble_eq_true rfl) 11 (Nat.le_of_ble_eq_true rfl) rfl dX12_init_81 lh_X12_40 ht (Or.inr ⟨rfl, hnm, rfl⟩) (Or.inr ⟨_, rfl⟩) ?_
  refine m_aload_n hc 0 dX12_init_84 rfl rfl ?_
  refine m_sipush hc 6000 dX12_init_85 (by decide) ?_
  obtain ⟨hn0, hn1, hm, hm2, hw⟩ := hw
  refine n_newi hc hr dX12_init_88 laI hn0 hn1 hm hm2 (fun b10 S10 e_b10 e_S10 => ?_)
  have hw := hw b10 S10 e_b10 e_S10
  obtain ⟨ht, hw⟩ := hw
  refine c_putr hc hr ciX12 (Nat.le_of_ble_eq_true rfl) 12 (Nat.le_of_ble_eq_true rfl) rfl dX12_init_90 lh_X12_43 ht (Or.inr ⟨rfl, hnm, rfl⟩) (Or.inr ⟨_, rfl⟩) ?_
  refine m_aload_n hc 0 dX12_init_93 rfl rfl ?_
  refine m_iconst hc 3 dX12_init_94 (by decide) ?_
  obtain ⟨hn0, hn1, hm, hm2, hw⟩ := hw
  refine n_newi hc hr dX12_init_95 laI hn0 hn1 hm hm2 (fun b11 S11 e_b11 e_S11 => ?_)
  have hw := hw b11 S11 e_b11 e_S11
  obtain ⟨ht, hw⟩ := hw
  refine c_putr hc hr ciX12 (Nat.le_of_ble_eq_true rfl) 14 (Nat.le_of_ble_eq_true rfl) rfl dX12_init_97 lh_X12_46 ht (Or.inr ⟨rfl, hnm, rfl⟩) (Or.inr ⟨_, rfl⟩) ?_
  refine m_aload_n hc 0 dX12_init_100 rfl rfl ?_
  refine m_bipush hc 41 dX12_init_101 (by decide) ?_
  obtain ⟨hn0, hn1, hm, hm2, hw⟩ := hw
  refine n_newi hc hr dX12_init_103 laI hn0 hn1 hm hm2 (fun b12 S12 e_b12 e_S12 => ?_)
  have hw := hw b12 S12 e_b12 e_S12
  obtain ⟨ht, hw⟩ := hw
  refine c_putr hc hr ciX12 (Nat.le_of_ble_eq_true rfl) 15 (Nat.le_of_ble_eq_true rfl) rfl dX12_init_105 lh_X12_49 ht (Or.inr ⟨rfl, hnm, rfl⟩) (Or.inr ⟨_, rfl⟩) ?_
  refine m_aload_n hc 0 dX12_init_108 rfl rfl ?_
  refine m_bipush hc 41 dX12_init_109 (by decide) ?_
  obtain ⟨hn0, hn1, hm, hm2, hw⟩ := hw
  refine n_newi hc hr dX12_init_111 laI hn0 hn1 hm hm2 (fun b13 S13 e_b13 e_S13 => ?_)
  have hw := hw b13 S13 e_b13 e_S13
  obtain ⟨ht, hw⟩ := hw
  refine c_putr hc hr ciX12 (Nat.le_of_ble_eq_true rfl) 16 (Nat.le_of_ble_eq_true rfl) rfl dX12_init_113 lh_X12_52 ht (Or.inr ⟨rfl, hnm, rfl⟩) (Or.inr ⟨_, rfl⟩) ?_
  refine m_aload_n hc 0 dX12_init_116 rfl rfl ?_
  refine m_ldc hc dX12_init_117 lh_X12c_55 ?_
  obtain ⟨hn0, hn1, hm, hm2, hw⟩ := hw
  refine n_newi hc hr dX12_init_119 laI hn0 hn1 hm hm2 (fun b14 S14 e_b14 e_S14 => ?_)
  have hw := hw b14 S14 e_b14 e_S14
  obtain ⟨ht, hw⟩ := hw
  refine c_putr hc hr ciX12 (Nat.le_of_ble_eq_true rfl) 17 (Nat.le_of_ble_eq_true rfl) rfl dX12_init_121 lh_X12_56 ht (Or.inr ⟨rfl, hnm, rfl⟩) (Or.inr ⟨_, rfl⟩) ?_
  refine m_aload_n hc 0 dX12_init_124 rfl rfl ?_
  refine m_ldc hc dX12_init_125 lh_X12c_55 ?_
  obtain ⟨hn0, hn1, hm, hm2, hw⟩ := hw
  refine n_newi hc hr dX12_init_127 laI hn0 hn1 hm hm2 (fun b15 S15 e_b15 e_S15 => ?_)
  have hw := hw b15 S15 e_b15 e_S15
  obtain ⟨ht, hw⟩ := hw
  refine c_putr hc hr ciX12 (Nat.le_of_ble_eq_true rfl) 18 (Nat.le_of_ble_eq_true rfl) rfl dX12_init_129 lh_X12_59 ht (Or.inr ⟨rfl, hnm, rfl⟩) (Or.inr ⟨_, rfl⟩) ?_
  refine m_aload_n hc 0 dX12_init_132 rfl rfl ?_
  refine m_sipush hc 1764 dX12_init_133 (by decide) ?_
  obtain ⟨hn0, hn1, hm, hm2, hw⟩ := hw
  refine n_newi hc hr dX12_init_136 laI hn0 hn1 hm hm2 (fun b16 S16 e_b16 e_S16 => ?_)
  have hw := hw b16 S16 e_b16 e_S16
  obtain ⟨ht, hw⟩ := hw
  refine c_putr hc hr ciX12 (Nat.le_of_ble_eq_true rfl) 19 (Nat.le_of_ble_eq_true rfl) rfl dX12_init_138 lh_X12_62 ht (Or.inr ⟨rfl, hnm, rfl⟩) (Or.inr ⟨_, rfl⟩) ?_
  refine m_aload_n hc 0 dX12_init_141 rfl rfl ?_
  refine m_sipush hc 1764 dX12_init_142 (by decide) ?_
  obtain ⟨hn0, hn1, hm, hm2, hw⟩ := hw
  refine n_newi hc hr dX12_init_145 laI hn0 hn1 hm hm2 (fun b17 S17 e_b17 e_S17 => ?_)
  have hw := hw b17 S17 e_b17 e_S17
  obtain ⟨ht, hw⟩ := hw
  refine c_putr hc hr ciX12 (Nat.le_of_ble_eq_true rfl) 20 (Nat.le_of_ble_eq_true rfl) rfl dX12_init_147 lh_X12_65 ht (Or.inr ⟨rfl, hnm, rfl⟩) (Or.inr ⟨_, rfl⟩) ?_
  refine m_aload_n hc 0 dX12_init_150 rfl rfl ?_
  refine m_sipush hc 2197 dX12_init_151 (by decide) ?_
  obtain ⟨hn0, hn1, hm, hm2, hw⟩ := hw
  refine n_newi hc hr dX12_init_154 laI hn0 hn1 hm hm2 (fun b18 S18 e_b18 e_S18 => ?_)
  have hw := hw b18 S18 e_b18 e_S18
  obtain ⟨ht, hw⟩ := hw
  refine c_putr hc hr ciX12 (Nat.le_of_ble_eq_true rfl) 21 (Nat.le_of_ble_eq_true rfl) rfl dX12_init_156 lh_X12_68 ht (Or.inr ⟨rfl, hnm, rfl⟩) (Or.inr ⟨_, rfl⟩) ?_
  refine m_aload_n hc 0 dX12_init_159 rfl rfl ?_
  refine m_ldc hc dX12_init_160 lh_X12c_23 ?_
  obtain ⟨hn0, hn1, hm, hm2, hw⟩ := hw
  refine n_newi hc hr dX12_init_162 laI hn0 hn1 hm hm2 (fun b19 S19 e_b19 e_S19 => ?_)
  have hw := hw b19 S19 e_b19 e_S19
  obtain ⟨ht, hw⟩ := hw
  refine c_putr hc hr ciX12 (Nat.le_of_ble_eq_true rfl) 26 (Nat.le_of_ble_eq_true rfl) rfl dX12_init_164 lh_X12_71 ht (Or.inr ⟨rfl, hnm, rfl⟩) (Or.inr ⟨_, rfl⟩) ?_
  refine m_aload_n hc 0 dX12_init_167 rfl rfl ?_
  refine m_sipush hc 6000 dX12_init_168 (by decide) ?_
  obtain ⟨hn0, hn1, hm, hm2, hw⟩ := hw
  refine n_newi hc hr dX12_init_171 laI hn0 hn1 hm hm2 (fun b20 S20 e_b20 e_S20 => ?_)
  have hw := hw b20 S20 e_b20 e_S20
  obtain ⟨ht, hw⟩ := hw
  refine c_putr hc hr ciX12 (Nat.le_of_ble_eq_true rfl) 27 (Nat.le_of_ble_eq_true rfl) rfl dX12_init_173 lh_X12_74 ht (Or.inr ⟨rfl, hnm, rfl⟩) (Or.inr ⟨_, rfl⟩) ?_
  refine m_aload_n hc 0 dX12_init_176 rfl rfl ?_
  refine m_bipush hc 23 dX12_init_177 (by decide) ?_
  obtain ⟨hn0, hn1, hm, hm2, hw⟩ := hw
  refine n_newi hc hr dX12_init_179 laI hn0 hn1 hm hm2 (fun b21 S21 e_b21 e_S21 => ?_)
  have hw := hw b21 S21 e_b21 e_S21
  obtain ⟨ht, hw⟩ := hw
  refine c_putr hc hr ciX12 (Nat.le_of_ble_eq_true rfl) 29 (Nat.le_of_ble_eq_true rfl) rfl dX12_init_181 lh_X12_77 ht (Or.inr ⟨rfl, hnm, rfl⟩) (Or.inr ⟨_, rfl⟩) ?_
  refine m_aload_n hc 0 dX12_init_184 rfl rfl ?_
  refine m_bipush hc 23 dX12_init_185 (by decide) ?_
  obtain ⟨hn0, hn1, hm, hm2, hw⟩ := hw
  refine n_newi hc hr dX12_init_187 laI hn0 hn1 hm hm2 (fun b22 S22 e_b22 e_S22 => ?_)
  have hw := hw b22 S22 e_b22 e_S22
  obtain ⟨ht, hw⟩ := hw
  refine c_putr hc hr ciX12 (Nat.le_of_ble_eq_true rfl) 30 (Nat.le_of_ble_eq_true rfl) rfl dX12_init_189 lh_X12_80 ht (Or.inr ⟨rfl, hnm, rfl⟩) (Or.inr ⟨_, rfl⟩) ?_
  refine m_aload_n hc 0 dX12_init_192 rfl rfl ?_
  refine m_bipush hc 46 dX12_init_193 (by decide) ?_
  obtain ⟨hn0, hn1, hm, hm2, hw⟩ := hw
  refine n_newi hc hr dX12_init_195 laI hn0 hn1 hm hm2 (fun b23 S23 e_b23 e_S23 => ?_)
  have hw := hw b23 S23 e_b23 e_S23
  obtain ⟨ht, hw⟩ := hw
  refine c_putr hc hr ciX12 (Nat.le_of_ble_eq_true rfl) 31 (Nat.le_of_ble_eq_true rfl) rfl dX12_init_197 lh_X12_83 ht (Or.inr ⟨rfl, hnm, rfl⟩) (Or.inr ⟨_, rfl⟩) ?_
  refine m_aload_n hc 0 dX12_init_200 rfl rfl ?_
  refine m_bipush hc 46 dX12_init_201 (by decide) ?_
  obtain ⟨hn0, hn1, hm, hm2, hw⟩ := hw
  refine n_newi hc hr dX12_init_203 laI hn0 hn1 hm hm2 (fun b24 S24 e_b24 e_S24 => ?_)
  have hw := hw b24 S24 e_b24 e_S24
  obtain ⟨ht, hw⟩ := hw
  refine c_putr hc hr ciX12 (Nat.le_of_ble_eq_true rfl) 32 (Nat.le_of_ble_eq_true rfl) rfl dX12_init_205 lh_X12_86 ht (Or.inr ⟨rfl, hnm, rfl⟩) (Or.inr ⟨_, rfl⟩) ?_
  refine m_aload_n hc 0 dX12_init_208 rfl rfl ?_
  refine m_bipush hc 23 dX12_init_209 (by decide) ?_
  obtain ⟨hn0, hn1, hm, hm2, hw⟩ := hw
  refine n_newi hc hr dX12_init_211 laI hn0 hn1 hm hm2 (fun b25 S25 e_b25 e_S25 => ?_)
  have hw := hw b25 S25 e_b25 e_S25
  obtain ⟨ht, hw⟩ := hw
  refine c_putr hc hr ciX12 (Nat.le_of_ble_eq_true rfl) 33 (Nat.le_of_ble_eq_true rfl) rfl dX12_init_213 lh_X12_89 ht (Or.inr ⟨rfl, hnm, rfl⟩) (Or.inr ⟨_, rfl⟩) ?_
  refine m_aload_n hc 0 dX12_init_216 rfl rfl ?_
  refine m_bipush hc 23 dX12_init_217 (by decide) ?_
  obtain ⟨hn0, hn1, hm, hm2, hw⟩ := hw
  refine n_newi hc hr dX12_init_219 laI hn0 hn1 hm hm2 (fun b26 S26 e_b26 e_S26 => ?_)
  have hw := hw b26 S26 e_b26 e_S26
  obtain ⟨ht, hw⟩ := hw
  refine c_putr hc hr ciX12 (Nat.le_of_ble_eq_true rfl) 34 (Nat.le_of_ble_eq_true rfl) rfl dX12_init_221 lh_X12_92 ht (Or.inr ⟨rfl, hnm, rfl⟩) (Or.inr ⟨_, rfl⟩) ?_
  refine m_aload_n hc 0 dX12_init_224 rfl rfl ?_
  refine m_bipush hc 46 dX12_init_225 (by decide) ?_
  obtain ⟨hn0, hn1, hm, hm2, hw⟩ := hw
  refine n_newi hc hr dX12_init_227 laI hn0 hn1 hm hm2 (fun b27 S27 e_b27 e_S27 => ?_)
  have hw := hw b27 S27 e_b27 e_S27
  obtain ⟨ht, hw⟩ := hw
  refine c_putr hc hr ciX12 (Nat.le_of_ble_eq_true rfl) 35 (Nat.le_of_ble_eq_true rfl) rfl dX12_init_229 lh_X12_95 ht (Or.inr ⟨rfl, hnm, rfl⟩) (Or.inr ⟨_, rfl⟩) ?_
  refine m_aload_n hc 0 dX12_init_232 rfl rfl ?_
  refine m_bipush hc 46 dX12_init_233 (by decide) ?_
  obtain ⟨hn0, hn1, hm, hm2, hw⟩ := hw
  refine n_newi hc hr dX12_init_235 laI hn0 hn1 hm hm2 (fun b28 S28 e_b28 e_S28 => ?_)
  have hw := hw b28 S28 e_b28 e_S28
  obtain ⟨ht, hw⟩ := hw
  refine c_putr hc hr ciX12 (Nat.le_of_ble_eq_true rfl) 36 (Nat.le_of_ble_eq_true rfl) rfl dX12_init_237 lh_X12_98 ht (Or.inr ⟨rfl, hnm, rfl⟩) (Or.inr ⟨_, rfl⟩) ?_
  refine m_aload_n hc 0 dX12_init_240 rfl rfl ?_
  refine m_bipush hc 23 dX12_init_241 (by decide) ?_
  obtain ⟨hn0, hn1, hm, hm2, hw⟩ := hw
  refine n_newi hc hr dX12_init_243 laI hn0 hn1 hm hm2 (fun b29 S29 e_b29 e_S29 => ?_)
  have hw := hw b29 S29 e_b29 e_S29
  obtain ⟨ht, hw⟩ := hw
  refine c_putr hc hr ciX12 (Nat.le_of_ble_eq_true rfl) 39 (Nat.le_of_ble_eq_true rfl) rfl dX12_init_245 lh_X12_101 ht (Or.inr ⟨rfl, hnm, rfl⟩) (Or.inr ⟨_, rfl⟩) ?_
  refine m_aload_n hc 0 dX12_init_248 rfl rfl ?_
  refine m_bipush hc 23 dX12_init_249 (by decide) ?_
  obtain ⟨hn0, hn1, hm, hm2, hw⟩ := hw
  refine n_newi hc hr dX12_init_251 laI hn0 hn1 hm hm2 (fun b30 S30 e_b30 e_S30 => ?_)
  have hw := hw b30 S30 e_b30 e_S30
  obtain ⟨ht, hw⟩ := hw
  refine c_putr hc hr ciX12 (Nat.le_of_ble_eq_true rfl) 40 (Nat.le_of_ble_eq_true rfl) rfl dX12_init_253 lh_X12_104 ht (Or.inr ⟨rfl, hnm, rfl⟩) (Or.inr ⟨_, rfl⟩) ?_
  refine m_aload_n hc 0 dX12_init_256 rfl rfl ?_
  refine m_bipush hc 23 dX12_init_257 (by decide) ?_
  obtain ⟨hn0, hn1, hm, hm2, hw⟩ := hw
  refine n_newi hc hr dX12_init_259 laI hn0 hn1 hm hm2 (fun b31 S31 e_b31 e_S31 => ?_)
  have hw := hw b31 S31 e_b31 e_S31
  obtain ⟨ht, hw⟩ := hw
  refine c_putr hc hr ciX12 (Nat.le_of_ble_eq_true rfl) 41 (Nat.le_of_ble_eq_true rfl) rfl dX12_init_261 lh_X12_107 ht (Or.inr ⟨rfl, hnm, rfl⟩) (Or.inr ⟨_, rfl⟩) ?_
  refine m_aload_n hc 0 dX12_init_264 rfl rfl ?_
  refine m_sipush hc 200 dX12_init_265 (by decide) ?_
  obtain ⟨hn0, hn1, hm, hm2, hw⟩ := hw
  refine n_newi hc hr dX12_init_268 laI hn0 hn1 hm hm2 (fun b32 S32 e_b32 e_S32 => ?_)
  have hw := hw b32 S32 e_b32 e_S32
  obtain ⟨ht, hw⟩ := hw
  refine c_putr hc hr ciX12 (Nat.le_of_ble_eq_true rfl) 42 (Nat.le_of_ble_eq_true rfl) rfl dX12_init_270 lh_X12_110 ht (Or.inr ⟨rfl, hnm, rfl⟩) (Or.inr ⟨_, rfl⟩) ?_
  refine m_aload_n hc 0 dX12_init_273 rfl rfl ?_
  refine m_iconst hc (-1) dX12_init_274 (by decide) ?_
  obtain ⟨ht, hw⟩ := hw
  refine c_puti hc hr ciX12 (Nat.le_of_ble_eq_true rfl) 51 (Nat.le_of_ble_eq_true rfl) rfl dX12_init_275 lh_X12_113 ht (Or.inl rfl) ⟨rfl, rfl⟩ ?_
  exact c_vret hc hr dX12_init_278 hw
