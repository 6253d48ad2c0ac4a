/-! Terms sorted by an order: the class. -/
def Pm (n : Nat) (V V' : Nat → Nat) : Prop := ∃ σ : Nat → Nat, (∀ k, k < n → σ k < n) ∧ (∀ a b, a < n → b < n → σ a = σ b → a = b) ∧ ∀ k, k < n → V' k = V (σ k)
theorem Pm.rf (n : Nat) (V : Nat → Nat) : Pm n V V := ⟨fun k => k, fun _ h => h, fun _ _ _ _ h => h, fun _ _ => rfl⟩
theorem Pm.tr {n : Nat} {V V1 V2 : Nat → Nat} (h : Pm n V V1) (g : Pm n V1 V2) : Pm n V V2 := by
  obtain ⟨s, a1, a2, a3⟩ := h
  obtain ⟨t, b1, b2, b3⟩ := g
  exact ⟨fun k => s (t k), fun k hk => a1 _ (b1 k hk), fun a b ha hb e => b2 a b ha hb (a2 _ _ (b1 a ha) (b1 b hb) e), fun k hk => by rw [b3 k hk, a3 _ (b1 k hk)]⟩
theorem Pm.cg {n : Nat} {V V1 V2 : Nat → Nat} (h : Pm n V V1) (e : ∀ k, k < n → V2 k = V1 k) : Pm n V V2 := by
  obtain ⟨s, a1, a2, a3⟩ := h
  exact ⟨s, a1, a2, fun k hk => by rw [e k hk, a3 k hk]⟩
theorem Pm.swap {n a b : Nat} {V : Nat → Nat} (ha : a < n) (hb : b < n) : Pm n V (fun k => if k = a then V b else if k = b then V a else V k) := by
  refine ⟨fun k => if k = a then b else if k = b then a else k, fun k hk => ?_, fun x y hx hy e => ?_, fun k hk => ?_⟩
  · show (if k = a then b else if k = b then a else k) < n
    split
    · exact hb
    · split
      · exact ha
      · exact hk
  · have e : (if x = a then b else if x = b then a else x) = (if y = a then b else if y = b then a else y) := e
    by_cases x1 : x = a
    · rw [if_pos x1] at e
      by_cases y1 : y = a
      · omega
      · rw [if_neg y1] at e
        by_cases y2 : y = b
        · rw [if_pos y2] at e; omega
        · rw [if_neg y2] at e; omega
    · rw [if_neg x1] at e
      by_cases x2 : x = b
      · rw [if_pos x2] at e
        by_cases y1 : y = a
        · rw [if_pos y1] at e; omega
        · rw [if_neg y1] at e
          by_cases y2 : y = b
          · omega
          · rw [if_neg y2] at e; omega
      · rw [if_neg x2] at e
        by_cases y1 : y = a
        · rw [if_pos y1] at e; omega
        · rw [if_neg y1] at e
          by_cases y2 : y = b
          · rw [if_pos y2] at e; omega
          · rw [if_neg y2] at e; omega
  · show (if k = a then V b else if k = b then V a else V k) = V (if k = a then b else if k = b then a else k)
    split
    · rfl
    · split <;> rfl
theorem sumTo_perm : ∀ (n : Nat) (σ f : Nat → Nat), (∀ k, k < n → σ k < n) → (∀ a b, a < n → b < n → σ a = σ b → a = b) → sumTo n (fun k => f (σ k)) = sumTo n f := by
  intro n
  induction n with
  | zero => intro σ f _ _; rfl
  | succ n ih =>
    intro σ f h1 h2
    have hex : ∃ k, k < n + 1 ∧ σ k = n := Classical.byContradiction fun q => by
      have := pigeon n (n + 1) σ (fun i hi => by
        have a := h1 i hi
        have : σ i ≠ n := fun c => q ⟨i, hi, c⟩
        omega) h2
      omega
    obtain ⟨k0, hk0, e0⟩ := hex
    by_cases c : k0 = n
    · subst c
      rw [sumTo, sumTo, e0, ih σ f (fun k hk => ?_) (fun a b ha hb => h2 a b (by omega) (by omega))]
      have a := h1 k (by omega)
      have : σ k ≠ k0 := fun e => by have := h2 k k0 (by omega) (by omega) (by omega); omega
      omega
    · have hlt : k0 < n := by omega
      have e1 := ih (fun k => if k = k0 then σ n else σ k) f (fun k hk => ?_) (fun a b ha hb e => ?_)
      · rw [sumTo, sumTo, ← e1, sumTo_pick (fun k => f (σ k)) hlt, sumTo_pick (fun k => f (if k = k0 then σ n else σ k)) hlt]
        have e2 : sumTo n (fun i => if i = k0 then 0 else f (if i = k0 then σ n else σ i)) = sumTo n (fun i => if i = k0 then 0 else f (σ i)) := sumTo_congr (fun i _ => by
          by_cases q : i = k0
          · rw [if_pos q, if_pos q]
          · rw [if_neg q, if_neg q, if_neg q])
        rw [e2]
        show _ + f (σ k0) + f (σ n) = _ + f (if k0 = k0 then σ n else σ k0) + f n
        rw [if_pos rfl, e0]
        omega
      · show (if k = k0 then σ n else σ k) < n
        by_cases q : k = k0
        · rw [if_pos q]
          have a := h1 n (by omega)
          have : σ n ≠ n := fun e => by have := h2 n k0 (by omega) (by omega) (by omega); omega
          omega
        · rw [if_neg q]
          have a := h1 k (by omega)
          have : σ k ≠ n := fun e => by have := h2 k k0 (by omega) (by omega) (by omega); omega
          omega
      · have e : (if a = k0 then σ n else σ a) = (if b = k0 then σ n else σ b) := e
        by_cases qa : a = k0
        · rw [if_pos qa] at e
          by_cases qb : b = k0
          · omega
          · rw [if_neg qb] at e
            have := h2 n b (by omega) (by omega) e; omega
        · rw [if_neg qa] at e
          by_cases qb : b = k0
          · rw [if_pos qb] at e
            have := h2 a n (by omega) (by omega) e; omega
          · rw [if_neg qb] at e
            exact h2 a b (by omega) (by omega) e
/-- the rank of a term by an order -/
def rk (o : Nat) (t : Tm) : Nat := if o = 0 then dgt t * 4096 + (t.x * 64 + t.y) else if o = 1 then k6 t else t.z * 4096 + t.y * 64 + t.x
theorem rk_lt {o : Nat} {t : Tm} (h : sm t) : rk o t < 500000 := by
  unfold rk dgt k6
  split
  · omega
  · split <;> omega
theorem rk_inj {o : Nat} {s t : Tm} (hs : sm s) (ht : sm t) (h : rk o s = rk o t) : isAt s t.x t.y t.z := by
  unfold rk dgt k6 at h
  unfold isAt
  split at h
  · omega
  · split at h <;> omega
def cd (o : Nat) (L : Po) (i : Nat) : Nat := rk o (rt L i) * 512 + i
theorem cd_lt {o p i : Nat} {L : Po} (hw : wf p L) (hi : i < L.length) : cd o L i < 256000000 := by
  have := rk_lt (o := o) (rt_sm hw hi)
  have := hw.1
  unfold cd
  omega
theorem c_rank {M : Nat × Nat} {o : Nat} {t : Tm} {x0 x1 : Int32} {S : HS} {K : Int32 → HS → Prop} (ht : sm t) (h0 : x0 = ι (k6 t)) (h1 : x1 = ι o) (ho : o < 3) (h : K (ι (rk o t)) S) : wp_X4_rank M x0 x1 S K := by
  subst h0 h1
  have hk := k6_lt ht
  unfold wp_X4_rank
  unfold rk at h
  refine ⟨fun c => ?_, fun c => ?_, fun c => ?_⟩
  · rw [show (0 : Int32) = ι 0 from rfl, ι_eq (by omega) (by omega)] at c
    rw [if_pos c] at h
    refine c_degreeOf ht rfl ?_
    have hd : dgt t ≤ 120 := by unfold dgt; omega
    rw [show ((12 : Int32) &&& 31) = ι 12 from by decide, show ((6 : Int32) &&& 31) = ι 6 from by decide, ι_sh _ 12 (by omega) rfl, ι_sr _ 6 (by omega) rfl (by omega), show k6 t / 2 ^ 6 = t.x * 64 + t.y by unfold k6; omega, ι_or 12 (by omega) (by omega)]
    exact h
  · rw [show (1 : Int32) = ι 1 from rfl, ι_eq (by omega) (by omega)] at c
    rw [if_neg (by omega), if_pos c] at h
    exact h
  · have c1 : o ≠ 0 := fun e => c.1 (by rw [e]; rfl)
    have c2 : o ≠ 1 := fun e => c.2 (by rw [e]; rfl)
    rw [if_neg c1, if_neg c2] at h
    refine c_exp ht rfl (v := 2) rfl (by omega) (c_exp ht rfl (v := 1) rfl (by omega) (c_exp ht rfl (v := 0) rfl (by omega) ?_))
    exact c_key rfl rfl rfl (by have := exv_le ht 2; omega) (by have := exv_le ht 1; omega) (by have := exv_le ht 0; omega) h
def W48 (h0 b _k : Nat) : Prop := b = h0 + 49
/-- the codes are V -/
def Cv (h0 : Nat) (S : HS) (n : Nat) (V : Nat → Nat) : Prop := ∀ k, k < n → hI S (h0 + 49) k = ι (V k) ∧ V k < 256000000
def Ds (V : Nat → Nat) (n : Nat) : Prop := ∀ a b, a < b → b < n → V b < V a
def Dj (V : Nat → Nat) (n : Nat) : Prop := ∀ a b, a < n → b < n → V a = V b → a = b
theorem Pm.dj {n : Nat} {V V' : Nat → Nat} (h : Pm n V V') (d : Dj V n) : Dj V' n := fun a b ha hb e => by
  obtain ⟨s, a1, a2, a3⟩ := h
  rw [a3 a ha, a3 b hb] at e
  exact a2 a b ha hb (d _ _ (a1 a ha) (a1 b hb) e)
theorem c_sink {M : Nat × Nat} {h0 n fm gp : Nat} {x1 x2 : Int32} {V : Nat → Nat} {S : HS} {K : Int32 → HS → Prop} (hL : Lay h0 S) (hx : h0 + 60 ≤ hX S) (hn : n ≤ 300) (hf : fm < n) (hg : 0 < gp) (hg2 : gp ≤ 300) (h1 : x1 = ι fm) (h2 : x2 = ι gp) (hV : Cv h0 S n V) (hd : Dj V n) (h : ∀ S' V', Ext S S' (W48 h0) V0 → hX S' = hX S → hS S' = hS S → Cv h0 S' n V' → Pm n V V' → (gp = 1 → Ds V fm → Ds V' (fm + 1)) → K 0 S') : wp_X4_sink M (h0 + 48) x1 x2 S K := by
  subst h1 h2
  obtain ⟨c1, c2⟩ := hV fm hf
  have fin : ∀ (a : Nat) (S1 : HS) (U : Nat → Nat), a ≤ fm → Ext S S1 (W48 h0) V0 → hX S1 = hX S → hS S1 = hS S → Cv h0 S1 n U → Pm n V (fun k => if k = a then V fm else U k) → (gp = 1 → Ds V fm → (∀ k, k < a → U k = V k) ∧ (∀ k, a < k → k ≤ fm → U k = V (k - 1) ∧ V (k - 1) < V fm) ∧ (∀ k, k < a → V fm < V k)) → w_X4_sink_54 M K (h0 + 48) (ι (V fm)) (ι a) S1 := by
    intro a S1 U ha e1 x1 s1 cv pm srt
    have hL1 := hL.go hx e1 (fun q hq c => c)
    unfold w_X4_sink_54
    refine ⟨hL1.t48, h0 + 49, hL1.p48_0, hL1.t49, by rw [hL1.n49]; exact ι_in (by omega) (by omega), ?_⟩
    rw [ι_cl (by omega)]
    refine h _ (fun k => if k = a then V fm else U k) (e1.sI rfl) x1 s1 (fun k hk => ?_) pm (fun g1 ds => ?_)
    · rw [sI_eq]
      show (if k = a then _ else _) = ι (if k = a then V fm else U k) ∧ (if k = a then V fm else U k) < 256000000
      by_cases c : k = a
      · rw [if_pos c, if_pos c]; exact ⟨rfl, c2⟩
      · rw [if_neg c, if_neg c]; exact cv k hk
    · obtain ⟨u1, u2, u3⟩ := srt g1 ds
      intro i j hij hj
      show (if j = a then V fm else U j) < (if i = a then V fm else U i)
      by_cases ci : i = a
      · rw [if_pos ci, if_neg (by omega)]
        have := u2 j (by omega) (by omega)
        rw [this.1]; exact this.2
      · rw [if_neg ci]
        by_cases cj : j = a
        · rw [if_pos cj, u1 i (by omega)]
          exact u3 i (by omega)
        · rw [if_neg cj]
          by_cases c3 : i < a
          · rw [u1 i c3]
            by_cases c4 : j < a
            · rw [u1 j c4]; exact ds i j hij (by omega)
            · have := u2 j (by omega) (by omega)
              rw [this.1]
              have := u3 i c3
              omega
          · have q1 := u2 i (by omega) (by omega)
            have q2 := u2 j (by omega) (by omega)
            rw [q1.1, q2.1]
            exact ds (i - 1) (j - 1) (by omega) (by omega)
  have key : ∀ (k a : Nat) (S1 : HS) (U : Nat → Nat), a ≤ k → a ≤ fm → Ext S S1 (W48 h0) V0 → hX S1 = hX S → hS S1 = hS S → Cv h0 S1 n U → Pm n V (fun k => if k = a then V fm else U k) → (gp = 1 → Ds V fm → (∀ k, k < a → U k = V k) ∧ (∀ k, a < k → k ≤ fm → U k = V (k - 1) ∧ V (k - 1) < V fm)) → wl_X4_sink_10 M K (k + 1) (h0 + 48) (ι gp) (ι (V fm)) (ι a) S1 := by
    intro k
    induction k with
    | zero =>
      intro a S1 U hk ha e1 x1 s1 cv pm srt
      show wb_X4_sink_10 _ _ _ _ _ _ _ _
      unfold wb_X4_sink_10
      refine ⟨fun _ => fin a S1 U ha e1 x1 s1 cv pm (fun g1 ds => ⟨(srt g1 ds).1, (srt g1 ds).2, fun k hk => by omega⟩), fun c => absurd (by rw [ι_lt (by omega) (by omega)]; omega) c⟩
    | succ k ih =>
      intro a S1 U hk ha e1 x1 s1 cv pm srt
      have hL1 := hL.go hx e1 (fun q hq c => c)
      show wb_X4_sink_10 _ _ _ _ _ _ _ _
      unfold wb_X4_sink_10
      rw [ι_lt (by omega) (by omega)]
      refine ⟨fun c => fin a S1 U ha e1 x1 s1 cv pm (fun g1 ds => ⟨(srt g1 ds).1, (srt g1 ds).2, fun k hk => by omega⟩), fun c => ?_⟩
      obtain ⟨u1, u2⟩ := cv (a - gp) (by omega)
      have hvi : vp_in (ι (a - gp)) (hN S1 (h0 + 49)) := by rw [hL1.n49]; exact ι_in (by omega) (by omega)
      rw [ι_sub (by omega), ι_cl (by omega), ι_cl (by omega)]
      refine ⟨hL1.t48, h0 + 49, hL1.p48_0, hL1.t49, hvi, fun c3 => ?_, fun c3 => ⟨hL1.t48, h0 + 49, hL1.p48_0, hL1.t48, h0 + 49, hL1.p48_0, hL1.t49, hvi, hL1.t49, by rw [hL1.n49]; exact ι_in (by omega) (by omega), ?_⟩⟩
      · rw [u1, ι_le (by omega) (by omega)] at c3
        refine fin a S1 U ha e1 x1 s1 cv pm (fun g1 ds => ⟨(srt g1 ds).1, (srt g1 ds).2, fun k hk => ?_⟩)
        have e5 := (srt g1 ds).1 (a - gp) (by omega)
        rw [e5] at c3
        have hne : V (a - gp) ≠ V fm := fun e => by have := hd (a - gp) fm (by omega) hf e; omega
        by_cases e6 : k = a - gp
        · rw [e6]; omega
        · have := ds k (a - gp) (by omega) (by omega); omega
      · rw [u1, ι_le (by omega) (by omega)] at c3
        rw [u1]
        refine ih (a - gp) _ (fun k => if k = a then U (a - gp) else U k) (by omega) (by omega) (e1.sI rfl) x1 s1 (fun j hj => ?_) ?_ (fun g1 ds => ?_)
        · rw [sI_eq]
          show (if j = a then _ else _) = ι (if j = a then U (a - gp) else U j) ∧ (if j = a then U (a - gp) else U j) < 256000000
          by_cases c5 : j = a
          · rw [if_pos c5, if_pos c5]; exact ⟨rfl, u2⟩
          · rw [if_neg c5, if_neg c5]; exact cv j hj
        · refine (pm.tr (Pm.swap (a := a) (b := a - gp) (by omega) (by omega))).cg (fun j hj => ?_)
          show (if j = a - gp then V fm else if j = a then U (a - gp) else U j) = (if j = a then (if a - gp = a then V fm else U (a - gp)) else if j = a - gp then (if a = a then V fm else U a) else (if j = a then V fm else U j))
          by_cases c5 : j = a
          · rw [if_pos c5, if_neg (by omega), if_pos c5, if_neg (by omega)]
          · rw [if_neg c5, if_neg c5, if_neg c5, if_pos rfl]
        · obtain ⟨w1, w2⟩ := srt g1 ds
          refine ⟨fun j hj => ?_, fun j hj1 hj2 => ?_⟩
          · show (if j = a then U (a - gp) else U j) = V j
            rw [if_neg (by omega)]; exact w1 j (by omega)
          · show (if j = a then U (a - gp) else U j) = V (j - 1) ∧ _
            by_cases c5 : j = a
            · rw [if_pos c5, w1 (a - gp) (by omega), show a - gp = j - 1 by omega]
              refine ⟨rfl, ?_⟩
              rw [w1 (a - gp) (by omega), show a - gp = j - 1 by omega] at c3
              omega
            · rw [if_neg c5]; exact w2 j (by omega) hj2
  unfold wp_X4_sink
  refine ⟨hL.t48, h0 + 49, hL.p48_0, hL.t49, by rw [hL.n49]; exact ι_in (by omega) (by omega), fun v2 e2 => ⟨fm + 1, ?_⟩⟩
  rw [ι_cl (by omega), c1] at e2
  subst e2
  refine key fm fm S V (by omega) (by omega) (Ext.rf _ _ _) rfl rfl hV ((Pm.rf n V).cg (fun k hk => ?_)) (fun _ _ => ⟨fun _ _ => rfl, fun k hk1 hk2 => by omega⟩)
  show (if k = fm then V fm else V k) = V k
  by_cases c : k = fm
  · rw [if_pos c, c]
  · rw [if_neg c]
theorem c_sort {M : Nat × Nat} {h0 a p o : Nat} {x2 : Int32} {L : Po} {S : HS} {K : Int32 → HS → Prop} (hL : Lay h0 S) (hx : h0 + 60 ≤ hX S) (hw : wf p L) (ra : Rd S a L) (sa : Rs h0 S a) (h2 : x2 = ι o) (ho : o < 3) (h : ∀ S' V, Ext S S' (W48 h0) V0 → hX S' = hX S → hS S' = hS S → Cv h0 S' L.length V → Pm L.length (cd o L) V → Ds V L.length → K 0 S') : wp_X4_sort M (h0 + 48) a x2 S K := by
  subst h2
  have hle := hw.1
  have n49 := sa.n (o := 49) (by omega)
  have goR : ∀ {S1 : HS}, Ext S S1 (W48 h0) V0 → Rd S1 a L := fun e => ra.go e (fun k => ⟨n49.1, n49.2.1, n49.2.2, fun c => c⟩)
  have hdj : Dj (cd o L) L.length := fun i j hi hj e => by unfold cd at e; omega
  -- the gaps
  have gaps : ∀ (k g : Nat) (S1 : HS) (V : Nat → Nat), g ≤ k → g ≤ 300 → Ext S S1 (W48 h0) V0 → hX S1 = hX S → hS S1 = hS S → Cv h0 S1 L.length V → Pm L.length (cd o L) V → (g = 0 → Ds V L.length) → wl_X4_sort_50 M K (k + 1) (h0 + 48) a (ι g) S1 := by
    intro k
    induction k with
    | zero =>
      intro g S1 V hg hg3 e1 x1 s1 cv pm ds
      show wb_X4_sort_50 _ _ _ _ _ _ _
      unfold wb_X4_sort_50
      exact ⟨fun _ => h S1 V e1 x1 s1 cv pm (ds (by omega)), fun c => absurd (by rw [show (0 : Int32) = ι 0 from rfl, ι_le (by omega) (by omega)]; omega) c⟩
    | succ k ih =>
      intro g S1 V hg hg3 e1 x1 s1 cv pm ds
      show wb_X4_sort_50 _ _ _ _ _ _ _
      unfold wb_X4_sort_50
      rw [show (0 : Int32) = ι 0 from rfl, ι_le (by omega) (by omega)]
      refine ⟨fun c => h S1 V e1 x1 s1 cv pm (ds (by omega)), fun c => ⟨L.length - g + 1, ?_⟩⟩
      have key : ∀ (k2 i : Nat) (S2 : HS) (V2 : Nat → Nat), i + k2 = max L.length g → g ≤ i → Ext S S2 (W48 h0) V0 → hX S2 = hX S → hS S2 = hS S → Cv h0 S2 L.length V2 → Pm L.length (cd o L) V2 → (g = 1 → Ds V2 i) → wl_X4_sort_57 M (wl_X4_sort_50 M K (k + 1)) K (k2 + 1) (h0 + 48) a (ι g) (ι i) S2 := by
        intro k2
        induction k2 with
        | zero =>
          intro i S2 V2 hi hgi e2 x2 s2 cv2 pm2 ds2
          obtain ⟨-, p2, -, -, -, -, -, -, -, -, p9, -⟩ := goR e2
          show wb_X4_sort_57 _ _ _ _ _ _ _ _ _
          unfold wb_X4_sort_57
          rw [p9, show (2 : Int32) = ι 2 from rfl, ι_div (by omega) (by omega)]
          refine ⟨p2, fun _ => ih (g / 2) S2 V2 (by omega) (by omega) e2 x2 s2 cv2 pm2 (fun g0 => ?_), fun c => absurd (by rw [ι_le (by omega) (by omega)]; omega) c⟩
          have := ds2 (by omega)
          exact fun u w huw hw2 => this u w huw (by omega)
        | succ k2 ih2 =>
          intro i S2 V2 hi hgi e2 x2 s2 cv2 pm2 ds2
          obtain ⟨-, p2, -, -, -, -, -, -, -, -, p9, -⟩ := goR e2
          have hL2 := hL.go hx e2 (fun q hq c => c)
          show wb_X4_sort_57 _ _ _ _ _ _ _ _ _
          unfold wb_X4_sort_57
          rw [p9, show (1 : Int32) = ι 1 from rfl, ι_add]
          refine ⟨p2, fun c => absurd c (by rw [ι_le (by omega) (by omega)]; omega), fun _ => ⟨hL2.t48, c_sink hL2 (by omega) hle (by omega) (by omega) hg3 rfl rfl cv2 (pm2.dj hdj) (fun S3 V3 e3 x3 s3 cv3 pm3 ds3 => ?_)⟩⟩
          exact ih2 (i + 1) S3 V3 (by omega) (by omega) (e2.tr e3) (by omega) (by omega) cv3 (pm2.tr pm3) (fun g1 => ds3 g1 (ds2 g1))
      have := key (max L.length g - g) g S1 V (by omega) (Nat.le_refl _) e1 x1 s1 cv pm (fun g1 u w huw hw2 => by omega)
      rw [show max L.length g - g = L.length - g by omega] at this
      exact this
  have key0 : ∀ (k i : Nat) (S1 : HS), i + k = L.length → Ext S S1 (W48 h0) V0 → hX S1 = hX S → hS S1 = hS S → Cv h0 S1 i (cd o L) → wl_X4_sort_2 M K (k + 1) (h0 + 48) a (ι o) (ι i) S1 := by
    intro k
    induction k with
    | zero =>
      intro i S1 hi e1 x1 s1 cv
      obtain ⟨-, p2, -, -, -, -, -, -, -, -, p9, -⟩ := goR e1
      have ei : i = L.length := by omega
      subst ei
      show wb_X4_sort_2 _ _ _ _ _ _ _ _
      unfold wb_X4_sort_2
      rw [p9, show (2 : Int32) = ι 2 from rfl, ι_div (by omega) (by omega)]
      refine ⟨p2, fun _ => ⟨fun c => ⟨p2, L.length + 1, ?_⟩, fun c => ?_⟩, fun c => absurd (by rw [ι_le (by omega) (by omega)]; omega) c⟩
      · exact gaps L.length (L.length / 2) S1 (cd o L) (by omega) (by omega) e1 x1 s1 cv (Pm.rf _ _) (fun g0 u w huw hw2 => by omega)
      · rw [show (1 : Int32) = ι 1 from rfl, ι_eq (by omega) (by omega)] at c
        refine h S1 (cd o L) e1 x1 s1 cv (Pm.rf _ _) (fun u w huw hw2 => ?_)
        have := k6_fall hw huw hw2
        unfold cd rk
        rw [if_neg (by omega), if_pos c, if_neg (by omega), if_pos c]
        unfold rt
        omega
    | succ k ih =>
      intro i S1 hi e1 x1 s1 cv
      obtain ⟨-, p2, p3, p4, p5, p6, p7, p8, p7', p8', p9, p11⟩ := goR e1
      have hL1 := hL.go hx e1 (fun q hq c => c)
      have hs := rt_sm hw (i := i) (by omega)
      have hr := rk_lt (o := o) hs
      have hcl := cd_lt (o := o) hw (i := i) (by omega)
      show wb_X4_sort_2 _ _ _ _ _ _ _ _
      unfold wb_X4_sort_2
      rw [p9, ι_cl (by omega)]
      refine ⟨p2, fun c => absurd c (by rw [ι_le (by omega) (by omega)]; omega), fun _ => ⟨hL1.t48, h0 + 49, hL1.p48_0, p2, a + 1, p3, p5, ι_in (by omega) (by omega), c_rank hs (p11 i (by omega)).1 rfl ho ⟨hL1.t49, by rw [hL1.n49]; exact ι_in (by omega) (by omega), ?_⟩⟩⟩
      rw [show ((9 : Int32) &&& 31) = ι 9 from by decide, ι_sh _ 9 (by omega) rfl, ι_or 9 (by omega) (by omega), show (1 : Int32) = ι 1 from rfl, ι_add]
      refine ih (i + 1) _ (by omega) (e1.sI rfl) x1 s1 (fun j hj => ?_)
      rw [sI_eq]
      by_cases c : j = i
      · rw [if_pos c, c]
        exact ⟨rfl, hcl⟩
      · rw [if_neg c]; exact cv j (by omega)
  exact ⟨L.length + 1, key0 L.length 0 S (by omega) (Ext.rf _ _ _) rfl rfl (fun k hk => by omega)⟩
/-! Terms by an order: the reference; term. -/
/-- how many terms are ahead of one of rank r, among the first n -/
def aC (o : Nat) (L : Po) (r n : Nat) : Nat := sumTo n (fun j => if r < rk o (tm L j) then 1 else 0)
theorem aC_le {o r n : Nat} {L : Po} : aC o L r n ≤ n * 1 := sumTo_le (fun i _ => by split <;> omega)
theorem rk_0 {s t : Tm} (hs : sm s) (ht : sm t) : rk 0 t < rk 0 s ↔ dgt t < dgt s ∨ (dgt t = dgt s ∧ (t.x < s.x ∨ (t.x = s.x ∧ (t.y < s.y ∨ (t.y = s.y ∧ t.z < s.z))))) := by
  unfold rk dgt
  rw [if_pos rfl, if_pos rfl]
  omega
theorem s_isAhead {o : Nat} {s t : Tm} {x0 x1 x2 : Int32} {R : RS} {K : Int32 → RS → Prop} (hs : sm s) (ht : sm t) (h0 : x0 = ι (k41 s)) (h1 : x1 = ι (k41 t)) (h2 : x2 = ι o) (ho : o < 3) (h : (rk o t < rk o s → K 1 R) ∧ (¬ rk o t < rk o s → K 0 R)) : wp_isAhead x0 x1 x2 R K := by
  subst h0 h1 h2
  have sx := exv_le hs 0
  -- the three exponents in a row
  have three : ∀ (f : Nat → Nat), (∀ k, k < 3 → f k < 3) → (∀ k, k < 3 → (o = 2 → f k = 2 - k) ∧ (o ≠ 2 → f k = k)) → (exv t (f 0) < exv s (f 0) ∨ (exv t (f 0) = exv s (f 0) ∧ (exv t (f 1) < exv s (f 1) ∨ (exv t (f 1) = exv s (f 1) ∧ exv t (f 2) < exv s (f 2)))) → K 1 R) → (¬ (exv t (f 0) < exv s (f 0) ∨ (exv t (f 0) = exv s (f 0) ∧ (exv t (f 1) < exv s (f 1) ∨ (exv t (f 1) = exv s (f 1) ∧ exv t (f 2) < exv s (f 2))))) → K 0 R) → ∃ nn, wl_isAhead_35 K nn (ι (k41 s)) (ι (k41 t)) (ι o) 0 R := by
    intro f hf hfo k1 k0
    refine ⟨4, ?_⟩
    have step : ∀ (j m : Nat), j < 3 → (exv t (f j) < exv s (f j) → K 1 R) → (exv s (f j) < exv t (f j) → K 0 R) → (exv s (f j) = exv t (f j) → wl_isAhead_35 K m (ι (k41 s)) (ι (k41 t)) (ι o) (ι (j + 1)) R) → wl_isAhead_35 K (m + 1) (ι (k41 s)) (ι (k41 t)) (ι o) (ι j) R := by
      intro j m hj a1 a0 an
      have e1 := exv_le hs (f j)
      have e2 := exv_le ht (f j)
      have body : ∀ s0 : Int32, s0 = ι (f j) → w_isAhead_55 (wl_isAhead_35 K m) K (ι (k41 s)) (ι (k41 t)) (ι o) (ι j) s0 R := by
        intro s0 hs0
        unfold w_isAhead_55
        refine s_ex hs rfl hs0 (hf j hj) (s_ex ht rfl hs0 (hf j hj) ?_)
        rw [ι_eq (by omega) (by omega), show (1 : Int32) = ι 1 from rfl, ι_add]
        refine ⟨fun c => an c, fun c => s_ex hs rfl hs0 (hf j hj) (s_ex ht rfl hs0 (hf j hj) ?_)⟩
        rw [ι_le (by omega) (by omega)]
        exact ⟨fun c2 => a0 (by omega), fun c2 => a1 (by omega)⟩
      show wb_isAhead_35 _ _ _ _ _ _ _
      unfold wb_isAhead_35
      rw [show (3 : Int32) = ι 3 from rfl, ι_le (by omega) (by omega), show (2 : Int32) = ι 2 from rfl, ι_eq (by omega) (by omega), ι_sub (by omega)]
      exact ⟨fun c => absurd c (by omega), fun _ => ⟨fun c => body _ (by rw [(hfo j hj).2 c]), fun c => body _ (by rw [(hfo j hj).1 c])⟩⟩
    refine step 0 3 (by omega) (fun c => k1 (Or.inl c)) (fun c => k0 (by omega)) (fun e0 => step 1 2 (by omega) (fun c => k1 (Or.inr ⟨e0.symm, Or.inl c⟩)) (fun c => k0 (by omega)) (fun e1 => step 2 1 (by omega) (fun c => k1 (Or.inr ⟨e0.symm, Or.inr ⟨e1.symm, c⟩⟩)) (fun c => k0 (by omega)) (fun e2 => ?_)))
    show wb_isAhead_35 _ _ _ _ _ _ _
    unfold wb_isAhead_35
    exact ⟨fun _ => k0 (by omega), fun c => absurd (by decide) c⟩
  unfold wp_isAhead
  have ho3 : o = 0 ∨ o = 1 ∨ o = 2 := by omega
  rcases ho3 with rfl | rfl | rfl
  · refine ⟨fun c => absurd rfl c, fun _ => s_degreeOfKey hs rfl (s_degreeOfKey ht rfl ?_)⟩
    have d1 : dgt s ≤ 120 := by unfold dgt; omega
    have d2 : dgt t ≤ 120 := by unfold dgt; omega
    unfold w_isAhead_17
    rw [rk_0 hs ht] at h
    have e : (ι (dgt s) - ι (dgt t)).toInt = (dgt s : Int) - dgt t := by
      rw [Int32.toInt_sub, ι_int (by omega), ι_int (by omega), Int.bmod_eq_of_le (by omega) (by omega)]
    rw [← Int32.toInt_inj, e, show (0 : Int32).toInt = 0 from rfl, Int32.le_iff_toInt_le, e, show (0 : Int32).toInt = 0 from rfl]
    refine ⟨fun c => three (fun k => k) (fun k hk => hk) (fun k hk => ⟨fun q => by omega, fun _ => rfl⟩) (fun q => h.1 (Or.inr ⟨by omega, q⟩)) (fun q => h.2 (fun w => ?_)), fun c => ⟨fun c2 => h.2 (by omega), fun c2 => h.1 (Or.inl (by omega))⟩⟩
    rcases w with w | w
    · omega
    · exact q w.2
  · refine ⟨fun _ => ?_, fun c => absurd c (by decide)⟩
    unfold w_isAhead_17
    refine ⟨fun _ => three (fun k => k) (fun k hk => hk) (fun k hk => ⟨fun q => by omega, fun _ => rfl⟩) (fun q => h.1 ?_) (fun q => h.2 ?_), fun c => absurd rfl c⟩
    · have q : t.x < s.x ∨ (t.x = s.x ∧ (t.y < s.y ∨ (t.y = s.y ∧ t.z < s.z))) := q
      show t.x * 4096 + t.y * 64 + t.z < s.x * 4096 + s.y * 64 + s.z
      omega
    · have q : ¬ (t.x < s.x ∨ (t.x = s.x ∧ (t.y < s.y ∨ (t.y = s.y ∧ t.z < s.z)))) := q
      show ¬ (t.x * 4096 + t.y * 64 + t.z < s.x * 4096 + s.y * 64 + s.z)
      omega
  · refine ⟨fun _ => ?_, fun c => absurd c (by decide)⟩
    unfold w_isAhead_17
    refine ⟨fun _ => three (fun k => 2 - k) (fun k hk => by omega) (fun k hk => ⟨fun _ => rfl, fun q => by omega⟩) (fun q => h.1 ?_) (fun q => h.2 ?_), fun c => absurd rfl c⟩
    · have q : t.z < s.z ∨ (t.z = s.z ∧ (t.y < s.y ∨ (t.y = s.y ∧ t.x < s.x))) := q
      show t.z * 4096 + t.y * 64 + t.x < s.z * 4096 + s.y * 64 + s.x
      omega
    · have q : ¬ (t.z < s.z ∨ (t.z = s.z ∧ (t.y < s.y ∨ (t.y = s.y ∧ t.x < s.x)))) := q
      show ¬ (t.z * 4096 + t.y * 64 + t.x < s.z * 4096 + s.y * 64 + s.x)
      omega
theorem s_placeOf {s o i t0 p : Nat} {x1 x2 x3 : Int32} {L : Po} {R : RS} {K : Int32 → RS → Prop} (h1 : x1 = ι s) (h2 : x2 = ι o) (h3 : x3 = ι i) (hs : s < 56) (ho : o < 3) (hi : i < 300) (hw : wf p L) (hl : Sl R s L) (ht0 : t0 < L.length) (he : aC o L (rk o (tm L t0)) L.length = i) (hu : ∀ t, t < L.length → aC o L (rk o (tm L t)) L.length = i → t = t0) (h : K (ι t0) R) : wp_placeOf x1 x2 x3 R K := by
  subst h1 h2 h3
  have hle := hw.1
  have key : ∀ (k t : Nat), t + k = t0 → wl_placeOf_3 K (k + 1) (ι s) (ι o) (ι i) (ι t) R := by
    intro k
    -- the terms ahead of term t
    have cnt : ∀ (K3 : Int32 → Int32 → Int32 → Int32 → RS → Prop) (t : Nat), t < L.length → ((aC o L (rk o (tm L t)) L.length ≠ i → K3 (ι s) (ι o) (ι i) (ι (t + 1)) R) ∧ (aC o L (rk o (tm L t)) L.length = i → K (ι t) R)) → ∀ (k2 j : Nat), j + k2 = L.length → wl_placeOf_20 K3 K (k2 + 1) (ι s) (ι o) (ι i) (ι t) (ι (aC o L (rk o (tm L t)) j)) (ι j) R := by
      intro K3 t ht hk k2
      induction k2 with
      | zero =>
        intro j hj
        have hal := aC_le (o := o) (r := rk o (tm L t)) (n := j) (L := L)
        show wb_placeOf_20 _ _ _ _ _ _ _ _ _ _
        unfold wb_placeOf_20
        rw [ι_cl (by omega), hl.1, ι_eq (by omega) (by omega), show (1 : Int32) = ι 1 from rfl, ι_add]
        refine ⟨ι_in (by omega) (by omega), fun _ => ?_, fun c => absurd (by rw [ι_le (by omega) (by omega)]; omega) c⟩
        rw [show j = L.length by omega]
        exact hk
      | succ k2 ih =>
        intro j hj
        show wb_placeOf_20 _ _ _ _ _ _ _ _ _ _
        unfold wb_placeOf_20
        rw [ι_cl (by omega), hl.1]
        refine ⟨ι_in (by omega) (by omega), fun c => absurd c (by rw [ι_le (by omega) (by omega)]; omega), fun _ => s_keyAt rfl rfl hs (by omega) (s_keyAt rfl rfl hs (by omega) ?_)⟩
        have hi1 := ih (j + 1) (by omega)
        have e : aC o L (rk o (tm L t)) (j + 1) = aC o L (rk o (tm L t)) j + (if rk o (tm L t) < rk o (tm L j) then 1 else 0) := rfl
        rw [e] at hi1
        refine s_isAhead (hw.sm (i := j) (by omega)) (hw.sm ht) (hl.2 j (by omega)).1 (hl.2 t ht).1 rfl ho ⟨fun c => ⟨fun c2 => absurd c2 (by decide), fun _ => ?_⟩, fun c => ⟨fun _ => ?_, fun c2 => absurd rfl c2⟩⟩
        · rw [if_pos c] at hi1
          rw [show (1 : Int32) = ι 1 from rfl, ι_add, ι_add]; exact hi1
        · rw [if_neg c] at hi1
          rw [show (0 : Int32) = ι 0 from rfl, show (1 : Int32) = ι 1 from rfl, ι_add, ι_add]; exact hi1
    induction k with
    | zero =>
      intro t ht
      have et : t = t0 := by omega
      subst et
      show wb_placeOf_3 _ _ _ _ _ _ _
      unfold wb_placeOf_3
      rw [ι_cl (by omega), hl.1]
      refine ⟨ι_in (by omega) (by omega), fun c => absurd c (by rw [ι_le (by omega) (by omega)]; omega), fun _ => ⟨L.length + 1, ?_⟩⟩
      exact cnt _ t ht0 ⟨fun c => absurd he c, fun _ => h⟩ L.length 0 (by omega)
    | succ k ih =>
      intro t ht
      show wb_placeOf_3 _ _ _ _ _ _ _
      unfold wb_placeOf_3
      rw [ι_cl (by omega), hl.1]
      refine ⟨ι_in (by omega) (by omega), fun c => absurd c (by rw [ι_le (by omega) (by omega)]; omega), fun _ => ⟨L.length + 1, ?_⟩⟩
      exact cnt _ t (by omega) ⟨fun _ => ih (t + 1) (by omega), fun c => absurd (hu t (by omega) c) (by omega)⟩ L.length 0 (by omega)
  exact ⟨t0 + 1, key t0 0 (by omega)⟩
theorem sumTo_mono {n : Nat} {f g : Nat → Nat} (h : ∀ i, i < n → f i ≤ g i) : sumTo n f ≤ sumTo n g := by
  induction n with
  | zero => exact Nat.le_refl _
  | succ n ih =>
    have h1 := ih (fun i hi => h i (by omega))
    have h2 := h n (by omega)
    rw [sumTo, sumTo]; omega
theorem sumTo_lt {n k : Nat} {f g : Nat → Nat} (h : ∀ i, i < n → f i ≤ g i) (hk : k < n) (hl : f k < g k) : sumTo n f < sumTo n g := by
  rw [sumTo_pick f hk, sumTo_pick g hk]
  have : sumTo n (fun i => if i = k then 0 else f i) ≤ sumTo n (fun i => if i = k then 0 else g i) := sumTo_mono (fun i hi => by
    by_cases c : i = k
    · rw [if_pos c, if_pos c]; exact Nat.le_refl _
    · rw [if_neg c, if_neg c]; exact h i hi)
  omega
theorem aC_lt {o r t : Nat} {L : Po} (ht : t < L.length) (h : r < rk o (tm L t)) : aC o L (rk o (tm L t)) L.length < aC o L r L.length := by
  refine sumTo_lt (k := t) (fun i hi => ?_) ht ?_
  · by_cases c : rk o (tm L t) < rk o (tm L i)
    · rw [if_pos c, if_pos (by omega)]; exact Nat.le_refl _
    · rw [if_neg c]; exact Nat.zero_le _
  · show (if rk o (tm L t) < rk o (tm L t) then 1 else 0) < (if r < rk o (tm L t) then 1 else 0)
    rw [if_neg (by omega), if_pos h]
    omega
/-- the place of the term that stands at i -/
theorem srt_place {o p : Nat} {L : Po} {V : Nat → Nat} (hw : wf p L) (pm : Pm L.length (cd o L) V) (ds : Ds V L.length) {i : Nat} (hi : i < L.length) : ∃ c, c < L.length ∧ V i = cd o L c ∧ aC o L (rk o (rt L c)) L.length = i ∧ ∀ t, t < L.length → aC o L (rk o (tm L t)) L.length = i → t = L.length - 1 - c := by
  obtain ⟨σ, a1, a2, a3⟩ := pm
  have hle := hw.1
  have hrk : ∀ {u w : Nat}, u < L.length → w < L.length → rk o (rt L u) = rk o (rt L w) → u = w := fun {u w} hu hw2 e => by
    have e1 : k6 (rt L u) = k6 (rt L w) := k6_eq (rk_inj (rt_sm hw hu) (rt_sm hw hw2) e)
    rcases Nat.lt_trichotomy u w with q | q | q
    · have := k6_fall hw q hw2; unfold rt at e1; omega
    · exact q
    · have := k6_fall hw q hu; unfold rt at e1; omega
  have hfall : ∀ a b, a < b → b < L.length → rk o (rt L (σ b)) < rk o (rt L (σ a)) := fun a b hab hb => by
    have h1 := ds a b hab hb
    rw [a3 a (by omega), a3 b hb] at h1
    have s1 := a1 a (by omega)
    have s2 := a1 b hb
    unfold cd at h1
    have hne : rk o (rt L (σ b)) ≠ rk o (rt L (σ a)) := fun e => by
      have := a2 b a hb (by omega) (hrk s2 s1 e)
      omega
    omega
  have hc : aC o L (rk o (rt L (σ i))) L.length = i := by
    unfold aC
    rw [← sumTo_rev L.length (fun j => if rk o (rt L (σ i)) < rk o (tm L j) then 1 else 0)]
    have e1 : sumTo L.length (fun j => if rk o (rt L (σ i)) < rk o (rt L j) then 1 else 0) = i := by
      rw [← sumTo_perm L.length σ (fun j => if rk o (rt L (σ i)) < rk o (rt L j) then 1 else 0) a1 a2]
      have e2 : sumTo L.length (fun k => if rk o (rt L (σ i)) < rk o (rt L (σ k)) then 1 else 0) = sumTo L.length (fun k => if k < i then 1 else 0) := sumTo_congr (fun k hk => by
        by_cases c : k < i
        · rw [if_pos c, if_pos (hfall k i c hi)]
        · rw [if_neg c, if_neg]
          by_cases c2 : k = i
          · rw [c2]; omega
          · have := hfall i k (by omega) hk; omega)
      rw [e2]
      have e3 := sumTo_append i (L.length - i) (fun k => if k < i then 1 else 0)
      rw [show i + (L.length - i) = L.length by omega] at e3
      rw [e3, sumTo_zero (n := L.length - i) (fun k hk => if_neg (by omega)), Nat.add_zero]
      have : ∀ n, n ≤ i → sumTo n (fun k => if k < i then 1 else 0) = n := by
        intro n
        induction n with
        | zero => intro _; rfl
        | succ n ih => intro hn; rw [sumTo, ih (by omega), if_pos (by omega)]
      exact this i (Nat.le_refl _)
    exact e1
  refine ⟨σ i, a1 i hi, a3 i hi, hc, fun t ht he => ?_⟩
  have s1 := a1 i hi
  rw [← hc] at he
  have e : tm L t = rt L (L.length - 1 - t) := by unfold rt; rw [show L.length - 1 - (L.length - 1 - t) = t by omega]
  have hq : rk o (tm L t) = rk o (rt L (σ i)) := by
    rcases Nat.lt_trichotomy (rk o (tm L t)) (rk o (rt L (σ i))) with q | q | q
    · have := aC_lt (o := o) (L := L) (t := L.length - 1 - σ i) (by omega) q
      have e2 : tm L (L.length - 1 - σ i) = rt L (σ i) := rfl
      rw [e2] at this
      omega
    · exact q
    · have := aC_lt (o := o) (L := L) ht q
      omega
  rw [e] at hq
  have := hrk (by omega) s1 hq
  omega
/-! term. -/
theorem W48.z {h0 : Nat} {S : HS} : ∀ b k, W48 h0 b k → Wz h0 S b k := fun b k h => Or.inr (Or.inr (Or.inl (by unfold W48 at h; omega)))
theorem cd_mod {o p c : Nat} {L : Po} (hw : wf p L) (hc : c < L.length) : cd o L c % 512 = c := by
  have := hw.1
  unfold cd
  omega
theorem c_indexOf {M : Nat × Nat} {h0 n i : Nat} {x1 : Int32} {V : Nat → Nat} {S : HS} {K : Int32 → HS → Prop} (hL : Lay h0 S) (hn : n ≤ 300) (hV : Cv h0 S n V) (h1 : x1 = ι i) (hi : i < n) (h : K (ι (V i % 512)) S) : wp_X4_indexOf M (h0 + 48) x1 S K := by
  subst h1
  unfold wp_X4_indexOf
  refine ⟨hL.t48, h0 + 49, hL.p48_0, hL.t49, by rw [hL.n49]; exact ι_in (by omega) (by omega), ?_⟩
  rw [ι_cl (by omega), (hV i hi).1, show (511 : Int32) = ι (2 ^ 9 - 1) from rfl, ι_and 9 (by omega)]
  exact h
theorem call_12 {h0 s0 n : Nat} {S : HS} {R : RS} (hn : n < 512) (y1 y2 y3 y4 : Int32) (v : Int64) (h : Inv h0 s0 n S R) : wq_12 (Mx h0 s0) h0 y1 y2 y3 y4 S R v (Inv h0 s0 (n + 1)) := by
  obtain ⟨⟨p, P, A, T, Tx, ft, Q, B⟩, hc, hv, hr⟩ := h
  have hL := hc.1
  have hroom := hc.room hn
  have hpp := hv.1
  have hX0 := hc.2.1.1
  have hr0 := hr.code hv 0
  have rm : hX S + 1 ≤ (Mx h0 s0).1 ∧ hS S + 6 ≤ (Mx h0 s0).2 := ⟨by show hX S + 1 ≤ h0 + 601024; omega, by show hS S + 6 ≤ s0 + 7293034; omega⟩
  have fl : ∀ S'', Re S S'' → w_term_47 (fun q R1 => wp_thrown R1 (fun t R2 => t = 1 ∧ ((1 : Int32) = 0 → v = Int32.toInt64 q) ∧ Inv h0 s0 (n + 1) S'' R2)) (up R 0 0 0) := fun S'' re => by
    unfold w_term_47 wp_fail wp_thrown
    exact ⟨by rw [upE, if_pos rfl], fun c => absurd c (by decide), _, hc.re re, hv, hr0.code hv 1⟩
  refine ⟨hL.t0, ?_⟩
  unfold wp_X11_term
  refine ⟨hL.t0, c_polyAt hL hc.2.2.2.1 rm.1 rm.2 (fun k a hk e1 ka pa => ?_) (fun hne => ⟨rfl, fun S'' re => ?_⟩)⟩
  rotate_left
  · unfold wp_term
    exact s_isPlace (fun k hk e => absurd e (hne k hk)) (fun _ => ⟨fun _ => fl S'' re, fun c => absurd rfl c⟩)
  have wa := hv.2.1 k hk
  have hle := wa.1
  -- a wrong order
  have b2 : (∀ o, o < 3 → ¬ y2 = ι o) → ((fun E S' => E = xNSE ∧ ∀ S'', Re S' S'' → wp_term y1 y2 y3 y4 R (fun q R1 => wp_thrown R1 (fun t R2 => t = 1 ∧ ((1 : Int32) = 0 → v = Int32.toInt64 q) ∧ Inv h0 s0 (n + 1) S'' R2))) xNSE S) ∧ hX S + 1 ≤ (Mx h0 s0).1 ∧ hS S + 6 ≤ (Mx h0 s0).2 := fun hne => ⟨⟨rfl, fun S'' re => by
    unfold wp_term
    refine s_isPlace (fun _ _ _ => ⟨fun c => absurd c (by decide), fun _ => ?_⟩) (fun h => absurd e1 (h k hk))
    exact s_isInB (b := 0) (c := 2) rfl rfl (by omega) (by omega) (fun a _ ha e => absurd e (hne a (by omega))) (fun _ => ⟨fun _ => fl S'' re, fun c => absurd rfl c⟩)⟩, rm⟩
  refine ⟨fun c => b2 (fun o ho e => by rw [e] at c; exact ι_nn (by omega) c), fun c2 => ?_⟩
  obtain ⟨o, ho31, rfl⟩ := ι_ex c2
  rw [show (2 : Int32) = ι 2 from rfl, ι_lt (by omega) ho31]
  refine ⟨fun c => b2 (fun w hw e => by rw [ι_eq ho31 (by omega)] at e; omega), fun c => ?_⟩
  have ho : o < 3 := by omega
  -- no such term
  have e2 : ∀ R1 : RS, R1 = up R 0 0 0 → R1 2 (Int32.toNatClampNeg y1) = ι (P k).length := fun R1 e => by rw [e, e1, ι_cl (by omega)]; exact (hr0.2.1 k hk).1
  have b3 : (∀ i, i < (P k).length → ¬ y3 = ι i) → ((fun E S' => E = xNSE ∧ ∀ S'', Re S' S'' → wp_term y1 (ι o) y3 y4 R (fun q R1 => wp_thrown R1 (fun t R2 => t = 1 ∧ ((1 : Int32) = 0 → v = Int32.toInt64 q) ∧ Inv h0 s0 (n + 1) S'' R2))) xNSE S) ∧ hX S + 1 ≤ (Mx h0 s0).1 ∧ hS S + 6 ≤ (Mx h0 s0).2 := fun hne => ⟨⟨rfl, fun S'' re => by
    unfold wp_term
    refine s_isPlace (fun _ _ _ => ⟨fun c => absurd c (by decide), fun _ => ?_⟩) (fun h => absurd e1 (h k hk))
    refine s_isInB (b := 0) (c := 2) rfl rfl (by omega) (by omega) (fun a _ ha e => ⟨fun c => absurd c (by decide), fun _ => ⟨by rw [e1]; exact ι_in (by omega) (by omega), ?_⟩⟩) (fun h => absurd rfl (h o (by omega) (by omega)))
    rw [e2 _ rfl]
    by_cases ez : (P k).length = 0
    · rw [ez, show ι 0 - 1 = -1 from rfl]
      unfold wp_isIn
      refine ⟨fun _ => ⟨fun _ => fl S'' re, fun c => absurd rfl c⟩, fun c => ⟨fun _ => ⟨fun _ => fl S'' re, fun c => absurd rfl c⟩, fun c3 => ?_⟩⟩
      obtain ⟨a, ha, rfl⟩ := ι_ex c
      exact absurd (ι_1lt ha) c3
    · rw [show (1 : Int32) = ι 1 from rfl, ι_sub (by omega)]
      exact s_isInB (b := 0) (c := (P k).length - 1) rfl rfl (by omega) (by omega) (fun a _ ha e => absurd e (hne a (by omega))) (fun _ => ⟨fun _ => fl S'' re, fun c => absurd rfl c⟩)⟩, rm⟩
  refine ⟨fun c => b3 (fun o ho e => by rw [e] at c; exact ι_nn (by omega) c), fun c3 => ?_⟩
  obtain ⟨i, hi31, rfl⟩ := ι_ex c3
  obtain ⟨p1, p2, p3, p4, p5, p6, p7, p8, p9, p10, p11⟩ := id pa
  refine ⟨a, rfl, p2, ?_⟩
  rw [p9, ι_le (by omega) hi31]
  refine ⟨fun c => b3 (fun w hw e => by rw [ι_eq hi31 (by omega)] at e; omega), fun c => ?_⟩
  have hi : i < (P k).length := by omega
  -- no such number of a term
  have b4 : (∀ w, w < 4 → ¬ y4 = ι w) → ((fun E S' => E = xNSE ∧ ∀ S'', Re S' S'' → wp_term y1 (ι o) (ι i) y4 R (fun q R1 => wp_thrown R1 (fun t R2 => t = 1 ∧ ((1 : Int32) = 0 → v = Int32.toInt64 q) ∧ Inv h0 s0 (n + 1) S'' R2))) xNSE S) ∧ hX S + 1 ≤ (Mx h0 s0).1 ∧ hS S + 6 ≤ (Mx h0 s0).2 := fun hne => ⟨⟨rfl, fun S'' re => by
    unfold wp_term
    refine s_isPlace (fun _ _ _ => ⟨fun c => absurd c (by decide), fun _ => ?_⟩) (fun h => absurd e1 (h k hk))
    refine s_isInB (b := 0) (c := 2) rfl rfl (by omega) (by omega) (fun a _ ha e => ⟨fun c => absurd c (by decide), fun _ => ⟨by rw [e1]; exact ι_in (by omega) (by omega), ?_⟩⟩) (fun h => absurd rfl (h o (by omega) (by omega)))
    rw [e2 _ rfl, show (1 : Int32) = ι 1 from rfl, ι_sub (by omega)]
    refine s_isInB (b := 0) (c := (P k).length - 1) rfl rfl (by omega) (by omega) (fun a _ ha e => ⟨fun c => absurd c (by decide), fun _ => ?_⟩) (fun h => absurd rfl (h i (by omega) (by omega)))
    exact s_isInB (b := 0) (c := 3) rfl rfl (by omega) (by omega) (fun a _ ha e => absurd e (hne a (by omega))) (fun _ => ⟨fun c => absurd rfl c, fun _ => fl S'' re⟩)⟩, rm⟩
  refine ⟨fun c => b4 (fun o ho e => by rw [e] at c; exact ι_nn (by omega) c), fun c4 => ?_⟩
  obtain ⟨w, hw31, rfl⟩ := ι_ex c4
  rw [show (3 : Int32) = ι 3 from rfl, ι_le hw31 (by omega)]
  refine ⟨fun hw => ⟨hL.t0, h0 + 48, hL.p0_5, a, rfl, hL.t48, ?_⟩, fun c => b4 (fun w' hw' e => by rw [ι_eq hw31 (by omega)] at e; omega)⟩
  have bs := hc.bs hpp
  refine c_sort hL hX0 wa (pa.rd wa) (rs_ka ka pa bs.2.2.1) rfl ho (fun S1 V e3 x3 s3 cv pm ds => ?_)
  have e3z := e3.mo (W' := Wz h0 S) (V' := V0) W48.z (fun _ _ c => c)
  have bs1 := bs.go e3z x3
  have hL1 := bs1.1
  obtain ⟨q1, q2, q3, q4, q5, q6, q7, q8, q9, q10, q11⟩ := pa.go e3z (ka_z bs.2.2.1 a _ ka pa)
  obtain ⟨c0, hc0, hVc, hac, hun⟩ := srt_place wa pm ds hi
  refine ⟨hL1.t0, h0 + 48, hL1.p0_5, hL1.t48, c_indexOf hL1 hle cv rfl hi ?_⟩
  rw [hVc, cd_mod wa hc0]
  have fin : Inv h0 s0 (n + 1) S1 (up R 0 0 0) := ⟨_, hc.scr e3z (hc.2.1.tp e3z x3) (by omega) (by omega), hv, hr0⟩
  have hl0 := hr0.2.1 k hk
  -- the reference
  have ref : ∀ K : Int32 → RS → Prop, ((¬ ι w = 0 → wp_keyAt (ι k) (ι ((P k).length - 1 - c0)) (up R 0 0 0) (fun r6 R6 => wp_ex r6 (ι w - 1) R6 (fun r7 R7 => K r7 R7))) ∧ (ι w = 0 → wp_numAt (ι k) (ι ((P k).length - 1 - c0)) (up R 0 0 0) (fun r8 R8 => K r8 R8))) → wp_term y1 (ι o) (ι i) (ι w) R K := fun K hK => by
    unfold wp_term
    refine s_isPlace (fun _ _ _ => ⟨fun c => absurd c (by decide), fun _ => ?_⟩) (fun h => absurd e1 (h k hk))
    refine s_isInB (b := 0) (c := 2) rfl rfl (by omega) (by omega) (fun a _ ha e => ⟨fun c => absurd c (by decide), fun _ => ⟨by rw [e1]; exact ι_in (by omega) (by omega), ?_⟩⟩) (fun h => absurd rfl (h o (by omega) (by omega)))
    rw [e2 _ rfl, show (1 : Int32) = ι 1 from rfl, ι_sub (by omega)]
    refine s_isInB (b := 0) (c := (P k).length - 1) rfl rfl (by omega) (by omega) (fun a _ ha e => ⟨fun c => absurd c (by decide), fun _ => ?_⟩) (fun h => absurd rfl (h i (by omega) (by omega)))
    refine s_isInB (b := 0) (c := 3) rfl rfl (by omega) (by omega) (fun a _ ha e => ⟨fun _ => ?_, fun c => absurd c (by decide)⟩) (fun h => absurd rfl (h w (by omega) (by omega)))
    subst e1
    exact s_placeOf (t0 := (P k).length - 1 - c0) rfl rfl rfl (by omega) ho (by omega) wa hl0 (by omega) hac hun hK
  have htm : tm (P k) ((P k).length - 1 - c0) = rt (P k) c0 := rfl
  have hw0 : ι w = 0 ↔ w = 0 := by rw [show (0 : Int32) = ι 0 from rfl, ι_eq hw31 (by omega)]
  refine ⟨fun cw => ⟨a, rfl, q2, a + 1, q3, q5, by rw [q7]; exact ι_in (by omega) (by omega), ?_⟩, fun cw => ⟨a, rfl, q2, a + 2, q4, q6, by rw [q8]; exact ι_in (by omega) (by omega), ?_⟩⟩
  · have cw2 : w ≠ 0 := fun e => cw (hw0.mpr e)
    rw [ι_cl (by omega), show (1 : Int32) = ι 1 from rfl, ι_sub (by omega)]
    refine c_exp (rt_sm wa hc0) (q11 c0 hc0).1 rfl (by omega) (ref _ ⟨fun _ => s_keyAt rfl rfl (by omega) (by omega) ?_, fun c => absurd c cw⟩)
    rw [(hl0.2 _ (by omega)).1, htm]
    rw [show (1 : Int32) = ι 1 from rfl, ι_sub (by omega)]
    exact s_ex (rt_sm wa hc0) rfl rfl (by omega) ⟨by rw [upE, if_pos rfl], fun _ => rfl, fin⟩
  · rw [ι_cl (by omega), (q11 c0 hc0).2]
    refine ref _ ⟨fun c => absurd cw c, fun _ => s_numAt rfl rfl (by omega) (by omega) ?_⟩
    rw [(hl0.2 _ (by omega)).2]
    exact ⟨by rw [upE, if_pos rfl], fun _ => rfl, fin⟩
