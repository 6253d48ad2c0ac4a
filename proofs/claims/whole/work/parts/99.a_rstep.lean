/-! The reference: a step. -/
def Od (R R' : RS) (L : Nat) : Prop := Fr R R' [33, 34, 35, 36] fltK ∧ (∀ s, s < L → R' 33 s = R 33 s ∧ R' 34 s = R 34 s) ∧ ∀ j, j < 2 * L → R' 35 j = R 35 j ∧ R' 36 j = R 36 j
theorem tak_2 {D : List Sq} {c : Sq} {k v : Nat} : tak (2, D, c) k v = if k = 61 then (0, (3, D, c)) else (1, (2, D, c)) := rfl
theorem tak_3 {D : List Sq} {c : Sq} {k v : Nat} : tak (3, D, c) k v = tkA 3 D c k v := rfl
theorem tak_4 {D : List Sq} {c : Sq} {k v : Nat} : tak (4, D, c) k v = tkS 4 D c k := rfl
theorem tak_5 {D : List Sq} {c : Sq} {k v : Nat} : tak (5, D, c) k v = tkA 5 D c k v := rfl
theorem tak_6 {D : List Sq} {c : Sq} {k v : Nat} : tak (6, D, c) k v = tkX 6 D c k v := rfl
theorem tak_7 {D : List Sq} {c : Sq} {k v : Nat} : tak (7, D, c) k v = tkE 7 D c k := rfl
section RST2
variable {R R1 R2 : RS} {K : Int32 → RS → Prop} {tx : Nat → Nat} {n p L : Nat} {D : List Sq} {o : Ot}
theorem Od.rf : Od R R L := ⟨fr_rf, fun _ _ => ⟨rfl, rfl⟩, fun _ _ => ⟨rfl, rfl⟩⟩
theorem Od.tr (h : Od R R1 L) (g : Od R1 R2 L) : Od R R2 L := ⟨h.1.tr g.1, fun s hs => ⟨(g.2.1 s hs).1.trans (h.2.1 s hs).1, (g.2.1 s hs).2.trans (h.2.1 s hs).2⟩, fun j hj => ⟨(g.2.2 j hj).1.trans (h.2.2 j hj).1, (g.2.2 j hj).2.trans (h.2.2 j hj).2⟩⟩
theorem od_fr (r : Fr R R1 [] fltK) : Od R R1 L := ⟨r.mo (by decide) (by decide), fun s _ => ⟨by rw [r.1 33 (by omega) (by simp)], by rw [r.1 34 (by omega) (by simp)]⟩, fun j _ => ⟨by rw [r.1 35 (by omega) (by simp)], by rw [r.1 36 (by omega) (by simp)]⟩⟩
theorem od_tk (r : Fr R R1 [] tkK) : Od R R1 L := od_fr (r.mo (by decide) (by decide))
theorem od_aw {w : Nat} (h : AtW R R1 w) (hw : 2 * L ≤ w) : Od R R1 L := ⟨h.1.mo (by decide) (by decide), fun s _ => ⟨by rw [h.1.1 33 (by omega) (by simp)], by rw [h.1.1 34 (by omega) (by simp)]⟩, fun j hj => h.2 j (by omega)⟩
theorem od_34 {x : Int32} : Od R (up R 34 L x) L := ⟨fr_upF fr_rf (by simp) (by omega), fun s hs => ⟨by rw [upN (by omega)], by rw [upE, if_neg (by omega)]⟩, fun j hj => ⟨by rw [upN (by omega)], by rw [upN (by omega)]⟩⟩
theorem od_36 {x : Int32} : Od R (up R 36 (2 * L + 1) x) L := ⟨fr_upF fr_rf (by simp) (by omega), fun s hs => ⟨by rw [upN (by omega)], by rw [upN (by omega)]⟩, fun j hj => ⟨by rw [upN (by omega)], by rw [upE, if_neg (by omega)]⟩⟩
theorem RD.od (h : RD R D) (g : Od R R1 D.length) : RD R1 D := by
  refine ⟨by rw [g.1.2 38 (by simp)]; exact h.1, fun s hs => ?_⟩
  obtain ⟨a1, a2, a3, a4, a5, a6⟩ := h.2 s hs
  have q := g.2.1 s hs
  have q0 := g.2.2 (2 * s) (by omega)
  have q1 := g.2.2 (2 * s + 1) (by omega)
  rw [q.1, q.2, q0.1, q0.2, q1.1, q1.2]
  exact ⟨a1, a2, a3, a4, a5, a6⟩
theorem RD.push {c : Sq} (h : RD R D) (h4 : R 34 D.length = ι c.2.1) (h5 : R 35 (2 * D.length) = ι (atK c.2.2.1) ∧ R 36 (2 * D.length) = ι (atV c.2.2.1)) (h6 : isTwo c.2.1 → R 35 (2 * D.length + 1) = ι (atK c.2.2.2) ∧ R 36 (2 * D.length + 1) = ι (atV c.2.2.2)) (h7 : c.2.1 = 94 → R 36 (2 * D.length + 1) = ι c.2.2.2) : RD (up (up R 33 D.length (ι c.1)) 0 38 (ι (D.length + 1))) (D ++ [c]) := by
  have ll : (D ++ [c]).length = D.length + 1 := by rw [List.length_append, List.length_singleton]
  refine ⟨by rw [upE, if_pos rfl, ll], fun s hs => ?_⟩
  have u : ∀ f, f ≠ 0 → f ≠ 33 → (up (up R 33 D.length (ι c.1)) 0 38 (ι (D.length + 1))) f = R f := fun f f0 f3 => by rw [upN f0, upN f3]
  rw [u 34 (by omega) (by omega), u 35 (by omega) (by omega), u 36 (by omega) (by omega), upN (by omega), upE]
  by_cases e : s = D.length
  · rw [e, sq_r, if_pos rfl]
    exact ⟨rfl, h4, h5.1, h5.2, h6, h7⟩
  · rw [if_neg e, sq_l (by omega)]
    exact h.2 s (by omega)
/-- what a step that was read leaves -/
def StR (R' : RS) (tx : Nat → Nat) (n : Nat) (D : List Sq) (o : Ot) : Prop := (o.1 ≠ 0 ∧ R' 0 49 = ι o.1 ∧ R' 0 50 = ι o.2.1) ∨ ∃ p' q' c, R' 0 49 = 0 ∧ Rk R' tx n p' ∧ Jm tx n p' (q', D, c) o ∧ Wm (q', D, c) ∧ (q' = 4 ∨ q' = 7) ∧ (q' = 4 → ¬ (tkc tx n p' = 43 ∨ tkc tx n p' = 45 ∨ tkc tx n p' = 42 ∨ tkc tx n p' = 94)) ∧ RD R' (D ++ [c])
abbrev stK : List Nat := [38, 45, 46, 47, 48, 49, 50]
theorem Jm.ok {m m' : Mt} (h : Jm tx n p m o) (e : tak m (tkc tx n p) (tkv tx n p) = (0, m')) (ne : tkc tx n p ≠ 257) : Jm tx n (tke tx n p) m' o := by
  have := (h.go.2 (by rw [e])).2 ne
  rw [e] at this
  exact this
theorem Jm.bad {m m' : Mt} {f : Nat} (h : Jm tx n p m o) (e : tak m (tkc tx n p) (tkv tx n p) = (f, m')) (hf : f ≠ 0) : o = (f, tks tx n p, []) := by
  have := h.go.1 (by rw [e]; exact hf)
  rw [e] at this
  exact this
theorem Wm.ok {m m' : Mt} {k v : Nat} (h : Wm m) (e : tak m k v = (0, m')) : Wm m' := by
  have := h.tk (k := k) (v := v) (by rw [e])
  rw [e] at this
  exact this
theorem s_readStep {q : Nat} {c0 : Sq} (h9 : R 0 49 = 0) (t : Rt R tx n) (k : Rk R tx n p) (j : Jm tx n p (q, D, c0) o) (wm : Wm (q, D, c0)) (hq : q ≤ 1) (ne : ¬ (tkc tx n p = 257 ∧ q = 1)) (hd : RD R D) (h : ∀ R', Fr R R' [33, 34, 35, 36] stK → StR R' tx n D o → K 0 R') : wp_readStep R K := by
  have n2 := t.2.1
  have hD : DOk D := wm.2.1
  have d23 := hD.1
  have kl := kd_le (k := tkc tx n p)
  -- in a fault nothing more is read
  have f64 : ∀ (R1 : RS) (x : Int32), Fr R R1 [] fltK → R1 0 49 = ι o.1 → R1 0 50 = ι o.2.1 → o.1 ≠ 0 → R1 0 49 ≠ 0 → w_readStep_64 K x R1 := fun R1 x f1 e1 e2 on nz => by
    unfold w_readStep_64
    refine s_passF nz (s_isSignF nz ⟨fun c => absurd rfl c, fun _ => s_wrongF nz ?_⟩)
    unfold w_readStep_82
    exact s_passF nz ⟨fun c => absurd c nz, fun _ => h R1 (f1.mo (by decide) (by decide)) (Or.inl ⟨on, e1, e2⟩)⟩
  have bad0 : ∀ f x, f ≠ 0 → f ≤ 3 → (∃ m', tak (q, D, c0) (tkc tx n p) (tkv tx n p) = (f, m')) → w_readStep_64 K x (fltR R f) := fun f x f0 f3 ⟨m', e⟩ => by
    have eo := j.bad e f0
    refine f64 _ x flt_fr (by rw [flt_49, eo]) (by rw [flt_50, eo]; exact k.1) (by rw [eo]; exact f0) ?_
    rw [flt_49, show (0 : Int32) = ι 0 from rfl]
    intro z
    rw [ι_eq (by omega) (by omega)] at z
    omega
  have tN : tak (q, D, c0) (tkc tx n p) (tkv tx n p) = tkN q D c0 (tkc tx n p) := by unfold tak; simp only; rw [if_pos hq]
  have k42 : ∀ x, (tkc tx n p < 97 ∨ 119 < tkc tx n p) → w_readStep_42 K x R := fun x w => by
    unfold w_readStep_42
    exact s_wrong0 (f := 1) rfl h9 (bad0 1 x (by omega) (by omega) ⟨(q, D, c0), by rw [tN]; unfold tkN; rw [if_neg ne, if_pos w]⟩)
  -- the end of a step
  have k230 : ∀ (R5 : RS) (c : Sq), Od R R5 D.length → D.length ≤ 22 → R5 34 D.length = ι c.2.1 → (R5 35 (2 * D.length) = ι (atK c.2.2.1) ∧ R5 36 (2 * D.length) = ι (atV c.2.2.1)) → (isTwo c.2.1 → R5 35 (2 * D.length + 1) = ι (atK c.2.2.2) ∧ R5 36 (2 * D.length + 1) = ι (atV c.2.2.2)) → (c.2.1 = 94 → R5 36 (2 * D.length + 1) = ι c.2.2.2) → (∃ p' q', R5 0 49 = 0 ∧ Rk R5 tx n p' ∧ Jm tx n p' (q', D, c) o ∧ Wm (q', D, c) ∧ (q' = 4 ∨ q' = 7) ∧ (q' = 4 → ¬ (tkc tx n p' = 43 ∨ tkc tx n p' = 45 ∨ tkc tx n p' = 42 ∨ tkc tx n p' = 94))) → w_readStep_230 K (ι c.1) (ι D.length) R5 := fun R5 c od d22 e4 e5 e6 e7 ⟨p', q', x1, x2, x3, x4, x5, x6⟩ => by
    unfold w_readStep_230
    have d8 : (up R5 33 D.length (ι c.1)) 0 38 = ι D.length := by rw [upN (by omega), od.1.2 38 (by simp)]; exact hd.1
    rw [ι_cl (by omega), d8, show (1 : Int32) = ι 1 from rfl, ι_add]
    refine ⟨ι_in (by omega) (by omega), h _ (fr_up (fr_upF (od.1.mo (by decide) (by decide)) (by simp) (by omega)) (by simp)) (Or.inr ⟨p', q', c, ?_, ?_, x3, x4, x5, x6, (hd.od od).push e4 e5 e6 e7⟩)⟩
    · rw [upE, if_neg (by omega), upN (by omega)]; exact x1
    · refine x2.go (fs := [33]) (ks := [38]) (fr_up (fr_upF fr_rf (by simp) (by omega)) (by simp)) (by simp)
  have f230 : ∀ (R5 : RS) (x : Int32), Od R R5 D.length → D.length ≤ 22 → R5 0 49 = ι o.1 → R5 0 50 = ι o.2.1 → o.1 ≠ 0 → w_readStep_230 K x (ι D.length) R5 := fun R5 x od d22 e1 e2 on => by
    unfold w_readStep_230
    rw [ι_cl (by omega)]
    refine ⟨ι_in (by omega) (by omega), h _ (fr_up (fr_upF (od.1.mo (by decide) (by decide)) (by simp) (by omega)) (by simp)) (Or.inl ⟨on, ?_, ?_⟩)⟩
    · rw [upE, if_neg (by omega), upN (by omega)]; exact e1
    · rw [upE, if_neg (by omega), upN (by omega)]; exact e2
  have onz : ∀ (R5 : RS), R5 0 49 = ι o.1 → o.1 ≠ 0 → o.1 ≤ 3 → R5 0 49 ≠ 0 := fun R5 e on o3 => by
    rw [e, show (0 : Int32) = ι 0 from rfl]
    intro z
    rw [ι_eq (by omega) (by omega)] at z
    omega
  -- a step whose name stands
  have go : ∀ nm : Nat, tak (q, D, c0) (tkc tx n p) (tkv tx n p) = (0, (2, D, (nm, 0, 0, 0))) → tkc tx n p ≠ 257 → w_readStep_64 K (ι nm) R := fun nm e ne7 => by
    have j2 := j.ok e ne7
    have w2 := wm.ok e
    have d22 : D.length ≤ 22 := (w2.2.2.2.1 (by simp)).2.2
    have i46 : vp_in (ι (2 * D.length + 1)) 46 := ι_in (by omega) (by omega)
    have i23 : vp_in (ι D.length) 23 := ι_in (by omega) (by omega)
    unfold w_readStep_64
    refine s_pass0 h9 t k j.1 (fun R1 r1 k1 => ?_)
    have t1 := t.go r1 (by simp) (by simp)
    have h91 : R1 0 49 = 0 := by rw [r1.2 49 (by simp)]; exact h9
    generalize tke tx n p = p2 at j2 k1
    refine s_isSign0 (x := 61) h91 t1 k1 (by omega) j2.1 (fun eq => ⟨fun _ => ?_, fun c => absurd c (by decide)⟩) (fun nq => ⟨fun c => absurd rfl c, fun _ => ?_⟩)
    rotate_left
    · have eo := j2.bad (f := 1) (m' := (2, D, (nm, 0, 0, 0))) (by rw [tak_2, if_neg nq]) (by omega)
      refine s_wrong0 (f := 1) rfl h91 ?_
      have nz : fltR R1 1 0 49 ≠ 0 := by rw [flt_49]; decide
      unfold w_readStep_82
      refine s_passF nz ⟨fun c => absurd c nz, fun _ => h _ ((r1.mo (by decide) (by decide)).tr (flt_fr.mo (by decide) (by decide))) (Or.inl ⟨by rw [eo]; simp, by rw [flt_49, eo], by rw [flt_50, eo]; exact k1.1⟩)⟩
    have e3 : tak (2, D, (nm, 0, 0, 0)) (tkc tx n p2) (tkv tx n p2) = (0, (3, D, (nm, 0, 0, 0))) := by rw [tak_2, if_pos eq]
    have j3 := j2.ok e3 (by omega)
    have w3 := w2.ok e3
    unfold w_readStep_82
    refine s_pass0 h91 t1 k1 j2.1 (fun R2 r2 k2 => ⟨fun _ => ?_, fun c => absurd (by rw [r2.2 49 (by simp)]; exact h91) c⟩)
    have t2 := t1.go r2 (by simp) (by simp)
    have h92 : R2 0 49 = 0 := by rw [r2.2 49 (by simp)]; exact h91
    have od2 : Od R R2 D.length := (od_tk r1).tr (od_tk r2)
    have hd2 := hd.od od2
    generalize tke tx n p2 = p3 at j3 k2
    rw [hd2.1, show (2 : Int32) = ι 2 from rfl, ι_mul]
    refine s_readAtom (q := 3) (c := (nm, 0, 0, 0)) rfl (by omega) hD hd2 h92 t2 k2 j3.1 (fun R3 aw bad ok => ?_)
    have od3 : Od R R3 D.length := od2.tr (od_aw aw (by omega))
    have t3 := t2.go aw.1 (by simp) (by simp)
    have tA : tak (3, D, (nm, 0, 0, 0)) (tkc tx n p3) (tkv tx n p3) = tkA 3 D (nm, 0, 0, 0) (tkc tx n p3) (tkv tx n p3) := tak_3
    have tle := tak_le (m := (3, D, (nm, 0, 0, 0))) (k := tkc tx n p3) (v := tkv tx n p3)
    by_cases z : (tkA 3 D (nm, 0, 0, 0) (tkc tx n p3) (tkv tx n p3)).1 = 0
    rotate_left
    · -- a fault in the left atom
      have eo := j3.bad (f := (tkA 3 D (nm, 0, 0, 0) (tkc tx n p3) (tkv tx n p3)).1) (m' := (tkA 3 D (nm, 0, 0, 0) (tkc tx n p3) (tkv tx n p3)).2) (by rw [tA]) z
      obtain ⟨b1, b2⟩ := bad z
      have e1 : R3 0 49 = ι o.1 := by rw [b1, eo]
      have e2 : R3 0 50 = ι o.2.1 := by rw [b2, eo]
      have on : o.1 ≠ 0 := by rw [eo]; exact z
      have nz := onz R3 e1 on (by rw [eo, ← tA]; exact tle)
      refine s_isSignF nz ⟨fun _ => s_isSignF nz ⟨fun _ => s_isSignF nz ⟨fun _ => s_isSignF nz ⟨fun _ => ?_, fun c => absurd rfl c⟩, fun c => absurd rfl c⟩, fun c => absurd rfl c⟩, fun c => absurd rfl c⟩
      unfold w_readStep_168
      rw [ι_cl (by omega), upE, if_pos rfl]
      refine ⟨i23, i23, fun _ => ?_, fun c => absurd rfl c⟩
      unfold w_readStep_182
      rw [ι_cl (by omega), upE, if_pos rfl]
      exact ⟨i23, fun _ => ⟨i23, fun _ => f230 _ _ (od3.tr od_34) d22 (by rw [upN (by omega)]; exact e1) (by rw [upN (by omega)]; exact e2) on, fun c => absurd rfl c⟩, fun c => absurd c (by decide)⟩
    -- the left atom stands
    obtain ⟨a, ea⟩ : ∃ a, tkA 3 D (nm, 0, 0, 0) (tkc tx n p3) (tkv tx n p3) = (0, stQ 3 D (nm, 0, 0, 0) a) := by
      unfold tkA at z ⊢
      by_cases c1 : tkc tx n p3 = 256
      · rw [if_pos c1] at z ⊢
        by_cases c2 : 99 < tkv tx n p3
        · rw [if_pos c2] at z; exact absurd z (by simp)
        · rw [if_neg c2]; exact ⟨_, rfl⟩
      · rw [if_neg c1] at z ⊢
        by_cases c2 : tkc tx n p3 < 97 ∨ 122 < tkc tx n p3
        · rw [if_pos c2] at z; exact absurd z (by simp)
        · rw [if_neg c2] at z ⊢
          by_cases c3 : 120 ≤ tkc tx n p3
          · rw [if_pos c3]; exact ⟨_, rfl⟩
          · rw [if_neg c3] at z ⊢
            by_cases c4 : lk1 D (tkc tx n p3 - 96) = 0
            · rw [if_pos c4] at z; exact absurd z (by simp)
            · rw [if_neg c4]; exact ⟨_, rfl⟩
    have ne3 : tkc tx n p3 ≠ 257 := fun e7 => by
      unfold tkA at ea
      rw [e7, if_neg (by omega), if_pos (Or.inr (by omega))] at ea
      exact absurd (congrArg Prod.fst ea) (by simp)
    obtain ⟨h93, k3, v5, v6⟩ := ok a ea
    have e4 : tak (3, D, (nm, 0, 0, 0)) (tkc tx n p3) (tkv tx n p3) = (0, (4, D, (nm, 0, a, 0))) := by rw [tA, ea]; rfl
    have j4 := j3.ok e4 ne3
    have w4 := w3.ok e4
    generalize tke tx n p3 = p4 at j4 k3
    -- a sign
    have sgn : ∀ g : Nat, (g = 43 ∨ g = 45 ∨ g = 42 ∨ g = 94) → tkc tx n p4 = g → w_readStep_168 K (ι nm) (ι D.length) (ι g) (ι D.length) R3 := fun g hg eg => by
      have e5 : tak (4, D, (nm, 0, a, 0)) (tkc tx n p4) (tkv tx n p4) = (0, (if g = 94 then 6 else 5, D, (nm, g, a, 0))) := by rw [tak_4]; unfold tkS; rw [if_pos (by omega), eg]
      have j5 := j4.ok e5 (by omega)
      have w5 := w4.ok e5
      unfold w_readStep_168
      rw [ι_cl (by omega), upE, if_pos rfl, show (0 : Int32) = ι 0 from rfl, ι_eq (by omega) (by omega)]
      refine ⟨i23, i23, fun c => absurd c (by omega), fun _ => ?_⟩
      have u4 : Fr R3 (up R3 34 D.length (ι g)) [34] [] := fr_upF fr_rf (by simp) (by omega)
      have h94 : (up R3 34 D.length (ι g)) 0 49 = 0 := by rw [u4.2 49 (by simp)]; exact h93
      refine s_pass0 h94 (t3.go u4 (by simp) (by simp)) (k3.go u4 (by simp)) j4.1 (fun R5 r5 k5 => ?_)
      have od5 : Od R R5 D.length := (od3.tr od_34).tr (od_tk r5)
      have t5 := (t3.go u4 (by simp) (by simp)).go r5 (by simp) (by simp)
      have h95 : R5 0 49 = 0 := by rw [r5.2 49 (by simp)]; exact h94
      have g5 : R5 34 D.length = ι g := by rw [r5.1 34 (by omega) (by simp), upE, if_pos rfl]
      have l5 : R5 35 (2 * D.length) = ι (atK a) ∧ R5 36 (2 * D.length) = ι (atV a) := ⟨by rw [r5.1 35 (by omega) (by simp), upN (by omega)]; exact v5, by rw [r5.1 36 (by omega) (by simp), upN (by omega)]; exact v6⟩
      generalize tke tx n p4 = p5 at j5 k5
      unfold w_readStep_182
      rw [ι_cl (by omega), g5, show (94 : Int32) = ι 94 from rfl, show (0 : Int32) = ι 0 from rfl, ι_eq (by omega) (by omega), ι_eq (by omega) (by omega), show (2 : Int32) = ι 2 from rfl, show (1 : Int32) = ι 1 from rfl, ι_mul, ι_add]
      refine ⟨i23, fun n9 => ⟨i23, fun c => absurd c (by omega), fun _ => ?_⟩, fun e9 => ?_⟩
      · -- another atom
        rw [if_neg n9] at j5 w5
        refine s_readAtom (q := 5) (c := (nm, g, a, 0)) rfl (by omega) hD (hd.od od5) h95 t5 k5 j5.1 (fun R6 aw6 bad6 ok6 => ?_)
        have od6 : Od R R6 D.length := od5.tr (od_aw aw6 (by omega))
        have tA6 : tak (5, D, (nm, g, a, 0)) (tkc tx n p5) (tkv tx n p5) = tkA 5 D (nm, g, a, 0) (tkc tx n p5) (tkv tx n p5) := tak_5
        have tle6 := tak_le (m := (5, D, (nm, g, a, 0))) (k := tkc tx n p5) (v := tkv tx n p5)
        by_cases z6 : (tkA 5 D (nm, g, a, 0) (tkc tx n p5) (tkv tx n p5)).1 = 0
        rotate_left
        · have eo := j5.bad (f := (tkA 5 D (nm, g, a, 0) (tkc tx n p5) (tkv tx n p5)).1) (m' := (tkA 5 D (nm, g, a, 0) (tkc tx n p5) (tkv tx n p5)).2) (by rw [tA6]) z6
          obtain ⟨b1, b2⟩ := bad6 z6
          exact f230 _ _ od6 d22 (by rw [b1, eo]) (by rw [b2, eo]) (by rw [eo]; exact z6)
        obtain ⟨a2, ea2⟩ : ∃ a2, tkA 5 D (nm, g, a, 0) (tkc tx n p5) (tkv tx n p5) = (0, stQ 5 D (nm, g, a, 0) a2) := by
          unfold tkA at z6 ⊢
          by_cases c1 : tkc tx n p5 = 256
          · rw [if_pos c1] at z6 ⊢
            by_cases c2 : 99 < tkv tx n p5
            · rw [if_pos c2] at z6; exact absurd z6 (by simp)
            · rw [if_neg c2]; exact ⟨_, rfl⟩
          · rw [if_neg c1] at z6 ⊢
            by_cases c2 : tkc tx n p5 < 97 ∨ 122 < tkc tx n p5
            · rw [if_pos c2] at z6; exact absurd z6 (by simp)
            · rw [if_neg c2] at z6 ⊢
              by_cases c3 : 120 ≤ tkc tx n p5
              · rw [if_pos c3]; exact ⟨_, rfl⟩
              · rw [if_neg c3] at z6 ⊢
                by_cases c4 : lk1 D (tkc tx n p5 - 96) = 0
                · rw [if_pos c4] at z6; exact absurd z6 (by simp)
                · rw [if_neg c4]; exact ⟨_, rfl⟩
        have ne5 : tkc tx n p5 ≠ 257 := fun e7 => by
          unfold tkA at ea2
          rw [e7, if_neg (by omega), if_pos (Or.inr (by omega))] at ea2
          exact absurd (congrArg Prod.fst ea2) (by simp)
        obtain ⟨h96, k6, y5, y6⟩ := ok6 a2 ea2
        have e7 : tak (5, D, (nm, g, a, 0)) (tkc tx n p5) (tkv tx n p5) = (0, (7, D, (nm, g, a, a2))) := by rw [tA6, ea2]; rfl
        refine k230 R6 (nm, g, a, a2) od6 d22 ?_ ⟨?_, ?_⟩ (fun _ => ⟨y5, y6⟩) (fun e => absurd e n9) ⟨tke tx n p5, 7, h96, k6, j5.ok e7 ne5, w5.ok e7, Or.inr rfl, fun c => absurd c (by omega)⟩
        · rw [aw6.1.1 34 (by omega) (by simp)]; exact g5
        · rw [(aw6.2 (2 * D.length) (by omega)).1]; exact l5.1
        · rw [(aw6.2 (2 * D.length) (by omega)).2]; exact l5.2
      · -- an exponent
        rw [if_pos e9] at j5 w5
        have tX : tak (6, D, (nm, g, a, 0)) (tkc tx n p5) (tkv tx n p5) = tkX 6 D (nm, g, a, 0) (tkc tx n p5) (tkv tx n p5) := tak_6
        have fin : ∀ (v : Int32) (f : Nat), f ≠ 0 → f ≤ 3 → tkX 6 D (nm, g, a, 0) (tkc tx n p5) (tkv tx n p5) = (f, (6, D, (nm, g, a, 0))) → w_readStep_230 K (ι nm) (ι D.length) (up (fltR R5 f) 36 (2 * D.length + 1) v) := fun v f f0 f3 ex => by
          have eo := j5.bad (f := f) (m' := (6, D, (nm, g, a, 0))) (by rw [tX, ex]) f0
          exact f230 _ _ ((od5.tr (od_fr flt_fr)).tr od_36) d22 (by rw [upN (by omega), flt_49, eo]) (by rw [upN (by omega), flt_50, eo]; exact k5.1) (by rw [eo]; exact f0)
        refine s_readNum (lim := 9) rfl (by omega) h95 t5 k5 j5.1 (fun c6 le R6 r6 k6 => ⟨i46, ?_⟩) (fun c6 gt => ⟨i46, ?_⟩) (fun c6 => ⟨i46, ?_⟩)
        · have ex : tkX 6 D (nm, g, a, 0) (tkc tx n p5) (tkv tx n p5) = (0, (7, D, (nm, g, a, tkv tx n p5))) := by unfold tkX; rw [if_neg (fun w => w c6), if_neg (by omega)]
          have e7 : tak (6, D, (nm, g, a, 0)) (tkc tx n p5) (tkv tx n p5) = (0, (7, D, (nm, g, a, tkv tx n p5))) := by rw [tX, ex]
          rw [ι_cl (by omega)]
          have u6 : Fr R6 (up R6 36 (2 * D.length + 1) (ι (tkv tx n p5))) [36] [] := fr_upF fr_rf (by simp) (by omega)
          refine k230 _ (nm, g, a, tkv tx n p5) ((od5.tr (od_tk r6)).tr od_36) d22 ?_ ⟨?_, ?_⟩ (fun tw => ?_) (fun _ => ?_) ⟨tke tx n p5, 7, ?_, k6.go u6 (by simp), j5.ok e7 (by omega), w5.ok e7, Or.inr rfl, fun c => absurd c (by omega)⟩
          · rw [upN (by omega), r6.1 34 (by omega) (by simp)]; exact g5
          · rw [upN (by omega), r6.1 35 (by omega) (by simp)]; exact l5.1
          · rw [upE, if_neg (by omega), r6.1 36 (by omega) (by simp)]; exact l5.2
          · exact absurd e9 (isTwo_ne tw).2
          · rw [upE, if_pos rfl]
          · rw [upN (by omega), r6.2 49 (by simp)]; exact h95
        · rw [ι_cl (by omega)]
          exact fin _ 2 (by omega) (by omega) (by unfold tkX; rw [if_neg (fun w => w c6), if_pos gt])
        · rw [ι_cl (by omega)]
          exact fin _ 1 (by omega) (by omega) (by unfold tkX; rw [if_pos c6])
    have one : (1 : Int32) ≠ 0 := by decide
    refine s_isSign0 (x := 43) h93 t3 k3 (by omega) j4.1 (fun eg => ⟨fun c => absurd c one, fun _ => sgn 43 (by omega) eg⟩) (fun n43 => ⟨fun _ => ?_, fun c => absurd rfl c⟩)
    refine s_isSign0 (x := 45) h93 t3 k3 (by omega) j4.1 (fun eg => ⟨fun c => absurd c one, fun _ => sgn 45 (by omega) eg⟩) (fun n45 => ⟨fun _ => ?_, fun c => absurd rfl c⟩)
    refine s_isSign0 (x := 42) h93 t3 k3 (by omega) j4.1 (fun eg => ⟨fun c => absurd c one, fun _ => sgn 42 (by omega) eg⟩) (fun n42 => ⟨fun _ => ?_, fun c => absurd rfl c⟩)
    refine s_isSign0 (x := 94) h93 t3 k3 (by omega) j4.1 (fun eg => ⟨fun c => absurd c one, fun _ => sgn 94 (by omega) eg⟩) (fun n94 => ⟨fun _ => ?_, fun c => absurd rfl c⟩)
    -- no sign
    unfold w_readStep_168
    rw [ι_cl (by omega), upE, if_pos rfl]
    refine ⟨i23, i23, fun _ => ?_, fun c => absurd rfl c⟩
    unfold w_readStep_182
    rw [ι_cl (by omega), upE, if_pos rfl]
    have u4 : Fr R3 (up R3 34 D.length 0) [34] [] := fr_upF fr_rf (by simp) (by omega)
    refine ⟨i23, fun _ => ⟨i23, fun _ => k230 _ (nm, 0, a, 0) (od3.tr od_34) d22 (by rw [upE, if_pos rfl]; rfl) ⟨by rw [upN (by omega)]; exact v5, by rw [upN (by omega)]; exact v6⟩ (fun tw => absurd rfl (isTwo_ne tw).1) (fun e => absurd e (by simp)) ⟨p4, 4, by rw [u4.2 49 (by simp)]; exact h93, k3.go u4 (by simp), j4, w4, Or.inl rfl, fun _ => by omega⟩, fun c => absurd rfl c⟩, fun c => absurd c (by decide)⟩
  -- the name
  unfold wp_readStep
  refine ⟨fun c => absurd h9 c, fun _ => ?_⟩
  rw [k.2.2.2, show (1 : Int32) = ι 1 from rfl, ι_eq (by omega) (by omega), kd_1]
  refine ⟨fun na => ⟨fun _ => k42 0 (by omega), fun c => absurd rfl c⟩, fun al => ?_⟩
  have b := tk_byte (tx := tx) (n := n) (p := p) (by omega) (by omega)
  have tb := t.2.2 _ b.1
  rw [k.1, ι_cl (by omega), tb.1, b.2, show (96 : Int32) = ι 96 from rfl, ι_sub (by omega)]
  refine ⟨ι_in (by omega) (by omega), ?_⟩
  unfold w_readStep_31
  rw [show (0 : Int32) = ι 0 from rfl, show (23 : Int32) = ι 23 from rfl, ι_eq (by omega) (by omega), ι_le (by omega) (by omega)]
  refine ⟨fun c => absurd c (by omega), fun _ => ⟨fun le => ?_, fun gt => k42 _ (by omega)⟩⟩
  refine s_named hd.1 d23 (fun s hs => ⟨(hd.2 s hs).1, (hD.2.2 s hs).1.2⟩) (by omega) ?_
  have le2 := lkp_le (D := D) (nm := tkc tx n p - 96) D.length
  by_cases z : lk1 D (tkc tx n p - 96) = 0
  · rw [if_pos z]
    exact ⟨fun _ => go _ (by rw [tN]; unfold tkN; rw [if_neg ne, if_neg (by omega), if_neg (fun w => w z)]) (by omega), fun c => absurd rfl c⟩
  · rw [if_neg z]
    refine ⟨fun c => absurd c (ι_ne1 (by have : lk1 D (tkc tx n p - 96) ≤ D.length := le2; omega)), fun _ => s_wrong0 (f := 3) rfl h9 (bad0 3 _ (by omega) (by omega) ⟨(q, D, c0), by rw [tN]; unfold tkN; rw [if_neg ne, if_neg (by omega), if_pos z]⟩)⟩
end RST2
