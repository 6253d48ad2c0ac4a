/-! The reference reads a program. -/
section RPG
variable {R : RS} {K : Int32 → RS → Prop} {tx : Nat → Nat} {n p : Nat} {D : List Sq} {o : Ot}
/-- what comes of the text, in the reference -/
def OtR (R' : RS) (o : Ot) : Prop := (o.1 ≠ 0 ∧ o.1 ≤ 3 ∧ R' 0 49 = ι o.1 ∧ R' 0 50 = ι o.2.1) ∨ (o.1 = 0 ∧ R' 0 49 = 0 ∧ RD R' o.2.2)
theorem rnM_le {m : Mt} : ∀ f p m, (rnM tx n f p m).1 ≤ 3 := by
  intro f
  induction f with
  | zero => intro p m; show 1 ≤ 3; omega
  | succ f ih =>
    intro p m
    rw [rnM]
    split
    · exact tak_le
    · split
      · show 0 ≤ 3; omega
      · exact ih _ _
theorem Jm.le {m : Mt} (j : Jm tx n p m o) : o.1 ≤ 3 := by
  obtain ⟨-, f, -, e⟩ := j
  rw [← e]; exact rnM_le (m := m) f p m
theorem tak_E {q k v : Nat} {c : Sq} (hq : q = 4 ∨ q = 7) (h4 : q = 4 → ¬ (k = 43 ∨ k = 45 ∨ k = 42 ∨ k = 94)) : tak (q, D, c) k v = tkE q D c k := by
  rcases hq with rfl | rfl
  · rw [tak_4]; unfold tkS; rw [if_neg (h4 rfl)]
  · exact tak_7
theorem s_readProgram (h9 : R 0 49 = 0) (t : Rt R tx n) (k : Rk R tx n 0) (j : Jm tx n 0 (0, [], (0, 0, 0, 0)) o) (hd : R 0 38 = ι 0) (h : ∀ R', Fr R R' [33, 34, 35, 36] stK → OtR R' o → K 0 R') : wp_readProgram R K := by
  have o3 := j.le
  have loop : ∀ (r q p : Nat) (D : List Sq) (c0 : Sq) (R1 : RS), D.length + r = 23 → Fr R R1 [33, 34, 35, 36] stK → R1 0 49 = 0 → Rk R1 tx n p → Jm tx n p (q, D, c0) o → Wm (q, D, c0) → q ≤ 1 → ¬ (tkc tx n p = 257 ∧ q = 1) → RD R1 D → wl_readProgram_2 K (r + 2) 1 R1 := by
    intro r
    induction r with
    | zero =>
      intro q p D c0 R1 hr f1 h91 k1 j1 wm hq ne hd1
      have t1 := t.go f1 (by simp) (by simp)
      show wb_readProgram_2 _ _ _ _
      unfold wb_readProgram_2
      refine ⟨fun c => absurd c (by decide), fun _ => ⟨fun c => absurd h91 c, fun _ => s_readStep h91 t1 k1 j1 wm hq ne hd1 (fun R2 f2 st => ?_)⟩⟩
      rcases st with ⟨on, e1, e2⟩ | ⟨p', q', c, -, -, -, w2, q2, -⟩
      · have nz : R2 0 49 ≠ 0 := by
          rw [e1, show (0 : Int32) = ι 0 from rfl]
          intro z
          rw [ι_eq (by omega) (by omega)] at z
          exact on z
        refine s_isSignF nz ⟨fun _ => ?_, fun c => absurd rfl c⟩
        unfold w_readProgram_32
        refine ⟨fun _ => ?_, fun c => absurd rfl c⟩
        show wb_readProgram_2 _ _ _ _
        unfold wb_readProgram_2
        refine ⟨fun _ => ?_, fun c => absurd rfl c⟩
        unfold w_readProgram_52
        exact ⟨fun _ => h R2 (f1.tr f2) (Or.inl ⟨on, o3, e1, e2⟩), fun c => absurd c nz⟩
      · exfalso
        have := (w2.2.2.2.1 (by show 2 ≤ q'; omega)).2.2
        simp only at this
        omega
    | succ r ih =>
      intro q p D c0 R1 hr f1 h91 k1 j1 wm hq ne hd1
      have t1 := t.go f1 (by simp) (by simp)
      show wb_readProgram_2 _ _ _ _
      unfold wb_readProgram_2
      refine ⟨fun c => absurd c (by decide), fun _ => ⟨fun c => absurd h91 c, fun _ => s_readStep h91 t1 k1 j1 wm hq ne hd1 (fun R2 f2 st => ?_)⟩⟩
      have f12 := f1.tr f2
      have t2 := t.go f12 (by simp) (by simp)
      rcases st with ⟨on, e1, e2⟩ | ⟨p', q', c, h92, k2, j2, w2, q2, ns, hd2⟩
      · have nz : R2 0 49 ≠ 0 := by
          rw [e1, show (0 : Int32) = ι 0 from rfl]
          intro z
          rw [ι_eq (by omega) (by omega)] at z
          exact on z
        refine s_isSignF nz ⟨fun _ => ?_, fun c => absurd rfl c⟩
        unfold w_readProgram_32
        refine ⟨fun _ => ?_, fun c => absurd rfl c⟩
        show wb_readProgram_2 _ _ _ _
        unfold wb_readProgram_2
        refine ⟨fun _ => ?_, fun c => absurd rfl c⟩
        unfold w_readProgram_52
        exact ⟨fun _ => h R2 f12 (Or.inl ⟨on, o3, e1, e2⟩), fun c => absurd c nz⟩
      · have tE : tak (q', D, c) (tkc tx n p') (tkv tx n p') = tkE q' D c (tkc tx n p') := tak_E q2 ns
        have kl := kd_le (k := tkc tx n p')
        refine s_isSign0 (x := 59) h92 t2 k2 (by omega) j2.1 (fun e59 => ⟨fun c => absurd c (by decide), fun _ => ?_⟩) (fun n59 => ⟨fun _ => ?_, fun c => absurd rfl c⟩)
        · -- more is to come, or the end
          have e5 : tak (q', D, c) (tkc tx n p') (tkv tx n p') = (0, (1, D ++ [c], (0, 0, 0, 0))) := by rw [tE]; unfold tkE; rw [if_neg (by omega)]
          have j3 := j2.ok e5 (by omega)
          have w3 := w2.ok e5
          refine s_pass0 h92 t2 k2 j2.1 (fun R3 f3 k3 => ?_)
          have f3' : Fr R2 R3 [33, 34, 35, 36] stK := f3.mo (by decide) (by decide)
          have h93 : R3 0 49 = 0 := by rw [f3.2 49 (by simp)]; exact h92
          have hd3 : RD R3 (D ++ [c]) := hd2.od (od_tk f3)
          generalize tke tx n p' = p2 at j3 k3
          have kl2 := kd_le (k := tkc tx n p2)
          unfold w_readProgram_32
          rw [k3.2.2.2, show (0 : Int32) = ι 0 from rfl, ι_eq (by omega) (by omega), kd_0, ← show (0 : Int32) = ι 0 from rfl]
          refine ⟨fun c => absurd c (by decide), fun _ => ⟨fun ee => ?_, fun en => ?_⟩⟩
          · show wb_readProgram_2 _ _ _ _
            unfold wb_readProgram_2
            refine ⟨fun _ => ?_, fun c => absurd rfl c⟩
            unfold w_readProgram_52
            have eo : o = (0, 0, D ++ [c]) := by
              have e6 : tak (1, D ++ [c], (0, 0, 0, 0)) (tkc tx n p2) (tkv tx n p2) = (0, (1, D ++ [c], (0, 0, 0, 0))) := by
                show tkN 1 (D ++ [c]) (0, 0, 0, 0) (tkc tx n p2) = _
                unfold tkN; rw [if_pos ⟨ee, rfl⟩]
              have := (j3.go.2 (by rw [e6])).1 ee
              rw [e6] at this
              exact this
            refine ⟨fun c => absurd h93 c, fun _ => ⟨fun _ => h R3 (f12.tr f3') (Or.inr ⟨by rw [eo], h93, by rw [eo]; exact hd3⟩), fun c => absurd ?_ c⟩⟩
            rw [k3.2.2.2, ee]; rfl
          · refine ih 1 p2 (D ++ [c]) (0, 0, 0, 0) R3 ?_ (f12.tr f3') h93 k3 j3 w3 (Nat.le_refl _) (fun w => en w.1) hd3
            rw [List.length_append, List.length_singleton]; omega
        · unfold w_readProgram_32
          refine ⟨fun _ => ?_, fun c => absurd rfl c⟩
          show wb_readProgram_2 _ _ _ _
          unfold wb_readProgram_2
          refine ⟨fun _ => ?_, fun c => absurd rfl c⟩
          unfold w_readProgram_52
          rw [k2.2.2.2, show ∀ x : Nat, (ι x = (0 : Int32)) = (ι x = ι 0) from fun _ => rfl, ι_eq (by omega) (by omega), kd_0]
          refine ⟨fun c => absurd h92 c, fun _ => ⟨fun ee => ?_, fun en => ?_⟩⟩
          · have e5 : tak (q', D, c) (tkc tx n p') (tkv tx n p') = (0, (1, D ++ [c], (0, 0, 0, 0))) := by rw [tE]; unfold tkE; rw [if_neg (by omega)]
            have eo : o = (0, 0, D ++ [c]) := by
              have := (j2.go.2 (by rw [e5])).1 ee
              rw [e5] at this
              exact this
            exact h R2 f12 (Or.inr ⟨by rw [eo], h92, by rw [eo]; exact hd2⟩)
          · have e5 : tak (q', D, c) (tkc tx n p') (tkv tx n p') = (1, (q', D, c)) := by rw [tE]; unfold tkE; rw [if_pos ⟨n59, en⟩]
            have eo := j2.bad e5 (by omega)
            exact s_wrong0 (f := 1) rfl h92 (h _ (f12.tr (flt_fr.mo (by decide) (by decide))) (Or.inl ⟨by rw [eo]; simp, o3, by rw [flt_49, eo], by rw [flt_50, eo]; exact k2.1⟩))
  have hd0 : RD R [] := ⟨hd, fun s hs => by simp at hs⟩
  exact ⟨23 + 2, loop 23 0 0 [] (0, 0, 0, 0) R (by simp) fr_rf h9 k j wm_0 (by omega) (fun w => by omega) hd0⟩
theorem s_opens {x : Int32} (hx : x = ι n) (hn : n ≤ 200) (hb : ∀ i, i < n → R 42 i = ι (tx i) ∧ tx i < 256) (h : ∀ R', Fr R R' [] [38, 44, 45, 46, 47, 48, 49] → R' 0 49 = 0 → R' 0 38 = ι 0 → Rt R' tx n → Rk R' tx n 0 → K 0 R') : wp_opens x R K := by
  subst hx
  unfold wp_opens
  generalize e : up (up (up (up R 0 44 (ι n)) 0 45 0) 0 49 0) 0 38 0 = R1
  have f1 : Fr R R1 [] [38, 44, 45, 46, 47, 48, 49] := by rw [← e]; exact fr_up (fr_up (fr_up (fr_up fr_rf (by simp)) (by simp)) (by simp)) (by simp)
  have i44 : R1 0 44 = ι n := by rw [← e, upE, if_neg (by omega), upE, if_neg (by omega), upE, if_neg (by omega), upE, if_pos rfl]
  have i45 : R1 0 45 = ι 0 := by rw [← e, upE, if_neg (by omega), upE, if_neg (by omega), upE, if_pos rfl]; rfl
  have i49 : R1 0 49 = 0 := by rw [← e, upE, if_neg (by omega), upE, if_pos rfl]
  have i38 : R1 0 38 = ι 0 := by rw [← e, upE, if_pos rfl]; rfl
  have t1 : Rt R1 tx n := ⟨i44, hn, fun i hi => by rw [f1.1 42 (by omega) (by simp)]; exact hb i hi⟩
  exact s_next t1 (Nat.zero_le _) i45 (fun R2 f2 k2 => h R2 (f1.tr (f2.mo (by decide) (by decide))) (by rw [f2.2 49 (by simp)]; exact i49) (by rw [f2.2 38 (by simp)]; exact i38) (t1.go f2 (by simp) (by simp)) k2)
end RPG
/-! What the steps of a program make; the reference's atoms and steps. -/
def vrP (v : Nat) : Po := [(if v = 0 then 1 else 0, if v = 1 then 1 else 0, if v = 2 then 1 else 0, 1)]
def atP (p : Nat) (f : Nat → Po) (a : Nat) : Po := if a < 100 then cst (a % p) else if a < 103 then vrP (a - 100) else f (a - 103)
noncomputable def stpF (p : Nat) (f : Nat → Po) (c : Sq) : Option Po := if c.2.1 = 94 then pw p (atP p f c.2.2.1) c.2.2.2 else if c.2.1 = 42 then cn p (prF p (atP p f c.2.2.1) (atP p f c.2.2.2)) else if c.2.1 = 0 then some (atP p f c.2.2.1) else cn p (sumF p (if c.2.1 = 43 then 1 else p - 1) (atP p f c.2.2.1) (atP p f c.2.2.2))
def fst1 (f : Nat → Po) (s : Nat) (L : Po) (k : Nat) : Po := if k = s then L else f k
noncomputable def rnP (p : Nat) (D : List Sq) : Nat → Option (Nat → Po)
  | 0 => some (fun _ => [])
  | s + 1 => (rnP p D s).bind (fun f => (stpF p f (sq D s)).map (fst1 f s))
theorem rnP_s {p s : Nat} {D : List Sq} {f : Nat → Po} {L : Po} (h : rnP p D s = some f) (h2 : stpF p f (sq D s) = some L) : rnP p D (s + 1) = some (fst1 f s L) := by rw [rnP, h, Option.bind_some, h2, Option.map_some]
theorem rnP_n {p s : Nat} {D : List Sq} {f : Nat → Po} (h : rnP p D s = some f) (h2 : stpF p f (sq D s) = none) : rnP p D (s + 1) = none := by rw [rnP, h, Option.bind_some, h2, Option.map_none]
theorem rnP_no {p : Nat} {D : List Sq} {s : Nat} (h : rnP p D s = none) : ∀ t, s ≤ t → rnP p D t = none := by
  intro t
  induction t with
  | zero => intro e; rw [show s = 0 by omega] at h; exact h
  | succ t ih =>
    intro e
    by_cases c : s = t + 1
    · rw [← c]; exact h
    · rw [rnP, ih (by omega), Option.bind_none]
theorem vrP_wf {p v : Nat} (hp : 2 ≤ p) : wf p (vrP v) := wf_one ⟨by show (if v = 0 then 1 else 0) ≤ 40; split <;> omega, by show (if v = 1 then 1 else 0) ≤ 40; split <;> omega, by show (if v = 2 then 1 else 0) ≤ 40; split <;> omega⟩ (by show 0 < 1; omega) (by show 1 < p; omega)
theorem atP_wf {p s a : Nat} {f : Nat → Po} (hp : 2 ≤ p) (hf : ∀ k, k < s → wf p (f k)) (ha : a < 103 + s) : wf p (atP p f a) := by
  unfold atP
  split
  · exact cst_wf (Nat.mod_lt _ (by omega))
  · split
    · exact vrP_wf hp
    · exact hf _ (by omega)
theorem stpF_wf {p s : Nat} {f : Nat → Po} {c : Sq} {L : Po} (hp : 2 ≤ p) (hf : ∀ k, k < s → wf p (f k)) (ok : stOk s c) (h : stpF p f c = some L) : wf p L := by
  unfold stpF at h
  split at h
  · exact pw_wf (by omega) h
  split at h
  · exact (cn_can h).1
  split at h
  · cases h
    exact atP_wf hp hf ok.2.1
  · exact (cn_can h).1
section RMS
variable {R : RS} {K : Int32 → RS → Prop} {p s : Nat} {f : Nat → Po} {D : List Sq}
theorem s_atom {x1 x2 : Int32} {to w a : Nat} (h1 : x1 = ι to) (h2 : x2 = ι w) (hto : to = 54 ∨ to = 55) (hw : w < 46) (hpp : PrP p) (h5 : R 35 w = ι (atK a)) (h6 : R 36 w = ι (atV a)) (ha : a < 103 + s) (hs : s ≤ 22) (hf : ∀ k, k < s → wf p (f k)) (hl : ∀ k, k < s → Sl R (29 + k) (f k)) (hG : G0 R p) (h : ∀ R', Fr R R' [2, 3, 4, 5, 6] [7] → Fs R R' [to] → G0 R' p → Sl R' to (atP p f a) → K 0 R') : wp_atom x1 x2 R K := by
  subst h1 h2
  have hp := hpp.le
  unfold wp_atom
  rw [ι_cl (by omega), h5, h6]
  refine ⟨ι_in (by omega) (by omega), fun v1 e => ⟨ι_in (by omega) (by omega), ?_⟩⟩
  subst e
  unfold atP at h
  unfold atK atV
  by_cases c1 : a < 100
  · rw [if_pos c1] at h
    rw [if_pos c1, if_pos c1]
    refine ⟨fun _ => ⟨ι_in (by omega) (by omega), fun _ => ?_, fun c => absurd c (by decide)⟩, fun c => absurd c (by decide)⟩
    rw [hG.1, ι_rem (by omega) (by omega)]
    refine ⟨fun c => ?_, s_number rfl rfl (by omega) (Nat.lt_of_le_of_lt (Nat.mod_le a p) (by omega)) hpp hG (fun R' r1 f1 g1 l1 => h R' r1 f1 g1 ?_)⟩
    · rw [show (0 : Int32) = ι 0 from rfl, ι_eq (by omega) (by omega)] at c; omega
    · rw [Nat.mod_mod] at l1; exact l1
  · rw [if_neg c1] at h
    rw [if_neg c1, if_neg c1]
    by_cases c2 : a < 103
    · rw [if_pos c2] at h
      rw [if_pos c2, if_pos c2]
      have fin : ∀ x y z : Nat, x ≤ 1 → y ≤ 1 → z ≤ 1 → vrP (a - 100) = [(x, y, z, 1)] → w_atom_69 K (ι to) (ι z) (ι y) (ι x) R := fun x y z hx hy hz e => by
        rw [e] at h
        unfold w_atom_69
        refine s_gathers (x := x) (y := y) (z := z) (m := 1) rfl rfl rfl hpp (by omega) (by omega) (by omega) (by omega) (by rw [show (1 : Int32) = ι 1 from rfl, ι_int (by omega)]; exact Cg.nat _ _) (by decide) (by decide) hG (fun R2 r2 g2 => ?_)
        have cc : Can p (adF p (fun _ _ _ => 0) x y z 1) [(x, y, z, 1)] := by
          refine ⟨wf_one ⟨by show x ≤ 40; omega, by show y ≤ 40; omega, by show z ≤ 40; omega⟩ (by show 0 < 1; omega) (by show 1 < p; omega), fun x' y' z' => ?_⟩
          rw [cf_one]
          unfold adF
          by_cases q : x' = x ∧ y' = y ∧ z' = z
          · rw [if_pos q, if_pos ⟨q.1.symm, q.2.1.symm, q.2.2.symm⟩]
            show 1 = (0 + 1) % p
            rw [Nat.mod_eq_of_lt (by omega)]
          · rw [if_neg q, if_neg (fun w => q ⟨w.1.symm, w.2.1.symm, w.2.2.symm⟩)]
        refine s_gathered rfl (by omega) (by omega) hpp g2 (fun R3 r3 f3 g3 => ⟨fun L c l => ?_, fun c => absurd ⟨_, cc⟩ c⟩)
        rw [c.eq cc] at l
        exact h R3 ((r2.mo (by decide) (by decide)).tr (r3.mo (by decide) (by decide))) ((r2.fs [to] (by simp)).tr f3) g3 l
      refine ⟨fun _ => ⟨ι_in (by omega) (by omega), fun c => absurd rfl c, fun _ => ?_⟩, fun c => absurd c (by decide)⟩
      have : a = 100 ∨ a = 101 ∨ a = 102 := by omega
      rcases this with rfl | rfl | rfl
      · refine ⟨fun c => absurd rfl c, fun _ => ?_⟩
        unfold w_atom_49
        refine ⟨fun _ => ?_, fun c => absurd c (by decide)⟩
        unfold w_atom_59
        exact ⟨fun _ => fin 1 0 0 (by omega) (by omega) (by omega) rfl, fun c => absurd c (by decide)⟩
      · refine ⟨fun _ => ?_, fun c => absurd c (by decide)⟩
        unfold w_atom_49
        refine ⟨fun c => absurd rfl c, fun _ => ?_⟩
        unfold w_atom_59
        exact ⟨fun _ => fin 0 1 0 (by omega) (by omega) (by omega) rfl, fun c => absurd c (by decide)⟩
      · refine ⟨fun _ => ?_, fun c => absurd c (by decide)⟩
        unfold w_atom_49
        refine ⟨fun _ => ?_, fun c => absurd c (by decide)⟩
        unfold w_atom_59
        exact ⟨fun c => absurd rfl c, fun _ => fin 0 0 1 (by omega) (by omega) (by omega) rfl⟩
    · rw [if_neg c2] at h
      rw [if_neg c2, if_neg c2]
      refine ⟨fun c => absurd rfl c, fun _ => ?_⟩
      rw [show (29 : Int32) = ι 29 from rfl, ι_add]
      refine s_copy rfl rfl (by omega) (by omega) (by omega) (hf (a - 103) (by omega)).1 (hl (a - 103) (by omega)) (fun R' r1 f1 l1 => h R' (r1.mo (by decide) (by decide)) f1 (hG.fr r1 (by simp) (by simp) (by simp) (by simp)) l1)
abbrev msT (s : Nat) : List Nat := [29 + s, 52, 53, 54, 55]
theorem s_makesStep {x : Int32} (hx : x = ι s) (hs : s < D.length) (hD : DOk D) (hd : RD R D) (hpp : PrP p) (hf : ∀ k, k < s → wf p (f k)) (hl : ∀ k, k < s → Sl R (29 + k) (f k)) (hG : G0 R p) (h : ∀ R', Fr R R' [2, 3, 4, 5, 6] [7] → Fs R R' (msT s) → G0 R' p → (∀ L, stpF p f (sq D s) = some L → Sl R' (29 + s) L → K 1 R') ∧ (stpF p f (sq D s) = none → K 0 R')) : wp_makesStep x R K := by
  subst hx
  have hp := hpp.le
  have d23 := hD.1
  have ok := (hD.2.2 s hs).2
  obtain ⟨-, d2, d3, d4, d5, d6⟩ := hd.2 s hs
  obtain ⟨o1, o2, o3, o4, o5⟩ := ok
  generalize sq D s = c at *
  obtain ⟨nm, sg, l, r⟩ := c
  simp only at d2 d3 d4 d5 d6 o1 o2 o3 o4 o5
  have sle : sg ≤ 94 := by unfold isTwo at o1; omega
  have wl := atP_wf (a := l) hpp.le.1 hf o2
  have mt : ∀ {R1 R2 : RS} {t : Nat}, t ∈ msT s → Fs R1 R2 [t] → Fs R1 R2 (msT s) := fun ht w => w.mo (fun t' h' => by rw [List.mem_singleton] at h'; rw [h']; exact ht)
  unfold wp_makesStep
  rw [show (2 : Int32) = ι 2 from rfl, ι_mul]
  refine s_atom (to := 54) (w := 2 * s) (a := l) (s := s) rfl rfl (by omega) (by omega) hpp d3 d4 o2 (by omega) hf hl hG (fun R1 r1 f1 g1 l1 => ⟨ι_in (by omega) (by omega), ?_⟩)
  have e34 : R1 34 s = ι sg := by rw [r1.1 34 (by omega) (by simp)]; exact d2
  rw [ι_cl (by omega), e34, show (29 : Int32) = ι 29 from rfl, ι_add, show ∀ x : Nat, (ι x = (0 : Int32)) = (ι x = ι 0) from fun _ => rfl, show (94 : Int32) = ι 94 from rfl, ι_eq (by omega) (by omega), ι_eq (by omega) (by omega)]
  have f1' : Fs R R1 (msT s) := mt (by simp) f1
  refine ⟨fun s0 => ?_, fun s0 => ⟨ι_in (by omega) (by omega), fun s94 => ?_, fun n94 => ?_⟩⟩
  · -- no sign
    subst s0
    unfold w_makesStep_45
    rw [ι_cl (by omega), e34]
    refine ⟨ι_in (by omega) (by omega), fun c => absurd c (by decide), fun c => absurd c (by decide), fun c => absurd c (by decide), fun c => absurd c (by decide), fun _ => ?_⟩
    refine s_copy (b := 54) rfl rfl (by omega) (by omega) (by omega) wl.1 l1 (fun R2 r2 f2 l2 => ?_)
    have st : stpF p f (nm, 0, l, r) = some (atP p f l) := rfl
    exact (h R2 (r1.tr (r2.mo (by decide) (by decide))) (f1'.tr (mt (by simp) f2)) (g1.fr r2 (by simp) (by simp) (by simp) (by simp))).1 _ st l2
  · -- a power
    subst s94
    unfold w_makesStep_45
    have e36 : R1 36 (2 * s + 1) = ι r := by rw [r1.1 36 (by omega) (by simp)]; exact d6 rfl
    have r9 := o4 rfl
    rw [ι_cl (by omega), e34, show (2 : Int32) = ι 2 from rfl, show (1 : Int32) = ι 1 from rfl, ι_mul, ι_add, ι_cl (by omega), e36]
    refine ⟨ι_in (by omega) (by omega), fun c => absurd c (by decide), fun c => absurd c (by decide), fun c => absurd c (by decide), fun _ => ⟨ι_in (by omega) (by omega), ?_⟩, fun c => absurd rfl c.2.2.2⟩
    have st : stpF p f (nm, 94, l, r) = pw p (atP p f l) r := rfl
    refine s_power (a := 54) rfl rfl rfl (by omega) (by omega) (by omega) (by omega) hpp wl l1 g1 (fun R2 r2 f2 g2 => ?_)
    have hh := h R2 (r1.tr r2) (f1'.tr (f2.mo (fun t ht => by simp at ht ⊢; omega))) g2
    rw [st] at hh
    exact ⟨fun L e l2 => ⟨Or.inr rfl, hh.1 L e l2⟩, fun e => ⟨Or.inl rfl, hh.2 e⟩⟩
  · have tw : isTwo sg := by unfold isTwo at o1 ⊢; omega
    have d5' := d5 tw
    have wr := atP_wf (a := r) hpp.le.1 hf (o3 tw)
    rw [show (1 : Int32) = ι 1 from rfl, ι_add]
    refine s_atom (to := 55) (w := 2 * s + 1) (a := r) (s := s) rfl rfl (by omega) (by omega) hpp (by rw [r1.1 35 (by omega) (by simp)]; exact d5'.1) (by rw [r1.1 36 (by omega) (by simp)]; exact d5'.2) (o3 tw) (by omega) hf (fun k hk => (hl k hk).go (hf k hk).1 f1 (by simp; omega)) g1 (fun R2 r2 f2 g2 l2 => ?_)
    have e34' : R2 34 s = ι sg := by rw [r2.1 34 (by omega) (by simp)]; exact e34
    have l1' : Sl R2 54 (atP p f l) := l1.go wl.1 f2 (by simp)
    have f2' : Fs R R2 (msT s) := f1'.tr (mt (by simp) f2)
    unfold w_makesStep_45
    rw [ι_cl (by omega), e34', show (42 : Int32) = ι 42 from rfl, show (43 : Int32) = ι 43 from rfl, show (45 : Int32) = ι 45 from rfl, show (94 : Int32) = ι 94 from rfl, ι_eq (by omega) (by omega), ι_eq (by omega) (by omega), ι_eq (by omega) (by omega), ι_eq (by omega) (by omega)]
    refine ⟨ι_in (by omega) (by omega), fun c => ?_, fun c => ?_, fun c => ?_, fun c => absurd c n94, fun c => ?_⟩
    · have st : stpF p f (nm, sg, l, r) = cn p (prF p (atP p f l) (atP p f r)) := by unfold stpF; rw [if_neg n94, if_pos c]
      refine s_product (a := 54) (b := 55) rfl rfl rfl (by omega) (by omega) (by omega) hpp wl wr l1' l2 g2 (fun R3 r3 f3 g3 => ?_)
      have hh := h R3 ((r1.tr r2).tr r3) (f2'.tr (mt (by simp) f3)) g3
      rw [st] at hh
      exact ⟨fun L e l2 => ⟨Or.inr rfl, hh.1 L (cn_some e) l2⟩, fun e => ⟨Or.inl rfl, hh.2 (cn_none e)⟩⟩
    · have st : stpF p f (nm, sg, l, r) = cn p (sumF p 1 (atP p f l) (atP p f r)) := by unfold stpF; simp only; rw [if_neg n94, if_neg (by omega), if_neg s0, if_pos c]
      refine s_sum (m := 1) (a := 54) (b := 55) rfl rfl rfl (by omega) (by omega) (by omega) hpp wl wr l1' l2 (fun n hn => ?_) g2 (fun R3 r3 f3 g3 => ?_)
      · rw [show (1 : Int32) = ι 1 from rfl, ι_mul, ι_int (by omega)]
        exact ⟨Cg.nat p (1 * n), by omega, by omega⟩
      · have hh := h R3 ((r1.tr r2).tr r3) (f2'.tr (mt (by simp) f3)) g3
        rw [st] at hh
        exact ⟨fun L e l2 => ⟨Or.inr rfl, hh.1 L (cn_some e) l2⟩, fun e => ⟨Or.inl rfl, hh.2 (cn_none e)⟩⟩
    · have st : stpF p f (nm, sg, l, r) = cn p (sumF p (p - 1) (atP p f l) (atP p f r)) := by unfold stpF; simp only; rw [if_neg n94, if_neg (by omega), if_neg s0, if_neg (by omega)]
      refine s_sum (m := p - 1) (a := 54) (b := 55) rfl rfl rfl (by omega) (by omega) (by omega) hpp wl wr l1' l2 (fun n hn => ?_) g2 (fun R3 r3 f3 g3 => ?_)
      · have en : ((-1 : Int32) * ι n).toInt = -(n : Int) := by
          rw [Int32.toInt_mul, ι_int (by omega), ι_neg1, Int.bmod_eq_of_le (by omega) (by omega)]
          omega
        rw [en]
        exact ⟨Cg.neg (by omega), by omega, by omega⟩
      · have hh := h R3 ((r1.tr r2).tr r3) (f2'.tr (mt (by simp) f3)) g3
        rw [st] at hh
        exact ⟨fun L e l2 => ⟨Or.inr rfl, hh.1 L (cn_some e) l2⟩, fun e => ⟨Or.inl rfl, hh.2 (cn_none e)⟩⟩
    · exact absurd tw (by unfold isTwo; omega)
end RMS
/-! The reference: all steps are made, the program is taken. -/
def slR (a m : Nat) : List Nat := List.range' a m
theorem slR_mem {a m t : Nat} : t ∈ slR a m ↔ a ≤ t ∧ t < a + m := by unfold slR; rw [List.mem_range'_1]
def mkQ (D : List Sq) (f : Nat → Po) : List Sp := (List.range D.length).map (fun s => ((sq D s).1, (sq D s).2.1, (sq D s).2.2.1, (sq D s).2.2.2, f s))
theorem mkQ_len {D : List Sq} {f : Nat → Po} : (mkQ D f).length = D.length := by unfold mkQ; rw [List.length_map, List.length_range]
theorem stp_mkQ {D : List Sq} {f : Nat → Po} {s : Nat} (h : s < D.length) : stp (mkQ D f) s = ((sq D s).1, (sq D s).2.1, (sq D s).2.2.1, (sq D s).2.2.2, f s) := by
  unfold stp mkQ
  rw [List.getD_eq_getElem?_getD, List.getElem?_map, List.getElem?_range h]
  rfl
theorem rnP_wf {p : Nat} {D : List Sq} (hp : 2 ≤ p) (hD : DOk D) : ∀ (s : Nat) (f : Nat → Po), s ≤ D.length → rnP p D s = some f → ∀ k, k < s → wf p (f k) := by
  intro s
  induction s with
  | zero => intro f _ _ k hk; omega
  | succ s ih =>
    intro f hs e k hk
    rw [rnP] at e
    cases g : rnP p D s with
    | none => rw [g, Option.bind_none] at e; cases e
    | some f0 =>
      rw [g, Option.bind_some] at e
      cases g2 : stpF p f0 (sq D s) with
      | none => rw [g2, Option.map_none] at e; cases e
      | some L =>
        rw [g2, Option.map_some] at e
        cases e
        have w0 := ih f0 (by omega) g
        unfold fst1
        by_cases c : k = s
        · rw [if_pos c]; exact stpF_wf hp w0 (hD.2.2 s (by omega)).2 g2
        · rw [if_neg c]; exact w0 k (by omega)
section RMA
variable {R : RS} {K : Int32 → RS → Prop} {p : Nat} {f : Nat → Po} {D : List Sq}
theorem s_makeAll {x1 : Int32} (hD : DOk D) (hd : RD R D) (hpp : PrP p) (hG : G0 R p) (h1 : ∀ R' f, rnP p D D.length = some f → Fr R R' [2, 3, 4, 5, 6] [7] → Fs R R' (slR 29 27) → G0 R' p → (∀ k, k < D.length → Sl R' (29 + k) (f k)) → wp_takesProgram R' (fun r1 R1 => wp_become x1 ((6 + (R1 0 37)) - 1) R1 (fun r2 R2 => K r2 R2))) (h2 : ∀ R', rnP p D D.length = none → Fr R R' [2, 3, 4, 5, 6] [7] → Fs R R' (slR 29 27) → G0 R' p → K (-2) R') : ∃ nn, wl_tell_80 K nn x1 0 R := by
  have hp := hpp.le
  have d23 := hD.1
  have loop : ∀ (r s : Nat) (f : Nat → Po) (R1 : RS), s + r = D.length → rnP p D s = some f → Fr R R1 [2, 3, 4, 5, 6] [7] → Fs R R1 (slR 29 27) → G0 R1 p → (∀ k, k < s → Sl R1 (29 + k) (f k)) → wl_tell_80 K (r + 1) x1 (ι s) R1 := by
    intro r
    induction r with
    | zero =>
      intro s f R1 hs e r1 f1 g1 l1
      have es : s = D.length := by omega
      subst es
      show wb_tell_80 _ _ _ _ _
      unfold wb_tell_80
      rw [r1.2 38 (by simp), hd.1]
      exact ⟨fun _ => h1 R1 f e r1 f1 g1 l1, fun c => absurd (by rw [ι_le (by omega) (by omega)]; omega) c⟩
    | succ r ih =>
      intro s f R1 hs e r1 f1 g1 l1
      have wf1 := rnP_wf hpp.le.1 hD s f (by omega) e
      have hd1 : RD R1 D := by
        refine ⟨by rw [r1.2 38 (by simp)]; exact hd.1, fun s hs => ?_⟩
        rw [r1.1 33 (by omega) (by simp), r1.1 34 (by omega) (by simp), r1.1 35 (by omega) (by simp), r1.1 36 (by omega) (by simp)]
        exact hd.2 s hs
      show wb_tell_80 _ _ _ _ _
      unfold wb_tell_80
      rw [r1.2 38 (by simp), hd.1]
      refine ⟨fun c => absurd c (by rw [ι_le (by omega) (by omega)]; omega), fun _ => ?_⟩
      refine s_makesStep rfl (by omega) hD hd1 hpp wf1 l1 g1 (fun R2 r2 f2 g2 => ?_)
      have f2' : Fs R1 R2 (slR 29 27) := f2.mo (fun t ht => by rw [slR_mem]; simp at ht; omega)
      refine ⟨fun L eL l2 => ⟨fun _ => ?_, fun c => absurd c (by decide)⟩, fun eN => ⟨fun c => absurd rfl c, fun _ => h2 R2 (rnP_no (rnP_n e eN) _ (by omega)) (r1.tr r2) (f1.tr f2') g2⟩⟩
      rw [show (1 : Int32) = ι 1 from rfl, ι_add]
      refine ih (s + 1) (fst1 f s L) R2 (by omega) (rnP_s e eL) (r1.tr r2) (f1.tr f2') g2 (fun k hk => ?_)
      unfold fst1
      by_cases c : k = s
      · rw [if_pos c, c]; exact l2
      · rw [if_neg c]
        exact (l1 k (by omega)).go (wf1 k (by omega)).1 f2 (by simp; omega)
  exact ⟨D.length + 1, loop D.length 0 (fun _ => []) R (by omega) rfl fr_rf (Fs.rf _ _) hG (fun k hk => by omega)⟩
theorem s_takes (d23 : D.length ≤ 23) (hd : RD R D) (hf : ∀ k, k < D.length → (f k).length ≤ 300) (hl : ∀ k, k < D.length → Sl R (29 + k) (f k)) (h : ∀ R', Fr R R' [2, 3, 4, 29, 30, 31, 32] [37] → Fs R R' (slR 6 23) → RPg R' (mkQ D f) → K 0 R') : wp_takesProgram R K := by
  -- the atoms
  have loop2 : ∀ (r k : Nat) (R1 : RS), k + r = 2 * D.length → Fr R R1 [2, 3, 4, 29, 30, 31, 32] [37] → Fs R R1 (slR 6 23) → R1 0 37 = ι D.length → (∀ s, s < D.length → R1 29 s = R 33 s ∧ R1 30 s = R 34 s ∧ Sl R1 (6 + s) (f s)) → (∀ j, j < k → R1 31 j = R 35 j ∧ R1 32 j = R 36 j) → wl_takesProgram_62 K (r + 1) (ι k) R1 := by
    intro r
    induction r with
    | zero =>
      intro k R1 hk r1 f1 i37 c1 a1
      show wb_takesProgram_62 _ _ _ _
      unfold wb_takesProgram_62
      rw [i37, show (2 : Int32) = ι 2 from rfl, ι_mul, ι_le (by omega) (by omega)]
      refine ⟨fun _ => h R1 r1 f1 ⟨by rw [mkQ_len]; exact i37, fun s hs => ?_⟩, fun c => absurd (by omega) c⟩
      rw [mkQ_len] at hs
      rw [stp_mkQ hs]
      simp only
      obtain ⟨u1, u2, u3, u4, u5, u6⟩ := hd.2 s hs
      obtain ⟨w1, w2, w3⟩ := c1 s hs
      have x0 := a1 (2 * s) (by omega)
      have x1 := a1 (2 * s + 1) (by omega)
      rw [w1, w2, x0.1, x0.2, x1.1, x1.2]
      exact ⟨w3, u1, u2, u3, u4, u5, u6⟩
    | succ r ih =>
      intro k R1 hk r1 f1 i37 c1 a1
      show wb_takesProgram_62 _ _ _ _
      unfold wb_takesProgram_62
      have v46 : vp_in (ι k) 46 := ι_in (by omega) (by omega)
      rw [i37, show (2 : Int32) = ι 2 from rfl, ι_mul, ι_le (by omega) (by omega), ι_cl (by omega), show (1 : Int32) = ι 1 from rfl, ι_add]
      refine ⟨fun c => absurd c (by omega), fun _ => ⟨v46, v46, v46, v46, ?_⟩⟩
      refine ih (k + 1) _ (by omega) ((r1.w (by simp) (by omega)).w (by simp) (by omega)) (f1.tr (Fs.eq (by rw [upN (by omega), upN (by omega)]) (by rw [upN (by omega), upN (by omega)]) (by rw [upN (by omega), upN (by omega)]))) ?_ (fun s hs => ?_) (fun j hj => ?_)
      · rw [upN (by omega), upN (by omega)]; exact i37
      · rw [upN (by omega), upN (by omega), upN (by omega), upN (by omega)]
        refine ⟨(c1 s hs).1, (c1 s hs).2.1, ?_⟩
        have := (c1 s hs).2.2
        unfold Sl at this ⊢
        rw [upN (by omega), upN (by omega), upN (by omega), upN (by omega), upN (by omega), upN (by omega)]
        exact this
      · have q1 : (up (up R1 31 k (R1 35 k)) 32 k ((up R1 31 k (R1 35 k)) 36 k)) 31 j = if j = k then R1 35 k else R1 31 j := by rw [upN (by omega), upE]
        have q2 : (up (up R1 31 k (R1 35 k)) 32 k ((up R1 31 k (R1 35 k)) 36 k)) 32 j = if j = k then R1 36 k else R1 32 j := by
          have e1 : (up R1 31 k (R1 35 k)) 36 = R1 36 := upN (by omega)
          have e2 : (up R1 31 k (R1 35 k)) 32 = R1 32 := upN (by omega)
          rw [upE, e1, e2]
        rw [q1, q2]
        by_cases c : j = k
        · rw [if_pos c, if_pos c, c]
          exact ⟨by rw [r1.1 35 (by omega) (by simp)], by rw [r1.1 36 (by omega) (by simp)]⟩
        · rw [if_neg c, if_neg c]; exact a1 j (by omega)
  have loop : ∀ (r s : Nat) (R1 : RS), s + r = D.length → Fr R R1 [2, 3, 4, 29, 30, 31, 32] [37] → Fs R R1 (slR 6 23) → R1 0 37 = ι D.length → (∀ k, k < s → R1 29 k = R 33 k ∧ R1 30 k = R 34 k ∧ Sl R1 (6 + k) (f k)) → wl_takesProgram_10 K (r + 1) (ι s) R1 := by
    intro r
    induction r with
    | zero =>
      intro s R1 hs r1 f1 i37 c1
      show wb_takesProgram_10 _ _ _ _
      unfold wb_takesProgram_10
      rw [i37, ι_le (by omega) (by omega)]
      exact ⟨fun _ => ⟨2 * D.length + 1, loop2 (2 * D.length) 0 R1 (by omega) r1 f1 i37 (fun k hk => c1 k (by omega)) (fun j hj => by omega)⟩, fun c => absurd (by omega) c⟩
    | succ r ih =>
      intro s R1 hs r1 f1 i37 c1
      show wb_takesProgram_10 _ _ _ _
      unfold wb_takesProgram_10
      have v23 : vp_in (ι s) 23 := ι_in (by omega) (by omega)
      rw [i37, ι_le (by omega) (by omega), ι_cl (by omega), show (6 : Int32) = ι 6 from rfl, show (29 : Int32) = ι 29 from rfl, ι_add, ι_add, show (1 : Int32) = ι 1 from rfl, ι_add]
      refine ⟨fun c => absurd c (by omega), fun _ => ⟨v23, v23, v23, v23, ?_⟩⟩
      have l29 : Sl R1 (29 + s) (f s) := (hl s (by omega)).go (hf s (by omega)) f1 (by rw [slR_mem]; omega)
      generalize e : up (up R1 29 s (R1 33 s)) 30 s ((up R1 29 s (R1 33 s)) 34 s) = R2
      have r2 : Fr R1 R2 [2, 3, 4, 29, 30, 31, 32] [37] := by rw [← e]; exact (((Fr.rf R1 _ _).w (by simp) (by omega)).w (by simp) (by omega))
      have n2 : R2 2 = R1 2 ∧ R2 3 = R1 3 ∧ R2 4 = R1 4 := by rw [← e]; exact ⟨by rw [upN (by omega), upN (by omega)], by rw [upN (by omega), upN (by omega)], by rw [upN (by omega), upN (by omega)]⟩
      have f2 : Fs R1 R2 (slR 6 23) := Fs.eq n2.1 n2.2.1 n2.2.2
      have l2 : Sl R2 (29 + s) (f s) := by unfold Sl at l29 ⊢; rw [n2.1, n2.2.1, n2.2.2]; exact l29
      refine s_copy rfl rfl (by omega) (by omega) (by omega) (hf s (by omega)) l2 (fun R3 r3 f3 l3 => ?_)
      have f3' : Fs R2 R3 (slR 6 23) := f3.mo (fun t ht => by rw [slR_mem]; simp at ht; omega)
      refine ih (s + 1) R3 (by omega) ((r1.tr r2).tr (r3.mo (by decide) (by decide))) ((f1.tr f2).tr f3') ?_ (fun k hk => ?_)
      · rw [r3.2 37 (by simp), ← e, upN (by omega), upN (by omega)]; exact i37
      · rw [r3.1 29 (by omega) (by simp), r3.1 30 (by omega) (by simp)]
        have e29 : R2 29 k = if k = s then R1 33 s else R1 29 k := by rw [← e, upN (by omega), upE]
        have e30 : R2 30 k = if k = s then R1 34 s else R1 30 k := by
          have e1 : (up R1 29 s (R1 33 s)) 34 = R1 34 := upN (by omega)
          have e2 : (up R1 29 s (R1 33 s)) 30 = R1 30 := upN (by omega)
          rw [← e, upE, e1, e2]
        rw [e29, e30]
        by_cases c : k = s
        · rw [if_pos c, if_pos c, c]
          exact ⟨by rw [r1.1 33 (by omega) (by simp)], by rw [r1.1 34 (by omega) (by simp)], l3⟩
        · rw [if_neg c, if_neg c]
          refine ⟨(c1 k (by omega)).1, (c1 k (by omega)).2.1, ?_⟩
          have l6 : Sl R2 (6 + k) (f k) := by
            have := (c1 k (by omega)).2.2
            unfold Sl at this ⊢; rw [n2.1, n2.2.1, n2.2.2]; exact this
          exact l6.go (hf k (by omega)) f3 (by simp; omega)
  unfold wp_takesProgram
  refine ⟨D.length + 1, loop D.length 0 _ (by omega) ((Fr.rf R _ _).w0 (by simp)) (Fs.eq (upN (by omega)) (upN (by omega)) (upN (by omega))) ?_ (fun k hk => by omega)⟩
  rw [upE, if_pos rfl]; exact hd.1
end RMA
