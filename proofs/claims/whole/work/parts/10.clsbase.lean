/-! The class's heap, as functions of addresses: hI (numbers in fields and rows), hP (references in fields and rows), hT (what lies there: 0 nothing of ours, c + 1 an object of class c, 21 int[], 22 byte[], 23 Poly[]), hN (length of a row), hX (size of the heap), hS (slots in it). -/
abbrev HS : Type := (Nat → Nat → Int32) × (Nat → Nat → Option Nat) × (Nat → Nat) × (Nat → Nat) × Nat × Nat
abbrev hI (S : HS) : Nat → Nat → Int32 := S.1
abbrev hP (S : HS) : Nat → Nat → Option Nat := S.2.1
abbrev hT (S : HS) : Nat → Nat := S.2.2.1
abbrev hN (S : HS) : Nat → Nat := S.2.2.2.1
abbrev hX (S : HS) : Nat := S.2.2.2.2.1
abbrev hS (S : HS) : Nat := S.2.2.2.2.2
def ud {α : Type} (f : Nat → Nat → α) (a k : Nat) (v : α) : Nat → Nat → α := fun b => if b = a then va_up (f a) k v else f b
theorem ud_ne {α : Type} (f : Nat → Nat → α) {a b : Nat} (k : Nat) (v : α) (h : ¬ b = a) : ud f a k v b = f b := by simp [ud, h]
theorem ud_self {α : Type} (f : Nat → Nat → α) (a k : Nat) (v : α) : ud f a k v a = va_up (f a) k v := by simp [ud]
theorem up_upd (f : Nat → Int32) (k : Nat) (v : Int32) : va_up f k v = upd f k v := rfl
/-- a number, a reference is written; an object, a row of n places is made (tag t) -/
def sI (S : HS) (a k : Nat) (v : Int32) : HS := (ud (hI S) a k v, hP S, hT S, hN S, hX S, hS S)
def sP (S : HS) (a k : Nat) (r : Option Nat) : HS := (hI S, ud (hP S) a k r, hT S, hN S, hX S, hS S)
def sR (S : HS) (a : Nat) (f : Nat → Int32) : HS := (va_up (hI S) a f, hP S, hT S, hN S, hX S, hS S)
def nO (S : HS) (t n : Nat) : HS := (va_up (hI S) (hX S) (fun _ => 0), va_up (hP S) (hX S) (fun _ => none), va_up (hT S) (hX S) t, va_up (hN S) (hX S) n, hX S + 1, hS S + n)
/-- the machine's tables as the class sees them: classes, rows of int, byte, Poly; the most cells and slots; where the two static rows lie -/
abbrev CG : Type := va_G × ClassId × ClassId × ClassId × Nat × Nat × Nat × Nat
abbrev gD (G : CG) : va_G := G.1
abbrev gI (G : CG) : ClassId := G.2.1
abbrev gB (G : CG) : ClassId := G.2.2.1
abbrev gP (G : CG) : ClassId := G.2.2.2.1
abbrev gC (G : CG) : Nat := G.2.2.2.2.1
abbrev gS (G : CG) : Nat := G.2.2.2.2.2.1
abbrev gZ (G : CG) : Nat := G.2.2.2.2.2.2.1
abbrev gU (G : CG) : Nat := G.2.2.2.2.2.2.2
def kd (c : Nat) : List Bool := match c with
  | 0 => [false, false, true, true]
  | 1 => [true, false, true]
  | 2 => [true, false, true, true, true, true, true, true, true, false, true, true, false, true]
  | 3 => [false, false, false, false, false, false]
  | 4 => [true]
  | 5 => [true, true, false, false]
  | 6 => [true, true, false, false]
  | 7 => [false, true, true, true, true, true, true, true, true, true]
  | 8 => [false, true, false, true, true, false, false, false, false]
  | 9 => [false, true, true, true, true, true, true, true, true]
  | 10 => [false, true]
  | 11 => [true, true, true, true, true, true, true, true, true, false, false, true]
  | 12 => [false, false, true, true, true, true, true, false, true, true, true, true, true, false, true, true, true, true, true, true, true, true, false, false, false, false, true, true, false, true, true, true, true, true, true, true, true, false, false, true, true, true, true, false, false, false, false, false, false, false, false, false]
  | _ => []
def fl (c : Nat) (i : Nat → Int32) (p : Nat → Option Nat) : List Value := (List.range (kd c).length).map (fun k => if (kd c)[k]? = some true then va_rf (p k) else .int (i k))
theorem fl_len (c : Nat) (i : Nat → Int32) (p : Nat → Option Nat) : (fl c i p).length = (kd c).length := by simp [fl]
theorem fl_at {c k : Nat} (hk : k < (kd c).length) (i : Nat → Int32) (p : Nat → Option Nat) : (fl c i p)[k]? = some (if (kd c)[k]? = some true then va_rf (p k) else .int (i k)) := by
  simp [fl, List.getElem?_map, List.getElem?_range hk]
theorem fl_setI {c k : Nat} (hk : k < (kd c).length) (hb : (kd c)[k]? = some false) (i : Nat → Int32) (p : Nat → Option Nat) (v : Int32) : (fl c i p).set k (.int v) = fl c (va_up i k v) p := by
  apply List.ext_getElem?
  intro j
  by_cases hj : j < (kd c).length
  · by_cases e : j = k
    · subst e
      rw [List.getElem?_set_self (by rw [fl_len]; exact hj), fl_at hj, hb]
      simp [va_up]
    · rw [List.getElem?_set_ne (fun z => e z.symm), fl_at hj, fl_at hj]
      simp [va_up, e]
  · rw [List.getElem?_eq_none (by rw [List.length_set, fl_len]; omega), List.getElem?_eq_none (by rw [fl_len]; omega)]
theorem fl_setP {c k : Nat} (hk : k < (kd c).length) (hb : (kd c)[k]? = some true) (i : Nat → Int32) (p : Nat → Option Nat) (r : Option Nat) : (fl c i p).set k (va_rf r) = fl c i (va_up p k r) := by
  apply List.ext_getElem?
  intro j
  by_cases hj : j < (kd c).length
  · by_cases e : j = k
    · subst e
      rw [List.getElem?_set_self (by rw [fl_len]; exact hj), fl_at hj, hb]
      simp [va_up]
    · rw [List.getElem?_set_ne (fun z => e z.symm), fl_at hj, fl_at hj]
      simp [va_up, e]
  · rw [List.getElem?_eq_none (by rw [List.length_set, fl_len]; omega), List.getElem?_eq_none (by rw [fl_len]; omega)]
def cE (G : CG) (S : HS) (a : Nat) : va_E := if hT S a = 21 then .inl (gI G, hN S a, .inl (hI S a)) else if hT S a = 22 then .inl (gB G, hN S a, .inl (hI S a)) else if hT S a = 23 then .inl (gP G, hN S a, .inr (.inr (.inr (.inr (hP S a))))) else .inr (hT S a - 1, fl (hT S a - 1) (hI S a) (hP S a))
theorem cE_i {G : CG} {S : HS} {a : Nat} (h : hT S a = 21) : cE G S a = .inl (gI G, hN S a, .inl (hI S a)) := by simp only [cE, h, if_pos]
theorem cE_b {G : CG} {S : HS} {a : Nat} (h : hT S a = 22) : cE G S a = .inl (gB G, hN S a, .inl (hI S a)) := by simp [cE, h]
theorem cE_p {G : CG} {S : HS} {a : Nat} (h : hT S a = 23) : cE G S a = .inl (gP G, hN S a, .inr (.inr (.inr (.inr (hP S a))))) := by simp [cE, h]
theorem cE_o {G : CG} {S : HS} {a c : Nat} (h : hT S a = c + 1) (hc : c < 20) : cE G S a = .inr (c, fl c (hI S a) (hP S a)) := by
  simp only [cE, h]
  rw [if_neg (by omega), if_neg (by omega), if_neg (by omega)]
  rfl
theorem cE_off {G : CG} {S S' : HS} {b : Nat} (h1 : hT S' b = hT S b) (h2 : hN S' b = hN S b) (h3 : hI S' b = hI S b) (h4 : hP S' b = hP S b) : cE G S' b = cE G S b := by simp only [cE, h1, h2, h3, h4]
/-- what a class of the tables is -/
def cInf (ci : Nat) (C : String) (T : u_T) (N : Nat) (ty : Nat → FieldType) : Prop := cls[ci]? = some (C, T, N) ∧ (∀ w ∈ u_ws C T N, w ∈ lw_good) ∧ (∀ k, k < N → parseFieldDescriptor (T k).2.2.1 = some (ty k)) ∧ (∀ a, a < N → ∀ b, b < N → a ≠ b → (T a).2.1 ≠ (T b).2.1) ∧ (kd ci).length = N
theorem inX0 : ∀ w ∈ u_ws RX0 TX0 4, w ∈ lw_good := by
  have h : u_ws RX0 TX0 4 = [420, 422, 424, 426].filterMap (fun i => lw_tbl[i]?) := by decide +kernel
  have h2 : (u_ws RX0 TX0 4).all goodWord = true := by decide +kernel
  intro w hw
  have h3 := List.all_eq_true.mp h2 w hw
  rw [h] at hw
  obtain ⟨i, -, hi⟩ := List.mem_filterMap.mp hw
  exact List.mem_filter.mpr ⟨List.mem_of_getElem? hi, h3⟩
theorem ciX0 : cInf 0 RX0 TX0 4 tyX0 := ⟨rfl, inX0, tyX0_ok, nmX0, rfl⟩
theorem inX1 : ∀ w ∈ u_ws RX1 TX1 3, w ∈ lw_good := by
  have h : u_ws RX1 TX1 3 = [228, 230, 232].filterMap (fun i => lw_tbl[i]?) := by decide +kernel
  have h2 : (u_ws RX1 TX1 3).all goodWord = true := by decide +kernel
  intro w hw
  have h3 := List.all_eq_true.mp h2 w hw
  rw [h] at hw
  obtain ⟨i, -, hi⟩ := List.mem_filterMap.mp hw
  exact List.mem_filter.mpr ⟨List.mem_of_getElem? hi, h3⟩
theorem ciX1 : cInf 1 RX1 TX1 3 tyX1 := ⟨rfl, inX1, tyX1_ok, nmX1, rfl⟩
theorem inX2 : ∀ w ∈ u_ws RX2 TX2 14, w ∈ lw_good := by
  have h : u_ws RX2 TX2 14 = [353, 355, 357, 359, 361, 363, 365, 367, 369, 371, 373, 375, 377, 379].filterMap (fun i => lw_tbl[i]?) := by decide +kernel
  have h2 : (u_ws RX2 TX2 14).all goodWord = true := by decide +kernel
  intro w hw
  have h3 := List.all_eq_true.mp h2 w hw
  rw [h] at hw
  obtain ⟨i, -, hi⟩ := List.mem_filterMap.mp hw
  exact List.mem_filter.mpr ⟨List.mem_of_getElem? hi, h3⟩
theorem ciX2 : cInf 2 RX2 TX2 14 tyX2 := ⟨rfl, inX2, tyX2_ok, nmX2, rfl⟩
theorem inX3 : ∀ w ∈ u_ws RX3 TX3 6, w ∈ lw_good := by
  have h : u_ws RX3 TX3 6 = [324, 326, 328, 330, 332, 334].filterMap (fun i => lw_tbl[i]?) := by decide +kernel
  have h2 : (u_ws RX3 TX3 6).all goodWord = true := by decide +kernel
  intro w hw
  have h3 := List.all_eq_true.mp h2 w hw
  rw [h] at hw
  obtain ⟨i, -, hi⟩ := List.mem_filterMap.mp hw
  exact List.mem_filter.mpr ⟨List.mem_of_getElem? hi, h3⟩
theorem ciX3 : cInf 3 RX3 TX3 6 tyX3 := ⟨rfl, inX3, tyX3_ok, nmX3, rfl⟩
theorem inX4 : ∀ w ∈ u_ws RX4 TX4 1, w ∈ lw_good := by
  have h : u_ws RX4 TX4 1 = [389].filterMap (fun i => lw_tbl[i]?) := by decide +kernel
  have h2 : (u_ws RX4 TX4 1).all goodWord = true := by decide +kernel
  intro w hw
  have h3 := List.all_eq_true.mp h2 w hw
  rw [h] at hw
  obtain ⟨i, -, hi⟩ := List.mem_filterMap.mp hw
  exact List.mem_filter.mpr ⟨List.mem_of_getElem? hi, h3⟩
theorem ciX4 : cInf 4 RX4 TX4 1 tyX4 := ⟨rfl, inX4, tyX4_ok, nmX4, rfl⟩
theorem inX5 : ∀ w ∈ u_ws RX5 TX5 4, w ∈ lw_good := by
  have h : u_ws RX5 TX5 4 = [275, 277, 279, 281].filterMap (fun i => lw_tbl[i]?) := by decide +kernel
  have h2 : (u_ws RX5 TX5 4).all goodWord = true := by decide +kernel
  intro w hw
  have h3 := List.all_eq_true.mp h2 w hw
  rw [h] at hw
  obtain ⟨i, -, hi⟩ := List.mem_filterMap.mp hw
  exact List.mem_filter.mpr ⟨List.mem_of_getElem? hi, h3⟩
theorem ciX5 : cInf 5 RX5 TX5 4 tyX5 := ⟨rfl, inX5, tyX5_ok, nmX5, rfl⟩
theorem inX6 : ∀ w ∈ u_ws RX6 TX6 4, w ∈ lw_good := by
  have h : u_ws RX6 TX6 4 = [197, 199, 201, 203].filterMap (fun i => lw_tbl[i]?) := by decide +kernel
  have h2 : (u_ws RX6 TX6 4).all goodWord = true := by decide +kernel
  intro w hw
  have h3 := List.all_eq_true.mp h2 w hw
  rw [h] at hw
  obtain ⟨i, -, hi⟩ := List.mem_filterMap.mp hw
  exact List.mem_filter.mpr ⟨List.mem_of_getElem? hi, h3⟩
theorem ciX6 : cInf 6 RX6 TX6 4 tyX6 := ⟨rfl, inX6, tyX6_ok, nmX6, rfl⟩
theorem inX7 : ∀ w ∈ u_ws RX7 TX7 10, w ∈ lw_good := by
  have h : u_ws RX7 TX7 10 = [1134, 1136, 1138, 1140, 1142, 1144, 1146, 1148, 1150, 1152].filterMap (fun i => lw_tbl[i]?) := by decide +kernel
  have h2 : (u_ws RX7 TX7 10).all goodWord = true := by decide +kernel
  intro w hw
  have h3 := List.all_eq_true.mp h2 w hw
  rw [h] at hw
  obtain ⟨i, -, hi⟩ := List.mem_filterMap.mp hw
  exact List.mem_filter.mpr ⟨List.mem_of_getElem? hi, h3⟩
theorem ciX7 : cInf 7 RX7 TX7 10 tyX7 := ⟨rfl, inX7, tyX7_ok, nmX7, rfl⟩
theorem inX8 : ∀ w ∈ u_ws RX8 TX8 9, w ∈ lw_good := by
  have h : u_ws RX8 TX8 9 = [1172, 1174, 1176, 1178, 1180, 1182, 1184, 1186, 1188].filterMap (fun i => lw_tbl[i]?) := by decide +kernel
  have h2 : (u_ws RX8 TX8 9).all goodWord = true := by decide +kernel
  intro w hw
  have h3 := List.all_eq_true.mp h2 w hw
  rw [h] at hw
  obtain ⟨i, -, hi⟩ := List.mem_filterMap.mp hw
  exact List.mem_filter.mpr ⟨List.mem_of_getElem? hi, h3⟩
theorem ciX8 : cInf 8 RX8 TX8 9 tyX8 := ⟨rfl, inX8, tyX8_ok, nmX8, rfl⟩
theorem inX9 : ∀ w ∈ u_ws RX9 TX9 9, w ∈ lw_good := by
  have h : u_ws RX9 TX9 9 = [246, 248, 250, 252, 254, 256, 258, 260, 262].filterMap (fun i => lw_tbl[i]?) := by decide +kernel
  have h2 : (u_ws RX9 TX9 9).all goodWord = true := by decide +kernel
  intro w hw
  have h3 := List.all_eq_true.mp h2 w hw
  rw [h] at hw
  obtain ⟨i, -, hi⟩ := List.mem_filterMap.mp hw
  exact List.mem_filter.mpr ⟨List.mem_of_getElem? hi, h3⟩
theorem ciX9 : cInf 9 RX9 TX9 9 tyX9 := ⟨rfl, inX9, tyX9_ok, nmX9, rfl⟩
theorem inX10 : ∀ w ∈ u_ws RX10 TX10 2, w ∈ lw_good := by
  have h : u_ws RX10 TX10 2 = [402, 404].filterMap (fun i => lw_tbl[i]?) := by decide +kernel
  have h2 : (u_ws RX10 TX10 2).all goodWord = true := by decide +kernel
  intro w hw
  have h3 := List.all_eq_true.mp h2 w hw
  rw [h] at hw
  obtain ⟨i, -, hi⟩ := List.mem_filterMap.mp hw
  exact List.mem_filter.mpr ⟨List.mem_of_getElem? hi, h3⟩
theorem ciX10 : cInf 10 RX10 TX10 2 tyX10 := ⟨rfl, inX10, tyX10_ok, nmX10, rfl⟩
theorem inX11 : ∀ w ∈ u_ws RX11 TX11 12, w ∈ lw_good := by
  have h : u_ws RX11 TX11 12 = [441, 443, 445, 447, 449, 451, 453, 455, 457, 459, 461, 463].filterMap (fun i => lw_tbl[i]?) := by decide +kernel
  have h2 : (u_ws RX11 TX11 12).all goodWord = true := by decide +kernel
  intro w hw
  have h3 := List.all_eq_true.mp h2 w hw
  rw [h] at hw
  obtain ⟨i, -, hi⟩ := List.mem_filterMap.mp hw
  exact List.mem_filter.mpr ⟨List.mem_of_getElem? hi, h3⟩
theorem ciX11 : cInf 11 RX11 TX11 12 tyX11 := ⟨rfl, inX11, tyX11_ok, nmX11, rfl⟩
theorem ciX12 : cInf 12 RX12 TX12 52 tyX12 := ⟨rfl, inX12, tyX12_ok, nmX12, rfl⟩
/-- the heap holds the class's state S -/
def Rz (G : CG) (S : HS) (H : Heap) : Prop := (∀ a, hT S a ≠ 0 → a < hX S ∧ va_at (gD G) cls (a, cE G S a) H) ∧ H.size = hX S ∧ hsum H = hS S ∧ hX S ≤ gC G ∧ hS S ≤ gS G
/-- where a walk that began in S0 may write -/
def Ad (S0 : HS) (q : Nat) : Prop := hT S0 q ≠ 0 ∨ hX S0 ≤ q
abbrev tysC (G : CG) : List (ClassId × FieldType) := [(gI G, .int), (gB G, .byte), (gP G, .object "StraightPolys$Poly")]
def rmC (G : CG) (n : Nat) (S : HS) : Room := { frames := n, cells := gC G - hX S, slots := gS G - hS S, locals := 64 * n }
def tblZ (k : Nat) : Value := .int (([2, 3, 5, 7, 11, 13] : List Int32).getD k 0)
def tblU (k : Nat) : Value := .int (([0, 1, 2, 0, 2, 1, 1, 0, 2, 1, 2, 0, 2, 0, 1, 2, 1, 0] : List Int32).getD k 0)
/-- the two static rows, which nobody writes -/
def Sts (G : CG) (A : Nat → Prop) (U : State) : Prop := va_Z "StraightPolys$Ring" "SIZES" "[I" (.ref (gZ G)) A U U.heap ∧ va_T .int (gZ G) 6 tblZ A U U.heap ∧ va_Z "StraightPolys$Ring" "TURNS" "[I" (.ref (gU G)) A U U.heap ∧ va_T .int (gU G) 18 tblU A U U.heap
/-- the calls of private constructors, by their places -/
def nestL : List (String × Nat × MethodName × String) := [(RX11, 24, yX9_init, "StraightPolys"), (RX9, 29, yX1_init, "StraightPolys"), (RX11, 31, yX5_init, "StraightPolys"), (RX11, 38, yX2_init, "StraightPolys"), (RX2, 33, yX5_init, "StraightPolys"), (RX2, 43, yX1_init, "StraightPolys"), (RX11, 45, yX4_init, "StraightPolys"), (RX11, 52, yX10_init, "StraightPolys"), (RX11, 59, yX0_init, "StraightPolys"), (RX11, 105, yX7_init, "StraightPolys")]
def Nst (U : State) : Prop := (∀ q ∈ nestL, va_Nw (.methodLinkNest q.1 q.2.1 q.2.2.1 q.2.2.2) U) ∧ va_AO "StraightPolys$Poly" U
def QcC (G : CG) (S0 : HS) (K : Option Value → HS → Prop) : Array Value → State → Outcome → State → Prop := fun _ st o t => (∃ (v : Option Value) (S' : HS), o = .returned v ∧ K v S' ∧ Rz G S' t.heap ∧ (∀ a, hT S' a ≠ 0 → Ad S0 a) ∧ hX S0 ≤ hX S' ∧ hS S0 ≤ hS S') ∧ va_F (Ad S0) st t
abbrev PcC (G : CG) (S : HS) (av : List Value) : Array Value → State → Prop := va_Pc av (fun U => Rz G S U.heap ∧ va_K (gD G) cls (tysC G) U ∧ Sts G (Ad S) U ∧ Nst U)
/-- THE CONTRACT of a method of the class -/
def CC (k : Nat) (y : MethodName) (cc : ByteArray) (nL : Nat) (rt : Option FieldType) (av : List Value) (G : CG) (S : HS) (K : Option Value → HS → Prop) : Prop :=
  ∀ (l : Launch) (n : Nat), k ≤ n → Met l y (Cond.code y cc nL rt :: lw_good) (rmC G n S) (PcC G S av) (QcC G S K) (gC G - hX S) (gS G - hS S) (Ad S)
def kI (K : Int32 → HS → Prop) : Option Value → HS → Prop := fun v S => ∃ x, v = some (.int x) ∧ K x S
def kR (K : Option Nat → HS → Prop) : Option Value → HS → Prop := fun v S => ∃ r, v = some (va_rf r) ∧ K r S
def kV (K : Int32 → HS → Prop) : Option Value → HS → Prop := fun v S => v = none ∧ K 0 S
def Cc (G : CG) (S0 : HS) (k : Nat) (rt : Option FieldType) (K : Option Value → HS → Prop) (X : Fx) : Prop := match X with
  | (p, l, e, Rm, s, m, args, below, meth, c, Q) => va_K (gD G) cls (tysC G) s ∧ (∃ n, k ≤ n ∧ Rm = rmC G n S0) ∧ meth.sig.returnType = rt ∧ meth.locks = false ∧ (∀ (H : Heap) (locs : List Loc) (cells slots : Nat) (g : JFrame), W p l e Rm s m args below meth c H locs cells slots (MQ below (QcC G S0 K) args s (gC G - hX S0) (gS G - hS S0) (Ad S0)) g → W p l e Rm s m args below meth c H locs cells slots Q g) ∧ s.heap.size = hX S0 ∧ hsum s.heap = hS S0 ∧ Sts G (Ad S0) s ∧ Nst s
/-- .. and the method is a constructor -/
def Ci (X : Fx) : Prop := X.2.2.2.2.2.2.2.2.1.name = "<init>"
def InC (G : CG) (S0 : HS) (X : Fx) (S : HS) : Heap → List Loc → Prop := fun H locs => Rz G S H ∧ (∀ a, hT S a ≠ 0 → Ad S0 a) ∧ va_S (Ad S0) (fS X).heap H locs ∧ hX S0 ≤ hX S ∧ hS S0 ≤ hS S
abbrev MC (G : CG) (S0 : HS) (X : Fx) (nL : Nat) (S : HS) (pc : Nat) (L : List (Nat × Value)) (st : List Value) : Prop := MW X nL (InC G S0 X S) (hX S - hX S0) (hS S - hS S0) pc L st
theorem CC.of {k : Nat} {y : MethodName} {cc : ByteArray} {nL : Nat} {rt : Option FieldType} {av : List Value} {G : CG} {S : HS} {K : Option Value → HS → Prop} (hy : plainName y.cls = true) (hlen : (lg_sl av).length ≤ nL)
    (body : ∀ X : Fx, Cx X y.cls cc nL → Cc G S k rt K X → X.2.2.2.2.2.2.2.2.1.name = y.name → MC G S X nL S 0 (lv_args 0 av) []) : CC k y cc nL rt av G S K := by
  intro l n hn
  refine Met.ofW (cc := cc) (maxL := nL) (ret := rt) hy rfl ?_
  intro p e s m args below meth c s₁ B hml hv
  obtain ⟨rfl, hP, hK, hZ, hNs⟩ := hv
  have hts := atoms_spec (ws := Cond.code y cc nL rt :: lw_good) B.pre
  have hown : s.vm.findClass y.cls = some m.cls := findClass_of_methodNamed B.named
  have hl := lv_entry av (n := nL) hlen
  rw [lg_entry_eq]
  have h0 := body (p, l, e, _, s, m, av.toArray, below, meth, c, _) ⟨B.exec, B.bytes, hml, hown, fun w h => hts w (List.mem_cons_of_mem _ h)⟩ ⟨hK, ⟨n, hn, rfl⟩, B.returns, B.notSynchronized, fun _ _ _ _ _ w => w, hP.2.1, hP.2.2.1, hZ, hNs⟩ (name_of_methodNamed B.named B.method).1 s.heap [] _ ⟨hP, fun a h => Or.inl h, va_S.rf, Nat.le_refl _, Nat.le_refl _⟩ hl
  rw [Nat.sub_self, Nat.sub_self] at h0
  exact h0
theorem Rz.one {G : CG} {S : HS} {H : Heap} (h : Rz G S H) {a : Nat} (ha : hT S a ≠ 0) : va_P (gD G) cls [(a, cE G S a)] H := by
  intro k q hq
  have hz : k < 1 := (List.getElem?_eq_some_iff.mp hq).1
  rw [show k = 0 by omega] at hq
  cases hq
  exact (h.1 a ha).2
/-- one cell is written, the others stay -/
theorem Rz.put {G : CG} {S S' : HS} {H H' : Heap} {a : Nat} {c c' : Cell} (h : Rz G S H) (hz : H'.size = H.size) (ho : ∀ q : Nat, q ≠ a → H'[q]? = H[q]?) (h1 : H[a]? = some c) (h2 : H'[a]? = some c') (hs : c'.slots.size = c.slots.size)
    (ht : hT S' = hT S) (hx : hX S' = hX S) (hn : hS S' = hS S) (hoff : ∀ b, ¬ b = a → cE G S' b = cE G S b) (hat : va_at (gD G) cls (a, cE G S' a) H') : Rz G S' H' := by
  refine ⟨fun b hb => ?_, by rw [hz, hx]; exact h.2.1, by rw [hsum_set hz ho h1 h2 hs, hn]; exact h.2.2.1, by rw [hx]; exact h.2.2.2.1, by rw [hn]; exact h.2.2.2.2⟩
  rw [ht] at hb
  have hb1 := h.1 b hb
  refine ⟨by rw [hx]; exact hb1.1, ?_⟩
  by_cases e : b = a
  · subst e; exact hat
  · rw [hoff b e]
    exact hb1.2.kept (ho b e)
theorem InC.put {G : CG} {S0 S S' : HS} {X : Fx} {H H' : Heap} {locs : List Loc} {a i : Nat} (h : InC G S0 X S H locs) (hr : Rz G S' H') (ha : hT S a ≠ 0) (hz : H'.size = H.size) (ho : ∀ q : Nat, q ≠ a → H'[q]? = H[q]?) (ht : hT S' = hT S) (hx : hX S' = hX S) (hn : hS S' = hS S) : InC G S0 X S' H' (locs ++ [⟨a, i⟩]) :=
  ⟨hr, fun b hb => h.2.1 b (by rw [← ht]; exact hb), h.2.2.1.put hz ho (h.2.1 a ha), by rw [hx]; exact h.2.2.2.1, by rw [hn]; exact h.2.2.2.2⟩
/-- a cell is made -/
theorem InC.push {G : CG} {S0 S S' : HS} {X : Fx} {H H' : Heap} {locs : List Loc} {n : Nat} {c : Cell} (h : InC G S0 X S H locs) (hz : H'.size = H.size + 1) (ho : ∀ q : Nat, q < H.size → H'[q]? = H[q]?) (h1 : H'[H.size]? = some c) (hc : c.slots.size = n)
    (ht : ∀ b, ¬ b = hX S → hT S' b = hT S b) (hx : hX S' = hX S + 1) (hn : hS S' = hS S + n) (hoff : ∀ b, ¬ b = hX S → cE G S' b = cE G S b) (hat : va_at (gD G) cls (hX S, cE G S' (hX S)) H') (hm : hX S + 1 ≤ gC G) (hm2 : hS S + n ≤ gS G) : InC G S0 X S' H' locs := by
  obtain ⟨hR, hA, hSS, hl, hl2⟩ := h
  refine ⟨⟨fun b hb => ?_, by rw [hz, hx, hR.2.1], by rw [hsum_push hz ho h1, hc, hn, hR.2.2.1], by rw [hx]; exact hm, by rw [hn]; exact hm2⟩, fun b hb => ?_, ?_, by rw [hx]; omega, by rw [hn]; omega⟩
  · by_cases e : b = hX S
    · subst e
      exact ⟨by rw [hx]; omega, hat⟩
    · rw [ht b e] at hb
      have hb1 := hR.1 b hb
      refine ⟨by rw [hx]; omega, ?_⟩
      rw [hoff b e]
      exact hb1.2.kept (ho b (by rw [hR.2.1]; exact hb1.1))
  · by_cases e : b = hX S
    · subst e; exact Or.inr hl
    · rw [ht b e] at hb
      exact hA b hb
  · refine ⟨Nat.le_trans hSS.1 (by omega), fun q h1 h2 => ?_, hSS.2.2⟩
    rw [ho q (Nat.lt_of_lt_of_le h1 hSS.1)]
    exact hSS.2.1 q h1 h2
theorem dfX0 : ∀ j, j < 4 → defaultValue (tyX0 j) = vp_V (fl 0 (fun _ => 0) (fun _ => none)) j := fun j hj => match j, hj with
  | 0, _ => rfl
  | 1, _ => rfl
  | 2, _ => rfl
  | 3, _ => rfl
  | n + 4, h => absurd h (by omega)
theorem dfX1 : ∀ j, j < 3 → defaultValue (tyX1 j) = vp_V (fl 1 (fun _ => 0) (fun _ => none)) j := fun j hj => match j, hj with
  | 0, _ => rfl
  | 1, _ => rfl
  | 2, _ => rfl
  | n + 3, h => absurd h (by omega)
theorem dfX2 : ∀ j, j < 14 → defaultValue (tyX2 j) = vp_V (fl 2 (fun _ => 0) (fun _ => none)) j := fun j hj => match j, hj with
  | 0, _ => rfl
  | 1, _ => rfl
  | 2, _ => rfl
  | 3, _ => rfl
  | 4, _ => rfl
  | 5, _ => rfl
  | 6, _ => rfl
  | 7, _ => rfl
  | 8, _ => rfl
  | 9, _ => rfl
  | 10, _ => rfl
  | 11, _ => rfl
  | 12, _ => rfl
  | 13, _ => rfl
  | n + 14, h => absurd h (by omega)
theorem dfX3 : ∀ j, j < 6 → defaultValue (tyX3 j) = vp_V (fl 3 (fun _ => 0) (fun _ => none)) j := fun j hj => match j, hj with
  | 0, _ => rfl
  | 1, _ => rfl
  | 2, _ => rfl
  | 3, _ => rfl
  | 4, _ => rfl
  | 5, _ => rfl
  | n + 6, h => absurd h (by omega)
theorem dfX4 : ∀ j, j < 1 → defaultValue (tyX4 j) = vp_V (fl 4 (fun _ => 0) (fun _ => none)) j := fun j hj => match j, hj with
  | 0, _ => rfl
  | n + 1, h => absurd h (by omega)
theorem dfX5 : ∀ j, j < 4 → defaultValue (tyX5 j) = vp_V (fl 5 (fun _ => 0) (fun _ => none)) j := fun j hj => match j, hj with
  | 0, _ => rfl
  | 1, _ => rfl
  | 2, _ => rfl
  | 3, _ => rfl
  | n + 4, h => absurd h (by omega)
theorem dfX6 : ∀ j, j < 4 → defaultValue (tyX6 j) = vp_V (fl 6 (fun _ => 0) (fun _ => none)) j := fun j hj => match j, hj with
  | 0, _ => rfl
  | 1, _ => rfl
  | 2, _ => rfl
  | 3, _ => rfl
  | n + 4, h => absurd h (by omega)
theorem dfX7 : ∀ j, j < 10 → defaultValue (tyX7 j) = vp_V (fl 7 (fun _ => 0) (fun _ => none)) j := fun j hj => match j, hj with
  | 0, _ => rfl
  | 1, _ => rfl
  | 2, _ => rfl
  | 3, _ => rfl
  | 4, _ => rfl
  | 5, _ => rfl
  | 6, _ => rfl
  | 7, _ => rfl
  | 8, _ => rfl
  | 9, _ => rfl
  | n + 10, h => absurd h (by omega)
theorem dfX8 : ∀ j, j < 9 → defaultValue (tyX8 j) = vp_V (fl 8 (fun _ => 0) (fun _ => none)) j := fun j hj => match j, hj with
  | 0, _ => rfl
  | 1, _ => rfl
  | 2, _ => rfl
  | 3, _ => rfl
  | 4, _ => rfl
  | 5, _ => rfl
  | 6, _ => rfl
  | 7, _ => rfl
  | 8, _ => rfl
  | n + 9, h => absurd h (by omega)
theorem dfX9 : ∀ j, j < 9 → defaultValue (tyX9 j) = vp_V (fl 9 (fun _ => 0) (fun _ => none)) j := fun j hj => match j, hj with
  | 0, _ => rfl
  | 1, _ => rfl
  | 2, _ => rfl
  | 3, _ => rfl
  | 4, _ => rfl
  | 5, _ => rfl
  | 6, _ => rfl
  | 7, _ => rfl
  | 8, _ => rfl
  | n + 9, h => absurd h (by omega)
theorem dfX10 : ∀ j, j < 2 → defaultValue (tyX10 j) = vp_V (fl 10 (fun _ => 0) (fun _ => none)) j := fun j hj => match j, hj with
  | 0, _ => rfl
  | 1, _ => rfl
  | n + 2, h => absurd h (by omega)
theorem dfX11 : ∀ j, j < 12 → defaultValue (tyX11 j) = vp_V (fl 11 (fun _ => 0) (fun _ => none)) j := fun j hj => match j, hj with
  | 0, _ => rfl
  | 1, _ => rfl
  | 2, _ => rfl
  | 3, _ => rfl
  | 4, _ => rfl
  | 5, _ => rfl
  | 6, _ => rfl
  | 7, _ => rfl
  | 8, _ => rfl
  | 9, _ => rfl
  | 10, _ => rfl
  | 11, _ => rfl
  | n + 12, h => absurd h (by omega)
theorem dfX12 : ∀ j, j < 52 → defaultValue (tyX12 j) = vp_V (fl 12 (fun _ => 0) (fun _ => none)) j := fun j hj => match j, hj with
  | 0, _ => rfl
  | 1, _ => rfl
  | 2, _ => rfl
  | 3, _ => rfl
  | 4, _ => rfl
  | 5, _ => rfl
  | 6, _ => rfl
  | 7, _ => rfl
  | 8, _ => rfl
  | 9, _ => rfl
  | 10, _ => rfl
  | 11, _ => rfl
  | 12, _ => rfl
  | 13, _ => rfl
  | 14, _ => rfl
  | 15, _ => rfl
  | 16, _ => rfl
  | 17, _ => rfl
  | 18, _ => rfl
  | 19, _ => rfl
  | 20, _ => rfl
  | 21, _ => rfl
  | 22, _ => rfl
  | 23, _ => rfl
  | 24, _ => rfl
  | 25, _ => rfl
  | 26, _ => rfl
  | 27, _ => rfl
  | 28, _ => rfl
  | 29, _ => rfl
  | 30, _ => rfl
  | 31, _ => rfl
  | 32, _ => rfl
  | 33, _ => rfl
  | 34, _ => rfl
  | 35, _ => rfl
  | 36, _ => rfl
  | 37, _ => rfl
  | 38, _ => rfl
  | 39, _ => rfl
  | 40, _ => rfl
  | 41, _ => rfl
  | 42, _ => rfl
  | 43, _ => rfl
  | 44, _ => rfl
  | 45, _ => rfl
  | 46, _ => rfl
  | 47, _ => rfl
  | 48, _ => rfl
  | 49, _ => rfl
  | 50, _ => rfl
  | 51, _ => rfl
  | n + 52, h => absurd h (by omega)
