section HSR
variable {S : HS} {a k b j : Nat} {v : Int32} {r : Option Nat} {g : Nat → Int32} {t n : Nat}
theorem sI_P : hP (sI S a k v) = hP S := rfl
theorem sI_T : hT (sI S a k v) = hT S := rfl
theorem sI_N : hN (sI S a k v) = hN S := rfl
theorem sI_X : hX (sI S a k v) = hX S := rfl
theorem sI_S : hS (sI S a k v) = hS S := rfl
theorem sI_ne (h : ¬ b = a) : hI (sI S a k v) b = hI S b := by show ud (hI S) a k v b = _; simp [ud, h]
theorem sI_eq (j : Nat) : hI (sI S a k v) a j = if j = k then v else hI S a j := by show ud (hI S) a k v a j = _; simp [ud, va_up]
theorem sP_I : hI (sP S a k r) = hI S := rfl
theorem sP_T : hT (sP S a k r) = hT S := rfl
theorem sP_N : hN (sP S a k r) = hN S := rfl
theorem sP_X : hX (sP S a k r) = hX S := rfl
theorem sP_S : hS (sP S a k r) = hS S := rfl
theorem sP_ne (h : ¬ b = a) : hP (sP S a k r) b = hP S b := by show ud (hP S) a k r b = _; simp [ud, h]
theorem sP_eq (j : Nat) : hP (sP S a k r) a j = if j = k then r else hP S a j := by show ud (hP S) a k r a j = _; simp [ud, va_up]
theorem sR_P : hP (sR S a g) = hP S := rfl
theorem sR_T : hT (sR S a g) = hT S := rfl
theorem sR_N : hN (sR S a g) = hN S := rfl
theorem sR_X : hX (sR S a g) = hX S := rfl
theorem sR_S : hS (sR S a g) = hS S := rfl
theorem sR_ne (h : ¬ b = a) : hI (sR S a g) b = hI S b := by show va_up (hI S) a g b = _; simp [va_up, h]
theorem sR_eq : hI (sR S a g) a = g := by show va_up (hI S) a g a = _; simp [va_up]
theorem nO_X : hX (nO S t n) = hX S + 1 := rfl
theorem nO_S : hS (nO S t n) = hS S + n := rfl
theorem nO_I1 (h : ¬ b = hX S) : hI (nO S t n) b = hI S b := by show va_up _ _ _ b = _; simp [va_up, h]
theorem nO_P1 (h : ¬ b = hX S) : hP (nO S t n) b = hP S b := by show va_up _ _ _ b = _; simp [va_up, h]
theorem nO_T1 (h : ¬ b = hX S) : hT (nO S t n) b = hT S b := by show va_up _ _ _ b = _; simp [va_up, h]
theorem nO_N1 (h : ¬ b = hX S) : hN (nO S t n) b = hN S b := by show va_up _ _ _ b = _; simp [va_up, h]
theorem nO_I2 : hI (nO S t n) (hX S) = fun _ => 0 := by show va_up _ _ _ _ = _; simp [va_up]
theorem nO_P2 : hP (nO S t n) (hX S) = fun _ => none := by show va_up _ _ _ _ = _; simp [va_up]
theorem nO_T2 : hT (nO S t n) (hX S) = t := by show va_up _ _ _ _ = _; simp [va_up]
theorem nO_N2 : hN (nO S t n) (hX S) = n := by show va_up _ _ _ _ = _; simp [va_up]
end HSR
/-! The class's objects that are made in its constructor lie at fixed places behind h0. -/
def tagL : List (Nat × Nat × Nat) := [(0, 12, 12), (1, 7, 4), (2, 21, 0), (3, 21, 0), (4, 23, 6), (5, 10, 9), (6, 7, 4), (7, 21, 300), (8, 21, 300), (9, 7, 4), (10, 21, 300), (11, 21, 300), (12, 2, 3), (14, 21, 3), (15, 2, 3), (17, 21, 3), (18, 21, 300), (19, 21, 123), (20, 21, 41), (21, 21, 41), (22, 6, 4), (23, 21, 2197), (24, 21, 13), (25, 3, 14), (26, 21, 600), (27, 7, 4), (28, 21, 0), (29, 21, 0), (30, 7, 4), (31, 21, 300), (32, 21, 300), (33, 6, 4), (34, 21, 2197), (35, 21, 13), (36, 6, 4), (37, 21, 2197), (38, 21, 13), (39, 2, 3), (41, 21, 3), (42, 2, 3), (44, 21, 3), (45, 21, 3), (46, 21, 3), (47, 4, 6), (48, 5, 1), (49, 21, 300), (50, 11, 2), (51, 22, 5400), (52, 1, 4), (53, 21, 20), (54, 23, 20), (55, 21, 200)]
def ptrL : List (Nat × Nat × Nat) := [(0, 0, 1), (0, 1, 4), (0, 2, 5), (0, 3, 22), (0, 4, 25), (0, 5, 48), (0, 6, 50), (0, 7, 52), (0, 8, 55), (1, 0, 2), (1, 1, 3), (5, 1, 6), (5, 2, 9), (5, 3, 12), (5, 4, 15), (5, 5, 18), (5, 6, 19), (5, 7, 20), (5, 8, 21), (6, 0, 7), (6, 1, 8), (9, 0, 10), (9, 1, 11), (12, 2, 14), (15, 2, 17), (22, 0, 23), (22, 1, 24), (25, 0, 26), (25, 2, 27), (25, 3, 30), (25, 4, 33), (25, 5, 36), (25, 6, 39), (25, 7, 42), (25, 8, 45), (25, 10, 46), (25, 11, 47), (27, 0, 28), (27, 1, 29), (30, 0, 31), (30, 1, 32), (33, 0, 34), (33, 1, 35), (36, 0, 37), (36, 1, 38), (39, 2, 41), (42, 2, 44), (48, 0, 49), (50, 1, 51), (52, 2, 53), (52, 3, 54)]
def Lay (h0 : Nat) (S : HS) : Prop := (∀ q ∈ tagL, hT S (h0 + q.1) = q.2.1 ∧ hN S (h0 + q.1) = q.2.2) ∧ ∀ q ∈ ptrL, hP S (h0 + q.1) q.2.1 = some (h0 + q.2.2)
section LAYA
variable {h0 : Nat} {S : HS}
theorem Lay.t0 (h : Lay h0 S) : hT S (h0) = 12 := (h.1 (0, 12, 12) (by decide)).1
theorem Lay.n0 (h : Lay h0 S) : hN S (h0) = 12 := (h.1 (0, 12, 12) (by decide)).2
theorem Lay.t1 (h : Lay h0 S) : hT S (h0 + 1) = 7 := (h.1 (1, 7, 4) (by decide)).1
theorem Lay.n1 (h : Lay h0 S) : hN S (h0 + 1) = 4 := (h.1 (1, 7, 4) (by decide)).2
theorem Lay.t2 (h : Lay h0 S) : hT S (h0 + 2) = 21 := (h.1 (2, 21, 0) (by decide)).1
theorem Lay.n2 (h : Lay h0 S) : hN S (h0 + 2) = 0 := (h.1 (2, 21, 0) (by decide)).2
theorem Lay.t3 (h : Lay h0 S) : hT S (h0 + 3) = 21 := (h.1 (3, 21, 0) (by decide)).1
theorem Lay.n3 (h : Lay h0 S) : hN S (h0 + 3) = 0 := (h.1 (3, 21, 0) (by decide)).2
theorem Lay.t4 (h : Lay h0 S) : hT S (h0 + 4) = 23 := (h.1 (4, 23, 6) (by decide)).1
theorem Lay.n4 (h : Lay h0 S) : hN S (h0 + 4) = 6 := (h.1 (4, 23, 6) (by decide)).2
theorem Lay.t5 (h : Lay h0 S) : hT S (h0 + 5) = 10 := (h.1 (5, 10, 9) (by decide)).1
theorem Lay.n5 (h : Lay h0 S) : hN S (h0 + 5) = 9 := (h.1 (5, 10, 9) (by decide)).2
theorem Lay.t6 (h : Lay h0 S) : hT S (h0 + 6) = 7 := (h.1 (6, 7, 4) (by decide)).1
theorem Lay.n6 (h : Lay h0 S) : hN S (h0 + 6) = 4 := (h.1 (6, 7, 4) (by decide)).2
theorem Lay.t7 (h : Lay h0 S) : hT S (h0 + 7) = 21 := (h.1 (7, 21, 300) (by decide)).1
theorem Lay.n7 (h : Lay h0 S) : hN S (h0 + 7) = 300 := (h.1 (7, 21, 300) (by decide)).2
theorem Lay.t8 (h : Lay h0 S) : hT S (h0 + 8) = 21 := (h.1 (8, 21, 300) (by decide)).1
theorem Lay.n8 (h : Lay h0 S) : hN S (h0 + 8) = 300 := (h.1 (8, 21, 300) (by decide)).2
theorem Lay.t9 (h : Lay h0 S) : hT S (h0 + 9) = 7 := (h.1 (9, 7, 4) (by decide)).1
theorem Lay.n9 (h : Lay h0 S) : hN S (h0 + 9) = 4 := (h.1 (9, 7, 4) (by decide)).2
theorem Lay.t10 (h : Lay h0 S) : hT S (h0 + 10) = 21 := (h.1 (10, 21, 300) (by decide)).1
theorem Lay.n10 (h : Lay h0 S) : hN S (h0 + 10) = 300 := (h.1 (10, 21, 300) (by decide)).2
theorem Lay.t11 (h : Lay h0 S) : hT S (h0 + 11) = 21 := (h.1 (11, 21, 300) (by decide)).1
theorem Lay.n11 (h : Lay h0 S) : hN S (h0 + 11) = 300 := (h.1 (11, 21, 300) (by decide)).2
theorem Lay.t12 (h : Lay h0 S) : hT S (h0 + 12) = 2 := (h.1 (12, 2, 3) (by decide)).1
theorem Lay.n12 (h : Lay h0 S) : hN S (h0 + 12) = 3 := (h.1 (12, 2, 3) (by decide)).2
theorem Lay.t14 (h : Lay h0 S) : hT S (h0 + 14) = 21 := (h.1 (14, 21, 3) (by decide)).1
theorem Lay.n14 (h : Lay h0 S) : hN S (h0 + 14) = 3 := (h.1 (14, 21, 3) (by decide)).2
theorem Lay.t15 (h : Lay h0 S) : hT S (h0 + 15) = 2 := (h.1 (15, 2, 3) (by decide)).1
theorem Lay.n15 (h : Lay h0 S) : hN S (h0 + 15) = 3 := (h.1 (15, 2, 3) (by decide)).2
theorem Lay.t17 (h : Lay h0 S) : hT S (h0 + 17) = 21 := (h.1 (17, 21, 3) (by decide)).1
theorem Lay.n17 (h : Lay h0 S) : hN S (h0 + 17) = 3 := (h.1 (17, 21, 3) (by decide)).2
theorem Lay.t18 (h : Lay h0 S) : hT S (h0 + 18) = 21 := (h.1 (18, 21, 300) (by decide)).1
theorem Lay.n18 (h : Lay h0 S) : hN S (h0 + 18) = 300 := (h.1 (18, 21, 300) (by decide)).2
theorem Lay.t19 (h : Lay h0 S) : hT S (h0 + 19) = 21 := (h.1 (19, 21, 123) (by decide)).1
theorem Lay.n19 (h : Lay h0 S) : hN S (h0 + 19) = 123 := (h.1 (19, 21, 123) (by decide)).2
theorem Lay.t20 (h : Lay h0 S) : hT S (h0 + 20) = 21 := (h.1 (20, 21, 41) (by decide)).1
theorem Lay.n20 (h : Lay h0 S) : hN S (h0 + 20) = 41 := (h.1 (20, 21, 41) (by decide)).2
theorem Lay.t21 (h : Lay h0 S) : hT S (h0 + 21) = 21 := (h.1 (21, 21, 41) (by decide)).1
theorem Lay.n21 (h : Lay h0 S) : hN S (h0 + 21) = 41 := (h.1 (21, 21, 41) (by decide)).2
theorem Lay.t22 (h : Lay h0 S) : hT S (h0 + 22) = 6 := (h.1 (22, 6, 4) (by decide)).1
theorem Lay.n22 (h : Lay h0 S) : hN S (h0 + 22) = 4 := (h.1 (22, 6, 4) (by decide)).2
theorem Lay.t23 (h : Lay h0 S) : hT S (h0 + 23) = 21 := (h.1 (23, 21, 2197) (by decide)).1
theorem Lay.n23 (h : Lay h0 S) : hN S (h0 + 23) = 2197 := (h.1 (23, 21, 2197) (by decide)).2
theorem Lay.t24 (h : Lay h0 S) : hT S (h0 + 24) = 21 := (h.1 (24, 21, 13) (by decide)).1
theorem Lay.n24 (h : Lay h0 S) : hN S (h0 + 24) = 13 := (h.1 (24, 21, 13) (by decide)).2
theorem Lay.t25 (h : Lay h0 S) : hT S (h0 + 25) = 3 := (h.1 (25, 3, 14) (by decide)).1
theorem Lay.n25 (h : Lay h0 S) : hN S (h0 + 25) = 14 := (h.1 (25, 3, 14) (by decide)).2
theorem Lay.t26 (h : Lay h0 S) : hT S (h0 + 26) = 21 := (h.1 (26, 21, 600) (by decide)).1
theorem Lay.n26 (h : Lay h0 S) : hN S (h0 + 26) = 600 := (h.1 (26, 21, 600) (by decide)).2
theorem Lay.t27 (h : Lay h0 S) : hT S (h0 + 27) = 7 := (h.1 (27, 7, 4) (by decide)).1
theorem Lay.n27 (h : Lay h0 S) : hN S (h0 + 27) = 4 := (h.1 (27, 7, 4) (by decide)).2
theorem Lay.t28 (h : Lay h0 S) : hT S (h0 + 28) = 21 := (h.1 (28, 21, 0) (by decide)).1
theorem Lay.n28 (h : Lay h0 S) : hN S (h0 + 28) = 0 := (h.1 (28, 21, 0) (by decide)).2
theorem Lay.t29 (h : Lay h0 S) : hT S (h0 + 29) = 21 := (h.1 (29, 21, 0) (by decide)).1
theorem Lay.n29 (h : Lay h0 S) : hN S (h0 + 29) = 0 := (h.1 (29, 21, 0) (by decide)).2
theorem Lay.t30 (h : Lay h0 S) : hT S (h0 + 30) = 7 := (h.1 (30, 7, 4) (by decide)).1
theorem Lay.n30 (h : Lay h0 S) : hN S (h0 + 30) = 4 := (h.1 (30, 7, 4) (by decide)).2
theorem Lay.t31 (h : Lay h0 S) : hT S (h0 + 31) = 21 := (h.1 (31, 21, 300) (by decide)).1
theorem Lay.n31 (h : Lay h0 S) : hN S (h0 + 31) = 300 := (h.1 (31, 21, 300) (by decide)).2
theorem Lay.t32 (h : Lay h0 S) : hT S (h0 + 32) = 21 := (h.1 (32, 21, 300) (by decide)).1
theorem Lay.n32 (h : Lay h0 S) : hN S (h0 + 32) = 300 := (h.1 (32, 21, 300) (by decide)).2
theorem Lay.t33 (h : Lay h0 S) : hT S (h0 + 33) = 6 := (h.1 (33, 6, 4) (by decide)).1
theorem Lay.n33 (h : Lay h0 S) : hN S (h0 + 33) = 4 := (h.1 (33, 6, 4) (by decide)).2
theorem Lay.t34 (h : Lay h0 S) : hT S (h0 + 34) = 21 := (h.1 (34, 21, 2197) (by decide)).1
theorem Lay.n34 (h : Lay h0 S) : hN S (h0 + 34) = 2197 := (h.1 (34, 21, 2197) (by decide)).2
theorem Lay.t35 (h : Lay h0 S) : hT S (h0 + 35) = 21 := (h.1 (35, 21, 13) (by decide)).1
theorem Lay.n35 (h : Lay h0 S) : hN S (h0 + 35) = 13 := (h.1 (35, 21, 13) (by decide)).2
theorem Lay.t36 (h : Lay h0 S) : hT S (h0 + 36) = 6 := (h.1 (36, 6, 4) (by decide)).1
theorem Lay.n36 (h : Lay h0 S) : hN S (h0 + 36) = 4 := (h.1 (36, 6, 4) (by decide)).2
theorem Lay.t37 (h : Lay h0 S) : hT S (h0 + 37) = 21 := (h.1 (37, 21, 2197) (by decide)).1
theorem Lay.n37 (h : Lay h0 S) : hN S (h0 + 37) = 2197 := (h.1 (37, 21, 2197) (by decide)).2
theorem Lay.t38 (h : Lay h0 S) : hT S (h0 + 38) = 21 := (h.1 (38, 21, 13) (by decide)).1
theorem Lay.n38 (h : Lay h0 S) : hN S (h0 + 38) = 13 := (h.1 (38, 21, 13) (by decide)).2
theorem Lay.t39 (h : Lay h0 S) : hT S (h0 + 39) = 2 := (h.1 (39, 2, 3) (by decide)).1
theorem Lay.n39 (h : Lay h0 S) : hN S (h0 + 39) = 3 := (h.1 (39, 2, 3) (by decide)).2
theorem Lay.t41 (h : Lay h0 S) : hT S (h0 + 41) = 21 := (h.1 (41, 21, 3) (by decide)).1
theorem Lay.n41 (h : Lay h0 S) : hN S (h0 + 41) = 3 := (h.1 (41, 21, 3) (by decide)).2
theorem Lay.t42 (h : Lay h0 S) : hT S (h0 + 42) = 2 := (h.1 (42, 2, 3) (by decide)).1
theorem Lay.n42 (h : Lay h0 S) : hN S (h0 + 42) = 3 := (h.1 (42, 2, 3) (by decide)).2
theorem Lay.t44 (h : Lay h0 S) : hT S (h0 + 44) = 21 := (h.1 (44, 21, 3) (by decide)).1
theorem Lay.n44 (h : Lay h0 S) : hN S (h0 + 44) = 3 := (h.1 (44, 21, 3) (by decide)).2
theorem Lay.t45 (h : Lay h0 S) : hT S (h0 + 45) = 21 := (h.1 (45, 21, 3) (by decide)).1
theorem Lay.n45 (h : Lay h0 S) : hN S (h0 + 45) = 3 := (h.1 (45, 21, 3) (by decide)).2
theorem Lay.t46 (h : Lay h0 S) : hT S (h0 + 46) = 21 := (h.1 (46, 21, 3) (by decide)).1
theorem Lay.n46 (h : Lay h0 S) : hN S (h0 + 46) = 3 := (h.1 (46, 21, 3) (by decide)).2
theorem Lay.t47 (h : Lay h0 S) : hT S (h0 + 47) = 4 := (h.1 (47, 4, 6) (by decide)).1
theorem Lay.n47 (h : Lay h0 S) : hN S (h0 + 47) = 6 := (h.1 (47, 4, 6) (by decide)).2
theorem Lay.t48 (h : Lay h0 S) : hT S (h0 + 48) = 5 := (h.1 (48, 5, 1) (by decide)).1
theorem Lay.n48 (h : Lay h0 S) : hN S (h0 + 48) = 1 := (h.1 (48, 5, 1) (by decide)).2
theorem Lay.t49 (h : Lay h0 S) : hT S (h0 + 49) = 21 := (h.1 (49, 21, 300) (by decide)).1
theorem Lay.n49 (h : Lay h0 S) : hN S (h0 + 49) = 300 := (h.1 (49, 21, 300) (by decide)).2
theorem Lay.t50 (h : Lay h0 S) : hT S (h0 + 50) = 11 := (h.1 (50, 11, 2) (by decide)).1
theorem Lay.n50 (h : Lay h0 S) : hN S (h0 + 50) = 2 := (h.1 (50, 11, 2) (by decide)).2
theorem Lay.t51 (h : Lay h0 S) : hT S (h0 + 51) = 22 := (h.1 (51, 22, 5400) (by decide)).1
theorem Lay.n51 (h : Lay h0 S) : hN S (h0 + 51) = 5400 := (h.1 (51, 22, 5400) (by decide)).2
theorem Lay.t52 (h : Lay h0 S) : hT S (h0 + 52) = 1 := (h.1 (52, 1, 4) (by decide)).1
theorem Lay.n52 (h : Lay h0 S) : hN S (h0 + 52) = 4 := (h.1 (52, 1, 4) (by decide)).2
theorem Lay.t53 (h : Lay h0 S) : hT S (h0 + 53) = 21 := (h.1 (53, 21, 20) (by decide)).1
theorem Lay.n53 (h : Lay h0 S) : hN S (h0 + 53) = 20 := (h.1 (53, 21, 20) (by decide)).2
theorem Lay.t54 (h : Lay h0 S) : hT S (h0 + 54) = 23 := (h.1 (54, 23, 20) (by decide)).1
theorem Lay.n54 (h : Lay h0 S) : hN S (h0 + 54) = 20 := (h.1 (54, 23, 20) (by decide)).2
theorem Lay.t55 (h : Lay h0 S) : hT S (h0 + 55) = 21 := (h.1 (55, 21, 200) (by decide)).1
theorem Lay.n55 (h : Lay h0 S) : hN S (h0 + 55) = 200 := (h.1 (55, 21, 200) (by decide)).2
theorem Lay.p0_0 (h : Lay h0 S) : hP S (h0) 0 = some (h0 + 1) := h.2 (0, 0, 1) (by decide)
theorem Lay.p0_1 (h : Lay h0 S) : hP S (h0) 1 = some (h0 + 4) := h.2 (0, 1, 4) (by decide)
theorem Lay.p0_2 (h : Lay h0 S) : hP S (h0) 2 = some (h0 + 5) := h.2 (0, 2, 5) (by decide)
theorem Lay.p0_3 (h : Lay h0 S) : hP S (h0) 3 = some (h0 + 22) := h.2 (0, 3, 22) (by decide)
theorem Lay.p0_4 (h : Lay h0 S) : hP S (h0) 4 = some (h0 + 25) := h.2 (0, 4, 25) (by decide)
theorem Lay.p0_5 (h : Lay h0 S) : hP S (h0) 5 = some (h0 + 48) := h.2 (0, 5, 48) (by decide)
theorem Lay.p0_6 (h : Lay h0 S) : hP S (h0) 6 = some (h0 + 50) := h.2 (0, 6, 50) (by decide)
theorem Lay.p0_7 (h : Lay h0 S) : hP S (h0) 7 = some (h0 + 52) := h.2 (0, 7, 52) (by decide)
theorem Lay.p0_8 (h : Lay h0 S) : hP S (h0) 8 = some (h0 + 55) := h.2 (0, 8, 55) (by decide)
theorem Lay.p1_0 (h : Lay h0 S) : hP S (h0 + 1) 0 = some (h0 + 2) := h.2 (1, 0, 2) (by decide)
theorem Lay.p1_1 (h : Lay h0 S) : hP S (h0 + 1) 1 = some (h0 + 3) := h.2 (1, 1, 3) (by decide)
theorem Lay.p5_1 (h : Lay h0 S) : hP S (h0 + 5) 1 = some (h0 + 6) := h.2 (5, 1, 6) (by decide)
theorem Lay.p5_2 (h : Lay h0 S) : hP S (h0 + 5) 2 = some (h0 + 9) := h.2 (5, 2, 9) (by decide)
theorem Lay.p5_3 (h : Lay h0 S) : hP S (h0 + 5) 3 = some (h0 + 12) := h.2 (5, 3, 12) (by decide)
theorem Lay.p5_4 (h : Lay h0 S) : hP S (h0 + 5) 4 = some (h0 + 15) := h.2 (5, 4, 15) (by decide)
theorem Lay.p5_5 (h : Lay h0 S) : hP S (h0 + 5) 5 = some (h0 + 18) := h.2 (5, 5, 18) (by decide)
theorem Lay.p5_6 (h : Lay h0 S) : hP S (h0 + 5) 6 = some (h0 + 19) := h.2 (5, 6, 19) (by decide)
theorem Lay.p5_7 (h : Lay h0 S) : hP S (h0 + 5) 7 = some (h0 + 20) := h.2 (5, 7, 20) (by decide)
theorem Lay.p5_8 (h : Lay h0 S) : hP S (h0 + 5) 8 = some (h0 + 21) := h.2 (5, 8, 21) (by decide)
theorem Lay.p6_0 (h : Lay h0 S) : hP S (h0 + 6) 0 = some (h0 + 7) := h.2 (6, 0, 7) (by decide)
theorem Lay.p6_1 (h : Lay h0 S) : hP S (h0 + 6) 1 = some (h0 + 8) := h.2 (6, 1, 8) (by decide)
theorem Lay.p9_0 (h : Lay h0 S) : hP S (h0 + 9) 0 = some (h0 + 10) := h.2 (9, 0, 10) (by decide)
theorem Lay.p9_1 (h : Lay h0 S) : hP S (h0 + 9) 1 = some (h0 + 11) := h.2 (9, 1, 11) (by decide)
theorem Lay.p12_2 (h : Lay h0 S) : hP S (h0 + 12) 2 = some (h0 + 14) := h.2 (12, 2, 14) (by decide)
theorem Lay.p15_2 (h : Lay h0 S) : hP S (h0 + 15) 2 = some (h0 + 17) := h.2 (15, 2, 17) (by decide)
theorem Lay.p22_0 (h : Lay h0 S) : hP S (h0 + 22) 0 = some (h0 + 23) := h.2 (22, 0, 23) (by decide)
theorem Lay.p22_1 (h : Lay h0 S) : hP S (h0 + 22) 1 = some (h0 + 24) := h.2 (22, 1, 24) (by decide)
theorem Lay.p25_0 (h : Lay h0 S) : hP S (h0 + 25) 0 = some (h0 + 26) := h.2 (25, 0, 26) (by decide)
theorem Lay.p25_2 (h : Lay h0 S) : hP S (h0 + 25) 2 = some (h0 + 27) := h.2 (25, 2, 27) (by decide)
theorem Lay.p25_3 (h : Lay h0 S) : hP S (h0 + 25) 3 = some (h0 + 30) := h.2 (25, 3, 30) (by decide)
theorem Lay.p25_4 (h : Lay h0 S) : hP S (h0 + 25) 4 = some (h0 + 33) := h.2 (25, 4, 33) (by decide)
theorem Lay.p25_5 (h : Lay h0 S) : hP S (h0 + 25) 5 = some (h0 + 36) := h.2 (25, 5, 36) (by decide)
theorem Lay.p25_6 (h : Lay h0 S) : hP S (h0 + 25) 6 = some (h0 + 39) := h.2 (25, 6, 39) (by decide)
theorem Lay.p25_7 (h : Lay h0 S) : hP S (h0 + 25) 7 = some (h0 + 42) := h.2 (25, 7, 42) (by decide)
theorem Lay.p25_8 (h : Lay h0 S) : hP S (h0 + 25) 8 = some (h0 + 45) := h.2 (25, 8, 45) (by decide)
theorem Lay.p25_10 (h : Lay h0 S) : hP S (h0 + 25) 10 = some (h0 + 46) := h.2 (25, 10, 46) (by decide)
theorem Lay.p25_11 (h : Lay h0 S) : hP S (h0 + 25) 11 = some (h0 + 47) := h.2 (25, 11, 47) (by decide)
theorem Lay.p27_0 (h : Lay h0 S) : hP S (h0 + 27) 0 = some (h0 + 28) := h.2 (27, 0, 28) (by decide)
theorem Lay.p27_1 (h : Lay h0 S) : hP S (h0 + 27) 1 = some (h0 + 29) := h.2 (27, 1, 29) (by decide)
theorem Lay.p30_0 (h : Lay h0 S) : hP S (h0 + 30) 0 = some (h0 + 31) := h.2 (30, 0, 31) (by decide)
theorem Lay.p30_1 (h : Lay h0 S) : hP S (h0 + 30) 1 = some (h0 + 32) := h.2 (30, 1, 32) (by decide)
theorem Lay.p33_0 (h : Lay h0 S) : hP S (h0 + 33) 0 = some (h0 + 34) := h.2 (33, 0, 34) (by decide)
theorem Lay.p33_1 (h : Lay h0 S) : hP S (h0 + 33) 1 = some (h0 + 35) := h.2 (33, 1, 35) (by decide)
theorem Lay.p36_0 (h : Lay h0 S) : hP S (h0 + 36) 0 = some (h0 + 37) := h.2 (36, 0, 37) (by decide)
theorem Lay.p36_1 (h : Lay h0 S) : hP S (h0 + 36) 1 = some (h0 + 38) := h.2 (36, 1, 38) (by decide)
theorem Lay.p39_2 (h : Lay h0 S) : hP S (h0 + 39) 2 = some (h0 + 41) := h.2 (39, 2, 41) (by decide)
theorem Lay.p42_2 (h : Lay h0 S) : hP S (h0 + 42) 2 = some (h0 + 44) := h.2 (42, 2, 44) (by decide)
theorem Lay.p48_0 (h : Lay h0 S) : hP S (h0 + 48) 0 = some (h0 + 49) := h.2 (48, 0, 49) (by decide)
theorem Lay.p50_1 (h : Lay h0 S) : hP S (h0 + 50) 1 = some (h0 + 51) := h.2 (50, 1, 51) (by decide)
theorem Lay.p52_2 (h : Lay h0 S) : hP S (h0 + 52) 2 = some (h0 + 53) := h.2 (52, 2, 53) (by decide)
theorem Lay.p52_3 (h : Lay h0 S) : hP S (h0 + 52) 3 = some (h0 + 54) := h.2 (52, 3, 54) (by decide)
end LAYA
/-! The joint state: what class and reference hold alike. -/
/-- S' is S with more cells; numbers written only in W, references only in V -/
def Ext (S S' : HS) (W V : Nat → Nat → Prop) : Prop := hX S ≤ hX S' ∧ hS S ≤ hS S' ∧ (∀ b, b < hX S → hT S' b = hT S b ∧ hN S' b = hN S b ∧ (∀ k, ¬ W b k → hI S' b k = hI S b k) ∧ ∀ k, ¬ V b k → hP S' b k = hP S b k) ∧ ((∀ b, hX S ≤ b → hT S b = 0) → ∀ b, hX S' ≤ b → hT S' b = 0)
theorem Ext.rf (S : HS) (W V : Nat → Nat → Prop) : Ext S S W V := ⟨Nat.le_refl _, Nat.le_refl _, fun _ _ => ⟨rfl, rfl, fun _ _ => rfl, fun _ _ => rfl⟩, fun h => h⟩
theorem Ext.tr {S S1 S2 : HS} {W V : Nat → Nat → Prop} (h : Ext S S1 W V) (g : Ext S1 S2 W V) : Ext S S2 W V := ⟨Nat.le_trans h.1 g.1, Nat.le_trans h.2.1 g.2.1, fun b hb => by
  obtain ⟨a1, a2, a3, a4⟩ := h.2.2.1 b hb
  obtain ⟨b1, b2, b3, b4⟩ := g.2.2.1 b (Nat.lt_of_lt_of_le hb h.1)
  exact ⟨b1.trans a1, b2.trans a2, fun k w => (b3 k w).trans (a3 k w), fun k w => (b4 k w).trans (a4 k w)⟩, fun q => g.2.2.2 (h.2.2.2 q)⟩
theorem Ext.mo {S S1 : HS} {W V W' V' : Nat → Nat → Prop} (h : Ext S S1 W V) (hw : ∀ b k, W b k → W' b k) (hv : ∀ b k, V b k → V' b k) : Ext S S1 W' V' := ⟨h.1, h.2.1, fun b hb => by
  obtain ⟨a1, a2, a3, a4⟩ := h.2.2.1 b hb
  exact ⟨a1, a2, fun k w => a3 k (fun c => w (hw b k c)), fun k w => a4 k (fun c => w (hv b k c))⟩, h.2.2.2⟩
theorem Ext.sI {S S1 : HS} {W V : Nat → Nat → Prop} {a k : Nat} {v : Int32} (h : Ext S S1 W V) (ha : W a k) : Ext S (sI S1 a k v) W V := ⟨h.1, h.2.1, fun b hb => by
  obtain ⟨a1, a2, a3, a4⟩ := h.2.2.1 b hb
  refine ⟨a1, a2, fun j w => ?_, a4⟩
  by_cases e : b = a
  · subst e
    rw [sI_eq, if_neg (fun e2 => w (by rw [e2]; exact ha))]
    exact a3 j w
  · rw [sI_ne e]; exact a3 j w, h.2.2.2⟩
theorem Ext.sP {S S1 : HS} {W V : Nat → Nat → Prop} {a k : Nat} {r : Option Nat} (h : Ext S S1 W V) (ha : V a k) : Ext S (sP S1 a k r) W V := ⟨h.1, h.2.1, fun b hb => by
  obtain ⟨a1, a2, a3, a4⟩ := h.2.2.1 b hb
  refine ⟨a1, a2, a3, fun j w => ?_⟩
  by_cases e : b = a
  · subst e
    rw [sP_eq, if_neg (fun e2 => w (by rw [e2]; exact ha))]
    exact a4 j w
  · rw [sP_ne e]; exact a4 j w, h.2.2.2⟩
theorem Ext.sR {S S1 : HS} {W V : Nat → Nat → Prop} {a : Nat} {g : Nat → Int32} (h : Ext S S1 W V) (ha : ∀ k, W a k) : Ext S (sR S1 a g) W V := ⟨h.1, h.2.1, fun b hb => by
  obtain ⟨a1, a2, a3, a4⟩ := h.2.2.1 b hb
  exact ⟨a1, a2, fun k w => by rw [sR_ne (fun e => w (by rw [e]; exact ha k))]; exact a3 k w, a4⟩, h.2.2.2⟩
theorem Ext.nO {S S1 : HS} {W V : Nat → Nat → Prop} {t n : Nat} (h : Ext S S1 W V) : Ext S (nO S1 t n) W V := ⟨Nat.le_trans h.1 (Nat.le_succ _), Nat.le_trans h.2.1 (Nat.le_add_right _ _), fun b hb => by
  obtain ⟨a1, a2, a3, a4⟩ := h.2.2.1 b hb
  have hne : ¬ b = hX S1 := Nat.ne_of_lt (Nat.lt_of_lt_of_le hb h.1)
  rw [nO_T1 hne, nO_N1 hne, nO_I1 hne, nO_P1 hne]
  exact ⟨a1, a2, a3, a4⟩, fun q b hb => by
  rw [nO_X] at hb
  rw [nO_T1 (by omega)]
  exact h.2.2.2 q b (by omega)⟩
/-- a polynomial that is kept, at a -/
def PolyAt (S : HS) (a : Nat) (L : Po) : Prop := a + 2 < hX S ∧ hT S a = 7 ∧ hP S a 0 = some (a + 1) ∧ hP S a 1 = some (a + 2) ∧ hT S (a + 1) = 21 ∧ hT S (a + 2) = 21 ∧ hN S (a + 1) = L.length ∧ hN S (a + 2) = L.length ∧ hI S a 2 = ι L.length ∧ hI S a 3 = ι 0 ∧ ∀ i, i < L.length → hI S (a + 1) i = ι (k6 (tm L (L.length - 1 - i))) ∧ hI S (a + 2) i = ι (tm L (L.length - 1 - i)).n
theorem PolyAt.go {S S' : HS} {W V : Nat → Nat → Prop} {a : Nat} {L : Po} (h : PolyAt S a L) (e : Ext S S' W V) (w : ∀ k, ¬ W a k ∧ ¬ W (a + 1) k ∧ ¬ W (a + 2) k ∧ ¬ V a k) : PolyAt S' a L := by
  obtain ⟨h1, h2, h3, h4, h5, h6, h7, h8, h9, h10, h11⟩ := h
  obtain ⟨x1, x2, x3, -⟩ := e
  obtain ⟨p1, p2, p3, p4⟩ := x3 a (by omega)
  obtain ⟨q1, q2, q3, -⟩ := x3 (a + 1) (by omega)
  obtain ⟨r1, r2, r3, -⟩ := x3 (a + 2) (by omega)
  refine ⟨by omega, by rw [p1]; exact h2, by rw [p4 0 (w 0).2.2.2]; exact h3, by rw [p4 1 (w 1).2.2.2]; exact h4, by rw [q1]; exact h5, by rw [r1]; exact h6, by rw [q2]; exact h7, by rw [r2]; exact h8, by rw [p3 2 (w 2).1]; exact h9, by rw [p3 3 (w 3).1]; exact h10, fun i hi => ?_⟩
  rw [q3 i (w i).2.1, r3 i (w i).2.2.1]
  exact h11 i hi
/-- where kept polynomials lie -/
def Ka (h0 a : Nat) : Prop := a = h0 + 1 ∨ a = h0 + 27 ∨ h0 + 56 ≤ a
/-- the cells of a Box -/
def bxC (h0 : Nat) (S : HS) (o : Nat) : Nat := (hP S (h0 + o) 0).getD 0
def Bx (h0 : Nat) (S : HS) (o : Nat) : Prop := hP S (h0 + o) 0 = some (bxC h0 S o) ∧ bxC h0 S o < hX S ∧ hT S (bxC h0 S o) = 21 ∧ hN S (bxC h0 S o) ≤ 269001 ∧ (bxC h0 S o = h0 + o + 1 ∨ h0 + 58 ≤ bxC h0 S o) ∧ hT S (bxC h0 S o - 1) ≠ 7 ∧ hT S (bxC h0 S o - 2) ≠ 7
def CBx (h0 : Nat) (S : HS) : Prop := (Bx h0 S 12 ∧ Bx h0 S 15 ∧ Bx h0 S 39 ∧ Bx h0 S 42) ∧ bxC h0 S 12 ≠ bxC h0 S 15 ∧ bxC h0 S 12 ≠ bxC h0 S 39 ∧ bxC h0 S 12 ≠ bxC h0 S 42 ∧ bxC h0 S 15 ≠ bxC h0 S 39 ∧ bxC h0 S 15 ≠ bxC h0 S 42 ∧ bxC h0 S 39 ≠ bxC h0 S 42
/-- what a computation may write -/
def Wk (h0 : Nat) (S : HS) (b _k : Nat) : Prop := (h0 + 6 ≤ b ∧ b < h0 + 27) ∨ (h0 + 30 ≤ b ∧ b < h0 + 50) ∨ b = bxC h0 S 12 ∨ b = bxC h0 S 15 ∨ b = bxC h0 S 39 ∨ b = bxC h0 S 42
def Vk (h0 b k : Nat) : Prop := (k = 0 ∧ (b = h0 + 12 ∨ b = h0 + 15 ∨ b = h0 + 39 ∨ b = h0 + 42)) ∨ (b = h0 + 25 ∧ k = 13)
theorem bx_ka {h0 o a : Nat} {S : HS} {L : Po} (hk : Ka h0 a) (hp : PolyAt S a L) (hb : Bx h0 S o) (ho : o = 12 ∨ o = 15 ∨ o = 39 ∨ o = 42) : a ≠ bxC h0 S o ∧ a + 1 ≠ bxC h0 S o ∧ a + 2 ≠ bxC h0 S o := by
  obtain ⟨-, h2, -⟩ := hp
  obtain ⟨-, -, b3, -, b5, b6, b7⟩ := hb
  refine ⟨fun e => ?_, fun e => ?_, fun e => ?_⟩
  · rw [← e, h2] at b3; omega
  · rw [← e, show a + 1 - 1 = a by omega] at b6; exact b6 h2
  · rw [← e, show a + 2 - 2 = a by omega] at b7; exact b7 h2
theorem ka_wk {h0 a : Nat} {S : HS} {L : Po} (hk : Ka h0 a) (hp : PolyAt S a L) (hb : CBx h0 S) : ∀ k, ¬ Wk h0 S a k ∧ ¬ Wk h0 S (a + 1) k ∧ ¬ Wk h0 S (a + 2) k ∧ ¬ Vk h0 a k := by
  have q1 := bx_ka hk hp hb.1.1 (by omega)
  have q2 := bx_ka hk hp hb.1.2.1 (by omega)
  have q3 := bx_ka hk hp hb.1.2.2.1 (by omega)
  have q4 := bx_ka hk hp hb.1.2.2.2 (by omega)
  intro k
  unfold Ka at hk
  unfold Wk Vk
  omega
/-- a step of a program: name, sign, two atoms, what it makes -/
abbrev Sp : Type := Nat × Nat × Nat × Nat × Po
def stp (Q : List Sp) (s : Nat) : Sp := Q.getD s (0, 0, 0, 0, [])
/-- bounds of the steps -/
def atB (f : Nat → Nat) (a : Nat) : Nat := if a < 100 then 0 else if a < 103 then 1 else f (a - 103)
/-- a program at g -/
def PgAt (h0 : Nat) (S : HS) (g : Nat) (Q : List Sp) (B : Nat → Nat) : Prop := h0 + 56 ≤ g ∧ g + 9 < hX S ∧ hT S g = 8 ∧ (∀ f, 1 ≤ f → f ≤ 9 → hP S g f = some (g + f)) ∧ (∀ f, 1 ≤ f → f ≤ 9 → hT S (g + f) = (if f = 6 then 23 else 21) ∧ hN S (g + f) = (if f = 9 then 3 else 23)) ∧ hI S g 0 = ι Q.length ∧ ∀ s, s < Q.length → hI S (g + 1) s = ι (stp Q s).1 ∧ hI S (g + 2) s = ι (stp Q s).2.1 ∧ hI S (g + 3) s = ι (stp Q s).2.2.1 ∧ hI S (g + 4) s = ι (stp Q s).2.2.2.1 ∧ hI S (g + 5) s = ι (B s) ∧ ∃ a, hP S (g + 6) s = some a ∧ Ka h0 a ∧ PolyAt S a (stp Q s).2.2.2.2
/-- no object that is half made lies at the heap's end -/
def Tp (S : HS) : Prop := hT S (hX S - 1) ≠ 7 ∧ hT S (hX S - 2) ≠ 7
/-- the parts of the class's state -/
def CTop (h0 : Nat) (S : HS) : Prop := h0 + 60 ≤ hX S ∧ (∀ b, hX S ≤ b → hT S b = 0) ∧ PolyAt S (h0 + 1) [] ∧ PolyAt S (h0 + 27) [] ∧ Tp S
def CPl (h0 : Nat) (S : HS) (P : Nat → Po) : Prop := ∀ k, k < 6 → ∃ a, hP S (h0 + 4) k = some a ∧ Ka h0 a ∧ PolyAt S a (P k)
def acA (A : List (Nat × Po)) (k : Nat) : Nat × Po := A.getD k (0, [])
def CAc (h0 : Nat) (S : HS) (A : List (Nat × Po)) : Prop := ∃ nx, nx < 20 ∧ hI S (h0 + 52) 0 = ι A.length ∧ hI S (h0 + 52) 1 = ι nx ∧ ∀ k, k < A.length → hI S (h0 + 53) ((nx + 20 - A.length + k) % 20) = ι (acA A k).1 ∧ ∃ a, hP S (h0 + 54) ((nx + 20 - A.length + k) % 20) = some a ∧ Ka h0 a ∧ PolyAt S a (acA A k).2
def CTp (h0 : Nat) (S : HS) (T : List Nat) : Prop := hI S h0 9 = ι T.length ∧ ∀ i, i < T.length → hI S (h0 + 55) i = ι (T.getD i 0)
def CSp (h0 : Nat) (S : HS) (Tx : List Nat) : Prop := hI S (h0 + 50) 0 = ι Tx.length ∧ ∀ i, i < Tx.length → hI S (h0 + 51) i = ι (Tx.getD i 0)
def CPg (h0 : Nat) (S : HS) (Q : List Sp) (B : Nat → Nat) : Prop := (hP S h0 11 = none ∧ Q = []) ∨ ∃ g, hP S h0 11 = some g ∧ Q ≠ [] ∧ PgAt h0 S g Q B ∧ (bxC h0 S 12 < g ∨ g + 9 < bxC h0 S 12) ∧ (bxC h0 S 15 < g ∨ g + 9 < bxC h0 S 15) ∧ (bxC h0 S 39 < g ∨ g + 9 < bxC h0 S 39) ∧ (bxC h0 S 42 < g ∨ g + 9 < bxC h0 S 42)
/-- what was found of a polynomial: its factors, and what is left -/
def FcR (p : Nat) (L : Po) (f25 rows strides : Nat → Int32) (used : Int32) (cells : Nat → Int32) (len : Nat) : Prop := f25 12 = ι p ∧ (L = [] → f25 1 = ι 0) ∧ (L ≠ [] → f25 1 = ι (flS p L (lns p)).length ∧ (∀ i, i < (flS p L (lns p)).length → ∀ w, w ≤ 4 → rows (5 * i + w) = ι (lnV p L ((flS p L (lns p)).getD i 0) w (mk3 p L ((flS p L (lns p)).getD i 0)))) ∧ (flS p L (lns p)).length ≤ 120 ∧ ∃ X Y Z u F, X ≤ 40 ∧ Y ≤ 40 ∧ Z ≤ 40 ∧ (1 ≤ u ∧ u ≤ usd X Y Z) ∧ Bd p F ∧ RoK p L (lns p) F ∧ strides 1 = ι (Z + 1) ∧ strides 0 = ι ((Y + 1) * (Z + 1)) ∧ used = ι u ∧ usd X Y Z ≤ len ∧ (∀ x y z, x ≤ X → y ≤ Y → z ≤ Z → cells (cx Y Z x y z) = ι (F x y z)) ∧ ∀ x y z, X < x ∨ Y < y ∨ Z < z ∨ u ≤ cx Y Z x y z → F x y z = 0)
def CFc (h0 : Nat) (S : HS) (p : Nat) : Prop := (hI S (h0 + 41) 2 = ι 1 ∧ hI S (h0 + 44) 2 = ι 1) ∧ (hP S (h0 + 25) 13 = none ∨ ∃ a L, hP S (h0 + 25) 13 = some a ∧ Ka h0 a ∧ PolyAt S a L ∧ wf p L ∧ FcR p L (hI S (h0 + 25)) (hI S (h0 + 26)) (hI S (h0 + 41)) (hI S (h0 + 39) 1) (hI S (bxC h0 S 39)) (hN S (bxC h0 S 39)))
/-- room: n calls are done, b slots went into Boxes -/
def CRo (h0 s0 : Nat) (S : HS) (n : Nat) (T : List Nat) : Prop := hX S ≤ h0 + 200 + 1000 * n ∧ ∃ b1 b2 b3 b4, hS S + (if T = [] then 0 else 7400) ≤ s0 + 1400000 + 7400 * n + b1 + b2 + b3 + b4 ∧ b1 ≤ 2 * hN S (bxC h0 S 12) ∧ hN S (bxC h0 S 12) ≤ 137842 ∧ (b2 ≤ 2 * hN S (bxC h0 S 15) ∨ (hN S (bxC h0 S 15) = 269001 ∧ b2 ≤ 807003)) ∧ b3 ≤ 2 * hN S (bxC h0 S 39) ∧ hN S (bxC h0 S 39) ≤ 137842 ∧ b4 ≤ 2 * hN S (bxC h0 S 42) ∧ hN S (bxC h0 S 42) ≤ 137842 ∧ (hN S (bxC h0 S 42) = hN S (bxC h0 S 39) ∨ 2 * hN S (bxC h0 S 42) ≤ hN S (bxC h0 S 39))
/-- what both hold: p, places, acts, tape, text, fault, program, its bounds -/
abbrev Gh : Type := Nat × (Nat → Po) × List (Nat × Po) × List Nat × List Nat × Int32 × List Sp × (Nat → Nat)
def CI (h0 s0 : Nat) (n : Nat) (S : HS) (g : Gh) : Prop := match g with
  | (p, P, A, T, Tx, ft, Q, B) => Lay h0 S ∧ CTop h0 S ∧ hI S (h0 + 5) 0 = ι p ∧ CPl h0 S P ∧ CAc h0 S A ∧ CTp h0 S T ∧ CSp h0 S Tx ∧ hI S h0 10 = ft ∧ CPg h0 S Q B ∧ CBx h0 S ∧ CFc h0 S p ∧ CRo h0 s0 S n T
def atK (a : Nat) : Nat := if a < 100 then 0 else if a < 103 then 1 else 2
def atV (a : Nat) : Nat := if a < 100 then a else if a < 103 then a - 100 else a - 103
def isTwo (s : Nat) : Prop := s = 43 ∨ s = 45 ∨ s = 42
/-- the bound of a step -/
def bdS (B : Nat → Nat) (g l r : Nat) : Nat := min 999999 (if g = 94 then atB B l * r else if g = 42 then atB B l + atB B r else if g = 0 then atB B l else max (atB B l) (atB B r))
/-- what holds of the shared values -/
def VI (g : Gh) : Prop := match g with
  | (p, P, A, T, Tx, ft, Q, B) => PrP p ∧ (∀ k, k < 6 → wf p (P k)) ∧ (A.length ≤ 20 ∧ ∀ k, k < A.length → (acA A k).1 < 6 ∧ wf p (acA A k).2) ∧ (T.length ≤ 200 ∧ ∀ i, i < T.length → T.getD i 0 < 256) ∧ (Tx.length ≤ 5400 ∧ ∀ i, i < Tx.length → Tx.getD i 0 < 128) ∧ (Q.length ≤ 23 ∧ ∀ s, s < Q.length → wf p (stp Q s).2.2.2.2 ∧ (stp Q s).1 ≤ 23 ∧ ((stp Q s).2.1 = 0 ∨ (stp Q s).2.1 = 94 ∨ isTwo (stp Q s).2.1) ∧ (stp Q s).2.2.1 < 103 + s ∧ (isTwo (stp Q s).2.1 → (stp Q s).2.2.2.1 < 103 + s) ∧ ((stp Q s).2.1 = 94 → (stp Q s).2.2.2.1 ≤ 9) ∧ ((stp Q s).2.1 = 0 → (stp Q s).2.2.2.1 = 0) ∧ B s = bdS B (stp Q s).2.1 (stp Q s).2.2.1 (stp Q s).2.2.2.1)
/-- the reference's part -/
def RAc (R : RS) (A : List (Nat × Po)) : Prop := R 0 13 = ι A.length ∧ ∀ k, k < A.length → R 9 k = ι (acA A k).1 ∧ R 10 k = ι (acA A k).2.length ∧ ∀ i, i < (acA A k).2.length → R 11 (300 * k + i) = ι (k41 (tm (acA A k).2 i)) ∧ R 12 (300 * k + i) = ι (tm (acA A k).2 i).n
def RPg (R : RS) (Q : List Sp) : Prop := R 0 37 = ι Q.length ∧ ∀ s, s < Q.length → Sl R (6 + s) (stp Q s).2.2.2.2 ∧ R 29 s = ι (stp Q s).1 ∧ R 30 s = ι (stp Q s).2.1 ∧ R 31 (2 * s) = ι (atK (stp Q s).2.2.1) ∧ R 32 (2 * s) = ι (atV (stp Q s).2.2.1) ∧ (isTwo (stp Q s).2.1 → R 31 (2 * s + 1) = ι (atK (stp Q s).2.2.2.1) ∧ R 32 (2 * s + 1) = ι (atV (stp Q s).2.2.2.1)) ∧ ((stp Q s).2.1 = 94 → R 32 (2 * s + 1) = ι (stp Q s).2.2.2.1)
def RI (R : RS) (g : Gh) : Prop := match g with
  | (p, P, A, T, Tx, ft, Q, B) => G0 R p ∧ (∀ k, k < 6 → Sl R k (P k)) ∧ RAc R A ∧ (R 0 43 = ι T.length ∧ ∀ i, i < T.length → R 42 i = ι (T.getD i 0)) ∧ (R 0 28 = ι Tx.length ∧ ∀ i, i < Tx.length → R 27 i = ι (Tx.getD i 0)) ∧ R 0 51 = ft ∧ RPg R Q
/-- THE INVARIANT -/
def Inv (h0 s0 : Nat) (n : Nat) (S : HS) (R : RS) : Prop := ∃ g : Gh, CI h0 s0 n S g ∧ VI g ∧ RI R g
/-! Frames of the parts. -/
/-- kept polynomials stay -/
def PK (h0 : Nat) (S S' : HS) : Prop := ∀ a L, Ka h0 a → PolyAt S a L → PolyAt S' a L
section FRM
variable {h0 s0 n p : Nat} {S S' : HS} {W V : Nat → Nat → Prop} {P : Nat → Po} {A : List (Nat × Po)} {T Tx : List Nat} {Q : List Sp} {B : Nat → Nat}
theorem PK.of (e : Ext S S' W V) (h : ∀ a L, Ka h0 a → PolyAt S a L → ∀ k, ¬ W a k ∧ ¬ W (a + 1) k ∧ ¬ W (a + 2) k ∧ ¬ V a k) : PK h0 S S' := fun a L k q => q.go e (h a L k q)
theorem Lay.go (h : Lay h0 S) (hx : h0 + 60 ≤ hX S) (e : Ext S S' W V) (hv : ∀ q ∈ ptrL, ¬ V (h0 + q.1) q.2.1) : Lay h0 S' := by
  have b1 : ∀ q ∈ tagL, q.1 < 60 := by decide
  have b2 : ∀ q ∈ ptrL, q.1 < 60 := by decide
  refine ⟨fun q hq => ?_, fun q hq => ?_⟩
  · have := e.2.2.1 (h0 + q.1) (by have := b1 q hq; omega)
    rw [this.1, this.2.1]; exact h.1 q hq
  · have := e.2.2.1 (h0 + q.1) (by have := b2 q hq; omega)
    rw [this.2.2.2 _ (hv q hq)]; exact h.2 q hq
theorem CTop.go (h : CTop h0 S) (e : Ext S S' W V) (pk : PK h0 S S') (tp : Tp S') : CTop h0 S' := ⟨by have := h.1; have := e.1; omega, e.2.2.2 h.2.1, pk _ _ (Or.inl rfl) h.2.2.1, pk _ _ (Or.inr (Or.inl rfl)) h.2.2.2.1, tp⟩
theorem CTop.tp (h : CTop h0 S) (e : Ext S S' W V) (hx : hX S' = hX S) : Tp S' := by
  have h60 := h.1
  unfold Tp
  rw [hx, (e.2.2.1 (hX S - 1) (by omega)).1, (e.2.2.1 (hX S - 2) (by omega)).1]
  exact h.2.2.2.2
theorem CPl.go (h : CPl h0 S P) (pk : PK h0 S S') (e : ∀ k, k < 6 → hP S' (h0 + 4) k = hP S (h0 + 4) k) : CPl h0 S' P := fun k hk => by
  obtain ⟨a, q1, q2, q3⟩ := h k hk
  exact ⟨a, by rw [e k hk]; exact q1, q2, pk a _ q2 q3⟩
theorem CAc.go (h : CAc h0 S A) (pk : PK h0 S S') (e1 : ∀ k, hI S' (h0 + 52) k = hI S (h0 + 52) k) (e2 : ∀ k, hI S' (h0 + 53) k = hI S (h0 + 53) k) (e3 : ∀ k, hP S' (h0 + 54) k = hP S (h0 + 54) k) : CAc h0 S' A := by
  obtain ⟨nx, q1, q2, q3, q4⟩ := h
  refine ⟨nx, q1, by rw [e1]; exact q2, by rw [e1]; exact q3, fun k hk => ?_⟩
  obtain ⟨w1, a, w2, w3, w4⟩ := q4 k hk
  exact ⟨by rw [e2]; exact w1, a, by rw [e3]; exact w2, w3, pk a _ w3 w4⟩
theorem CTp.go (h : CTp h0 S T) (e1 : hI S' h0 9 = hI S h0 9) (e2 : ∀ i, hI S' (h0 + 55) i = hI S (h0 + 55) i) : CTp h0 S' T := ⟨by rw [e1]; exact h.1, fun i hi => by rw [e2]; exact h.2 i hi⟩
theorem CSp.go (h : CSp h0 S Tx) (e1 : hI S' (h0 + 50) 0 = hI S (h0 + 50) 0) (e2 : ∀ i, hI S' (h0 + 51) i = hI S (h0 + 51) i) : CSp h0 S' Tx := ⟨by rw [e1]; exact h.1, fun i hi => by rw [e2]; exact h.2 i hi⟩
theorem bxC.go {o : Nat} (h : hP S' (h0 + o) 0 = hP S (h0 + o) 0) : bxC h0 S' o = bxC h0 S o := by unfold bxC; rw [h]
theorem CPg.go (h : CPg h0 S Q B) (pk : PK h0 S S') (e : Ext S S' W V) (e0 : hP S' h0 11 = hP S h0 11) (hb : ∀ o, o = 12 ∨ o = 15 ∨ o = 39 ∨ o = 42 → hP S' (h0 + o) 0 = hP S (h0 + o) 0 ∨ hX S ≤ bxC h0 S' o) (hw : ∀ g, h0 + 56 ≤ g → PgAt h0 S g Q B → ∀ f k, f ≤ 6 → ¬ W (g + f) k ∧ ¬ V (g + f) k) : CPg h0 S' Q B := by
  rcases h with ⟨q1, q2⟩ | ⟨g, q1, q2, q3, q4⟩
  · exact Or.inl ⟨by rw [e0]; exact q1, q2⟩
  · have hg := hw g q3.1 q3
    have hx : g + 9 < hX S := q3.2.1
    have hbb : ∀ o, o = 12 ∨ o = 15 ∨ o = 39 ∨ o = 42 → (bxC h0 S o < g ∨ g + 9 < bxC h0 S o) → (bxC h0 S' o < g ∨ g + 9 < bxC h0 S' o) := fun o ho c => by
      rcases hb o ho with c2 | c2
      · rw [bxC.go c2]; exact c
      · omega
    refine Or.inr ⟨g, by rw [e0]; exact q1, q2, ?_, hbb 12 (by omega) q4.1, hbb 15 (by omega) q4.2.1, hbb 39 (by omega) q4.2.2.1, hbb 42 (by omega) q4.2.2.2⟩
    obtain ⟨w1, w2, w3, w4, w5, w6, w7⟩ := q3
    have ee := e.2.2.1
    refine ⟨w1, by have := e.1; omega, by rw [(ee g (by omega)).1]; exact w3, fun f f1 f2 => by rw [(ee g (by omega)).2.2.2 f (hg 0 f (by omega)).2]; exact w4 f f1 f2, fun f f1 f2 => by rw [(ee (g + f) (by omega)).1, (ee (g + f) (by omega)).2.1]; exact w5 f f1 f2, by rw [(ee g (by omega)).2.2.1 0 (hg 0 0 (by omega)).1]; exact w6, fun s hs => ?_⟩
    obtain ⟨u1, u2, u3, u4, u5, a, u6, u7, u8⟩ := w7 s hs
    have gi : ∀ f, f ≤ 6 → hI S' (g + f) s = hI S (g + f) s := fun f hf => (ee (g + f) (by omega)).2.2.1 s (hg f s hf).1
    rw [gi 1 (by omega), gi 2 (by omega), gi 3 (by omega), gi 4 (by omega), gi 5 (by omega)]
    exact ⟨u1, u2, u3, u4, u5, a, by rw [(ee (g + 6) (by omega)).2.2.2 s (hg 6 s (by omega)).2]; exact u6, u7, pk a _ u7 u8⟩
theorem Bx.go {o : Nat} (h : Bx h0 S o) (e : Ext S S' W V) (ho : hP S' (h0 + o) 0 = hP S (h0 + o) 0) : Bx h0 S' o := by
  obtain ⟨a1, a2, a3, a4, a5, a6, a7⟩ := h
  unfold Bx
  rw [bxC.go ho, ho]
  have ee := e.2.2.1
  exact ⟨a1, by have := e.1; omega, by rw [(ee _ a2).1]; exact a3, by rw [(ee _ a2).2.1]; exact a4, a5, by rw [(ee _ (by omega)).1]; exact a6, by rw [(ee _ (by omega)).1]; exact a7⟩
theorem CBx.go (h : CBx h0 S) (e : Ext S S' W V) (ho : ∀ o, o = 12 ∨ o = 15 ∨ o = 39 ∨ o = 42 → hP S' (h0 + o) 0 = hP S (h0 + o) 0) : CBx h0 S' := by
  obtain ⟨⟨q1, q2, q3, q4⟩, q5⟩ := h
  refine ⟨⟨q1.go e (ho 12 (by omega)), q2.go e (ho 15 (by omega)), q3.go e (ho 39 (by omega)), q4.go e (ho 42 (by omega))⟩, ?_⟩
  rw [bxC.go (ho 12 (by omega)), bxC.go (ho 15 (by omega)), bxC.go (ho 39 (by omega)), bxC.go (ho 42 (by omega))]
  exact q5
theorem CFc.go (h : CFc h0 S p) (e7 : hN S' (bxC h0 S 39) = hN S (bxC h0 S 39)) (pk : PK h0 S S') (e0 : hP S' (h0 + 25) 13 = hP S (h0 + 25) 13) (ho : hP S' (h0 + 39) 0 = hP S (h0 + 39) 0) (e1 : ∀ k, hI S' (h0 + 25) k = hI S (h0 + 25) k) (e2 : ∀ k, hI S' (h0 + 26) k = hI S (h0 + 26) k) (e3 : ∀ k, hI S' (h0 + 41) k = hI S (h0 + 41) k) (e4 : hI S' (h0 + 39) 1 = hI S (h0 + 39) 1) (e6 : hI S' (h0 + 44) 2 = hI S (h0 + 44) 2) (e5 : ∀ k, hI S' (bxC h0 S 39) k = hI S (bxC h0 S 39) k) : CFc h0 S' p := by
  obtain ⟨hst, h⟩ := h
  refine ⟨⟨by rw [e3]; exact hst.1, by rw [e6]; exact hst.2⟩, ?_⟩
  rcases h with q | ⟨a, L, q1, q2, q3, q4, q5⟩
  · exact Or.inl (by rw [e0]; exact q)
  · refine Or.inr ⟨a, L, by rw [e0]; exact q1, q2, pk a L q2 q3, q4, ?_⟩
    rw [bxC.go ho, e7, e4, show hI S' (h0 + 25) = hI S (h0 + 25) from funext e1, show hI S' (h0 + 26) = hI S (h0 + 26) from funext e2, show hI S' (h0 + 41) = hI S (h0 + 41) from funext e3, show hI S' (bxC h0 S 39) = hI S (bxC h0 S 39) from funext e5]
    exact q5
theorem CRo.go {T' : List Nat} {n' : Nat} (h : CRo h0 s0 S n T) (e : Ext S S' W V) (hb : CBx h0 S) (ho : ∀ o, o = 12 ∨ o = 15 ∨ o = 39 ∨ o = 42 → hP S' (h0 + o) 0 = hP S (h0 + o) 0) (hx : hX S' ≤ hX S + 1000) (hs : hS S' + (if T' = [] then 0 else 7400) ≤ hS S + 7400 + (if T = [] then 0 else 7400)) (hn : n' = n + 1) : CRo h0 s0 S' n' T' := by
  obtain ⟨q0, b1, b2, b3, b4, q1, q2⟩ := h
  obtain ⟨⟨c1, c2, c3, c4⟩, -⟩ := hb
  refine ⟨by omega, b1, b2, b3, b4, by omega, ?_⟩
  rw [bxC.go (ho 12 (by omega)), bxC.go (ho 15 (by omega)), bxC.go (ho 39 (by omega)), bxC.go (ho 42 (by omega)), (e.2.2.1 _ c1.2.1).2.1, (e.2.2.1 _ c2.2.1).2.1, (e.2.2.1 _ c3.2.1).2.1, (e.2.2.1 _ c4.2.1).2.1]
  exact q2
end FRM
