/-! PURE: where things lie -/
def lay (a : Nat) : Nat × Nat := match a with
  | 0 => (11, nfl 11)
  | 1 => (8, nfl 8)
  | 2 => (15, 300)
  | 3 => (13, 300)
  | 4 => (13, 18)
  | 5 => (18, 30)
  | 6 => (9, nfl 9)
  | 7 => (18, 100)
  | 8 => (13, 100)
  | 9 => (4, nfl 4)
  | 10 => (13, 512)
  | 11 => (14, 2001)
  | 12 => (13, 2001)
  | 13 => (0, nfl 0)
  | 14 => (13, 100)
  | 15 => (13, 2001)
  | 16 => (13, 2001)
  | 17 => (5, nfl 5)
  | 18 => (13, 90)
  | 19 => (18, 90)
  | 20 => (17, 1080)
  | 21 => (13, 1080)
  | 22 => (4, nfl 4)
  | 23 => (13, 512)
  | 24 => (14, 1201)
  | 25 => (13, 1201)
  | 26 => (13, 1201)
  | 27 => (13, 12)
  | 28 => (13, 12)
  | 29 => (0, nfl 0)
  | 30 => (13, 100)
  | 31 => (4, nfl 4)
  | 32 => (13, 512)
  | 33 => (14, 100)
  | 34 => (13, 100)
  | 35 => (12, nfl 12)
  | 36 => (13, 300)
  | 37 => (13, 18)
  | 38 => (13, 30)
  | 39 => (13, 30)
  | 40 => (13, 3000)
  | 41 => (13, 90)
  | 42 => (13, 90)
  | 43 => (13, 30)
  | 44 => (13, 180)
  | 45 => (13, 100)
  | 46 => (13, 100)
  | 47 => (13, 100)
  | 48 => (14, 2001)
  | 49 => (13, 100)
  | 50 => (13, 2001)
  | 51 => (13, 2001)
  | 52 => (16, 13)
  | 53 => (13, 30)
  | 54 => (13, 90)
  | 55 => (15, 1080)
  | 56 => (13, 12)
  | 57 => (13, 12)
  | 58 => (14, 1201)
  | 59 => (13, 100)
  | 60 => (13, 12)
  | 61 => (13, 600)
  | 62 => (13, 13)
  | 63 => (14, 100)
  | _ => (0, 0)
/-- which reference lies where, for good -/
def rft : List (Nat × Nat × Nat) := [(0, 0, 1), (0, 1, 4), (0, 2, 5), (0, 7, 6), (0, 8, 17), (0, 9, 29), (0, 10, 31), (1, 0, 2), (1, 2, 3), (6, 0, 7), (6, 1, 8), (6, 5, 9), (6, 6, 13), (6, 12, 15), (6, 14, 16), (9, 2, 10), (9, 0, 11), (9, 1, 12), (13, 0, 14), (17, 0, 18), (17, 1, 19), (17, 8, 20), (17, 9, 21), (17, 10, 22), (17, 11, 26), (17, 12, 27), (17, 13, 28), (22, 2, 23), (22, 0, 24), (22, 1, 25), (29, 0, 30), (31, 2, 32), (31, 0, 33), (31, 1, 34), (35, 0, 36), (35, 4, 37), (35, 6, 38), (35, 7, 39), (35, 8, 40), (35, 9, 41), (35, 10, 42), (35, 11, 43), (35, 12, 44), (35, 13, 45), (35, 17, 46), (35, 18, 47), (35, 20, 48), (35, 23, 49), (35, 28, 50), (35, 29, 51), (35, 31, 52), (35, 32, 53), (35, 40, 54), (35, 42, 55), (35, 45, 56), (35, 46, 57), (35, 47, 58), (35, 49, 59), (35, 52, 60), (35, 54, 61), (35, 57, 62), (35, 58, 63)]
def Lay (h : Hp) : Prop := 64 ≤ hz h ∧ (∀ a, a < 64 → hK h a = lay a) ∧ ∀ q, q ∈ rft → hR h q.1 q.2.1 = some q.2.2
theorem L_z {h : Hp} (L : Lay h) : 64 ≤ hz h := L.1
theorem L_ok {h : Hp} (L : Lay h) {a t n : Nat} (ha : a < 64) (e : lay a = (t, n)) : ok h [t] a = true := by
  have h1 := L.2.1 a ha
  have h2 : a < hz h := Nat.lt_of_lt_of_le ha L.1
  simp [ok, h1, e, h2]
theorem o0 {h : Hp} (L : Lay h) : ok h [11] 0 = true := L_ok L (by decide) rfl
theorem o1 {h : Hp} (L : Lay h) : ok h [8] 1 = true := L_ok L (by decide) rfl
theorem o2 {h : Hp} (L : Lay h) : ok h [15] 2 = true := L_ok L (by decide) rfl
theorem k2 {h : Hp} (L : Lay h) : hK h 2 = (15, 300) := L.2.1 2 (by decide)
theorem o3 {h : Hp} (L : Lay h) : ok h [13] 3 = true := L_ok L (by decide) rfl
theorem k3 {h : Hp} (L : Lay h) : hK h 3 = (13, 300) := L.2.1 3 (by decide)
theorem o4 {h : Hp} (L : Lay h) : ok h [13] 4 = true := L_ok L (by decide) rfl
theorem k4 {h : Hp} (L : Lay h) : hK h 4 = (13, 18) := L.2.1 4 (by decide)
theorem o5 {h : Hp} (L : Lay h) : ok h [18] 5 = true := L_ok L (by decide) rfl
theorem k5 {h : Hp} (L : Lay h) : hK h 5 = (18, 30) := L.2.1 5 (by decide)
theorem o6 {h : Hp} (L : Lay h) : ok h [9] 6 = true := L_ok L (by decide) rfl
theorem o7 {h : Hp} (L : Lay h) : ok h [18] 7 = true := L_ok L (by decide) rfl
theorem k7 {h : Hp} (L : Lay h) : hK h 7 = (18, 100) := L.2.1 7 (by decide)
theorem o8 {h : Hp} (L : Lay h) : ok h [13] 8 = true := L_ok L (by decide) rfl
theorem k8 {h : Hp} (L : Lay h) : hK h 8 = (13, 100) := L.2.1 8 (by decide)
theorem o9 {h : Hp} (L : Lay h) : ok h [4] 9 = true := L_ok L (by decide) rfl
theorem o10 {h : Hp} (L : Lay h) : ok h [13] 10 = true := L_ok L (by decide) rfl
theorem k10 {h : Hp} (L : Lay h) : hK h 10 = (13, 512) := L.2.1 10 (by decide)
theorem o11 {h : Hp} (L : Lay h) : ok h [14] 11 = true := L_ok L (by decide) rfl
theorem k11 {h : Hp} (L : Lay h) : hK h 11 = (14, 2001) := L.2.1 11 (by decide)
theorem o12 {h : Hp} (L : Lay h) : ok h [13] 12 = true := L_ok L (by decide) rfl
theorem k12 {h : Hp} (L : Lay h) : hK h 12 = (13, 2001) := L.2.1 12 (by decide)
theorem o13 {h : Hp} (L : Lay h) : ok h [0] 13 = true := L_ok L (by decide) rfl
theorem o14 {h : Hp} (L : Lay h) : ok h [13] 14 = true := L_ok L (by decide) rfl
theorem k14 {h : Hp} (L : Lay h) : hK h 14 = (13, 100) := L.2.1 14 (by decide)
theorem o15 {h : Hp} (L : Lay h) : ok h [13] 15 = true := L_ok L (by decide) rfl
theorem k15 {h : Hp} (L : Lay h) : hK h 15 = (13, 2001) := L.2.1 15 (by decide)
theorem o16 {h : Hp} (L : Lay h) : ok h [13] 16 = true := L_ok L (by decide) rfl
theorem k16 {h : Hp} (L : Lay h) : hK h 16 = (13, 2001) := L.2.1 16 (by decide)
theorem o17 {h : Hp} (L : Lay h) : ok h [5] 17 = true := L_ok L (by decide) rfl
theorem o18 {h : Hp} (L : Lay h) : ok h [13] 18 = true := L_ok L (by decide) rfl
theorem k18 {h : Hp} (L : Lay h) : hK h 18 = (13, 90) := L.2.1 18 (by decide)
theorem o19 {h : Hp} (L : Lay h) : ok h [18] 19 = true := L_ok L (by decide) rfl
theorem k19 {h : Hp} (L : Lay h) : hK h 19 = (18, 90) := L.2.1 19 (by decide)
theorem o20 {h : Hp} (L : Lay h) : ok h [17] 20 = true := L_ok L (by decide) rfl
theorem k20 {h : Hp} (L : Lay h) : hK h 20 = (17, 1080) := L.2.1 20 (by decide)
theorem o21 {h : Hp} (L : Lay h) : ok h [13] 21 = true := L_ok L (by decide) rfl
theorem k21 {h : Hp} (L : Lay h) : hK h 21 = (13, 1080) := L.2.1 21 (by decide)
theorem o22 {h : Hp} (L : Lay h) : ok h [4] 22 = true := L_ok L (by decide) rfl
theorem o23 {h : Hp} (L : Lay h) : ok h [13] 23 = true := L_ok L (by decide) rfl
theorem k23 {h : Hp} (L : Lay h) : hK h 23 = (13, 512) := L.2.1 23 (by decide)
theorem o24 {h : Hp} (L : Lay h) : ok h [14] 24 = true := L_ok L (by decide) rfl
theorem k24 {h : Hp} (L : Lay h) : hK h 24 = (14, 1201) := L.2.1 24 (by decide)
theorem o25 {h : Hp} (L : Lay h) : ok h [13] 25 = true := L_ok L (by decide) rfl
theorem k25 {h : Hp} (L : Lay h) : hK h 25 = (13, 1201) := L.2.1 25 (by decide)
theorem o26 {h : Hp} (L : Lay h) : ok h [13] 26 = true := L_ok L (by decide) rfl
theorem k26 {h : Hp} (L : Lay h) : hK h 26 = (13, 1201) := L.2.1 26 (by decide)
theorem o27 {h : Hp} (L : Lay h) : ok h [13] 27 = true := L_ok L (by decide) rfl
theorem k27 {h : Hp} (L : Lay h) : hK h 27 = (13, 12) := L.2.1 27 (by decide)
theorem o28 {h : Hp} (L : Lay h) : ok h [13] 28 = true := L_ok L (by decide) rfl
theorem k28 {h : Hp} (L : Lay h) : hK h 28 = (13, 12) := L.2.1 28 (by decide)
theorem o29 {h : Hp} (L : Lay h) : ok h [0] 29 = true := L_ok L (by decide) rfl
theorem o30 {h : Hp} (L : Lay h) : ok h [13] 30 = true := L_ok L (by decide) rfl
theorem k30 {h : Hp} (L : Lay h) : hK h 30 = (13, 100) := L.2.1 30 (by decide)
theorem o31 {h : Hp} (L : Lay h) : ok h [4] 31 = true := L_ok L (by decide) rfl
theorem o32 {h : Hp} (L : Lay h) : ok h [13] 32 = true := L_ok L (by decide) rfl
theorem k32 {h : Hp} (L : Lay h) : hK h 32 = (13, 512) := L.2.1 32 (by decide)
theorem o33 {h : Hp} (L : Lay h) : ok h [14] 33 = true := L_ok L (by decide) rfl
theorem k33 {h : Hp} (L : Lay h) : hK h 33 = (14, 100) := L.2.1 33 (by decide)
theorem o34 {h : Hp} (L : Lay h) : ok h [13] 34 = true := L_ok L (by decide) rfl
theorem k34 {h : Hp} (L : Lay h) : hK h 34 = (13, 100) := L.2.1 34 (by decide)
theorem o35 {h : Hp} (L : Lay h) : ok h [12] 35 = true := L_ok L (by decide) rfl
theorem o36 {h : Hp} (L : Lay h) : ok h [13] 36 = true := L_ok L (by decide) rfl
theorem k36 {h : Hp} (L : Lay h) : hK h 36 = (13, 300) := L.2.1 36 (by decide)
theorem o37 {h : Hp} (L : Lay h) : ok h [13] 37 = true := L_ok L (by decide) rfl
theorem k37 {h : Hp} (L : Lay h) : hK h 37 = (13, 18) := L.2.1 37 (by decide)
theorem o38 {h : Hp} (L : Lay h) : ok h [13] 38 = true := L_ok L (by decide) rfl
theorem k38 {h : Hp} (L : Lay h) : hK h 38 = (13, 30) := L.2.1 38 (by decide)
theorem o39 {h : Hp} (L : Lay h) : ok h [13] 39 = true := L_ok L (by decide) rfl
theorem k39 {h : Hp} (L : Lay h) : hK h 39 = (13, 30) := L.2.1 39 (by decide)
theorem o40 {h : Hp} (L : Lay h) : ok h [13] 40 = true := L_ok L (by decide) rfl
theorem k40 {h : Hp} (L : Lay h) : hK h 40 = (13, 3000) := L.2.1 40 (by decide)
theorem o41 {h : Hp} (L : Lay h) : ok h [13] 41 = true := L_ok L (by decide) rfl
theorem k41 {h : Hp} (L : Lay h) : hK h 41 = (13, 90) := L.2.1 41 (by decide)
theorem o42 {h : Hp} (L : Lay h) : ok h [13] 42 = true := L_ok L (by decide) rfl
theorem k42 {h : Hp} (L : Lay h) : hK h 42 = (13, 90) := L.2.1 42 (by decide)
theorem o43 {h : Hp} (L : Lay h) : ok h [13] 43 = true := L_ok L (by decide) rfl
theorem k43 {h : Hp} (L : Lay h) : hK h 43 = (13, 30) := L.2.1 43 (by decide)
theorem o44 {h : Hp} (L : Lay h) : ok h [13] 44 = true := L_ok L (by decide) rfl
theorem k44 {h : Hp} (L : Lay h) : hK h 44 = (13, 180) := L.2.1 44 (by decide)
theorem o45 {h : Hp} (L : Lay h) : ok h [13] 45 = true := L_ok L (by decide) rfl
theorem k45 {h : Hp} (L : Lay h) : hK h 45 = (13, 100) := L.2.1 45 (by decide)
theorem o46 {h : Hp} (L : Lay h) : ok h [13] 46 = true := L_ok L (by decide) rfl
theorem k46 {h : Hp} (L : Lay h) : hK h 46 = (13, 100) := L.2.1 46 (by decide)
theorem o47 {h : Hp} (L : Lay h) : ok h [13] 47 = true := L_ok L (by decide) rfl
theorem k47 {h : Hp} (L : Lay h) : hK h 47 = (13, 100) := L.2.1 47 (by decide)
theorem o48 {h : Hp} (L : Lay h) : ok h [14] 48 = true := L_ok L (by decide) rfl
theorem k48 {h : Hp} (L : Lay h) : hK h 48 = (14, 2001) := L.2.1 48 (by decide)
theorem o49 {h : Hp} (L : Lay h) : ok h [13] 49 = true := L_ok L (by decide) rfl
theorem k49 {h : Hp} (L : Lay h) : hK h 49 = (13, 100) := L.2.1 49 (by decide)
theorem o50 {h : Hp} (L : Lay h) : ok h [13] 50 = true := L_ok L (by decide) rfl
theorem k50 {h : Hp} (L : Lay h) : hK h 50 = (13, 2001) := L.2.1 50 (by decide)
theorem o51 {h : Hp} (L : Lay h) : ok h [13] 51 = true := L_ok L (by decide) rfl
theorem k51 {h : Hp} (L : Lay h) : hK h 51 = (13, 2001) := L.2.1 51 (by decide)
theorem o52 {h : Hp} (L : Lay h) : ok h [16] 52 = true := L_ok L (by decide) rfl
theorem k52 {h : Hp} (L : Lay h) : hK h 52 = (16, 13) := L.2.1 52 (by decide)
theorem o53 {h : Hp} (L : Lay h) : ok h [13] 53 = true := L_ok L (by decide) rfl
theorem k53 {h : Hp} (L : Lay h) : hK h 53 = (13, 30) := L.2.1 53 (by decide)
theorem o54 {h : Hp} (L : Lay h) : ok h [13] 54 = true := L_ok L (by decide) rfl
theorem k54 {h : Hp} (L : Lay h) : hK h 54 = (13, 90) := L.2.1 54 (by decide)
theorem o55 {h : Hp} (L : Lay h) : ok h [15] 55 = true := L_ok L (by decide) rfl
theorem k55 {h : Hp} (L : Lay h) : hK h 55 = (15, 1080) := L.2.1 55 (by decide)
theorem o56 {h : Hp} (L : Lay h) : ok h [13] 56 = true := L_ok L (by decide) rfl
theorem k56 {h : Hp} (L : Lay h) : hK h 56 = (13, 12) := L.2.1 56 (by decide)
theorem o57 {h : Hp} (L : Lay h) : ok h [13] 57 = true := L_ok L (by decide) rfl
theorem k57 {h : Hp} (L : Lay h) : hK h 57 = (13, 12) := L.2.1 57 (by decide)
theorem o58 {h : Hp} (L : Lay h) : ok h [14] 58 = true := L_ok L (by decide) rfl
theorem k58 {h : Hp} (L : Lay h) : hK h 58 = (14, 1201) := L.2.1 58 (by decide)
theorem o59 {h : Hp} (L : Lay h) : ok h [13] 59 = true := L_ok L (by decide) rfl
theorem k59 {h : Hp} (L : Lay h) : hK h 59 = (13, 100) := L.2.1 59 (by decide)
theorem o60 {h : Hp} (L : Lay h) : ok h [13] 60 = true := L_ok L (by decide) rfl
theorem k60 {h : Hp} (L : Lay h) : hK h 60 = (13, 12) := L.2.1 60 (by decide)
theorem o61 {h : Hp} (L : Lay h) : ok h [13] 61 = true := L_ok L (by decide) rfl
theorem k61 {h : Hp} (L : Lay h) : hK h 61 = (13, 600) := L.2.1 61 (by decide)
theorem o62 {h : Hp} (L : Lay h) : ok h [13] 62 = true := L_ok L (by decide) rfl
theorem k62 {h : Hp} (L : Lay h) : hK h 62 = (13, 13) := L.2.1 62 (by decide)
theorem o63 {h : Hp} (L : Lay h) : ok h [14] 63 = true := L_ok L (by decide) rfl
theorem k63 {h : Hp} (L : Lay h) : hK h 63 = (14, 100) := L.2.1 63 (by decide)
theorem r0_0 {h : Hp} (L : Lay h) : hR h 0 0 = some 1 := L.2.2 (0, 0, 1) (by decide)
theorem r0_1 {h : Hp} (L : Lay h) : hR h 0 1 = some 4 := L.2.2 (0, 1, 4) (by decide)
theorem r0_2 {h : Hp} (L : Lay h) : hR h 0 2 = some 5 := L.2.2 (0, 2, 5) (by decide)
theorem r0_7 {h : Hp} (L : Lay h) : hR h 0 7 = some 6 := L.2.2 (0, 7, 6) (by decide)
theorem r0_8 {h : Hp} (L : Lay h) : hR h 0 8 = some 17 := L.2.2 (0, 8, 17) (by decide)
theorem r0_9 {h : Hp} (L : Lay h) : hR h 0 9 = some 29 := L.2.2 (0, 9, 29) (by decide)
theorem r0_10 {h : Hp} (L : Lay h) : hR h 0 10 = some 31 := L.2.2 (0, 10, 31) (by decide)
theorem r1_0 {h : Hp} (L : Lay h) : hR h 1 0 = some 2 := L.2.2 (1, 0, 2) (by decide)
theorem r1_2 {h : Hp} (L : Lay h) : hR h 1 2 = some 3 := L.2.2 (1, 2, 3) (by decide)
theorem r6_0 {h : Hp} (L : Lay h) : hR h 6 0 = some 7 := L.2.2 (6, 0, 7) (by decide)
theorem r6_1 {h : Hp} (L : Lay h) : hR h 6 1 = some 8 := L.2.2 (6, 1, 8) (by decide)
theorem r6_5 {h : Hp} (L : Lay h) : hR h 6 5 = some 9 := L.2.2 (6, 5, 9) (by decide)
theorem r6_6 {h : Hp} (L : Lay h) : hR h 6 6 = some 13 := L.2.2 (6, 6, 13) (by decide)
theorem r6_12 {h : Hp} (L : Lay h) : hR h 6 12 = some 15 := L.2.2 (6, 12, 15) (by decide)
theorem r6_14 {h : Hp} (L : Lay h) : hR h 6 14 = some 16 := L.2.2 (6, 14, 16) (by decide)
theorem r9_2 {h : Hp} (L : Lay h) : hR h 9 2 = some 10 := L.2.2 (9, 2, 10) (by decide)
theorem r9_0 {h : Hp} (L : Lay h) : hR h 9 0 = some 11 := L.2.2 (9, 0, 11) (by decide)
theorem r9_1 {h : Hp} (L : Lay h) : hR h 9 1 = some 12 := L.2.2 (9, 1, 12) (by decide)
theorem r13_0 {h : Hp} (L : Lay h) : hR h 13 0 = some 14 := L.2.2 (13, 0, 14) (by decide)
theorem r17_0 {h : Hp} (L : Lay h) : hR h 17 0 = some 18 := L.2.2 (17, 0, 18) (by decide)
theorem r17_1 {h : Hp} (L : Lay h) : hR h 17 1 = some 19 := L.2.2 (17, 1, 19) (by decide)
theorem r17_8 {h : Hp} (L : Lay h) : hR h 17 8 = some 20 := L.2.2 (17, 8, 20) (by decide)
theorem r17_9 {h : Hp} (L : Lay h) : hR h 17 9 = some 21 := L.2.2 (17, 9, 21) (by decide)
theorem r17_10 {h : Hp} (L : Lay h) : hR h 17 10 = some 22 := L.2.2 (17, 10, 22) (by decide)
theorem r17_11 {h : Hp} (L : Lay h) : hR h 17 11 = some 26 := L.2.2 (17, 11, 26) (by decide)
theorem r17_12 {h : Hp} (L : Lay h) : hR h 17 12 = some 27 := L.2.2 (17, 12, 27) (by decide)
theorem r17_13 {h : Hp} (L : Lay h) : hR h 17 13 = some 28 := L.2.2 (17, 13, 28) (by decide)
theorem r22_2 {h : Hp} (L : Lay h) : hR h 22 2 = some 23 := L.2.2 (22, 2, 23) (by decide)
theorem r22_0 {h : Hp} (L : Lay h) : hR h 22 0 = some 24 := L.2.2 (22, 0, 24) (by decide)
theorem r22_1 {h : Hp} (L : Lay h) : hR h 22 1 = some 25 := L.2.2 (22, 1, 25) (by decide)
theorem r29_0 {h : Hp} (L : Lay h) : hR h 29 0 = some 30 := L.2.2 (29, 0, 30) (by decide)
theorem r31_2 {h : Hp} (L : Lay h) : hR h 31 2 = some 32 := L.2.2 (31, 2, 32) (by decide)
theorem r31_0 {h : Hp} (L : Lay h) : hR h 31 0 = some 33 := L.2.2 (31, 0, 33) (by decide)
theorem r31_1 {h : Hp} (L : Lay h) : hR h 31 1 = some 34 := L.2.2 (31, 1, 34) (by decide)
theorem r35_0 {h : Hp} (L : Lay h) : hR h 35 0 = some 36 := L.2.2 (35, 0, 36) (by decide)
theorem r35_4 {h : Hp} (L : Lay h) : hR h 35 4 = some 37 := L.2.2 (35, 4, 37) (by decide)
theorem r35_6 {h : Hp} (L : Lay h) : hR h 35 6 = some 38 := L.2.2 (35, 6, 38) (by decide)
theorem r35_7 {h : Hp} (L : Lay h) : hR h 35 7 = some 39 := L.2.2 (35, 7, 39) (by decide)
theorem r35_8 {h : Hp} (L : Lay h) : hR h 35 8 = some 40 := L.2.2 (35, 8, 40) (by decide)
theorem r35_9 {h : Hp} (L : Lay h) : hR h 35 9 = some 41 := L.2.2 (35, 9, 41) (by decide)
theorem r35_10 {h : Hp} (L : Lay h) : hR h 35 10 = some 42 := L.2.2 (35, 10, 42) (by decide)
theorem r35_11 {h : Hp} (L : Lay h) : hR h 35 11 = some 43 := L.2.2 (35, 11, 43) (by decide)
theorem r35_12 {h : Hp} (L : Lay h) : hR h 35 12 = some 44 := L.2.2 (35, 12, 44) (by decide)
theorem r35_13 {h : Hp} (L : Lay h) : hR h 35 13 = some 45 := L.2.2 (35, 13, 45) (by decide)
theorem r35_17 {h : Hp} (L : Lay h) : hR h 35 17 = some 46 := L.2.2 (35, 17, 46) (by decide)
theorem r35_18 {h : Hp} (L : Lay h) : hR h 35 18 = some 47 := L.2.2 (35, 18, 47) (by decide)
theorem r35_20 {h : Hp} (L : Lay h) : hR h 35 20 = some 48 := L.2.2 (35, 20, 48) (by decide)
theorem r35_23 {h : Hp} (L : Lay h) : hR h 35 23 = some 49 := L.2.2 (35, 23, 49) (by decide)
theorem r35_28 {h : Hp} (L : Lay h) : hR h 35 28 = some 50 := L.2.2 (35, 28, 50) (by decide)
theorem r35_29 {h : Hp} (L : Lay h) : hR h 35 29 = some 51 := L.2.2 (35, 29, 51) (by decide)
theorem r35_31 {h : Hp} (L : Lay h) : hR h 35 31 = some 52 := L.2.2 (35, 31, 52) (by decide)
theorem r35_32 {h : Hp} (L : Lay h) : hR h 35 32 = some 53 := L.2.2 (35, 32, 53) (by decide)
theorem r35_40 {h : Hp} (L : Lay h) : hR h 35 40 = some 54 := L.2.2 (35, 40, 54) (by decide)
theorem r35_42 {h : Hp} (L : Lay h) : hR h 35 42 = some 55 := L.2.2 (35, 42, 55) (by decide)
theorem r35_45 {h : Hp} (L : Lay h) : hR h 35 45 = some 56 := L.2.2 (35, 45, 56) (by decide)
theorem r35_46 {h : Hp} (L : Lay h) : hR h 35 46 = some 57 := L.2.2 (35, 46, 57) (by decide)
theorem r35_47 {h : Hp} (L : Lay h) : hR h 35 47 = some 58 := L.2.2 (35, 47, 58) (by decide)
theorem r35_49 {h : Hp} (L : Lay h) : hR h 35 49 = some 59 := L.2.2 (35, 49, 59) (by decide)
theorem r35_52 {h : Hp} (L : Lay h) : hR h 35 52 = some 60 := L.2.2 (35, 52, 60) (by decide)
theorem r35_54 {h : Hp} (L : Lay h) : hR h 35 54 = some 61 := L.2.2 (35, 54, 61) (by decide)
theorem r35_57 {h : Hp} (L : Lay h) : hR h 35 57 = some 62 := L.2.2 (35, 57, 62) (by decide)
theorem r35_58 {h : Hp} (L : Lay h) : hR h 35 58 = some 63 := L.2.2 (35, 58, 63) (by decide)
theorem Lay_sI (h : Hp) (a k : Nat) (x : Int32) : Lay (sI h a k x) = Lay h := rfl
theorem Lay_sL (h : Hp) (a k : Nat) (x : Int64) : Lay (sL h a k x) = Lay h := rfl
theorem Lay_sC (h : Hp) (a : Nat) (f : Nat → Int32) : Lay (sC h a f) = Lay h := rfl
theorem li_0 {β : Type} {t a : Nat} {h : Hp} {f : Int32 → Option β} (o : ok h [t] a = true) (hj : 0 < (hK h a).2) (hn : (hK h a).2 < 2 ^ 31) : li t (some a) 0 h f = f (hI h a 0) := li_s (j := 0) o hj hn
theorem si_0 {β : Type} {a : Nat} {x : Int32} {h : Hp} {f : Hp → Option β} (o : ok h [13] a = true) (hj : 0 < (hK h a).2) (hn : (hK h a).2 < 2 ^ 31) : si (some a) 0 x h f = f (sI h a 0 x) := si_s (j := 0) o hj hn
theorem li_1 {β : Type} {t a : Nat} {h : Hp} {f : Int32 → Option β} (o : ok h [t] a = true) (hj : 1 < (hK h a).2) (hn : (hK h a).2 < 2 ^ 31) : li t (some a) 1 h f = f (hI h a 1) := li_s (j := 1) o hj hn
theorem si_1 {β : Type} {a : Nat} {x : Int32} {h : Hp} {f : Hp → Option β} (o : ok h [13] a = true) (hj : 1 < (hK h a).2) (hn : (hK h a).2 < 2 ^ 31) : si (some a) 1 x h f = f (sI h a 1 x) := si_s (j := 1) o hj hn
theorem li_2 {β : Type} {t a : Nat} {h : Hp} {f : Int32 → Option β} (o : ok h [t] a = true) (hj : 2 < (hK h a).2) (hn : (hK h a).2 < 2 ^ 31) : li t (some a) 2 h f = f (hI h a 2) := li_s (j := 2) o hj hn
theorem si_2 {β : Type} {a : Nat} {x : Int32} {h : Hp} {f : Hp → Option β} (o : ok h [13] a = true) (hj : 2 < (hK h a).2) (hn : (hK h a).2 < 2 ^ 31) : si (some a) 2 x h f = f (sI h a 2 x) := si_s (j := 2) o hj hn
theorem li_3 {β : Type} {t a : Nat} {h : Hp} {f : Int32 → Option β} (o : ok h [t] a = true) (hj : 3 < (hK h a).2) (hn : (hK h a).2 < 2 ^ 31) : li t (some a) 3 h f = f (hI h a 3) := li_s (j := 3) o hj hn
theorem si_3 {β : Type} {a : Nat} {x : Int32} {h : Hp} {f : Hp → Option β} (o : ok h [13] a = true) (hj : 3 < (hK h a).2) (hn : (hK h a).2 < 2 ^ 31) : si (some a) 3 x h f = f (sI h a 3 x) := si_s (j := 3) o hj hn
theorem li_4 {β : Type} {t a : Nat} {h : Hp} {f : Int32 → Option β} (o : ok h [t] a = true) (hj : 4 < (hK h a).2) (hn : (hK h a).2 < 2 ^ 31) : li t (some a) 4 h f = f (hI h a 4) := li_s (j := 4) o hj hn
theorem si_4 {β : Type} {a : Nat} {x : Int32} {h : Hp} {f : Hp → Option β} (o : ok h [13] a = true) (hj : 4 < (hK h a).2) (hn : (hK h a).2 < 2 ^ 31) : si (some a) 4 x h f = f (sI h a 4 x) := si_s (j := 4) o hj hn
theorem li_5 {β : Type} {t a : Nat} {h : Hp} {f : Int32 → Option β} (o : ok h [t] a = true) (hj : 5 < (hK h a).2) (hn : (hK h a).2 < 2 ^ 31) : li t (some a) 5 h f = f (hI h a 5) := li_s (j := 5) o hj hn
theorem si_5 {β : Type} {a : Nat} {x : Int32} {h : Hp} {f : Hp → Option β} (o : ok h [13] a = true) (hj : 5 < (hK h a).2) (hn : (hK h a).2 < 2 ^ 31) : si (some a) 5 x h f = f (sI h a 5 x) := si_s (j := 5) o hj hn
theorem li_6 {β : Type} {t a : Nat} {h : Hp} {f : Int32 → Option β} (o : ok h [t] a = true) (hj : 6 < (hK h a).2) (hn : (hK h a).2 < 2 ^ 31) : li t (some a) 6 h f = f (hI h a 6) := li_s (j := 6) o hj hn
theorem si_6 {β : Type} {a : Nat} {x : Int32} {h : Hp} {f : Hp → Option β} (o : ok h [13] a = true) (hj : 6 < (hK h a).2) (hn : (hK h a).2 < 2 ^ 31) : si (some a) 6 x h f = f (sI h a 6 x) := si_s (j := 6) o hj hn
theorem li_7 {β : Type} {t a : Nat} {h : Hp} {f : Int32 → Option β} (o : ok h [t] a = true) (hj : 7 < (hK h a).2) (hn : (hK h a).2 < 2 ^ 31) : li t (some a) 7 h f = f (hI h a 7) := li_s (j := 7) o hj hn
theorem si_7 {β : Type} {a : Nat} {x : Int32} {h : Hp} {f : Hp → Option β} (o : ok h [13] a = true) (hj : 7 < (hK h a).2) (hn : (hK h a).2 < 2 ^ 31) : si (some a) 7 x h f = f (sI h a 7 x) := si_s (j := 7) o hj hn
theorem li_8 {β : Type} {t a : Nat} {h : Hp} {f : Int32 → Option β} (o : ok h [t] a = true) (hj : 8 < (hK h a).2) (hn : (hK h a).2 < 2 ^ 31) : li t (some a) 8 h f = f (hI h a 8) := li_s (j := 8) o hj hn
theorem si_8 {β : Type} {a : Nat} {x : Int32} {h : Hp} {f : Hp → Option β} (o : ok h [13] a = true) (hj : 8 < (hK h a).2) (hn : (hK h a).2 < 2 ^ 31) : si (some a) 8 x h f = f (sI h a 8 x) := si_s (j := 8) o hj hn
theorem li_9 {β : Type} {t a : Nat} {h : Hp} {f : Int32 → Option β} (o : ok h [t] a = true) (hj : 9 < (hK h a).2) (hn : (hK h a).2 < 2 ^ 31) : li t (some a) 9 h f = f (hI h a 9) := li_s (j := 9) o hj hn
theorem si_9 {β : Type} {a : Nat} {x : Int32} {h : Hp} {f : Hp → Option β} (o : ok h [13] a = true) (hj : 9 < (hK h a).2) (hn : (hK h a).2 < 2 ^ 31) : si (some a) 9 x h f = f (sI h a 9 x) := si_s (j := 9) o hj hn
theorem li_10 {β : Type} {t a : Nat} {h : Hp} {f : Int32 → Option β} (o : ok h [t] a = true) (hj : 10 < (hK h a).2) (hn : (hK h a).2 < 2 ^ 31) : li t (some a) 10 h f = f (hI h a 10) := li_s (j := 10) o hj hn
theorem si_10 {β : Type} {a : Nat} {x : Int32} {h : Hp} {f : Hp → Option β} (o : ok h [13] a = true) (hj : 10 < (hK h a).2) (hn : (hK h a).2 < 2 ^ 31) : si (some a) 10 x h f = f (sI h a 10 x) := si_s (j := 10) o hj hn
theorem li_11 {β : Type} {t a : Nat} {h : Hp} {f : Int32 → Option β} (o : ok h [t] a = true) (hj : 11 < (hK h a).2) (hn : (hK h a).2 < 2 ^ 31) : li t (some a) 11 h f = f (hI h a 11) := li_s (j := 11) o hj hn
theorem si_11 {β : Type} {a : Nat} {x : Int32} {h : Hp} {f : Hp → Option β} (o : ok h [13] a = true) (hj : 11 < (hK h a).2) (hn : (hK h a).2 < 2 ^ 31) : si (some a) 11 x h f = f (sI h a 11 x) := si_s (j := 11) o hj hn
theorem li_12 {β : Type} {t a : Nat} {h : Hp} {f : Int32 → Option β} (o : ok h [t] a = true) (hj : 12 < (hK h a).2) (hn : (hK h a).2 < 2 ^ 31) : li t (some a) 12 h f = f (hI h a 12) := li_s (j := 12) o hj hn
theorem si_12 {β : Type} {a : Nat} {x : Int32} {h : Hp} {f : Hp → Option β} (o : ok h [13] a = true) (hj : 12 < (hK h a).2) (hn : (hK h a).2 < 2 ^ 31) : si (some a) 12 x h f = f (sI h a 12 x) := si_s (j := 12) o hj hn
theorem li_13 {β : Type} {t a : Nat} {h : Hp} {f : Int32 → Option β} (o : ok h [t] a = true) (hj : 13 < (hK h a).2) (hn : (hK h a).2 < 2 ^ 31) : li t (some a) 13 h f = f (hI h a 13) := li_s (j := 13) o hj hn
theorem si_13 {β : Type} {a : Nat} {x : Int32} {h : Hp} {f : Hp → Option β} (o : ok h [13] a = true) (hj : 13 < (hK h a).2) (hn : (hK h a).2 < 2 ^ 31) : si (some a) 13 x h f = f (sI h a 13 x) := si_s (j := 13) o hj hn
theorem li_14 {β : Type} {t a : Nat} {h : Hp} {f : Int32 → Option β} (o : ok h [t] a = true) (hj : 14 < (hK h a).2) (hn : (hK h a).2 < 2 ^ 31) : li t (some a) 14 h f = f (hI h a 14) := li_s (j := 14) o hj hn
theorem si_14 {β : Type} {a : Nat} {x : Int32} {h : Hp} {f : Hp → Option β} (o : ok h [13] a = true) (hj : 14 < (hK h a).2) (hn : (hK h a).2 < 2 ^ 31) : si (some a) 14 x h f = f (sI h a 14 x) := si_s (j := 14) o hj hn
theorem li_15 {β : Type} {t a : Nat} {h : Hp} {f : Int32 → Option β} (o : ok h [t] a = true) (hj : 15 < (hK h a).2) (hn : (hK h a).2 < 2 ^ 31) : li t (some a) 15 h f = f (hI h a 15) := li_s (j := 15) o hj hn
theorem si_15 {β : Type} {a : Nat} {x : Int32} {h : Hp} {f : Hp → Option β} (o : ok h [13] a = true) (hj : 15 < (hK h a).2) (hn : (hK h a).2 < 2 ^ 31) : si (some a) 15 x h f = f (sI h a 15 x) := si_s (j := 15) o hj hn
theorem li_16 {β : Type} {t a : Nat} {h : Hp} {f : Int32 → Option β} (o : ok h [t] a = true) (hj : 16 < (hK h a).2) (hn : (hK h a).2 < 2 ^ 31) : li t (some a) 16 h f = f (hI h a 16) := li_s (j := 16) o hj hn
theorem si_16 {β : Type} {a : Nat} {x : Int32} {h : Hp} {f : Hp → Option β} (o : ok h [13] a = true) (hj : 16 < (hK h a).2) (hn : (hK h a).2 < 2 ^ 31) : si (some a) 16 x h f = f (sI h a 16 x) := si_s (j := 16) o hj hn
theorem li_17 {β : Type} {t a : Nat} {h : Hp} {f : Int32 → Option β} (o : ok h [t] a = true) (hj : 17 < (hK h a).2) (hn : (hK h a).2 < 2 ^ 31) : li t (some a) 17 h f = f (hI h a 17) := li_s (j := 17) o hj hn
theorem si_17 {β : Type} {a : Nat} {x : Int32} {h : Hp} {f : Hp → Option β} (o : ok h [13] a = true) (hj : 17 < (hK h a).2) (hn : (hK h a).2 < 2 ^ 31) : si (some a) 17 x h f = f (sI h a 17 x) := si_s (j := 17) o hj hn
theorem li_18 {β : Type} {t a : Nat} {h : Hp} {f : Int32 → Option β} (o : ok h [t] a = true) (hj : 18 < (hK h a).2) (hn : (hK h a).2 < 2 ^ 31) : li t (some a) 18 h f = f (hI h a 18) := li_s (j := 18) o hj hn
theorem si_18 {β : Type} {a : Nat} {x : Int32} {h : Hp} {f : Hp → Option β} (o : ok h [13] a = true) (hj : 18 < (hK h a).2) (hn : (hK h a).2 < 2 ^ 31) : si (some a) 18 x h f = f (sI h a 18 x) := si_s (j := 18) o hj hn
/-! frames: which cells may have changed (ints by P, longs by Q) -/
def Fx (P Q : Nat → Nat → Prop) (h h' : Hp) : Prop := hK h' = hK h ∧ hz h' = hz h ∧ hs h' = hs h ∧ hR h' = hR h ∧ (∀ a k, ¬ P a k → hI h' a k = hI h a k) ∧ ∀ a k, ¬ Q a k → hL h' a k = hL h a k
def nF : Nat → Nat → Prop := fun _ _ => False
abbrev Fi (P : Nat → Nat → Prop) (h h' : Hp) : Prop := Fx P nF h h'
theorem Fx_r (P Q : Nat → Nat → Prop) (h : Hp) : Fx P Q h h := ⟨rfl, rfl, rfl, rfl, fun _ _ _ => rfl, fun _ _ _ => rfl⟩
theorem Fx_t {P Q : Nat → Nat → Prop} {h h1 h2 : Hp} (f : Fx P Q h h1) (g : Fx P Q h1 h2) : Fx P Q h h2 := ⟨g.1.trans f.1, g.2.1.trans f.2.1, g.2.2.1.trans f.2.2.1, g.2.2.2.1.trans f.2.2.2.1, fun a k p => (g.2.2.2.2.1 a k p).trans (f.2.2.2.2.1 a k p), fun a k p => (g.2.2.2.2.2 a k p).trans (f.2.2.2.2.2 a k p)⟩
theorem Fx_m {P Q P' Q' : Nat → Nat → Prop} {h h1 : Hp} (f : Fx P Q h h1) (p : ∀ a k, P a k → P' a k) (q : ∀ a k, Q a k → Q' a k) : Fx P' Q' h h1 := ⟨f.1, f.2.1, f.2.2.1, f.2.2.2.1, fun a k n => f.2.2.2.2.1 a k (fun x => n (p a k x)), fun a k n => f.2.2.2.2.2 a k (fun x => n (q a k x))⟩
theorem Fx_K {P Q : Nat → Nat → Prop} {h h1 : Hp} (f : Fx P Q h h1) : hK h1 = hK h := f.1
theorem Fx_z {P Q : Nat → Nat → Prop} {h h1 : Hp} (f : Fx P Q h h1) : hz h1 = hz h := f.2.1
theorem Fx_s {P Q : Nat → Nat → Prop} {h h1 : Hp} (f : Fx P Q h h1) : hs h1 = hs h := f.2.2.1
theorem Fx_R {P Q : Nat → Nat → Prop} {h h1 : Hp} (f : Fx P Q h h1) : hR h1 = hR h := f.2.2.2.1
theorem Fx_I {P Q : Nat → Nat → Prop} {h h1 : Hp} (f : Fx P Q h h1) {a k : Nat} (n : ¬ P a k) : hI h1 a k = hI h a k := f.2.2.2.2.1 a k n
theorem Fx_L {P Q : Nat → Nat → Prop} {h h1 : Hp} (f : Fx P Q h h1) {a k : Nat} (n : ¬ Q a k) : hL h1 a k = hL h a k := f.2.2.2.2.2 a k n
theorem Fi_L {P : Nat → Nat → Prop} {h h1 : Hp} (f : Fi P h h1) : hL h1 = hL h := funext fun a => funext fun k => f.2.2.2.2.2 a k (fun x => x)
theorem Fx_ok {P Q : Nat → Nat → Prop} {h h1 : Hp} (f : Fx P Q h h1) : ok h1 = ok h := by
  funext ts a; simp only [ok, f.1, f.2.1]
theorem Fx_Lay {P Q : Nat → Nat → Prop} {h h1 : Hp} (f : Fx P Q h h1) (L : Lay h) : Lay h1 := by
  refine ⟨by rw [f.2.1]; exact L.1, fun a ha => by rw [f.1]; exact L.2.1 a ha, fun q hq => by rw [f.2.2.2.1]; exact L.2.2 q hq⟩
theorem Fx_sI {P Q : Nat → Nat → Prop} (h : Hp) {a k : Nat} (x : Int32) (p : P a k) : Fx P Q h (sI h a k x) := by
  refine ⟨rfl, rfl, rfl, rfl, fun b j n => ?_, fun _ _ _ => rfl⟩
  rw [hI_sI]
  by_cases e : b = a
  · subst e
    rw [if_pos rfl, up_at]
    by_cases e2 : j = k
    · subst e2; exact absurd p n
    · rw [if_neg e2]
  · rw [if_neg e]
theorem Fx_sL {P Q : Nat → Nat → Prop} (h : Hp) {a k : Nat} (x : Int64) (p : Q a k) : Fx P Q h (sL h a k x) := by
  refine ⟨rfl, rfl, rfl, rfl, fun _ _ _ => rfl, fun b j n => ?_⟩
  rw [hL_sL]
  by_cases e : b = a
  · subst e
    rw [if_pos rfl, up_at]
    by_cases e2 : j = k
    · subst e2; exact absurd p n
    · rw [if_neg e2]
  · rw [if_neg e]
theorem Fx_sC {P Q : Nat → Nat → Prop} (h : Hp) {a : Nat} (f : Nat → Int32) (p : ∀ k, ¬ P a k → f k = hI h a k) : Fx P Q h (sC h a f) := by
  refine ⟨rfl, rfl, rfl, rfl, fun b j n => ?_, fun _ _ _ => rfl⟩
  rw [hI_sC]
  by_cases e : b = a
  · subst e
    rw [if_pos rfl]
    exact p j n
  · rw [if_neg e]
theorem sI_at (h : Hp) (a k : Nat) (x : Int32) : hI (sI h a k x) a k = x := by rw [hI_sI, if_pos rfl, up_at, if_pos rfl]
theorem sI_ne {h : Hp} {a k b j : Nat} {x : Int32} (e : b = a → j ≠ k) : hI (sI h a k x) b j = hI h b j := by
  rw [hI_sI]
  by_cases q : b = a
  · subst q; rw [if_pos rfl, up_at, if_neg (e rfl)]
  · rw [if_neg q]
theorem sL_at (h : Hp) (a k : Nat) (x : Int64) : hL (sL h a k x) a k = x := by rw [hL_sL, if_pos rfl, up_at, if_pos rfl]
theorem sL_ne {h : Hp} {a k b j : Nat} {x : Int64} (e : b = a → j ≠ k) : hL (sL h a k x) b j = hL h b j := by
  rw [hL_sL]
  by_cases q : b = a
  · subst q; rw [if_pos rfl, up_at, if_neg (e rfl)]
  · rw [if_neg q]
theorem ds_a {β : Type} {cs : List (Nat × Option β)} {a t n : Nat} {h : Hp} (hz1 : a < hz h) (hk : hK h a = (t, n)) : ds cs (some a) h = dl cs t := by
  simp only [ds, hz1, if_true, hk]
theorem rz_01 {x : Int32} {h : Hp} (hx : x = 0 ∨ x = 1) : rz x h = some (x, h) := by simp [rz, hx]
theorem eN_0 {c : Nat} (hc : c < 2 ^ 31) : nI c = 0 ↔ c = 0 := nI_eqk 0 hc (by decide)
theorem ltN_0 {c : Nat} (hc : c < 2 ^ 31) : nI c < 0 ↔ c < 0 := nI_ltI (b := 0) hc (by decide)
theorem leN_0 {c : Nat} (hc : c < 2 ^ 31) : nI c ≤ 0 ↔ c ≤ 0 := nI_leI (b := 0) hc (by decide)
theorem Nlt_0 {c : Nat} (hc : c < 2 ^ 31) : 0 < nI c ↔ 0 < c := nI_ltI (a := 0) (by decide) hc
theorem Nle_0 {c : Nat} (hc : c < 2 ^ 31) : 0 ≤ nI c ↔ 0 ≤ c := nI_leI (a := 0) (by decide) hc
theorem cN_0 : nI 0 = 0 := rfl
theorem mN_0 (c : Nat) : (0 : Int32) * nI c = nI (0 * c) := pk_mul 0 c
theorem aN_0 (c : Nat) : nI c + (0 : Int32) = nI (c + 0) := nI_add c 0
theorem sN_0 {c : Nat} (hc : 0 ≤ c) : nI c - (0 : Int32) = nI (c - 0) := pk_sub (a := c) (b := 0) hc
theorem eN_1 {c : Nat} (hc : c < 2 ^ 31) : nI c = 1 ↔ c = 1 := nI_eqk 1 hc (by decide)
theorem ltN_1 {c : Nat} (hc : c < 2 ^ 31) : nI c < 1 ↔ c < 1 := nI_ltI (b := 1) hc (by decide)
theorem leN_1 {c : Nat} (hc : c < 2 ^ 31) : nI c ≤ 1 ↔ c ≤ 1 := nI_leI (b := 1) hc (by decide)
theorem Nlt_1 {c : Nat} (hc : c < 2 ^ 31) : 1 < nI c ↔ 1 < c := nI_ltI (a := 1) (by decide) hc
theorem Nle_1 {c : Nat} (hc : c < 2 ^ 31) : 1 ≤ nI c ↔ 1 ≤ c := nI_leI (a := 1) (by decide) hc
theorem cN_1 : nI 1 = 1 := rfl
theorem mN_1 (c : Nat) : (1 : Int32) * nI c = nI (1 * c) := pk_mul 1 c
theorem aN_1 (c : Nat) : nI c + (1 : Int32) = nI (c + 1) := nI_add c 1
theorem sN_1 {c : Nat} (hc : 1 ≤ c) : nI c - (1 : Int32) = nI (c - 1) := pk_sub (a := c) (b := 1) hc
theorem eN_2 {c : Nat} (hc : c < 2 ^ 31) : nI c = 2 ↔ c = 2 := nI_eqk 2 hc (by decide)
theorem ltN_2 {c : Nat} (hc : c < 2 ^ 31) : nI c < 2 ↔ c < 2 := nI_ltI (b := 2) hc (by decide)
theorem leN_2 {c : Nat} (hc : c < 2 ^ 31) : nI c ≤ 2 ↔ c ≤ 2 := nI_leI (b := 2) hc (by decide)
theorem Nlt_2 {c : Nat} (hc : c < 2 ^ 31) : 2 < nI c ↔ 2 < c := nI_ltI (a := 2) (by decide) hc
theorem Nle_2 {c : Nat} (hc : c < 2 ^ 31) : 2 ≤ nI c ↔ 2 ≤ c := nI_leI (a := 2) (by decide) hc
theorem cN_2 : nI 2 = 2 := rfl
theorem mN_2 (c : Nat) : (2 : Int32) * nI c = nI (2 * c) := pk_mul 2 c
theorem aN_2 (c : Nat) : nI c + (2 : Int32) = nI (c + 2) := nI_add c 2
theorem sN_2 {c : Nat} (hc : 2 ≤ c) : nI c - (2 : Int32) = nI (c - 2) := pk_sub (a := c) (b := 2) hc
theorem eN_3 {c : Nat} (hc : c < 2 ^ 31) : nI c = 3 ↔ c = 3 := nI_eqk 3 hc (by decide)
theorem ltN_3 {c : Nat} (hc : c < 2 ^ 31) : nI c < 3 ↔ c < 3 := nI_ltI (b := 3) hc (by decide)
theorem leN_3 {c : Nat} (hc : c < 2 ^ 31) : nI c ≤ 3 ↔ c ≤ 3 := nI_leI (b := 3) hc (by decide)
theorem Nlt_3 {c : Nat} (hc : c < 2 ^ 31) : 3 < nI c ↔ 3 < c := nI_ltI (a := 3) (by decide) hc
theorem Nle_3 {c : Nat} (hc : c < 2 ^ 31) : 3 ≤ nI c ↔ 3 ≤ c := nI_leI (a := 3) (by decide) hc
theorem cN_3 : nI 3 = 3 := rfl
theorem mN_3 (c : Nat) : (3 : Int32) * nI c = nI (3 * c) := pk_mul 3 c
theorem aN_3 (c : Nat) : nI c + (3 : Int32) = nI (c + 3) := nI_add c 3
theorem sN_3 {c : Nat} (hc : 3 ≤ c) : nI c - (3 : Int32) = nI (c - 3) := pk_sub (a := c) (b := 3) hc
theorem eN_4 {c : Nat} (hc : c < 2 ^ 31) : nI c = 4 ↔ c = 4 := nI_eqk 4 hc (by decide)
theorem ltN_4 {c : Nat} (hc : c < 2 ^ 31) : nI c < 4 ↔ c < 4 := nI_ltI (b := 4) hc (by decide)
theorem leN_4 {c : Nat} (hc : c < 2 ^ 31) : nI c ≤ 4 ↔ c ≤ 4 := nI_leI (b := 4) hc (by decide)
theorem Nlt_4 {c : Nat} (hc : c < 2 ^ 31) : 4 < nI c ↔ 4 < c := nI_ltI (a := 4) (by decide) hc
theorem Nle_4 {c : Nat} (hc : c < 2 ^ 31) : 4 ≤ nI c ↔ 4 ≤ c := nI_leI (a := 4) (by decide) hc
theorem cN_4 : nI 4 = 4 := rfl
theorem mN_4 (c : Nat) : (4 : Int32) * nI c = nI (4 * c) := pk_mul 4 c
theorem aN_4 (c : Nat) : nI c + (4 : Int32) = nI (c + 4) := nI_add c 4
theorem sN_4 {c : Nat} (hc : 4 ≤ c) : nI c - (4 : Int32) = nI (c - 4) := pk_sub (a := c) (b := 4) hc
theorem eN_5 {c : Nat} (hc : c < 2 ^ 31) : nI c = 5 ↔ c = 5 := nI_eqk 5 hc (by decide)
theorem ltN_5 {c : Nat} (hc : c < 2 ^ 31) : nI c < 5 ↔ c < 5 := nI_ltI (b := 5) hc (by decide)
theorem leN_5 {c : Nat} (hc : c < 2 ^ 31) : nI c ≤ 5 ↔ c ≤ 5 := nI_leI (b := 5) hc (by decide)
theorem Nlt_5 {c : Nat} (hc : c < 2 ^ 31) : 5 < nI c ↔ 5 < c := nI_ltI (a := 5) (by decide) hc
theorem Nle_5 {c : Nat} (hc : c < 2 ^ 31) : 5 ≤ nI c ↔ 5 ≤ c := nI_leI (a := 5) (by decide) hc
theorem cN_5 : nI 5 = 5 := rfl
theorem mN_5 (c : Nat) : (5 : Int32) * nI c = nI (5 * c) := pk_mul 5 c
theorem aN_5 (c : Nat) : nI c + (5 : Int32) = nI (c + 5) := nI_add c 5
theorem sN_5 {c : Nat} (hc : 5 ≤ c) : nI c - (5 : Int32) = nI (c - 5) := pk_sub (a := c) (b := 5) hc
theorem eN_6 {c : Nat} (hc : c < 2 ^ 31) : nI c = 6 ↔ c = 6 := nI_eqk 6 hc (by decide)
theorem ltN_6 {c : Nat} (hc : c < 2 ^ 31) : nI c < 6 ↔ c < 6 := nI_ltI (b := 6) hc (by decide)
theorem leN_6 {c : Nat} (hc : c < 2 ^ 31) : nI c ≤ 6 ↔ c ≤ 6 := nI_leI (b := 6) hc (by decide)
theorem Nlt_6 {c : Nat} (hc : c < 2 ^ 31) : 6 < nI c ↔ 6 < c := nI_ltI (a := 6) (by decide) hc
theorem Nle_6 {c : Nat} (hc : c < 2 ^ 31) : 6 ≤ nI c ↔ 6 ≤ c := nI_leI (a := 6) (by decide) hc
theorem cN_6 : nI 6 = 6 := rfl
theorem mN_6 (c : Nat) : (6 : Int32) * nI c = nI (6 * c) := pk_mul 6 c
theorem aN_6 (c : Nat) : nI c + (6 : Int32) = nI (c + 6) := nI_add c 6
theorem sN_6 {c : Nat} (hc : 6 ≤ c) : nI c - (6 : Int32) = nI (c - 6) := pk_sub (a := c) (b := 6) hc
theorem eN_7 {c : Nat} (hc : c < 2 ^ 31) : nI c = 7 ↔ c = 7 := nI_eqk 7 hc (by decide)
theorem ltN_7 {c : Nat} (hc : c < 2 ^ 31) : nI c < 7 ↔ c < 7 := nI_ltI (b := 7) hc (by decide)
theorem leN_7 {c : Nat} (hc : c < 2 ^ 31) : nI c ≤ 7 ↔ c ≤ 7 := nI_leI (b := 7) hc (by decide)
theorem Nlt_7 {c : Nat} (hc : c < 2 ^ 31) : 7 < nI c ↔ 7 < c := nI_ltI (a := 7) (by decide) hc
theorem Nle_7 {c : Nat} (hc : c < 2 ^ 31) : 7 ≤ nI c ↔ 7 ≤ c := nI_leI (a := 7) (by decide) hc
theorem cN_7 : nI 7 = 7 := rfl
theorem mN_7 (c : Nat) : (7 : Int32) * nI c = nI (7 * c) := pk_mul 7 c
theorem aN_7 (c : Nat) : nI c + (7 : Int32) = nI (c + 7) := nI_add c 7
theorem sN_7 {c : Nat} (hc : 7 ≤ c) : nI c - (7 : Int32) = nI (c - 7) := pk_sub (a := c) (b := 7) hc
theorem eN_8 {c : Nat} (hc : c < 2 ^ 31) : nI c = 8 ↔ c = 8 := nI_eqk 8 hc (by decide)
theorem ltN_8 {c : Nat} (hc : c < 2 ^ 31) : nI c < 8 ↔ c < 8 := nI_ltI (b := 8) hc (by decide)
theorem leN_8 {c : Nat} (hc : c < 2 ^ 31) : nI c ≤ 8 ↔ c ≤ 8 := nI_leI (b := 8) hc (by decide)
theorem Nlt_8 {c : Nat} (hc : c < 2 ^ 31) : 8 < nI c ↔ 8 < c := nI_ltI (a := 8) (by decide) hc
theorem Nle_8 {c : Nat} (hc : c < 2 ^ 31) : 8 ≤ nI c ↔ 8 ≤ c := nI_leI (a := 8) (by decide) hc
theorem cN_8 : nI 8 = 8 := rfl
theorem mN_8 (c : Nat) : (8 : Int32) * nI c = nI (8 * c) := pk_mul 8 c
theorem aN_8 (c : Nat) : nI c + (8 : Int32) = nI (c + 8) := nI_add c 8
theorem sN_8 {c : Nat} (hc : 8 ≤ c) : nI c - (8 : Int32) = nI (c - 8) := pk_sub (a := c) (b := 8) hc
theorem eN_9 {c : Nat} (hc : c < 2 ^ 31) : nI c = 9 ↔ c = 9 := nI_eqk 9 hc (by decide)
theorem ltN_9 {c : Nat} (hc : c < 2 ^ 31) : nI c < 9 ↔ c < 9 := nI_ltI (b := 9) hc (by decide)
theorem leN_9 {c : Nat} (hc : c < 2 ^ 31) : nI c ≤ 9 ↔ c ≤ 9 := nI_leI (b := 9) hc (by decide)
theorem Nlt_9 {c : Nat} (hc : c < 2 ^ 31) : 9 < nI c ↔ 9 < c := nI_ltI (a := 9) (by decide) hc
theorem Nle_9 {c : Nat} (hc : c < 2 ^ 31) : 9 ≤ nI c ↔ 9 ≤ c := nI_leI (a := 9) (by decide) hc
theorem cN_9 : nI 9 = 9 := rfl
theorem mN_9 (c : Nat) : (9 : Int32) * nI c = nI (9 * c) := pk_mul 9 c
theorem aN_9 (c : Nat) : nI c + (9 : Int32) = nI (c + 9) := nI_add c 9
theorem sN_9 {c : Nat} (hc : 9 ≤ c) : nI c - (9 : Int32) = nI (c - 9) := pk_sub (a := c) (b := 9) hc
theorem eN_10 {c : Nat} (hc : c < 2 ^ 31) : nI c = 10 ↔ c = 10 := nI_eqk 10 hc (by decide)
theorem ltN_10 {c : Nat} (hc : c < 2 ^ 31) : nI c < 10 ↔ c < 10 := nI_ltI (b := 10) hc (by decide)
theorem leN_10 {c : Nat} (hc : c < 2 ^ 31) : nI c ≤ 10 ↔ c ≤ 10 := nI_leI (b := 10) hc (by decide)
theorem Nlt_10 {c : Nat} (hc : c < 2 ^ 31) : 10 < nI c ↔ 10 < c := nI_ltI (a := 10) (by decide) hc
theorem Nle_10 {c : Nat} (hc : c < 2 ^ 31) : 10 ≤ nI c ↔ 10 ≤ c := nI_leI (a := 10) (by decide) hc
theorem cN_10 : nI 10 = 10 := rfl
theorem mN_10 (c : Nat) : (10 : Int32) * nI c = nI (10 * c) := pk_mul 10 c
theorem aN_10 (c : Nat) : nI c + (10 : Int32) = nI (c + 10) := nI_add c 10
theorem sN_10 {c : Nat} (hc : 10 ≤ c) : nI c - (10 : Int32) = nI (c - 10) := pk_sub (a := c) (b := 10) hc
theorem eN_11 {c : Nat} (hc : c < 2 ^ 31) : nI c = 11 ↔ c = 11 := nI_eqk 11 hc (by decide)
theorem ltN_11 {c : Nat} (hc : c < 2 ^ 31) : nI c < 11 ↔ c < 11 := nI_ltI (b := 11) hc (by decide)
theorem leN_11 {c : Nat} (hc : c < 2 ^ 31) : nI c ≤ 11 ↔ c ≤ 11 := nI_leI (b := 11) hc (by decide)
theorem Nlt_11 {c : Nat} (hc : c < 2 ^ 31) : 11 < nI c ↔ 11 < c := nI_ltI (a := 11) (by decide) hc
theorem Nle_11 {c : Nat} (hc : c < 2 ^ 31) : 11 ≤ nI c ↔ 11 ≤ c := nI_leI (a := 11) (by decide) hc
theorem cN_11 : nI 11 = 11 := rfl
theorem mN_11 (c : Nat) : (11 : Int32) * nI c = nI (11 * c) := pk_mul 11 c
theorem aN_11 (c : Nat) : nI c + (11 : Int32) = nI (c + 11) := nI_add c 11
theorem sN_11 {c : Nat} (hc : 11 ≤ c) : nI c - (11 : Int32) = nI (c - 11) := pk_sub (a := c) (b := 11) hc
theorem eN_12 {c : Nat} (hc : c < 2 ^ 31) : nI c = 12 ↔ c = 12 := nI_eqk 12 hc (by decide)
theorem ltN_12 {c : Nat} (hc : c < 2 ^ 31) : nI c < 12 ↔ c < 12 := nI_ltI (b := 12) hc (by decide)
theorem leN_12 {c : Nat} (hc : c < 2 ^ 31) : nI c ≤ 12 ↔ c ≤ 12 := nI_leI (b := 12) hc (by decide)
theorem Nlt_12 {c : Nat} (hc : c < 2 ^ 31) : 12 < nI c ↔ 12 < c := nI_ltI (a := 12) (by decide) hc
theorem Nle_12 {c : Nat} (hc : c < 2 ^ 31) : 12 ≤ nI c ↔ 12 ≤ c := nI_leI (a := 12) (by decide) hc
theorem cN_12 : nI 12 = 12 := rfl
theorem mN_12 (c : Nat) : (12 : Int32) * nI c = nI (12 * c) := pk_mul 12 c
theorem aN_12 (c : Nat) : nI c + (12 : Int32) = nI (c + 12) := nI_add c 12
theorem sN_12 {c : Nat} (hc : 12 ≤ c) : nI c - (12 : Int32) = nI (c - 12) := pk_sub (a := c) (b := 12) hc
theorem eN_13 {c : Nat} (hc : c < 2 ^ 31) : nI c = 13 ↔ c = 13 := nI_eqk 13 hc (by decide)
theorem ltN_13 {c : Nat} (hc : c < 2 ^ 31) : nI c < 13 ↔ c < 13 := nI_ltI (b := 13) hc (by decide)
theorem leN_13 {c : Nat} (hc : c < 2 ^ 31) : nI c ≤ 13 ↔ c ≤ 13 := nI_leI (b := 13) hc (by decide)
theorem Nlt_13 {c : Nat} (hc : c < 2 ^ 31) : 13 < nI c ↔ 13 < c := nI_ltI (a := 13) (by decide) hc
theorem Nle_13 {c : Nat} (hc : c < 2 ^ 31) : 13 ≤ nI c ↔ 13 ≤ c := nI_leI (a := 13) (by decide) hc
theorem cN_13 : nI 13 = 13 := rfl
theorem mN_13 (c : Nat) : (13 : Int32) * nI c = nI (13 * c) := pk_mul 13 c
theorem aN_13 (c : Nat) : nI c + (13 : Int32) = nI (c + 13) := nI_add c 13
theorem sN_13 {c : Nat} (hc : 13 ≤ c) : nI c - (13 : Int32) = nI (c - 13) := pk_sub (a := c) (b := 13) hc
theorem eN_14 {c : Nat} (hc : c < 2 ^ 31) : nI c = 14 ↔ c = 14 := nI_eqk 14 hc (by decide)
theorem ltN_14 {c : Nat} (hc : c < 2 ^ 31) : nI c < 14 ↔ c < 14 := nI_ltI (b := 14) hc (by decide)
theorem leN_14 {c : Nat} (hc : c < 2 ^ 31) : nI c ≤ 14 ↔ c ≤ 14 := nI_leI (b := 14) hc (by decide)
theorem Nlt_14 {c : Nat} (hc : c < 2 ^ 31) : 14 < nI c ↔ 14 < c := nI_ltI (a := 14) (by decide) hc
theorem Nle_14 {c : Nat} (hc : c < 2 ^ 31) : 14 ≤ nI c ↔ 14 ≤ c := nI_leI (a := 14) (by decide) hc
theorem cN_14 : nI 14 = 14 := rfl
theorem mN_14 (c : Nat) : (14 : Int32) * nI c = nI (14 * c) := pk_mul 14 c
theorem aN_14 (c : Nat) : nI c + (14 : Int32) = nI (c + 14) := nI_add c 14
theorem sN_14 {c : Nat} (hc : 14 ≤ c) : nI c - (14 : Int32) = nI (c - 14) := pk_sub (a := c) (b := 14) hc
theorem eN_15 {c : Nat} (hc : c < 2 ^ 31) : nI c = 15 ↔ c = 15 := nI_eqk 15 hc (by decide)
theorem ltN_15 {c : Nat} (hc : c < 2 ^ 31) : nI c < 15 ↔ c < 15 := nI_ltI (b := 15) hc (by decide)
theorem leN_15 {c : Nat} (hc : c < 2 ^ 31) : nI c ≤ 15 ↔ c ≤ 15 := nI_leI (b := 15) hc (by decide)
theorem Nlt_15 {c : Nat} (hc : c < 2 ^ 31) : 15 < nI c ↔ 15 < c := nI_ltI (a := 15) (by decide) hc
theorem Nle_15 {c : Nat} (hc : c < 2 ^ 31) : 15 ≤ nI c ↔ 15 ≤ c := nI_leI (a := 15) (by decide) hc
theorem cN_15 : nI 15 = 15 := rfl
theorem mN_15 (c : Nat) : (15 : Int32) * nI c = nI (15 * c) := pk_mul 15 c
theorem aN_15 (c : Nat) : nI c + (15 : Int32) = nI (c + 15) := nI_add c 15
theorem sN_15 {c : Nat} (hc : 15 ≤ c) : nI c - (15 : Int32) = nI (c - 15) := pk_sub (a := c) (b := 15) hc
theorem eN_16 {c : Nat} (hc : c < 2 ^ 31) : nI c = 16 ↔ c = 16 := nI_eqk 16 hc (by decide)
theorem ltN_16 {c : Nat} (hc : c < 2 ^ 31) : nI c < 16 ↔ c < 16 := nI_ltI (b := 16) hc (by decide)
theorem leN_16 {c : Nat} (hc : c < 2 ^ 31) : nI c ≤ 16 ↔ c ≤ 16 := nI_leI (b := 16) hc (by decide)
theorem Nlt_16 {c : Nat} (hc : c < 2 ^ 31) : 16 < nI c ↔ 16 < c := nI_ltI (a := 16) (by decide) hc
theorem Nle_16 {c : Nat} (hc : c < 2 ^ 31) : 16 ≤ nI c ↔ 16 ≤ c := nI_leI (a := 16) (by decide) hc
theorem cN_16 : nI 16 = 16 := rfl
theorem mN_16 (c : Nat) : (16 : Int32) * nI c = nI (16 * c) := pk_mul 16 c
theorem aN_16 (c : Nat) : nI c + (16 : Int32) = nI (c + 16) := nI_add c 16
theorem sN_16 {c : Nat} (hc : 16 ≤ c) : nI c - (16 : Int32) = nI (c - 16) := pk_sub (a := c) (b := 16) hc
theorem eN_17 {c : Nat} (hc : c < 2 ^ 31) : nI c = 17 ↔ c = 17 := nI_eqk 17 hc (by decide)
theorem ltN_17 {c : Nat} (hc : c < 2 ^ 31) : nI c < 17 ↔ c < 17 := nI_ltI (b := 17) hc (by decide)
theorem leN_17 {c : Nat} (hc : c < 2 ^ 31) : nI c ≤ 17 ↔ c ≤ 17 := nI_leI (b := 17) hc (by decide)
theorem Nlt_17 {c : Nat} (hc : c < 2 ^ 31) : 17 < nI c ↔ 17 < c := nI_ltI (a := 17) (by decide) hc
theorem Nle_17 {c : Nat} (hc : c < 2 ^ 31) : 17 ≤ nI c ↔ 17 ≤ c := nI_leI (a := 17) (by decide) hc
theorem cN_17 : nI 17 = 17 := rfl
theorem mN_17 (c : Nat) : (17 : Int32) * nI c = nI (17 * c) := pk_mul 17 c
theorem aN_17 (c : Nat) : nI c + (17 : Int32) = nI (c + 17) := nI_add c 17
theorem sN_17 {c : Nat} (hc : 17 ≤ c) : nI c - (17 : Int32) = nI (c - 17) := pk_sub (a := c) (b := 17) hc
theorem eN_18 {c : Nat} (hc : c < 2 ^ 31) : nI c = 18 ↔ c = 18 := nI_eqk 18 hc (by decide)
theorem ltN_18 {c : Nat} (hc : c < 2 ^ 31) : nI c < 18 ↔ c < 18 := nI_ltI (b := 18) hc (by decide)
theorem leN_18 {c : Nat} (hc : c < 2 ^ 31) : nI c ≤ 18 ↔ c ≤ 18 := nI_leI (b := 18) hc (by decide)
theorem Nlt_18 {c : Nat} (hc : c < 2 ^ 31) : 18 < nI c ↔ 18 < c := nI_ltI (a := 18) (by decide) hc
theorem Nle_18 {c : Nat} (hc : c < 2 ^ 31) : 18 ≤ nI c ↔ 18 ≤ c := nI_leI (a := 18) (by decide) hc
theorem cN_18 : nI 18 = 18 := rfl
theorem mN_18 (c : Nat) : (18 : Int32) * nI c = nI (18 * c) := pk_mul 18 c
theorem aN_18 (c : Nat) : nI c + (18 : Int32) = nI (c + 18) := nI_add c 18
theorem sN_18 {c : Nat} (hc : 18 ≤ c) : nI c - (18 : Int32) = nI (c - 18) := pk_sub (a := c) (b := 18) hc
theorem eN_19 {c : Nat} (hc : c < 2 ^ 31) : nI c = 19 ↔ c = 19 := nI_eqk 19 hc (by decide)
theorem ltN_19 {c : Nat} (hc : c < 2 ^ 31) : nI c < 19 ↔ c < 19 := nI_ltI (b := 19) hc (by decide)
theorem leN_19 {c : Nat} (hc : c < 2 ^ 31) : nI c ≤ 19 ↔ c ≤ 19 := nI_leI (b := 19) hc (by decide)
theorem Nlt_19 {c : Nat} (hc : c < 2 ^ 31) : 19 < nI c ↔ 19 < c := nI_ltI (a := 19) (by decide) hc
theorem Nle_19 {c : Nat} (hc : c < 2 ^ 31) : 19 ≤ nI c ↔ 19 ≤ c := nI_leI (a := 19) (by decide) hc
theorem cN_19 : nI 19 = 19 := rfl
theorem mN_19 (c : Nat) : (19 : Int32) * nI c = nI (19 * c) := pk_mul 19 c
theorem aN_19 (c : Nat) : nI c + (19 : Int32) = nI (c + 19) := nI_add c 19
theorem sN_19 {c : Nat} (hc : 19 ≤ c) : nI c - (19 : Int32) = nI (c - 19) := pk_sub (a := c) (b := 19) hc
theorem eN_30 {c : Nat} (hc : c < 2 ^ 31) : nI c = 30 ↔ c = 30 := nI_eqk 30 hc (by decide)
theorem ltN_30 {c : Nat} (hc : c < 2 ^ 31) : nI c < 30 ↔ c < 30 := nI_ltI (b := 30) hc (by decide)
theorem leN_30 {c : Nat} (hc : c < 2 ^ 31) : nI c ≤ 30 ↔ c ≤ 30 := nI_leI (b := 30) hc (by decide)
theorem Nlt_30 {c : Nat} (hc : c < 2 ^ 31) : 30 < nI c ↔ 30 < c := nI_ltI (a := 30) (by decide) hc
theorem Nle_30 {c : Nat} (hc : c < 2 ^ 31) : 30 ≤ nI c ↔ 30 ≤ c := nI_leI (a := 30) (by decide) hc
theorem cN_30 : nI 30 = 30 := rfl
theorem mN_30 (c : Nat) : (30 : Int32) * nI c = nI (30 * c) := pk_mul 30 c
theorem aN_30 (c : Nat) : nI c + (30 : Int32) = nI (c + 30) := nI_add c 30
theorem sN_30 {c : Nat} (hc : 30 ≤ c) : nI c - (30 : Int32) = nI (c - 30) := pk_sub (a := c) (b := 30) hc
theorem eN_90 {c : Nat} (hc : c < 2 ^ 31) : nI c = 90 ↔ c = 90 := nI_eqk 90 hc (by decide)
theorem ltN_90 {c : Nat} (hc : c < 2 ^ 31) : nI c < 90 ↔ c < 90 := nI_ltI (b := 90) hc (by decide)
theorem leN_90 {c : Nat} (hc : c < 2 ^ 31) : nI c ≤ 90 ↔ c ≤ 90 := nI_leI (b := 90) hc (by decide)
theorem Nlt_90 {c : Nat} (hc : c < 2 ^ 31) : 90 < nI c ↔ 90 < c := nI_ltI (a := 90) (by decide) hc
theorem Nle_90 {c : Nat} (hc : c < 2 ^ 31) : 90 ≤ nI c ↔ 90 ≤ c := nI_leI (a := 90) (by decide) hc
theorem cN_90 : nI 90 = 90 := rfl
theorem mN_90 (c : Nat) : (90 : Int32) * nI c = nI (90 * c) := pk_mul 90 c
theorem aN_90 (c : Nat) : nI c + (90 : Int32) = nI (c + 90) := nI_add c 90
theorem sN_90 {c : Nat} (hc : 90 ≤ c) : nI c - (90 : Int32) = nI (c - 90) := pk_sub (a := c) (b := 90) hc
theorem eN_100 {c : Nat} (hc : c < 2 ^ 31) : nI c = 100 ↔ c = 100 := nI_eqk 100 hc (by decide)
theorem ltN_100 {c : Nat} (hc : c < 2 ^ 31) : nI c < 100 ↔ c < 100 := nI_ltI (b := 100) hc (by decide)
theorem leN_100 {c : Nat} (hc : c < 2 ^ 31) : nI c ≤ 100 ↔ c ≤ 100 := nI_leI (b := 100) hc (by decide)
theorem Nlt_100 {c : Nat} (hc : c < 2 ^ 31) : 100 < nI c ↔ 100 < c := nI_ltI (a := 100) (by decide) hc
theorem Nle_100 {c : Nat} (hc : c < 2 ^ 31) : 100 ≤ nI c ↔ 100 ≤ c := nI_leI (a := 100) (by decide) hc
theorem cN_100 : nI 100 = 100 := rfl
theorem mN_100 (c : Nat) : (100 : Int32) * nI c = nI (100 * c) := pk_mul 100 c
theorem aN_100 (c : Nat) : nI c + (100 : Int32) = nI (c + 100) := nI_add c 100
theorem sN_100 {c : Nat} (hc : 100 ≤ c) : nI c - (100 : Int32) = nI (c - 100) := pk_sub (a := c) (b := 100) hc
theorem eN_280 {c : Nat} (hc : c < 2 ^ 31) : nI c = 280 ↔ c = 280 := nI_eqk 280 hc (by decide)
theorem ltN_280 {c : Nat} (hc : c < 2 ^ 31) : nI c < 280 ↔ c < 280 := nI_ltI (b := 280) hc (by decide)
theorem leN_280 {c : Nat} (hc : c < 2 ^ 31) : nI c ≤ 280 ↔ c ≤ 280 := nI_leI (b := 280) hc (by decide)
theorem Nlt_280 {c : Nat} (hc : c < 2 ^ 31) : 280 < nI c ↔ 280 < c := nI_ltI (a := 280) (by decide) hc
theorem Nle_280 {c : Nat} (hc : c < 2 ^ 31) : 280 ≤ nI c ↔ 280 ≤ c := nI_leI (a := 280) (by decide) hc
theorem cN_280 : nI 280 = 280 := rfl
theorem mN_280 (c : Nat) : (280 : Int32) * nI c = nI (280 * c) := pk_mul 280 c
theorem aN_280 (c : Nat) : nI c + (280 : Int32) = nI (c + 280) := nI_add c 280
theorem sN_280 {c : Nat} (hc : 280 ≤ c) : nI c - (280 : Int32) = nI (c - 280) := pk_sub (a := c) (b := 280) hc
theorem eN_300 {c : Nat} (hc : c < 2 ^ 31) : nI c = 300 ↔ c = 300 := nI_eqk 300 hc (by decide)
theorem ltN_300 {c : Nat} (hc : c < 2 ^ 31) : nI c < 300 ↔ c < 300 := nI_ltI (b := 300) hc (by decide)
theorem leN_300 {c : Nat} (hc : c < 2 ^ 31) : nI c ≤ 300 ↔ c ≤ 300 := nI_leI (b := 300) hc (by decide)
theorem Nlt_300 {c : Nat} (hc : c < 2 ^ 31) : 300 < nI c ↔ 300 < c := nI_ltI (a := 300) (by decide) hc
theorem Nle_300 {c : Nat} (hc : c < 2 ^ 31) : 300 ≤ nI c ↔ 300 ≤ c := nI_leI (a := 300) (by decide) hc
theorem cN_300 : nI 300 = 300 := rfl
theorem mN_300 (c : Nat) : (300 : Int32) * nI c = nI (300 * c) := pk_mul 300 c
theorem aN_300 (c : Nat) : nI c + (300 : Int32) = nI (c + 300) := nI_add c 300
theorem sN_300 {c : Nat} (hc : 300 ≤ c) : nI c - (300 : Int32) = nI (c - 300) := pk_sub (a := c) (b := 300) hc
theorem eN_512 {c : Nat} (hc : c < 2 ^ 31) : nI c = 512 ↔ c = 512 := nI_eqk 512 hc (by decide)
theorem ltN_512 {c : Nat} (hc : c < 2 ^ 31) : nI c < 512 ↔ c < 512 := nI_ltI (b := 512) hc (by decide)
theorem leN_512 {c : Nat} (hc : c < 2 ^ 31) : nI c ≤ 512 ↔ c ≤ 512 := nI_leI (b := 512) hc (by decide)
theorem Nlt_512 {c : Nat} (hc : c < 2 ^ 31) : 512 < nI c ↔ 512 < c := nI_ltI (a := 512) (by decide) hc
theorem Nle_512 {c : Nat} (hc : c < 2 ^ 31) : 512 ≤ nI c ↔ 512 ≤ c := nI_leI (a := 512) (by decide) hc
theorem cN_512 : nI 512 = 512 := rfl
theorem mN_512 (c : Nat) : (512 : Int32) * nI c = nI (512 * c) := pk_mul 512 c
theorem aN_512 (c : Nat) : nI c + (512 : Int32) = nI (c + 512) := nI_add c 512
theorem sN_512 {c : Nat} (hc : 512 ≤ c) : nI c - (512 : Int32) = nI (c - 512) := pk_sub (a := c) (b := 512) hc
theorem eN_600 {c : Nat} (hc : c < 2 ^ 31) : nI c = 600 ↔ c = 600 := nI_eqk 600 hc (by decide)
theorem ltN_600 {c : Nat} (hc : c < 2 ^ 31) : nI c < 600 ↔ c < 600 := nI_ltI (b := 600) hc (by decide)
theorem leN_600 {c : Nat} (hc : c < 2 ^ 31) : nI c ≤ 600 ↔ c ≤ 600 := nI_leI (b := 600) hc (by decide)
theorem Nlt_600 {c : Nat} (hc : c < 2 ^ 31) : 600 < nI c ↔ 600 < c := nI_ltI (a := 600) (by decide) hc
theorem Nle_600 {c : Nat} (hc : c < 2 ^ 31) : 600 ≤ nI c ↔ 600 ≤ c := nI_leI (a := 600) (by decide) hc
theorem cN_600 : nI 600 = 600 := rfl
theorem mN_600 (c : Nat) : (600 : Int32) * nI c = nI (600 * c) := pk_mul 600 c
theorem aN_600 (c : Nat) : nI c + (600 : Int32) = nI (c + 600) := nI_add c 600
theorem sN_600 {c : Nat} (hc : 600 ≤ c) : nI c - (600 : Int32) = nI (c - 600) := pk_sub (a := c) (b := 600) hc
theorem eN_1000 {c : Nat} (hc : c < 2 ^ 31) : nI c = 1000 ↔ c = 1000 := nI_eqk 1000 hc (by decide)
theorem ltN_1000 {c : Nat} (hc : c < 2 ^ 31) : nI c < 1000 ↔ c < 1000 := nI_ltI (b := 1000) hc (by decide)
theorem leN_1000 {c : Nat} (hc : c < 2 ^ 31) : nI c ≤ 1000 ↔ c ≤ 1000 := nI_leI (b := 1000) hc (by decide)
theorem Nlt_1000 {c : Nat} (hc : c < 2 ^ 31) : 1000 < nI c ↔ 1000 < c := nI_ltI (a := 1000) (by decide) hc
theorem Nle_1000 {c : Nat} (hc : c < 2 ^ 31) : 1000 ≤ nI c ↔ 1000 ≤ c := nI_leI (a := 1000) (by decide) hc
theorem cN_1000 : nI 1000 = 1000 := rfl
theorem mN_1000 (c : Nat) : (1000 : Int32) * nI c = nI (1000 * c) := pk_mul 1000 c
theorem aN_1000 (c : Nat) : nI c + (1000 : Int32) = nI (c + 1000) := nI_add c 1000
theorem sN_1000 {c : Nat} (hc : 1000 ≤ c) : nI c - (1000 : Int32) = nI (c - 1000) := pk_sub (a := c) (b := 1000) hc
theorem eN_1080 {c : Nat} (hc : c < 2 ^ 31) : nI c = 1080 ↔ c = 1080 := nI_eqk 1080 hc (by decide)
theorem ltN_1080 {c : Nat} (hc : c < 2 ^ 31) : nI c < 1080 ↔ c < 1080 := nI_ltI (b := 1080) hc (by decide)
theorem leN_1080 {c : Nat} (hc : c < 2 ^ 31) : nI c ≤ 1080 ↔ c ≤ 1080 := nI_leI (b := 1080) hc (by decide)
theorem Nlt_1080 {c : Nat} (hc : c < 2 ^ 31) : 1080 < nI c ↔ 1080 < c := nI_ltI (a := 1080) (by decide) hc
theorem Nle_1080 {c : Nat} (hc : c < 2 ^ 31) : 1080 ≤ nI c ↔ 1080 ≤ c := nI_leI (a := 1080) (by decide) hc
theorem cN_1080 : nI 1080 = 1080 := rfl
theorem mN_1080 (c : Nat) : (1080 : Int32) * nI c = nI (1080 * c) := pk_mul 1080 c
theorem aN_1080 (c : Nat) : nI c + (1080 : Int32) = nI (c + 1080) := nI_add c 1080
theorem sN_1080 {c : Nat} (hc : 1080 ≤ c) : nI c - (1080 : Int32) = nI (c - 1080) := pk_sub (a := c) (b := 1080) hc
theorem eN_1201 {c : Nat} (hc : c < 2 ^ 31) : nI c = 1201 ↔ c = 1201 := nI_eqk 1201 hc (by decide)
theorem ltN_1201 {c : Nat} (hc : c < 2 ^ 31) : nI c < 1201 ↔ c < 1201 := nI_ltI (b := 1201) hc (by decide)
theorem leN_1201 {c : Nat} (hc : c < 2 ^ 31) : nI c ≤ 1201 ↔ c ≤ 1201 := nI_leI (b := 1201) hc (by decide)
theorem Nlt_1201 {c : Nat} (hc : c < 2 ^ 31) : 1201 < nI c ↔ 1201 < c := nI_ltI (a := 1201) (by decide) hc
theorem Nle_1201 {c : Nat} (hc : c < 2 ^ 31) : 1201 ≤ nI c ↔ 1201 ≤ c := nI_leI (a := 1201) (by decide) hc
theorem cN_1201 : nI 1201 = 1201 := rfl
theorem mN_1201 (c : Nat) : (1201 : Int32) * nI c = nI (1201 * c) := pk_mul 1201 c
theorem aN_1201 (c : Nat) : nI c + (1201 : Int32) = nI (c + 1201) := nI_add c 1201
theorem sN_1201 {c : Nat} (hc : 1201 ≤ c) : nI c - (1201 : Int32) = nI (c - 1201) := pk_sub (a := c) (b := 1201) hc
theorem eN_2000 {c : Nat} (hc : c < 2 ^ 31) : nI c = 2000 ↔ c = 2000 := nI_eqk 2000 hc (by decide)
theorem ltN_2000 {c : Nat} (hc : c < 2 ^ 31) : nI c < 2000 ↔ c < 2000 := nI_ltI (b := 2000) hc (by decide)
theorem leN_2000 {c : Nat} (hc : c < 2 ^ 31) : nI c ≤ 2000 ↔ c ≤ 2000 := nI_leI (b := 2000) hc (by decide)
theorem Nlt_2000 {c : Nat} (hc : c < 2 ^ 31) : 2000 < nI c ↔ 2000 < c := nI_ltI (a := 2000) (by decide) hc
theorem Nle_2000 {c : Nat} (hc : c < 2 ^ 31) : 2000 ≤ nI c ↔ 2000 ≤ c := nI_leI (a := 2000) (by decide) hc
theorem cN_2000 : nI 2000 = 2000 := rfl
theorem mN_2000 (c : Nat) : (2000 : Int32) * nI c = nI (2000 * c) := pk_mul 2000 c
theorem aN_2000 (c : Nat) : nI c + (2000 : Int32) = nI (c + 2000) := nI_add c 2000
theorem sN_2000 {c : Nat} (hc : 2000 ≤ c) : nI c - (2000 : Int32) = nI (c - 2000) := pk_sub (a := c) (b := 2000) hc
theorem eN_2001 {c : Nat} (hc : c < 2 ^ 31) : nI c = 2001 ↔ c = 2001 := nI_eqk 2001 hc (by decide)
theorem ltN_2001 {c : Nat} (hc : c < 2 ^ 31) : nI c < 2001 ↔ c < 2001 := nI_ltI (b := 2001) hc (by decide)
theorem leN_2001 {c : Nat} (hc : c < 2 ^ 31) : nI c ≤ 2001 ↔ c ≤ 2001 := nI_leI (b := 2001) hc (by decide)
theorem Nlt_2001 {c : Nat} (hc : c < 2 ^ 31) : 2001 < nI c ↔ 2001 < c := nI_ltI (a := 2001) (by decide) hc
theorem Nle_2001 {c : Nat} (hc : c < 2 ^ 31) : 2001 ≤ nI c ↔ 2001 ≤ c := nI_leI (a := 2001) (by decide) hc
theorem cN_2001 : nI 2001 = 2001 := rfl
theorem mN_2001 (c : Nat) : (2001 : Int32) * nI c = nI (2001 * c) := pk_mul 2001 c
theorem aN_2001 (c : Nat) : nI c + (2001 : Int32) = nI (c + 2001) := nI_add c 2001
theorem sN_2001 {c : Nat} (hc : 2001 ≤ c) : nI c - (2001 : Int32) = nI (c - 2001) := pk_sub (a := c) (b := 2001) hc
