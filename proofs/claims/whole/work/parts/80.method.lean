/-! PURE: a new method -/
theorem hI_nw (h : Hp) (t n a : Nat) : hI (nwO h t n) a = if a = hz h then (fun _ => 0) else hI h a := by
  show va_up (hI h) (hz h) (fun _ => 0) a = _; rfl
theorem hR_nw (h : Hp) (t n a : Nat) : hR (nwO h t n) a = if a = hz h then (fun _ => none) else hR h a := by
  show va_up (hR h) (hz h) (fun _ => none) a = _; rfl
theorem hK_nw (h : Hp) (t n a : Nat) : hK (nwO h t n) a = if a = hz h then (t, n) else hK h a := by
  show va_up (hK h) (hz h) (t, n) a = _; rfl
theorem na_s {β : Type} {t n : Nat} {h : Hp} {f : Option Nat → Hp → Option β} (hn : n ≤ 1000000) : na t (nI n) h f = f (some (hz h)) (nwO h t n) := by
  unfold na
  rw [if_pos ⟨nI_pos (by omega), by rw [nI_clamp (by omega)]; exact hn⟩, nI_clamp (by omega)]
theorem nw_ok {h : Hp} {ts : List Nat} {t n a : Nat} (o : ok h ts a = true) : ok (nwO h t n) ts a = true := ok_g (Gx_nw nF nF nF h t n) o
theorem nw_ok0 (h : Hp) (t n : Nat) : ok (nwO h t n) [t] (hz h) = true := ok_K (by rw [nw_z]; omega) (nw_K0 h t n)
def mi1 (g : Hp) (b : Nat) : Hp := sR (sI (sR (nwO (nwO g 0 (nfl 0)) 13 100) (b + 1) 0 (some (b + 2))) (b + 1) 2 1) b 2 (some (b + 1))
def mi2 (g : Hp) (b : Nat) : Hp := sR (sI (sI (sI (nwO g 13 3) (b + 3) 0 (-1)) (b + 3) 1 (-1)) (b + 3) 2 (-1)) b 3 (some (b + 3))
def mi3 (g : Hp) (b : Nat) (x : Int32) (q : Option Nat) : Hp := sR (sI (sR (nwO g 13 3) b 4 (some (b + 4))) b 0 x) b 1 q
theorem si_0' {β : Type} {a : Nat} {x : Int32} {h : Hp} {f : Hp → Option β} (o : ok h [13] a = true) (e : hK h a = (13, 3)) : si (some a) 0 x h f = f (sI h a 0 x) := si_s (j := 0) o (by rw [e]; decide) (by rw [e]; decide)
theorem si_1' {β : Type} {a : Nat} {x : Int32} {h : Hp} {f : Hp → Option β} (o : ok h [13] a = true) (e : hK h a = (13, 3)) : si (some a) 1 x h f = f (sI h a 1 x) := si_s (j := 1) o (by rw [e]; decide) (by rw [e]; decide)
theorem si_2' {β : Type} {a : Nat} {x : Int32} {h : Hp} {f : Hp → Option β} (o : ok h [13] a = true) (e : hK h a = (13, 3)) : si (some a) 2 x h f = f (sI h a 2 x) := si_s (j := 2) o (by rw [e]; decide) (by rw [e]; decide)
theorem lead_e {N b : Nat} {g : Hp} (z1 : hz g = b + 2) (o1 : ok g [0] (b + 1) = true) : Lead_init N (some (b + 1)) g = some ((), sI (sR (nwO g 13 100) (b + 1) 0 (some (b + 2))) (b + 1) 2 1) := by
  unfold Lead_init kn
  dsimp only
  have o2 : ok (nwO g 13 100) [0] (b + 1) = true := nw_ok o1
  rw [show (100 : Int32) = nI 100 from rfl, na_s (by omega), z1, pr_s o2]
  generalize nwO g 13 100 = g1 at o2 ⊢
  rw [pi_s (by rw [ok_sR]; exact o2)]
theorem ok_mi2 {b : Nat} {g : Hp} {ts : List Nat} {a : Nat} : ok (mi2 g b) ts a = ok (nwO g 13 3) ts a := by
  unfold mi2
  rw [ok_sR, ok_sI, ok_sI, ok_sI]
theorem init_2 {N b : Nat} {x : Int32} {q : Option Nat} {g : Hp} (z2 : hz g = b + 3) (o : ok g [1, 2, 3, 6, 7, 10] b = true) {F : Option (Unit × Hp)} : (na 13 3 g fun x5 h6 =>
  si x5 0 (-1) h6 fun h7 =>
  si x5 1 (-1) h7 fun h8 =>
  si x5 2 (-1) h8 fun h9 =>
  pr [1, 2, 3, 6, 7, 10] 3 (some b) x5 h9 fun h10 =>
  na 13 3 h10 fun x11 h12 =>
  pr [1, 2, 3, 6, 7, 10] 4 (some b) x11 h12 fun h13 =>
  pi [1, 2, 3, 6, 7, 10] 0 (some b) x h13 fun h14 =>
  pr [1, 2, 3, 6, 7, 10] 1 (some b) q h14 fun h15 =>
  some ((), h15)) = some ((), mi3 (mi2 g b) b x q) := by
  have o3 : ok (nwO g 13 3) [13] (b + 3) = true := by have := nw_ok0 g 13 3; rw [z2] at this; exact this
  have k3 : hK (nwO g 13 3) (b + 3) = (13, 3) := by have := nw_K0 g 13 3; rw [z2] at this; exact this
  have ob4 : ok (nwO g 13 3) [1, 2, 3, 6, 7, 10] b = true := nw_ok o
  have z3 : hz (nwO g 13 3) = b + 4 := by rw [nw_z, z2]
  unfold mi2
  rw [show (3 : Int32) = nI 3 from rfl, na_s (by omega), z2]
  generalize nwO g 13 3 = g1 at o3 k3 ob4 z3 ⊢
  rw [si_0' o3 k3]
  have o4 : ok (sI g1 (b + 3) 0 (-1)) [13] (b + 3) = true := by rw [ok_sI]; exact o3
  have k4 : hK (sI g1 (b + 3) 0 (-1)) (b + 3) = (13, 3) := by rw [hK_sI]; exact k3
  have ob5 : ok (sI g1 (b + 3) 0 (-1)) [1, 2, 3, 6, 7, 10] b = true := by rw [ok_sI]; exact ob4
  have z4 : hz (sI g1 (b + 3) 0 (-1)) = b + 4 := by rw [hz_sI]; exact z3
  generalize sI g1 (b + 3) 0 (-1) = g2 at o4 k4 ob5 z4 ⊢
  rw [si_1' o4 k4]
  have o5 : ok (sI g2 (b + 3) 1 (-1)) [13] (b + 3) = true := by rw [ok_sI]; exact o4
  have k5 : hK (sI g2 (b + 3) 1 (-1)) (b + 3) = (13, 3) := by rw [hK_sI]; exact k4
  have ob6 : ok (sI g2 (b + 3) 1 (-1)) [1, 2, 3, 6, 7, 10] b = true := by rw [ok_sI]; exact ob5
  have z5 : hz (sI g2 (b + 3) 1 (-1)) = b + 4 := by rw [hz_sI]; exact z4
  generalize sI g2 (b + 3) 1 (-1) = g3 at o5 k5 ob6 z5 ⊢
  rw [si_2' o5 k5]
  have ob7 : ok (sI g3 (b + 3) 2 (-1)) [1, 2, 3, 6, 7, 10] b = true := by rw [ok_sI]; exact ob6
  have z6 : hz (sI g3 (b + 3) 2 (-1)) = b + 4 := by rw [hz_sI]; exact z5
  generalize sI g3 (b + 3) 2 (-1) = g4 at ob7 z6 ⊢
  rw [pr_s ob7]
  have ob8 : ok (sR g4 b 3 (some (b + 3))) [1, 2, 3, 6, 7, 10] b = true := by rw [ok_sR]; exact ob7
  have z7 : hz (sR g4 b 3 (some (b + 3))) = b + 4 := by rw [hz_sR]; exact z6
  generalize sR g4 b 3 (some (b + 3)) = g5 at ob8 z7 ⊢
  unfold mi3
  rw [na_s (by omega), z7]
  have ob9 : ok (nwO g5 13 3) [1, 2, 3, 6, 7, 10] b = true := nw_ok ob8
  generalize nwO g5 13 3 = g6 at ob9 ⊢
  rw [pr_s ob9]
  have ob10 : ok (sR g6 b 4 (some (b + 4))) [1, 2, 3, 6, 7, 10] b = true := by rw [ok_sR]; exact ob9
  generalize sR g6 b 4 (some (b + 4)) = g7 at ob10 ⊢
  rw [pi_s ob10]
  have ob11 : ok (sI g7 b 0 x) [1, 2, 3, 6, 7, 10] b = true := by rw [ok_sI]; exact ob10
  generalize sI g7 b 0 x = g8 at ob11 ⊢
  rw [pr_s ob11]
theorem init_e {N b : Nat} {x : Int32} {q : Option Nat} {g : Hp} (hb : hz g = b + 1) (o : ok g [1, 2, 3, 6, 7, 10] b = true) : Meth_init N (some b) x q g = some ((), mi3 (mi2 (mi1 g b) b) b x q) := by
  have z1 : hz (nwO g 0 (nfl 0)) = b + 2 := by rw [nw_z, hb]
  have o1 : ok (nwO g 0 (nfl 0)) [0] (b + 1) = true := by have := nw_ok0 g 0 (nfl 0); rw [hb] at this; exact this
  have ob1 : ok (nwO g 0 (nfl 0)) [1, 2, 3, 6, 7, 10] b = true := nw_ok o
  unfold Meth_init kn nw mi1
  dsimp only
  rw [hb]
  generalize nwO g 0 (nfl 0) = g1 at z1 o1 ob1 ⊢
  rw [ck_s o1, lead_e z1 o1, cl_s]
  have ob2 : ok (nwO g1 13 100) [1, 2, 3, 6, 7, 10] b = true := nw_ok ob1
  have z2 : hz (nwO g1 13 100) = b + 3 := by rw [nw_z, z1]
  generalize nwO g1 13 100 = g2 at z2 ob2 ⊢
  have ob3 : ok (sR g2 (b + 1) 0 (some (b + 2))) [1, 2, 3, 6, 7, 10] b = true := by rw [ok_sR]; exact ob2
  have z3 : hz (sR g2 (b + 1) 0 (some (b + 2))) = b + 3 := by rw [hz_sR]; exact z2
  generalize sR g2 (b + 1) 0 (some (b + 2)) = g3 at z3 ob3 ⊢
  have ob4 : ok (sI g3 (b + 1) 2 1) [1, 2, 3, 6, 7, 10] b = true := by rw [ok_sI]; exact ob3
  have z4 : hz (sI g3 (b + 1) 2 1) = b + 3 := by rw [hz_sI]; exact z3
  generalize sI g3 (b + 1) 2 1 = g4 at z4 ob4 ⊢
  rw [pr_s ob4]
  have ob5 : ok (sR g4 b 2 (some (b + 1))) [1, 2, 3, 6, 7, 10] b = true := by rw [ok_sR]; exact ob4
  have z5 : hz (sR g4 b 2 (some (b + 1))) = b + 3 := by rw [hz_sR]; exact z4
  generalize sR g4 b 2 (some (b + 1)) = g5 at z5 ob5 ⊢
  exact init_2 (N := N) (F := none) z5 ob5
/-- what a new method is -/
def NM (g g' : Hp) (b : Nat) (x : Int32) (q : Option Nat) : Prop :=
  hz g' = b + 5 ∧ hs g' = hs g + nfl 0 + 106 ∧ (∀ a, a < b → hK g' a = hK g a ∧ hI g' a = hI g a ∧ hL g' a = hL g a ∧ hR g' a = hR g a) ∧ hK g' b = hK g b ∧ (hK g' (b + 1) = (0, nfl 0) ∧ hK g' (b + 2) = (13, 100) ∧ hK g' (b + 3) = (13, 3) ∧ hK g' (b + 4) = (13, 3)) ∧
  (hR g' b 1 = q ∧ hR g' b 2 = some (b + 1) ∧ hR g' b 3 = some (b + 3) ∧ hR g' b 4 = some (b + 4) ∧ hR g' (b + 1) 0 = some (b + 2)) ∧ (hI g' b 0 = x ∧ hI g' b 5 = hI g b 5 ∧ hI g' b 7 = hI g b 7) ∧ (hI g' (b + 1) 1 = 0 ∧ hI g' (b + 1) 2 = 1) ∧ ∀ c, c < 3 → hI g' (b + 3) c = -1
theorem mi1_I {b : Nat} {g : Hp} (hb : hz g = b + 1) : ∀ a k, hI (mi1 g b) a k = if a = b + 1 ∧ k = 2 then 1 else if a = b + 1 ∨ a = b + 2 then 0 else hI g a k := by
  have z1 : hz (nwO g 0 (nfl 0)) = b + 2 := by rw [nw_z, hb]
  intro a k
  unfold mi1
  rw [hI_sR]
  by_cases c : a = b + 1 ∧ k = 2
  · rw [if_pos c, c.1, c.2, sI_at]
  · rw [if_neg c, sI_ne (by omega), hI_sR, hI_nw, z1, hI_nw, hb]
    by_cases c2 : a = b + 2
    · rw [if_pos c2, if_pos (by omega)]
    · rw [if_neg c2]
      by_cases c1 : a = b + 1
      · rw [if_pos c1, if_pos (by omega)]
      · rw [if_neg c1, if_neg (by omega)]
theorem mi1_R {b : Nat} {g : Hp} (hb : hz g = b + 1) : ∀ a k, hR (mi1 g b) a k = if a = b ∧ k = 2 then some (b + 1) else if a = b + 1 ∧ k = 0 then some (b + 2) else if a = b + 1 ∨ a = b + 2 then none else hR g a k := by
  have z1 : hz (nwO g 0 (nfl 0)) = b + 2 := by rw [nw_z, hb]
  intro a k
  unfold mi1
  by_cases c : a = b ∧ k = 2
  · rw [if_pos c, c.1, c.2, sR_at]
  · rw [if_neg c, sR_ne (by omega), hR_sI]
    by_cases c' : a = b + 1 ∧ k = 0
    · rw [if_pos c', c'.1, c'.2, sR_at]
    · rw [if_neg c', sR_ne (by omega), hR_nw, z1, hR_nw, hb]
      by_cases c2 : a = b + 2
      · rw [if_pos c2, if_pos (by omega)]
      · rw [if_neg c2]
        by_cases c1 : a = b + 1
        · rw [if_pos c1, if_pos (by omega)]
        · rw [if_neg c1, if_neg (by omega)]
theorem mi1_K {b : Nat} {g : Hp} (hb : hz g = b + 1) : ∀ a, hK (mi1 g b) a = if a = b + 1 then (0, nfl 0) else if a = b + 2 then (13, 100) else hK g a := by
  have z1 : hz (nwO g 0 (nfl 0)) = b + 2 := by rw [nw_z, hb]
  intro a
  unfold mi1
  rw [hK_sR, hK_sI, hK_sR]
  rw [hK_nw, z1, hK_nw, hb]
  by_cases c2 : a = b + 2
  · rw [if_pos c2, if_neg (by omega), if_pos c2]
  · rw [if_neg c2]
    by_cases c1 : a = b + 1
    · rw [if_pos c1, if_pos c1]
    · rw [if_neg c1, if_neg c1, if_neg c2]
theorem mi1_z {b : Nat} {g : Hp} (hb : hz g = b + 1) : hz (mi1 g b) = b + 3 ∧ hs (mi1 g b) = hs g + nfl 0 + 100 ∧ ∀ a, a < b → hL (mi1 g b) a = hL g a := by
  have z1 : hz (nwO g 0 (nfl 0)) = b + 2 := by rw [nw_z, hb]
  refine ⟨?_, ?_, fun a ha => ?_⟩
  · unfold mi1; rw [hz_sR, hz_sI, hz_sR, nw_z, z1]
  · unfold mi1; rw [hs_sR, hs_sI, hs_sR, nw_s, nw_s]
  · unfold mi1
    rw [hL_sR, hL_sI, hL_sR, nw_L (by rw [z1]; omega), nw_L (by rw [hb]; omega)]
theorem mi2_I {b : Nat} {g : Hp} (z2 : hz g = b + 3) : ∀ a k, hI (mi2 g b) a k = if a = b + 3 ∧ k < 3 then -1 else if a = b + 3 then 0 else hI g a k := by
  intro a k
  unfold mi2
  rw [hI_sR]
  by_cases c : a = b + 3
  · subst c
    by_cases k2 : k = 2
    · rw [k2, sI_at, if_pos (by omega)]
    · rw [sI_ne (by omega)]
      by_cases k1 : k = 1
      · rw [k1, sI_at, if_pos (by omega)]
      · rw [sI_ne (by omega)]
        by_cases k0 : k = 0
        · rw [k0, sI_at, if_pos (by omega)]
        · rw [sI_ne (by omega), hI_nw, z2, if_pos rfl, if_neg (by omega), if_pos rfl]
  · rw [sI_ne (by omega), sI_ne (by omega), sI_ne (by omega), hI_nw, z2, if_neg c, if_neg (by omega), if_neg c]
theorem mi2_R {b : Nat} {g : Hp} (z2 : hz g = b + 3) : ∀ a k, hR (mi2 g b) a k = if a = b ∧ k = 3 then some (b + 3) else if a = b + 3 then none else hR g a k := by
  intro a k
  unfold mi2
  by_cases c : a = b ∧ k = 3
  · rw [if_pos c, c.1, c.2, sR_at]
  · rw [if_neg c, sR_ne (by omega), hR_sI, hR_sI, hR_sI, hR_nw, z2]
    by_cases c3 : a = b + 3
    · rw [if_pos c3, if_pos c3]
    · rw [if_neg c3, if_neg c3]
theorem mi2_K {b : Nat} {g : Hp} (z2 : hz g = b + 3) : ∀ a, hK (mi2 g b) a = if a = b + 3 then (13, 3) else hK g a := by
  intro a
  unfold mi2
  rw [hK_sR, hK_sI, hK_sI, hK_sI]
  rw [hK_nw, z2]
theorem mi2_z {b : Nat} {g : Hp} (z2 : hz g = b + 3) : hz (mi2 g b) = b + 4 ∧ hs (mi2 g b) = hs g + 3 ∧ ∀ a, a < b → hL (mi2 g b) a = hL g a := by
  refine ⟨?_, ?_, fun a ha => ?_⟩
  · unfold mi2; rw [hz_sR, hz_sI, hz_sI, hz_sI, nw_z, z2]
  · unfold mi2; rw [hs_sR, hs_sI, hs_sI, hs_sI, nw_s]
  · unfold mi2
    rw [hL_sR, hL_sI, hL_sI, hL_sI, nw_L (by rw [z2]; omega)]
theorem mi3_I {b : Nat} {x : Int32} {q : Option Nat} {g : Hp} (z3 : hz g = b + 4) : ∀ a k, hI (mi3 g b x q) a k = if a = b ∧ k = 0 then x else if a = b + 4 then 0 else hI g a k := by
  intro a k
  unfold mi3
  rw [hI_sR]
  by_cases c : a = b ∧ k = 0
  · rw [if_pos c, c.1, c.2, sI_at]
  · rw [if_neg c, sI_ne (by omega), hI_sR, hI_nw, z3]
    by_cases c3 : a = b + 4
    · rw [if_pos c3, if_pos c3]
    · rw [if_neg c3, if_neg c3]
theorem mi3_R {b : Nat} {x : Int32} {q : Option Nat} {g : Hp} (z3 : hz g = b + 4) : ∀ a k, hR (mi3 g b x q) a k = if a = b ∧ k = 1 then q else if a = b ∧ k = 4 then some (b + 4) else if a = b + 4 then none else hR g a k := by
  intro a k
  unfold mi3
  by_cases c : a = b ∧ k = 1
  · rw [if_pos c, c.1, c.2, sR_at]
  · rw [if_neg c, sR_ne (by omega), hR_sI]
    by_cases c' : a = b ∧ k = 4
    · rw [if_pos c', c'.1, c'.2, sR_at]
    · rw [if_neg c', sR_ne (by omega), hR_nw, z3]
      by_cases c3 : a = b + 4
      · rw [if_pos c3, if_pos c3]
      · rw [if_neg c3, if_neg c3]
theorem mi3_K {b : Nat} {x : Int32} {q : Option Nat} {g : Hp} (z3 : hz g = b + 4) : ∀ a, hK (mi3 g b x q) a = if a = b + 4 then (13, 3) else hK g a := by
  intro a
  unfold mi3
  rw [hK_sR, hK_sI, hK_sR]
  rw [hK_nw, z3]
theorem mi3_z {b : Nat} {x : Int32} {q : Option Nat} {g : Hp} (z3 : hz g = b + 4) : hz (mi3 g b x q) = b + 5 ∧ hs (mi3 g b x q) = hs g + 3 ∧ ∀ a, a < b → hL (mi3 g b x q) a = hL g a := by
  refine ⟨?_, ?_, fun a ha => ?_⟩
  · unfold mi3; rw [hz_sR, hz_sI, hz_sR, nw_z, z3]
  · unfold mi3; rw [hs_sR, hs_sI, hs_sR, nw_s]
  · unfold mi3
    rw [hL_sR, hL_sI, hL_sR, nw_L (by rw [z3]; omega)]
theorem NM_s {b : Nat} {x : Int32} {q : Option Nat} {g : Hp} (hb : hz g = b + 1) : NM g (mi3 (mi2 (mi1 g b) b) b x q) b x q := by
  have I1 := mi1_I hb
  have R1 := mi1_R hb
  have K1 := mi1_K hb
  obtain ⟨z2, s1, l1⟩ := mi1_z hb
  generalize mi1 g b = g1 at I1 R1 K1 z2 s1 l1 ⊢
  have I2 := mi2_I z2
  have R2 := mi2_R z2
  have K2 := mi2_K z2
  obtain ⟨z3, s2, l2⟩ := mi2_z z2
  generalize mi2 g1 b = g2 at I2 R2 K2 z3 s2 l2 ⊢
  have I3 := mi3_I (x := x) (q := q) z3
  have R3 := mi3_R (x := x) (q := q) z3
  have K3 := mi3_K (x := x) (q := q) z3
  obtain ⟨z4, s3, l3⟩ := mi3_z (x := x) (q := q) z3
  generalize mi3 g2 b x q = g3 at I3 R3 K3 z4 s3 l3 ⊢
  refine ⟨?_, ?_, fun a ha => ⟨?_, funext fun k => ?_, by rw [l3 a ha, l2 a ha, l1 a ha], funext fun k => ?_⟩, ?_, ⟨?_, ?_, ?_, ?_⟩, ⟨?_, ?_, ?_, ?_, ?_⟩, ⟨?_, ?_, ?_⟩, ⟨?_, ?_⟩, fun c hc => ?_⟩
  · exact z4
  · rw [s3, s2, s1]
  · rw [K3, if_neg (by omega), K2, if_neg (by omega), K1, if_neg (by omega), if_neg (by omega)]
  · rw [I3, if_neg (by omega), if_neg (by omega), I2, if_neg (by omega), if_neg (by omega), I1, if_neg (by omega), if_neg (by omega)]
  · rw [R3, if_neg (by omega), if_neg (by omega), if_neg (by omega), R2, if_neg (by omega), if_neg (by omega), R1, if_neg (by omega), if_neg (by omega), if_neg (by omega)]
  · rw [K3, if_neg (by omega), K2, if_neg (by omega), K1, if_neg (by omega), if_neg (by omega)]
  · rw [K3, if_neg (by omega), K2, if_neg (by omega), K1, if_pos rfl]
  · rw [K3, if_neg (by omega), K2, if_neg (by omega), K1, if_neg (by omega), if_pos rfl]
  · rw [K3, if_neg (by omega), K2, if_pos rfl]
  · rw [K3, if_pos rfl]
  · rw [R3, if_pos (by omega)]
  · rw [R3, if_neg (by omega), if_neg (by omega), if_neg (by omega), R2, if_neg (by omega), if_neg (by omega), R1, if_pos (by omega)]
  · rw [R3, if_neg (by omega), if_neg (by omega), if_neg (by omega), R2, if_pos (by omega)]
  · rw [R3, if_neg (by omega), if_pos (by omega)]
  · rw [R3, if_neg (by omega), if_neg (by omega), if_neg (by omega), R2, if_neg (by omega), if_neg (by omega), R1, if_neg (by omega), if_pos (by omega)]
  · rw [I3, if_pos (by omega)]
  · rw [I3, if_neg (by omega), if_neg (by omega), I2, if_neg (by omega), if_neg (by omega), I1, if_neg (by omega), if_neg (by omega)]
  · rw [I3, if_neg (by omega), if_neg (by omega), I2, if_neg (by omega), if_neg (by omega), I1, if_neg (by omega), if_neg (by omega)]
  · rw [I3, if_neg (by omega), if_neg (by omega), I2, if_neg (by omega), if_neg (by omega), I1, if_neg (by omega), if_pos (by omega)]
  · rw [I3, if_neg (by omega), if_neg (by omega), I2, if_neg (by omega), if_neg (by omega), I1, if_pos (by omega)]
  · rw [I3, if_neg (by omega), if_neg (by omega), I2, if_pos (by omega)]
def dNew (k : Nat) : Md := (k, none, fun _ => 0, fun _ => none, fun _ => 0, [], 0)
/-- a method made: heap g before, block at b = its size -/
def Nw (h h' : Hp) (k n : Nat) (bs : Nat → Nat) : Prop := CM h' (hz h) n (dNew k) bs ∧ hz h' = hz h + bw (dNew k) ∧ hs h' ≤ hs h + 150 ∧ Gx nF nF nF h h' ∧ hR h' 20 = hR h 20
theorem Nw_5 {h g : Hp} {k n : Nat} {bs : Nat → Nat} (hk : k < 5) (L : Lay h) (e : g = nwO h (kc' k) (nfl (kc' k))) : Nw h (mi3 (mi2 (mi1 g (hz h)) (hz h)) (hz h) (nI n) (some 4)) k n bs := by
  have hb : hz g = hz h + 1 := by rw [e, nw_z]
  have z := L.1
  obtain ⟨m1, m2, m3, m4, m5, m6, m7, m8, m9⟩ := NM_s (x := nI n) (q := some 4) hb
  have k5 : kd (dNew k) ≠ 5 := by show k ≠ 5; omega
  have bw5 : bw (dNew k) = 5 := by unfold bw; rw [if_neg k5]
  have gI : ∀ a, hI g (hz h) a = 0 := fun a => by rw [e]; exact nw_I0 ..
  refine ⟨⟨⟨z, by rw [m1, bw5]; omega⟩, ⟨?_, m5.1, m5.2.1, m5.2.2.1, m5.2.2.2, fun q => absurd q k5⟩, ⟨m6.1, m6.2.1, m6.2.2.1, m6.2.2.2.1, m6.2.2.2.2, fun q => absurd q k5⟩, ⟨m7.1, by rw [m7.2.1, gI]; rfl⟩, fun M q => (by cases q), fun _ => ⟨m8.1, by rw [m8.2, if_neg k5]; rfl⟩, ⟨m9 0 (by omega), fun c h1 h2 => by rw [m9 c (by omega)]; rfl⟩, fun c h1 h2 h3 => absurd rfl h3, fun q => absurd q k5⟩, by rw [m1, bw5], ?_, ⟨by rw [m1]; omega, fun a ha => ?_, fun a j ha _ => ?_, fun a j ha _ => ?_, fun a j ha _ => ?_⟩, ?_⟩
  · rw [m4, e]; exact nw_K0 ..
  · rw [m2, e, nw_s]
    have : nfl (kc' k) ≤ 20 := by
      have : k = 0 ∨ k = 1 ∨ k = 2 ∨ k = 3 ∨ k = 4 := by omega
      rcases this with rfl | rfl | rfl | rfl | rfl <;> decide
    have : nfl 0 = 3 := by decide
    omega
  · rw [(m3 a ha).1, e, nwK ha]
  · rw [(m3 a ha).2.1, e, nw_I ha]
  · rw [(m3 a ha).2.2.1, e, nw_L ha]
  · rw [(m3 a ha).2.2.2, e, nw_R ha]
  · rw [(m3 20 (by omega)).2.2.2, e, nw_R (by omega)]
