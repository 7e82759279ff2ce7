/-! PURE: the first heap -/
def vlI : List (Nat × Nat × Int32) → Nat → Nat → Int32
  | [], _, _ => 0
  | q :: r, a, j => if a = q.1 ∧ j = q.2.1 then q.2.2 else vlI r a j
theorem vlI_0 {k j : Nat} : ∀ V : List (Nat × Nat × Int32), (∀ q, q ∈ V → q.1 < k) → vlI V k j = 0
  | [], _ => rfl
  | q :: r, h => by
    rw [vlI, if_neg (fun u => by have := h q (List.mem_cons_self ..); omega)]
    exact vlI_0 r (fun q' hq => h q' (List.mem_cons_of_mem _ hq))
/-- cells b .. k - 1 are made; those below b are as they were -/
def IL (h0 : Hp) (b : Nat) (h : Hp) (k : Nat) (T : List (Nat × Nat × Nat)) (V : List (Nat × Nat × Int32)) (s : Nat) : Prop :=
  hz h = k ∧ (∀ a, a < b → hK h a = hK h0 a ∧ hI h a = hI h0 a ∧ hL h a = hL h0 a ∧ hR h a = hR h0 a) ∧ (∀ a, b ≤ a → a < k → hK h a = lay a) ∧ (∀ q, q ∈ T → hR h q.1 q.2.1 = some q.2.2) ∧ (∀ a j, b ≤ a → hI h a j = vlI V a j) ∧ (∀ a j, b ≤ a → (∀ q, q ∈ T → q.1 ≠ a) → hR h a j = none) ∧ hs h = s ∧ b ≤ k
theorem il_ok {h0 h : Hp} {b k s o : Nat} {T : List (Nat × Nat × Nat)} {V : List (Nat × Nat × Int32)} {ts : List Nat} (I : IL h0 b h k T V s) (bo : b ≤ o) (ok' : o < k) (ko : (lay o).1 ∈ ts) : ok h ts o = true :=
  ok_in (t := (lay o).1) (n := (lay o).2) (by rw [I.1]; exact ok') (I.2.2.1 o bo ok') ko
theorem il_n {h0 h : Hp} {b k s t n : Nat} {T : List (Nat × Nat × Nat)} {V : List (Nat × Nat × Int32)} (I : IL h0 b h k T V s) (lk : lay k = (t, n)) (kT : ∀ q, q ∈ T → q.1 < k) (kV : ∀ q, q ∈ V → q.1 < k) : IL h0 b (nwO h t n) (k + 1) T V (s + n) := by
  obtain ⟨i1, i2, i3, i4, i5, i6, i7, i8⟩ := I
  refine ⟨by rw [nw_z, i1], fun a ha => ?_, fun a h1 h2 => ?_, fun q hq => ?_, fun a j ha => ?_, fun a j ha hq => ?_, by rw [nw_s, i7], by omega⟩
  · obtain ⟨a1, a2, a3, a4⟩ := i2 a ha
    have hz' : a < hz h := by omega
    exact ⟨by rw [nwK hz']; exact a1, by rw [nw_I hz']; exact a2, by rw [nw_L hz']; exact a3, by rw [nw_R hz']; exact a4⟩
  · by_cases e : a = k
    · rw [e, lk, ← i1]; exact nw_K0 ..
    · rw [nwK (by omega)]; exact i3 a h1 (by omega)
  · have := kT q hq
    rw [nw_R (by omega)]; exact i4 q hq
  · rw [hI_nw]
    by_cases e : a = hz h
    · rw [if_pos e, e, i1, vlI_0 V kV]
    · rw [if_neg e]; exact i5 a j ha
  · rw [hR_nw]
    by_cases e : a = hz h
    · rw [if_pos e]
    · rw [if_neg e]; exact i6 a j ha hq
theorem il_r {h0 h : Hp} {b k s o f x : Nat} {T : List (Nat × Nat × Nat)} {V : List (Nat × Nat × Int32)} (I : IL h0 b h k T V s) (bo : b ≤ o) (nT : ∀ q, q ∈ T → q.1 = o → q.2.1 ≠ f) : IL h0 b (sR h o f (some x)) k ((o, f, x) :: T) V s := by
  obtain ⟨i1, i2, i3, i4, i5, i6, i7, i8⟩ := I
  refine ⟨i1, fun a ha => ?_, i3, fun q hq => ?_, i5, fun a j ha hq => ?_, i7, i8⟩
  · obtain ⟨a1, a2, a3, a4⟩ := i2 a ha
    exact ⟨a1, a2, a3, by rw [hR_sR, if_neg (by omega)]; exact a4⟩
  · rcases List.mem_cons.mp hq with e | e
    · rw [e, sR_at]
    · rw [sR_ne (nT q e)]; exact i4 q e
  · have := hq _ (List.mem_cons_self ..)
    rw [sR_ne (fun u => absurd u.symm this)]
    exact i6 a j ha (fun q e => hq q (List.mem_cons_of_mem _ e))
theorem il_i {h0 h : Hp} {b k s o j : Nat} {x : Int32} {T : List (Nat × Nat × Nat)} {V : List (Nat × Nat × Int32)} (I : IL h0 b h k T V s) (bo : b ≤ o) : IL h0 b (sI h o j x) k T ((o, j, x) :: V) s := by
  obtain ⟨i1, i2, i3, i4, i5, i6, i7, i8⟩ := I
  refine ⟨i1, fun a ha => ?_, i3, i4, fun a i ha => ?_, i6, i7, i8⟩
  · obtain ⟨a1, a2, a3, a4⟩ := i2 a ha
    exact ⟨a1, by rw [sI_row' (by omega)]; exact a2, a3, a4⟩
  · rw [vlI]
    by_cases e : a = o ∧ i = j
    · rw [if_pos e, e.1, e.2, sI_at]
    · rw [if_neg e, sI_ne (by omega)]; exact i5 a i ha
theorem il_nw {h0 h : Hp} {b k s t : Nat} {T : List (Nat × Nat × Nat)} {V : List (Nat × Nat × Int32)} (I : IL h0 b h k T V s) (lk : lay k = (t, nfl t)) (kT : ∀ q, q ∈ T → q.1 < k) (kV : ∀ q, q ∈ V → q.1 < k) : ∃ g, (∀ (β : Type) (F : Option Nat → Hp → Option β), nw t h F = F (some k) g) ∧ IL h0 b g (k + 1) T V (s + nfl t) :=
  ⟨_, fun β F => by unfold nw; rw [I.1], il_n I lk kT kV⟩
theorem il_na {h0 h : Hp} {b k s t o f : Nat} (n : Nat) {x : Int32} {ts : List Nat} {T : List (Nat × Nat × Nat)} {V : List (Nat × Nat × Int32)} (I : IL h0 b h k T V s) (hx : x = nI n) (hn : n ≤ 1000000) (lk : lay k = (t, n)) (bo : b ≤ o) (ok' : o < k) (ko : (lay o).1 ∈ ts) (nT : ∀ q, q ∈ T → q.1 = o → q.2.1 ≠ f) (kT : ∀ q, q ∈ T → q.1 < k) (kV : ∀ q, q ∈ V → q.1 < k) : ∃ g, (∀ (β : Type) (F : Hp → Option β), (na t x h fun x1 h2 => pr ts f (some o) x1 h2 F) = F g) ∧ IL h0 b g (k + 1) ((o, f, k) :: T) V (s + n) := by
  refine ⟨_, fun β F => ?_, il_r (il_n I lk kT kV) bo nT⟩
  rw [hx, na_s hn, I.1, pr_s (nw_ok (il_ok I bo ok' ko))]
theorem il_pr {h0 h : Hp} {b k s o f x : Nat} {ts : List Nat} {T : List (Nat × Nat × Nat)} {V : List (Nat × Nat × Int32)} (I : IL h0 b h k T V s) (bo : b ≤ o) (ok' : o < k) (ko : (lay o).1 ∈ ts) (nT : ∀ q, q ∈ T → q.1 = o → q.2.1 ≠ f) : ∃ g, (∀ (β : Type) (F : Hp → Option β), pr ts f (some o) (some x) h F = F g) ∧ IL h0 b g k ((o, f, x) :: T) V s :=
  ⟨_, fun β F => pr_s (il_ok I bo ok' ko), il_r I bo nT⟩
theorem il_pi {h0 h : Hp} {b k s o j : Nat} {x : Int32} {ts : List Nat} {T : List (Nat × Nat × Nat)} {V : List (Nat × Nat × Int32)} (I : IL h0 b h k T V s) (bo : b ≤ o) (ok' : o < k) (ko : (lay o).1 ∈ ts) : ∃ g, (∀ (β : Type) (F : Hp → Option β), pi ts j (some o) x h F = F g) ∧ IL h0 b g k T ((o, j, x) :: V) s :=
  ⟨_, fun β F => pi_s (il_ok I bo ok' ko), il_i I bo⟩
theorem il_pz {h0 h : Hp} {b k s o j : Nat} {ts : List Nat} {T : List (Nat × Nat × Nat)} {V : List (Nat × Nat × Int32)} (I : IL h0 b h k T V s) (bo : b ≤ o) (ok' : o < k) (ko : (lay o).1 ∈ ts) : ∃ g, (∀ (β : Type) (F : Hp → Option β), pz ts j (some o) 1 h F = F g) ∧ IL h0 b g k T ((o, j, 1) :: V) s :=
  ⟨_, fun β F => pz_1 (il_ok I bo ok' ko), il_i I bo⟩
theorem rows_i {N : Nat} {h0 h : Hp} {b k s o : Nat} (cap : Nat) {x : Int32} {T : List (Nat × Nat × Nat)} {V : List (Nat × Nat × Int32)} (I : IL h0 b h k T V s) (hx : x = nI cap) (hc : cap ≤ 1000000) (l0 : lay k = (13, 512)) (l1 : lay (k + 1) = (14, cap)) (l2 : lay (k + 2) = (13, cap)) (bo : b ≤ o) (ok' : o < k) (ko : (lay o).1 = 4) (nT : ∀ q, q ∈ T → q.1 ≠ o) (kT : ∀ q, q ∈ T → q.1 < k) (kV : ∀ q, q ∈ V → q.1 < k) : ∃ g, Rows_init N (some o) x h = some ((), g) ∧ IL h0 b g (k + 3) ((o, 1, k + 2) :: (o, 0, k + 1) :: (o, 2, k) :: T) V (s + 512 + cap + cap) := by
  have jm : jmax x (0 : Int32) = nI cap := by unfold jmax; rw [hx, if_neg (nI_pos (by omega))]
  have m4 : (lay o).1 ∈ [4] := by rw [ko]; decide
  obtain ⟨g1, e1, I1⟩ := il_na (t := 13) (f := 2) (ts := [4]) (o := o) 512 I (x := 512) rfl (by omega) l0 bo ok' m4 (fun q hq e => absurd e (nT q hq)) kT kV
  obtain ⟨g2, e2, I2⟩ := il_na (t := 14) (f := 0) (ts := [4]) (o := o) cap I1 (x := jmax x 0) jm hc l1 bo (by omega) m4 (fun q hq e => by
    rcases List.mem_cons.mp hq with u | u
    · rw [u]; show (2 : Nat) ≠ 0; omega
    · exact absurd e (nT q u)) (fun q hq => by
    rcases List.mem_cons.mp hq with u | u
    · rw [u]; show o < k + 1; omega
    · have := kT q u; omega) (fun q hq => by have := kV q hq; omega)
  obtain ⟨g3, e3, I3⟩ := il_na (t := 13) (f := 1) (ts := [4]) (o := o) cap I2 (x := jmax x 0) jm hc l2 bo (by omega) m4 (fun q hq e => by
    rcases List.mem_cons.mp hq with u | u
    · rw [u]; show (0 : Nat) ≠ 1; omega
    · rcases List.mem_cons.mp u with u | u
      · rw [u]; show (2 : Nat) ≠ 1; omega
      · exact absurd e (nT q u)) (fun q hq => by
    rcases List.mem_cons.mp hq with u | u
    · rw [u]; show o < k + 1 + 1; omega
    · rcases List.mem_cons.mp u with u | u
      · rw [u]; show o < k + 1 + 1; omega
      · have := kT q u; omega) (fun q hq => by have := kV q hq; omega)
  refine ⟨g3, ?_, I3⟩
  unfold Rows_init kn
  dsimp only
  rw [e1, e2, e3]
theorem lead_i {N : Nat} {h0 h : Hp} {b k s o : Nat} {T : List (Nat × Nat × Nat)} {V : List (Nat × Nat × Int32)} (I : IL h0 b h k T V s) (l0 : lay k = (13, 100)) (bo : b ≤ o) (ok' : o < k) (ko : (lay o).1 = 0) (nT : ∀ q, q ∈ T → q.1 ≠ o) (kT : ∀ q, q ∈ T → q.1 < k) (kV : ∀ q, q ∈ V → q.1 < k) : ∃ g, Lead_init N (some o) h = some ((), g) ∧ IL h0 b g (k + 1) ((o, 0, k) :: T) ((o, 2, 1) :: V) (s + 100) := by
  have m4 : (lay o).1 ∈ [0] := by rw [ko]; decide
  obtain ⟨g1, e1, I1⟩ := il_na (t := 13) (f := 0) (ts := [0]) (o := o) 100 I (x := 100) rfl (by omega) l0 bo ok' m4 (fun q hq e => absurd e (nT q hq)) kT kV
  obtain ⟨g2, e2, I2⟩ := il_pi (ts := [0]) (o := o) (j := 2) (x := 1) I1 bo (by omega) m4
  refine ⟨g2, ?_, I2⟩
  unfold Lead_init kn
  dsimp only
  rw [e1, e2]
theorem il_00 : IL hp0 0 hp0 0 [] [] 0 := ⟨rfl, fun a h => absurd h (by omega), fun a _ h => absurd h (by omega), fun q h => absurd h (List.not_mem_nil), fun _ _ _ => rfl, fun _ _ _ _ => rfl, rfl, Nat.le_refl _⟩
def TC0 : List (Nat × Nat × Nat) := [(0, 10, 31), (31, 1, 34), (31, 0, 33), (31, 2, 32), (0, 9, 29), (29, 0, 30), (0, 8, 17), (17, 13, 28), (17, 12, 27), (17, 11, 26), (17, 10, 22), (22, 1, 25), (22, 0, 24), (22, 2, 23), (17, 9, 21), (17, 8, 20), (17, 1, 19), (17, 0, 18), (0, 7, 6), (6, 14, 16), (6, 12, 15), (6, 6, 13), (13, 0, 14), (6, 5, 9), (9, 1, 12), (9, 0, 11), (9, 2, 10), (6, 1, 8), (6, 0, 7), (0, 2, 5), (0, 1, 4), (0, 0, 1), (1, 2, 3), (1, 0, 2)]
def VC0 : List (Nat × Nat × Int32) := [(29, 2, 1), (17, 17, (-1)), (13, 2, 1), (0, 5, 63), (0, 4, 6)]
theorem init_C (N : Nat) : ∃ g0 g s, (∀ F : Option Nat → Hp → Option (Int32 × Hp), nw 11 hp0 F = F (some 0) g0) ∧ ok g0 [11] 0 = true ∧ C_init N (some 0) g0 = (cl (ds [(9, Touch_forget N (some 6) 6 g)] (some 6) g) fun _ h30 => some ((), h30)) ∧ IL hp0 0 g 35 TC0 VC0 s ∧ s ≤ 100000 := by
  obtain ⟨g1, e1, I1⟩ := il_nw (t := 11) il_00 rfl (by decide) (by decide)
  obtain ⟨g2, e2, I2⟩ := il_nw (t := 8) I1 rfl (by decide) (by decide)
  obtain ⟨g3, e3, I3⟩ := il_na (t := 15) (f := 0) (ts := [8]) (o := 1) 300 I2 (x := 300) rfl (by omega) rfl (by omega) (by omega) (by decide) (by decide) (by decide) (by decide)
  obtain ⟨g4, e4, I4⟩ := il_na (t := 13) (f := 2) (ts := [8]) (o := 1) 300 I3 (x := 300) rfl (by omega) rfl (by omega) (by omega) (by decide) (by decide) (by decide) (by decide)
  obtain ⟨g5, e5, I5⟩ := il_pr (f := 0) (ts := [11]) (o := 0) (x := 1) I4 (by omega) (by omega) (by decide) (by decide)
  obtain ⟨g6, e6, I6⟩ := il_na (t := 13) (f := 1) (ts := [11]) (o := 0) 18 I5 (x := 18) rfl (by omega) rfl (by omega) (by omega) (by decide) (by decide) (by decide) (by decide)
  obtain ⟨g7, e7, I7⟩ := il_na (t := 18) (f := 2) (ts := [11]) (o := 0) 30 I6 (x := 30) rfl (by omega) rfl (by omega) (by omega) (by decide) (by decide) (by decide) (by decide)
  obtain ⟨g8, e8, I8⟩ := il_pi (ts := [11]) (o := 0) (j := 4) (x := 6) I7 (by omega) (by omega) (by decide)
  obtain ⟨g9, e9, I9⟩ := il_pi (ts := [11]) (o := 0) (j := 5) (x := 63) I8 (by omega) (by omega) (by decide)
  obtain ⟨g10, e10, I10⟩ := il_nw (t := 9) I9 rfl (by decide) (by decide)
  obtain ⟨g11, e11, I11⟩ := il_na (t := 18) (f := 0) (ts := [9]) (o := 6) 100 I10 (x := 100) rfl (by omega) rfl (by omega) (by omega) (by decide) (by decide) (by decide) (by decide)
  obtain ⟨g12, e12, I12⟩ := il_na (t := 13) (f := 1) (ts := [9]) (o := 6) 100 I11 (x := 100) rfl (by omega) rfl (by omega) (by omega) (by decide) (by decide) (by decide) (by decide)
  obtain ⟨g13, e13, I13⟩ := il_nw (t := 4) I12 rfl (by decide) (by decide)
  obtain ⟨g14, e14, I14⟩ := rows_i (N := N) (o := 9) 2001 I13 (x := 2001) rfl (by omega) rfl rfl rfl (by omega) (by omega) rfl (by decide) (by decide) (by decide)
  obtain ⟨g15, e15, I15⟩ := il_pr (f := 5) (ts := [9]) (o := 6) (x := 9) I14 (by omega) (by omega) (by decide) (by decide)
  obtain ⟨g16, e16, I16⟩ := il_nw (t := 0) I15 rfl (by decide) (by decide)
  obtain ⟨g17, e17, I17⟩ := lead_i (N := N) (o := 13) I16 rfl (by omega) (by omega) rfl (by decide) (by decide) (by decide)
  obtain ⟨g18, e18, I18⟩ := il_pr (f := 6) (ts := [9]) (o := 6) (x := 13) I17 (by omega) (by omega) (by decide) (by decide)
  obtain ⟨g19, e19, I19⟩ := il_na (t := 13) (f := 12) (ts := [9]) (o := 6) 2001 I18 (x := 2001) rfl (by omega) rfl (by omega) (by omega) (by decide) (by decide) (by decide) (by decide)
  obtain ⟨g20, e20, I20⟩ := il_na (t := 13) (f := 14) (ts := [9]) (o := 6) 2001 I19 (x := 2001) rfl (by omega) rfl (by omega) (by omega) (by decide) (by decide) (by decide) (by decide)
  obtain ⟨g21, e21, I21⟩ := il_pr (f := 7) (ts := [11]) (o := 0) (x := 6) I20 (by omega) (by omega) (by decide) (by decide)
  obtain ⟨g22, e22, I22⟩ := il_nw (t := 5) I21 rfl (by decide) (by decide)
  obtain ⟨g23, e23, I23⟩ := il_na (t := 13) (f := 0) (ts := [5]) (o := 17) 90 I22 (x := 90) rfl (by omega) rfl (by omega) (by omega) (by decide) (by decide) (by decide) (by decide)
  obtain ⟨g24, e24, I24⟩ := il_na (t := 18) (f := 1) (ts := [5]) (o := 17) 90 I23 (x := 90) rfl (by omega) rfl (by omega) (by omega) (by decide) (by decide) (by decide) (by decide)
  obtain ⟨g25, e25, I25⟩ := il_na (t := 17) (f := 8) (ts := [5]) (o := 17) 1080 I24 (x := 1080) rfl (by omega) rfl (by omega) (by omega) (by decide) (by decide) (by decide) (by decide)
  obtain ⟨g26, e26, I26⟩ := il_na (t := 13) (f := 9) (ts := [5]) (o := 17) 1080 I25 (x := 1080) rfl (by omega) rfl (by omega) (by omega) (by decide) (by decide) (by decide) (by decide)
  obtain ⟨g27, e27, I27⟩ := il_nw (t := 4) I26 rfl (by decide) (by decide)
  obtain ⟨g28, e28, I28⟩ := rows_i (N := N) (o := 22) 1201 I27 (x := 1201) rfl (by omega) rfl rfl rfl (by omega) (by omega) rfl (by decide) (by decide) (by decide)
  obtain ⟨g29, e29, I29⟩ := il_pr (f := 10) (ts := [5]) (o := 17) (x := 22) I28 (by omega) (by omega) (by decide) (by decide)
  obtain ⟨g30, e30, I30⟩ := il_na (t := 13) (f := 11) (ts := [5]) (o := 17) 1201 I29 (x := 1201) rfl (by omega) rfl (by omega) (by omega) (by decide) (by decide) (by decide) (by decide)
  obtain ⟨g31, e31, I31⟩ := il_na (t := 13) (f := 12) (ts := [5]) (o := 17) 12 I30 (x := 12) rfl (by omega) rfl (by omega) (by omega) (by decide) (by decide) (by decide) (by decide)
  obtain ⟨g32, e32, I32⟩ := il_na (t := 13) (f := 13) (ts := [5]) (o := 17) 12 I31 (x := 12) rfl (by omega) rfl (by omega) (by omega) (by decide) (by decide) (by decide) (by decide)
  obtain ⟨g33, e33, I33⟩ := il_pi (ts := [5]) (o := 17) (j := 17) (x := (-1)) I32 (by omega) (by omega) (by decide)
  obtain ⟨g34, e34, I34⟩ := il_pr (f := 8) (ts := [11]) (o := 0) (x := 17) I33 (by omega) (by omega) (by decide) (by decide)
  obtain ⟨g35, e35, I35⟩ := il_nw (t := 0) I34 rfl (by decide) (by decide)
  obtain ⟨g36, e36, I36⟩ := lead_i (N := N) (o := 29) I35 rfl (by omega) (by omega) rfl (by decide) (by decide) (by decide)
  obtain ⟨g37, e37, I37⟩ := il_pr (f := 9) (ts := [11]) (o := 0) (x := 29) I36 (by omega) (by omega) (by decide) (by decide)
  obtain ⟨g38, e38, I38⟩ := il_nw (t := 4) I37 rfl (by decide) (by decide)
  obtain ⟨g39, e39, I39⟩ := rows_i (N := N) (o := 31) 100 I38 (x := 100) rfl (by omega) rfl rfl rfl (by omega) (by omega) rfl (by decide) (by decide) (by decide)
  obtain ⟨g40, e40, I40⟩ := il_pr (f := 10) (ts := [11]) (o := 0) (x := 31) I39 (by omega) (by omega) (by decide) (by decide)
  refine ⟨g1, g40, _, e1 _, il_ok I1 (by omega) (by omega) (by decide), ?_, I40, by decide⟩
  unfold C_init kn
  dsimp only
  rw [e2, ck_s (show ok _ [8] 1 = true from il_ok I2 (by omega) (by omega) (by decide))]
  unfold Tape_init kn
  dsimp only
  rw [e3, e4, cl_s, e5, e6, e7, e8, e9, e10, ck_s (show ok _ [9] 6 = true from il_ok I10 (by omega) (by omega) (by decide))]
  unfold Touch_init kn
  dsimp only
  rw [e11, e12, e13, ck_s (show ok _ [4] 9 = true from il_ok I13 (by omega) (by omega) (by decide)), e14, cl_s, e15, e16, ck_s (show ok _ [0] 13 = true from il_ok I16 (by omega) (by omega) (by decide)), e17, cl_s, e18, e19, e20, cl_s, e21, e22, ck_s (show ok _ [5] 17 = true from il_ok I22 (by omega) (by omega) (by decide))]
  unfold Search_init kn
  dsimp only
  rw [e23, e24, e25, e26, e27, ck_s (show ok _ [4] 22 = true from il_ok I27 (by omega) (by omega) (by decide)), e28, cl_s, e29, e30, e31, e32, e33, cl_s, e34, e35, ck_s (show ok _ [0] 29 = true from il_ok I35 (by omega) (by omega) (by decide)), e36, cl_s, e37, e38, ck_s (show ok _ [4] 31 = true from il_ok I38 (by omega) (by omega) (by decide)), e39, cl_s, e40, gr_s (show ok _ [11] 0 = true from il_ok I40 (by omega) (by omega) (by decide)), show hR _ 0 7 = some 6 from I40.2.2.2.1 (0, 7, 6) (by decide)]
def TM0 : List (Nat × Nat × Nat) := [(35, 58, 63), (35, 57, 62), (35, 54, 61), (35, 52, 60), (35, 49, 59), (35, 47, 58), (35, 46, 57), (35, 45, 56), (35, 42, 55), (35, 40, 54), (35, 32, 53), (35, 31, 52), (35, 29, 51), (35, 28, 50), (35, 23, 49), (35, 20, 48), (35, 18, 47), (35, 17, 46), (35, 13, 45), (35, 12, 44), (35, 11, 43), (35, 10, 42), (35, 9, 41), (35, 8, 40), (35, 7, 39), (35, 6, 38), (35, 4, 37), (35, 0, 36)]
def VM0 : List (Nat × Nat × Int32) := [(35, 16, 1)]
theorem init_M {N s : Nat} {h : Hp} (I0 : IL h 35 h 35 [] [] s) : ∃ g0 g s', (∀ F : Option Nat → Hp → Option (Int32 × Hp), nw 12 h F = F (some 35) g0) ∧ ok g0 [12] 35 = true ∧ M_init N (some 35) g0 = (cl (ds [(12, M_begin N (some 35) 6 g)] (some 35) g) fun _ h86 => some ((), h86)) ∧ IL h 35 g 64 TM0 VM0 s' ∧ s' ≤ s + 100000 := by
  obtain ⟨g1, e1, I1⟩ := il_nw (t := 12) I0 rfl (by decide) (by decide)
  obtain ⟨g2, e2, I2⟩ := il_na (t := 13) (f := 0) (ts := [12]) (o := 35) 300 I1 (x := 300) rfl (by omega) rfl (by omega) (by omega) (by decide) (by decide) (by decide) (by decide)
  obtain ⟨g3, e3, I3⟩ := il_na (t := 13) (f := 4) (ts := [12]) (o := 35) 18 I2 (x := 18) rfl (by omega) rfl (by omega) (by omega) (by decide) (by decide) (by decide) (by decide)
  obtain ⟨g4, e4, I4⟩ := il_na (t := 13) (f := 6) (ts := [12]) (o := 35) 30 I3 (x := 30) rfl (by omega) rfl (by omega) (by omega) (by decide) (by decide) (by decide) (by decide)
  obtain ⟨g5, e5, I5⟩ := il_na (t := 13) (f := 7) (ts := [12]) (o := 35) 30 I4 (x := 30) rfl (by omega) rfl (by omega) (by omega) (by decide) (by decide) (by decide) (by decide)
  obtain ⟨g6, e6, I6⟩ := il_na (t := 13) (f := 8) (ts := [12]) (o := 35) 3000 I5 (x := 3000) rfl (by omega) rfl (by omega) (by omega) (by decide) (by decide) (by decide) (by decide)
  obtain ⟨g7, e7, I7⟩ := il_na (t := 13) (f := 9) (ts := [12]) (o := 35) 90 I6 (x := 90) rfl (by omega) rfl (by omega) (by omega) (by decide) (by decide) (by decide) (by decide)
  obtain ⟨g8, e8, I8⟩ := il_na (t := 13) (f := 10) (ts := [12]) (o := 35) 90 I7 (x := 90) rfl (by omega) rfl (by omega) (by omega) (by decide) (by decide) (by decide) (by decide)
  obtain ⟨g9, e9, I9⟩ := il_na (t := 13) (f := 11) (ts := [12]) (o := 35) 30 I8 (x := 30) rfl (by omega) rfl (by omega) (by omega) (by decide) (by decide) (by decide) (by decide)
  obtain ⟨g10, e10, I10⟩ := il_na (t := 13) (f := 12) (ts := [12]) (o := 35) 180 I9 (x := 180) rfl (by omega) rfl (by omega) (by omega) (by decide) (by decide) (by decide) (by decide)
  obtain ⟨g11, e11, I11⟩ := il_na (t := 13) (f := 13) (ts := [12]) (o := 35) 100 I10 (x := 100) rfl (by omega) rfl (by omega) (by omega) (by decide) (by decide) (by decide) (by decide)
  obtain ⟨g12, e12, I12⟩ := il_pz (ts := [12]) (o := 35) (j := 16) I11 (by omega) (by omega) (by decide)
  obtain ⟨g13, e13, I13⟩ := il_na (t := 13) (f := 17) (ts := [12]) (o := 35) 100 I12 (x := 100) rfl (by omega) rfl (by omega) (by omega) (by decide) (by decide) (by decide) (by decide)
  obtain ⟨g14, e14, I14⟩ := il_na (t := 13) (f := 18) (ts := [12]) (o := 35) 100 I13 (x := 100) rfl (by omega) rfl (by omega) (by omega) (by decide) (by decide) (by decide) (by decide)
  obtain ⟨g15, e15, I15⟩ := il_na (t := 14) (f := 20) (ts := [12]) (o := 35) 2001 I14 (x := 2001) rfl (by omega) rfl (by omega) (by omega) (by decide) (by decide) (by decide) (by decide)
  obtain ⟨g16, e16, I16⟩ := il_na (t := 13) (f := 23) (ts := [12]) (o := 35) 100 I15 (x := 100) rfl (by omega) rfl (by omega) (by omega) (by decide) (by decide) (by decide) (by decide)
  obtain ⟨g17, e17, I17⟩ := il_na (t := 13) (f := 28) (ts := [12]) (o := 35) 2001 I16 (x := 2001) rfl (by omega) rfl (by omega) (by omega) (by decide) (by decide) (by decide) (by decide)
  obtain ⟨g18, e18, I18⟩ := il_na (t := 13) (f := 29) (ts := [12]) (o := 35) 2001 I17 (x := 2001) rfl (by omega) rfl (by omega) (by omega) (by decide) (by decide) (by decide) (by decide)
  obtain ⟨g19, e19, I19⟩ := il_na (t := 16) (f := 31) (ts := [12]) (o := 35) 13 I18 (x := 13) rfl (by omega) rfl (by omega) (by omega) (by decide) (by decide) (by decide) (by decide)
  obtain ⟨g20, e20, I20⟩ := il_na (t := 13) (f := 32) (ts := [12]) (o := 35) 30 I19 (x := 30) rfl (by omega) rfl (by omega) (by omega) (by decide) (by decide) (by decide) (by decide)
  obtain ⟨g21, e21, I21⟩ := il_na (t := 13) (f := 40) (ts := [12]) (o := 35) 90 I20 (x := 90) rfl (by omega) rfl (by omega) (by omega) (by decide) (by decide) (by decide) (by decide)
  obtain ⟨g22, e22, I22⟩ := il_na (t := 15) (f := 42) (ts := [12]) (o := 35) 1080 I21 (x := 1080) rfl (by omega) rfl (by omega) (by omega) (by decide) (by decide) (by decide) (by decide)
  obtain ⟨g23, e23, I23⟩ := il_na (t := 13) (f := 45) (ts := [12]) (o := 35) 12 I22 (x := 12) rfl (by omega) rfl (by omega) (by omega) (by decide) (by decide) (by decide) (by decide)
  obtain ⟨g24, e24, I24⟩ := il_na (t := 13) (f := 46) (ts := [12]) (o := 35) 12 I23 (x := 12) rfl (by omega) rfl (by omega) (by omega) (by decide) (by decide) (by decide) (by decide)
  obtain ⟨g25, e25, I25⟩ := il_na (t := 14) (f := 47) (ts := [12]) (o := 35) 1201 I24 (x := 1201) rfl (by omega) rfl (by omega) (by omega) (by decide) (by decide) (by decide) (by decide)
  obtain ⟨g26, e26, I26⟩ := il_na (t := 13) (f := 49) (ts := [12]) (o := 35) 100 I25 (x := 100) rfl (by omega) rfl (by omega) (by omega) (by decide) (by decide) (by decide) (by decide)
  obtain ⟨g27, e27, I27⟩ := il_na (t := 13) (f := 52) (ts := [12]) (o := 35) 12 I26 (x := 12) rfl (by omega) rfl (by omega) (by omega) (by decide) (by decide) (by decide) (by decide)
  obtain ⟨g28, e28, I28⟩ := il_na (t := 13) (f := 54) (ts := [12]) (o := 35) 600 I27 (x := 600) rfl (by omega) rfl (by omega) (by omega) (by decide) (by decide) (by decide) (by decide)
  obtain ⟨g29, e29, I29⟩ := il_na (t := 13) (f := 57) (ts := [12]) (o := 35) 13 I28 (x := 13) rfl (by omega) rfl (by omega) (by omega) (by decide) (by decide) (by decide) (by decide)
  obtain ⟨g30, e30, I30⟩ := il_na (t := 14) (f := 58) (ts := [12]) (o := 35) 100 I29 (x := 100) rfl (by omega) rfl (by omega) (by omega) (by decide) (by decide) (by decide) (by decide)
  refine ⟨g1, g30, _, e1 _, il_ok I1 (by omega) (by omega) (by decide), ?_, I30, ?_⟩
  · unfold M_init kn
    dsimp only
    rw [e2, e3, e4, e5, e6, e7, e8, e9, e10, e11, e12, e13, e14, e15, e16, e17, e18, e19, e20, e21, e22, e23, e24, e25, e26, e27, e28, e29, e30]
  · have : nfl 12 ≤ 100 := by decide
    omega
