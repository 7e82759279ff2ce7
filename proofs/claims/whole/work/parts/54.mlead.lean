/-! PURE: the model's leads -/
theorem M_isAmiss_s {N : Nat} {x : Int32} {h : Hp} (L : Lay h) : M_isAmiss N (some 35) x h = some (0, sI h 35 15 x) := by
  unfold M_isAmiss
  simp only [gi_s, gl_s, gr_s, pi_s, pl_s, cl_s, ds_1, ck_s, nmE, ok_sI, ok_sL, hK_sI, hK_sL, hR_sI, hR_sL, hL_sI, Lay_sI, Lay_sL, r35_0, r35_4, r35_6, r35_7, r35_8, r35_9, r35_10, r35_11, r35_12, r35_13, r35_17, r35_18, r35_20, r35_23, r35_28, r35_29, r35_31, r35_32, r35_40, r35_42, r35_45, r35_46, r35_47, r35_49, r35_52, r35_54, r35_57, r35_58, o35, o36, o37, o38, o39, o40, o41, o42, o43, o44, o45, o46, o47, o48, o49, o50, o51, o52, o53, o54, o55, o56, o57, o58, o59, o60, o61, o62, o63, L, rz_0]
theorem Ms_copy {N a M : Nat} {d : Md} (ha : a < 30) (hM : M ≤ 100) : ∀ (r f k : Nat) (h : Hp), Lay h → hI h 35 14 = nI M → (∀ j, j < M → hI h 40 (100 * a + j) = nI (ld d j)) → (∀ j, j < k → hI h 45 j = nI (ld d j)) → k + r = M → r < f → ∃ h', M_leadOf_89 N f (some 35) (nI a) (nI k) h = some (1, h') ∧ Fi (fun a _ => a = 45) h h' ∧ ∀ j, j < M → hI h' 45 j = nI (ld d j) := by
  intro r
  induction r with
  | zero =>
    intro f k h L e14 e40 e45 hk hf
    obtain ⟨f, rfl⟩ : ∃ k, f = k + 1 := ⟨f - 1, by omega⟩
    refine ⟨h, ?_, Fx_r _ _ _, fun j hj => e45 j (by omega)⟩
    rw [M_leadOf_89, gi_s (o35 L), e14, if_pos ((nI_leI (by omega) (by omega)).mpr (by omega)), rz_1]
  | succ r ih =>
    intro f k h L e14 e40 e45 hk hf
    obtain ⟨f, rfl⟩ : ∃ k, f = k + 1 := ⟨f - 1, by omega⟩
    rw [M_leadOf_89, gi_s (o35 L), e14, if_neg (fun q => by have := (nI_leI (by omega) (by omega)).mp q; omega)]
    have e : (100 : Int32) * nI a + nI k = nI (100 * a + k) := by
      rw [show (100 : Int32) * nI a = nI (100 * a) from pk_mul 100 a, nI_add]
    have b1 : 100 * a + k < 3000 := by omega
    have b2 : k < 100 := by omega
    simp only [gi_s, gl_s, gr_s, pi_s, pl_s, cl_s, ds_1, ck_s, nmE, ok_sI, ok_sL, hK_sI, hK_sL, hR_sI, hR_sL, hL_sI, Lay_sI, Lay_sL, r35_0, r35_4, r35_6, r35_7, r35_8, r35_9, r35_10, r35_11, r35_12, r35_13, r35_17, r35_18, r35_20, r35_23, r35_28, r35_29, r35_31, r35_32, r35_40, r35_42, r35_45, r35_46, r35_47, r35_49, r35_52, r35_54, r35_57, r35_58, o35, o36, o37, o38, o39, o40, o41, o42, o43, o44, o45, o46, o47, o48, o49, o50, o51, o52, o53, o54, o55, o56, o57, o58, o59, o60, o61, o62, o63, L, e, li_s, si_s, k36, k37, k38, k39, k40, k41, k42, k43, k44, k45, k46, k47, k48, k49, k50, k51, k52, k53, k54, k55, k56, k57, k58, k59, k60, k61, k62, k63, b1, b2, Nat.reducePow, Nat.reduceLT, nI_1]
    obtain ⟨h', g1, g2, g3⟩ := ih f (k + 1) (sI h 45 k (hI h 40 (100 * a + k))) (by rw [Lay_sI]; exact L) (by rw [sI_ne (by omega)]; exact e14)
      (fun j hj => by rw [sI_ne (by omega)]; exact e40 j hj)
      (fun j hj => by
        by_cases q : j = k
        · subst q; rw [sI_at]; exact e40 j (by omega)
        · rw [sI_ne (fun _ => q)]; exact e45 j (by omega)) (by omega) (by omega)
    exact ⟨h', g1, Fx_t (Fx_sI h _ rfl) g2, g3⟩
/-- a lead of a method that isn't spliced: what is amiss, how many changes, which; what the trace counts -/
def lR (d : Md) : Nat × Nat × (Nat → Nat) := match ln d with
  | none => (1, 0, fun _ => 0)
  | some M => (0, M, ld d)
def lT (d : Md) : List Nat := [if kd d = 4 then 12 else 0]
/-- what the model says of an act -/
def MR (q : Bool) (T : List Nat) (R : Nat × Nat × (Nat → Nat)) (h h' : Hp) (x : Int32) : Prop :=
  Fi PM h h' ∧ hI h' 37 = bq q (hI h 37) T ∧ x = (if R.1 = 0 then 1 else 0) ∧ (R.1 = 0 → hI h' 35 14 = nI R.2.1 ∧ ∀ k, k < R.2.1 → hI h' 45 k = nI (R.2.2 k)) ∧ (R.1 ≠ 0 → hI h' 35 15 = nI R.1)
theorem M_leadOf_41_s {N a : Nat} {d : Md} {q : Bool} {h : Hp} (hN : 100 < N) (L : Lay h) (hq : hI h 35 16 = qI q) (ha : a < 30) (m : MM h a d) (w : ∀ M, ln d = some M → M ≤ 100) (w1 : kd d < 6) : ∃ x h', M_leadOf_41 N (some 35) (nI a) h = some (x, h') ∧ MR q (lT d) (lR d) h h' x := by
  unfold M_leadOf_41
  obtain ⟨m1, m2, m3, -⟩ := m
  simp only [gi_s, gl_s, gr_s, pi_s, pl_s, cl_s, ds_1, ck_s, nmE, ok_sI, ok_sL, hK_sI, hK_sL, hR_sI, hR_sL, hL_sI, Lay_sI, Lay_sL, r35_0, r35_4, r35_6, r35_7, r35_8, r35_9, r35_10, r35_11, r35_12, r35_13, r35_17, r35_18, r35_20, r35_23, r35_28, r35_29, r35_31, r35_32, r35_40, r35_42, r35_45, r35_46, r35_47, r35_49, r35_52, r35_54, r35_57, r35_58, o35, o36, o37, o38, o39, o40, o41, o42, o43, o44, o45, o46, o47, o48, o49, o50, o51, o52, o53, o54, o55, o56, o57, o58, o59, o60, o61, o62, o63, L, li_s, k36, k37, k38, k39, k40, k41, k42, k43, k44, k45, k46, k47, k48, k49, k50, k51, k52, k53, k54, k55, k56, k57, k58, k59, k60, k61, k62, k63, ha, Nat.reducePow, Nat.reduceLT, m1]
  have key : ∀ kk : Nat, 3 * kk + 0 < 18 → (if kd d = 4 then 12 else 0) = 3 * kk + 0 → ∃ x h', M_leadOf_57 N (some 35) (nI a) (some 35) (nI kk) h = some (x, h') ∧ MR q (lT d) (lR d) h h' x := by
    intro kk h18 ht
    unfold M_leadOf_57
    obtain ⟨h1, g1, g2, g3, g4⟩ := M_count_s (N := N) (k := kk) (c := 0) L hq h18
    rw [show (0 : Int32) = nI 0 from rfl, ds_1 (o35 L), g1, cl_s]
    have L1 := Fx_Lay g2 L
    have z39 : hI h1 39 a = oI (ln d) := by rw [g4 39 (by decide)]; exact m2
    simp only [gi_s, gl_s, gr_s, pi_s, pl_s, cl_s, ds_1, ck_s, nmE, ok_sI, ok_sL, hK_sI, hK_sL, hR_sI, hR_sL, hL_sI, Lay_sI, Lay_sL, r35_0, r35_4, r35_6, r35_7, r35_8, r35_9, r35_10, r35_11, r35_12, r35_13, r35_17, r35_18, r35_20, r35_23, r35_28, r35_29, r35_31, r35_32, r35_40, r35_42, r35_45, r35_46, r35_47, r35_49, r35_52, r35_54, r35_57, r35_58, o35, o36, o37, o38, o39, o40, o41, o42, o43, o44, o45, o46, o47, o48, o49, o50, o51, o52, o53, o54, o55, o56, o57, o58, o59, o60, o61, o62, o63, L1, li_s, k36, k37, k38, k39, k40, k41, k42, k43, k44, k45, k46, k47, k48, k49, k50, k51, k52, k53, k54, k55, k56, k57, k58, k59, k60, k61, k62, k63, ha, Nat.reducePow, Nat.reduceLT, z39]
    unfold MR lR lT
    rw [ht]
    cases hl : ln d with
    | none =>
      refine ⟨_, _, by rw [if_neg (by decide), M_isAmiss_s L1, cl_s, rz_0], ?_, ?_, by simp, by simp, ?_⟩
      · exact Fx_t g2 (Fx_sI h1 _ (by simp [PM]))
      · rw [sI_row' (by decide)]; exact g3
      · intro _; exact sI_at ..
    | some M =>
      have hM := w M hl
      have l1 : nI 0 ≤ oI (some M) := (nI_leI (by omega) (by omega)).mpr (by omega)
      rw [if_pos l1]
      obtain ⟨h', e1, e2, e3⟩ := Ms_copy (N := N) (d := d) ha hM M N 0 (sI h1 35 14 (nI M)) (by rw [Lay_sI]; exact L1) (sI_at ..)
        (fun j hj => by rw [sI_ne (by omega), g4 40 (by decide)]; exact m3 M hl j hj) (fun j hj => by omega) (by omega) (by omega)
      refine ⟨1, h', e1, ?_, ?_, by simp, ?_, by simp⟩
      · exact Fx_t g2 (Fx_t (Fx_sI h1 _ (by simp [PM])) (Fx_m e2 (fun a k p => Or.inr (Or.inl p)) (fun _ _ p => p)))
      · funext j
        rw [Fx_I e2 (by decide), sI_ne (by omega), g3]
      · intro _
        exact ⟨by rw [Fx_I e2 (by decide)]; exact sI_at .., e3⟩
  by_cases k4 : kd d = 4
  · rw [k4, if_pos (cN_4)]; exact key 4 (by decide) (by rw [if_pos k4])
  · rw [if_neg (fun e => k4 ((eN_4 (by omega)).mp e))]; exact key 0 (by decide) (by rw [if_neg k4])
theorem nI_mod {a b : Nat} (hb : b < 2 ^ 31) (ha : a < 2 ^ 31) (h0 : 0 < b) : nI a - nI a / nI b * nI b = nI (a % b) := by
  rw [pk_div ha h0 hb, pk_mul, pk_sub (Nat.div_mul_le_self a b)]
  congr 1
  have := Nat.div_add_mod a b
  have h2 := Nat.mul_comm b (a / b)
  omega
/-- which method rings lead i of method m -/
def rs (D : Nat → Md) (m i : Nat) : Option Nat := if kd (D m) = 5 then (if (pt (D m)).length = 0 then none else some ((pt (D m)).getD (i % (pt (D m)).length) 0)) else some m
def LR (D : Nat → Md) (m i : Nat) : Nat × Nat × (Nat → Nat) := match rs D m i with
  | none => (7, 0, fun _ => 0)
  | some a => lR (D a)
def LT (D : Nat → Md) (m i : Nat) : List Nat := (if kd (D m) = 5 then [15] else []) ++ (match rs D m i with
  | none => []
  | some a => lT (D a))
/-- all methods, as the model has them -/
def Ms (h : Hp) (n mc : Nat) (D : Nat → Md) : Prop := hI h 35 5 = nI mc ∧ mc ≤ 30 ∧ ∀ m, m < mc → MM h m (D m) ∧ Wm n m D
theorem MM_f {h h' : Hp} {m : Nat} {d : Md} (M : MM h m d) (e : ∀ a, (38 ≤ a ∧ a ≤ 44 ∨ a = 53) → hI h' a = hI h a) : MM h' m d := by
  unfold MM
  rw [e 38 (by omega), e 39 (by omega), e 40 (by omega), e 41 (by omega), e 42 (by omega), e 43 (by omega), e 44 (by omega), e 53 (by omega)]
  exact M
theorem Ms_f {h h' : Hp} {n mc : Nat} {D : Nat → Md} (M : Ms h n mc D) (e : ∀ a, (38 ≤ a ∧ a ≤ 44 ∨ a = 53) → hI h' a = hI h a) (e5 : hI h' 35 5 = hI h 35 5) : Ms h' n mc D :=
  ⟨by rw [e5]; exact M.1, M.2.1, fun m hm => ⟨MM_f (M.2.2 m hm).1 e, (M.2.2 m hm).2⟩⟩
theorem PM_o {h h' : Hp} (f : Fi PM h h') {a : Nat} (h1 : a ≠ 37) (h2 : a ≠ 45) (h3 : a ≠ 35) : hI h' a = hI h a := by
  funext k
  exact Fx_I f (by unfold PM; omega)
theorem PM_5 {h h' : Hp} (f : Fi PM h h') {k : Nat} (h1 : k ≠ 14) (h2 : k ≠ 15) : hI h' 35 k = hI h 35 k := Fx_I f (by unfold PM; omega)
theorem Ms_PM {h h' : Hp} {n mc : Nat} {D : Nat → Md} (M : Ms h n mc D) (f : Fi PM h h') : Ms h' n mc D :=
  Ms_f M (fun a ha => PM_o f (by omega) (by omega) (by omega)) (PM_5 f (by decide) (by decide))
theorem M_partOf_s {N m i n mc : Nat} {D : Nat → Md} {h : Hp} (L : Lay h) (M : Ms h n mc D) (hm : m < mc) (hi : i < 2 ^ 31) (hp : 0 < (pt (D m)).length) : M_partOf N (some 35) (nI m) (nI i) h = some (nI ((pt (D m)).getD (i % (pt (D m)).length) 0), h) := by
  obtain ⟨m0, m1, m2⟩ := M
  obtain ⟨⟨-, -, -, -, -, a6, a7, -⟩, -, -, -, w4, -⟩ := m2 m hm
  unfold M_partOf
  have b1 : m < 30 := by omega
  simp only [gi_s, gl_s, gr_s, pi_s, pl_s, cl_s, ds_1, ck_s, nmE, ok_sI, ok_sL, hK_sI, hK_sL, hR_sI, hR_sL, hL_sI, Lay_sI, Lay_sL, r35_0, r35_4, r35_6, r35_7, r35_8, r35_9, r35_10, r35_11, r35_12, r35_13, r35_17, r35_18, r35_20, r35_23, r35_28, r35_29, r35_31, r35_32, r35_40, r35_42, r35_45, r35_46, r35_47, r35_49, r35_52, r35_54, r35_57, r35_58, o35, o36, o37, o38, o39, o40, o41, o42, o43, o44, o45, o46, o47, o48, o49, o50, o51, o52, o53, o54, o55, o56, o57, o58, o59, o60, o61, o62, o63, L, li_s, k36, k37, k38, k39, k40, k41, k42, k43, k44, k45, k46, k47, k48, k49, k50, k51, k52, k53, k54, k55, k56, k57, k58, k59, k60, k61, k62, k63, b1, Nat.reducePow, Nat.reduceLT, a6]
  have hlt := Nat.mod_lt i hp
  have e : (6 : Int32) * nI m + (nI i - nI i / nI (pt (D m)).length * nI (pt (D m)).length) = nI (6 * m + i % (pt (D m)).length) := by
    rw [nI_mod (by omega) hi hp, show (6 : Int32) * nI m = nI (6 * m) from pk_mul 6 m, nI_add]
  have b2 : 6 * m + i % (pt (D m)).length < 180 := by omega
  unfold nz
  rw [if_neg (fun q => by have := (nI_eq0 (by omega)).mp q; omega), e]
  simp only [li_s, o35, o36, o37, o38, o39, o40, o41, o42, o43, o44, o45, o46, o47, o48, o49, o50, o51, o52, o53, o54, o55, o56, o57, o58, o59, o60, o61, o62, o63, L, k36, k37, k38, k39, k40, k41, k42, k43, k44, k45, k46, k47, k48, k49, k50, k51, k52, k53, k54, k55, k56, k57, k58, k59, k60, k61, k62, k63, b2, Nat.reducePow, Nat.reduceLT, a7 _ hlt]
theorem M_leadOf_s {N m i n mc : Nat} {D : Nat → Md} {q : Bool} {h : Hp} (hN : 100 < N) (L : Lay h) (hq : hI h 35 16 = qI q) (M : Ms h n mc D) (hm : m < mc) (hi : i < 2 ^ 31) : ∃ x h', M_leadOf N (some 35) (nI m) (nI i) h = some (x, h') ∧ MR q (LT D m i) (LR D m i) h h' x := by
  unfold M_leadOf
  have M' := M
  obtain ⟨m0, m1, m2⟩ := M'
  obtain ⟨mm, w1, w2, -, w4, w5, -⟩ := m2 m hm
  have b1 : m < 30 := by omega
  simp only [gi_s, gl_s, gr_s, pi_s, pl_s, cl_s, ds_1, ck_s, nmE, ok_sI, ok_sL, hK_sI, hK_sL, hR_sI, hR_sL, hL_sI, Lay_sI, Lay_sL, r35_0, r35_4, r35_6, r35_7, r35_8, r35_9, r35_10, r35_11, r35_12, r35_13, r35_17, r35_18, r35_20, r35_23, r35_28, r35_29, r35_31, r35_32, r35_40, r35_42, r35_45, r35_46, r35_47, r35_49, r35_52, r35_54, r35_57, r35_58, o35, o36, o37, o38, o39, o40, o41, o42, o43, o44, o45, o46, o47, o48, o49, o50, o51, o52, o53, o54, o55, o56, o57, o58, o59, o60, o61, o62, o63, L, li_s, k36, k37, k38, k39, k40, k41, k42, k43, k44, k45, k46, k47, k48, k49, k50, k51, k52, k53, k54, k55, k56, k57, k58, k59, k60, k61, k62, k63, b1, Nat.reducePow, Nat.reduceLT, mm.1]
  unfold LT LR rs
  by_cases k5 : kd (D m) = 5
  · rw [k5, if_pos (cN_5)]
    simp only [if_true]
    obtain ⟨h1, g1, g2, g3, g4⟩ := M_count_s (N := N) (k := 5) (c := 0) L hq (by decide)
    rw [show M_count N (some 35) 5 0 h = some ((), h1) from g1, cl_s]
    have L1 := Fx_Lay g2 L
    have z43 : hI h1 43 m = nI (pt (D m)).length := by rw [g4 43 (by decide)]; exact mm.2.2.2.2.2.1
    simp only [gi_s, gl_s, gr_s, pi_s, pl_s, cl_s, ds_1, ck_s, nmE, ok_sI, ok_sL, hK_sI, hK_sL, hR_sI, hR_sL, hL_sI, Lay_sI, Lay_sL, r35_0, r35_4, r35_6, r35_7, r35_8, r35_9, r35_10, r35_11, r35_12, r35_13, r35_17, r35_18, r35_20, r35_23, r35_28, r35_29, r35_31, r35_32, r35_40, r35_42, r35_45, r35_46, r35_47, r35_49, r35_52, r35_54, r35_57, r35_58, o35, o36, o37, o38, o39, o40, o41, o42, o43, o44, o45, o46, o47, o48, o49, o50, o51, o52, o53, o54, o55, o56, o57, o58, o59, o60, o61, o62, o63, L1, li_s, k36, k37, k38, k39, k40, k41, k42, k43, k44, k45, k46, k47, k48, k49, k50, k51, k52, k53, k54, k55, k56, k57, k58, k59, k60, k61, k62, k63, b1, Nat.reducePow, Nat.reduceLT, z43]
    by_cases hp : (pt (D m)).length = 0
    · rw [hp, if_pos (cN_0)]
      simp only [if_true]
      refine ⟨_, _, by rw [M_isAmiss_s L1, cl_s, rz_0], ?_, ?_, by simp, by simp, ?_⟩
      · exact Fx_t g2 (Fx_sI h1 _ (by simp [PM]))
      · rw [sI_row' (by decide)]; exact g3
      · intro _; exact sI_at ..
    · rw [if_neg (fun q => hp ((nI_eq0 (by omega)).mp q)), if_neg hp]
      have M1 := Ms_PM M g2
      rw [M_partOf_s L1 M1 hm hi (by omega), cl_s]
      have hlt := Nat.mod_lt i (show 0 < (pt (D m)).length by omega)
      obtain ⟨p1, p2⟩ := w5 _ hlt
      obtain ⟨mm2, v1, v2, -⟩ := M1.2.2 _ (show (pt (D m)).getD (i % (pt (D m)).length) 0 < mc by omega)
      obtain ⟨x, h', e1, e2, e3, e4⟩ := M_leadOf_41_s (N := N) hN L1 (q := q) (by rw [g4 35 (by decide)]; exact hq) (by omega) mm2 (fun M hM => (v2 M hM).1) v1
      refine ⟨x, h', e1, Fx_t g2 e2, ?_, e4⟩
      rw [e3, g3, ← bq_app]
  · rw [if_neg (fun e => k5 ((eN_5 (by omega)).mp e))]
    simp only [k5, if_false]
    exact M_leadOf_41_s hN L hq b1 mm (fun M hM => (w2 M hM).1) w1
