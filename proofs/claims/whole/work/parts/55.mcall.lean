/-! PURE: the model's called leads -/
def c1 (d : Md) (c : Nat) : Nat := if kd d = 1 ∧ c = 2 ∧ cp d 2 = none then 1 else c
def p1 (d : Md) (M p : Nat) : Nat := if kd d = 3 ∧ M ≤ p ∧ 0 < M then M - 1 else p
def tR (d : Md) (c : Nat) (po : Option Nat) : Nat × Nat × (Nat → Nat) := match ln d with
  | none => (1, 0, fun _ => 0)
  | some M => if c = 0 then (0, M, ld d) else match po with
    | none => (1, 0, fun _ => 0)
    | some p => if p < M then (0, M, va_up (ld d) (if kd d = 4 then M - 1 - p else p) (cc d c)) else (2, 0, fun _ => 0)
def tT (d : Md) : List Nat := (if kd d = 4 then 13 else 1) :: lT d
/-- a called lead of a method that isn't spliced -/
def cR (d : Md) (c : Nat) : Nat × Nat × (Nat → Nat) := match ln d with
  | none => (1, 0, fun _ => 0)
  | some M => tR d (c1 d c) ((cp d (c1 d c)).map (p1 d M))
def cT (d : Md) (c : Nat) : List Nat := if kd d = 1 then 4 :: tT d else if kd d = 3 then (if c = 0 then 10 :: tT d else if ln d = none then 10 :: lT d else 10 :: (lT d ++ tT d)) else tT d
def CR (D : Nat → Md) (m i c : Nat) : Nat × Nat × (Nat → Nat) := match rs D m i with
  | none => (7, 0, fun _ => 0)
  | some a => cR (D a) c
def CT (D : Nat → Md) (m i c : Nat) : List Nat := (if kd (D m) = 5 then [16] else []) ++ (match rs D m i with
  | none => []
  | some a => cT (D a) c)
theorem oI_neg {po : Option Nat} (hp : ∀ p, po = some p → p < 2 ^ 31) : 0 ≤ oI po ↔ po ≠ none := by
  cases po with
  | none => exact ⟨fun q => absurd q (by decide), fun q => absurd rfl q⟩
  | some p => exact ⟨fun _ => by simp, fun _ => (Nle_0 (hp p rfl)).mpr (Nat.zero_le _)⟩
theorem LR_a {D : Nat → Md} {a i : Nat} (k5 : kd (D a) ≠ 5) : LR D a i = lR (D a) := by simp [LR, rs, k5]
theorem LT_a {D : Nat → Md} {a i : Nat} (k5 : kd (D a) ≠ 5) : LT D a i = lT (D a) := by simp [LT, rs, k5]
theorem CR_a {D : Nat → Md} {a i c : Nat} (k5 : kd (D a) ≠ 5) : CR D a i c = cR (D a) c := by simp [CR, rs, k5]
theorem CT_a {D : Nat → Md} {a i c : Nat} (k5 : kd (D a) ≠ 5) : CT D a i c = cT (D a) c := by simp [CT, rs, k5]
theorem M_called_174_s {N a i c n mc : Nat} {D : Nat → Md} {po : Option Nat} {q : Bool} {h : Hp} (hN : 100 < N) (L : Lay h) (hq : hI h 35 16 = qI q) (M : Ms h n mc D) (ha : a < mc) (hi : i < 2 ^ 31) (k5 : kd (D a) ≠ 5) (hc : c ≤ 2) (hp : ∀ p, po = some p → p < 2 ^ 31) (hcc : 1 ≤ c → po ≠ none → cp (D a) c ≠ none) : ∃ x h', M_calledOf_174 N (some 35) (nI i) (nI a) (nI c) (oI po) h = some (x, h') ∧ MR q (tT (D a)) (tR (D a) c po) h h' x := by
  have M' := M
  obtain ⟨m0, m1, m2⟩ := M'
  obtain ⟨mm, w1, w2, w3, -⟩ := m2 a ha
  have b1 : a < 30 := by omega
  unfold M_calledOf_174
  simp only [gi_s, gl_s, gr_s, pi_s, pl_s, cl_s, ds_1, ck_s, nmE, ok_sI, ok_sL, hK_sI, hK_sL, hR_sI, hR_sL, hL_sI, Lay_sI, Lay_sL, r35_0, r35_4, r35_6, r35_7, r35_8, r35_9, r35_10, r35_11, r35_12, r35_13, r35_17, r35_18, r35_20, r35_23, r35_28, r35_29, r35_31, r35_32, r35_40, r35_42, r35_45, r35_46, r35_47, r35_49, r35_52, r35_54, r35_57, r35_58, o35, o36, o37, o38, o39, o40, o41, o42, o43, o44, o45, o46, o47, o48, o49, o50, o51, o52, o53, o54, o55, o56, o57, o58, o59, o60, o61, o62, o63, L, li_s, k36, k37, k38, k39, k40, k41, k42, k43, k44, k45, k46, k47, k48, k49, k50, k51, k52, k53, k54, k55, k56, k57, k58, k59, k60, k61, k62, k63, b1, Nat.reducePow, Nat.reduceLT, mm.1]
  have key : ∀ kk : Nat, 3 * kk + 1 < 18 → (if kd (D a) = 4 then 13 else 1) = 3 * kk + 1 → ∃ x h', M_calledOf_191 N (some 35) (nI i) (nI a) (nI c) (oI po) (some 35) (nI kk) h = some (x, h') ∧ MR q (tT (D a)) (tR (D a) c po) h h' x := by
    intro kk h18 ht
    unfold M_calledOf_191
    obtain ⟨h1, g1, g2, g3, g4⟩ := M_count_s (N := N) (k := kk) (c := 1) L hq h18
    have L1 := Fx_Lay g2 L
    have M1 := Ms_PM M g2
    obtain ⟨y, h2, e1, e2, e3, e4, e5, e6⟩ := M_leadOf_s (N := N) (i := i) hN L1 (q := q) (by rw [g4 35 (by decide)]; exact hq) M1 ha hi
    have L2 := Fx_Lay e2 L1
    rw [LR_a k5] at e4 e5 e6
    rw [LT_a k5] at e3
    rw [ds_1 (o35 L), show M_count N (some 35) (nI kk) 1 h = some ((), h1) from g1, cl_s, ds_1 (o35 L1), e1, cl_s]
    have hT : hI h2 37 = bq q (hI h 37) (tT (D a)) := by
      rw [e3, g3, ← bq_app]
      unfold tT
      rw [ht]
      rfl
    have F2 : Fi PM h h2 := Fx_t g2 e2
    unfold lR at e4 e5 e6
    unfold tR
    cases hl : ln (D a) with
    | none =>
      rw [hl] at e4 e5 e6
      refine ⟨0, h2, by rw [e4]; simp [rz_0], F2, hT, by simp, by simp, e6⟩
    | some K =>
      rw [hl] at e4 e5 e6
      have hK := (w2 K hl).1
      have e4' : y = 1 := by simpa using e4
      obtain ⟨f1, f2⟩ := e5 rfl
      dsimp only at f1 f2
      rw [e4', if_neg (by decide)]
      by_cases c0 : c = 0
      · subst c0
        rw [if_pos (cN_0), rz_1]
        exact ⟨1, h2, rfl, F2, hT, rfl, fun _ => ⟨f1, f2⟩, by simp⟩
      · rw [if_neg (fun e => c0 ((eN_0 (by omega)).mp e))]
        dsimp only
        rw [if_neg c0]
        cases po with
        | none =>
          rw [if_neg (by decide)]
          refine ⟨0, _, by rw [ds_1 (o35 L2), M_isAmiss_s L2, cl_s, rz_0], Fx_t F2 (Fx_sI h2 _ (by simp [PM])), ?_, by simp, by simp, ?_⟩
          · rw [sI_row' (by decide)]; exact hT
          · intro _; exact sI_at ..
        | some p =>
          have hp1 := hp p rfl
          rw [if_pos (show (0 : Int32) ≤ oI (some p) from (Nle_0 hp1).mpr (Nat.zero_le _)), gi_s (o35 L2), f1]
          by_cases pK : p < K
          · rw [if_pos (show oI (some p) < nI K from (nI_ltI hp1 (by omega)).mpr pK)]
            dsimp only
            rw [if_pos pK]
            have z38 : hI h2 38 a = nI (kd (D a)) := by rw [PM_o F2 (by decide) (by decide) (by decide)]; exact mm.1
            have z42 : hI h2 42 (3 * a + c) = nI (cc (D a) c) := by rw [PM_o F2 (by decide) (by decide) (by decide)]; exact mm.2.2.2.2.1 c (by omega) hc (hcc (by omega) (by simp))
            simp only [gi_s, gl_s, gr_s, pi_s, pl_s, cl_s, ds_1, ck_s, nmE, ok_sI, ok_sL, hK_sI, hK_sL, hR_sI, hR_sL, hL_sI, Lay_sI, Lay_sL, r35_0, r35_4, r35_6, r35_7, r35_8, r35_9, r35_10, r35_11, r35_12, r35_13, r35_17, r35_18, r35_20, r35_23, r35_28, r35_29, r35_31, r35_32, r35_40, r35_42, r35_45, r35_46, r35_47, r35_49, r35_52, r35_54, r35_57, r35_58, o35, o36, o37, o38, o39, o40, o41, o42, o43, o44, o45, o46, o47, o48, o49, o50, o51, o52, o53, o54, o55, o56, o57, o58, o59, o60, o61, o62, o63, L2, li_s, k36, k37, k38, k39, k40, k41, k42, k43, k44, k45, k46, k47, k48, k49, k50, k51, k52, k53, k54, k55, k56, k57, k58, k59, k60, k61, k62, k63, b1, Nat.reducePow, Nat.reduceLT, z38]
            have fin : ∀ s : Nat, s < 100 → ∃ x h', M_calledOf_269 N (some 35) (nI a) (nI c) (some 45) (nI s) h2 = some (x, h') ∧ MR q (tT (D a)) (0, K, va_up (ld (D a)) s (cc (D a) c)) h h' x := by
              intro s hs
              unfold M_calledOf_269
              have b2 : 3 * a + c < 90 := by omega
              simp only [gi_s, gl_s, gr_s, pi_s, pl_s, cl_s, ds_1, ck_s, nmE, ok_sI, ok_sL, hK_sI, hK_sL, hR_sI, hR_sL, hL_sI, Lay_sI, Lay_sL, r35_0, r35_4, r35_6, r35_7, r35_8, r35_9, r35_10, r35_11, r35_12, r35_13, r35_17, r35_18, r35_20, r35_23, r35_28, r35_29, r35_31, r35_32, r35_40, r35_42, r35_45, r35_46, r35_47, r35_49, r35_52, r35_54, r35_57, r35_58, o35, o36, o37, o38, o39, o40, o41, o42, o43, o44, o45, o46, o47, o48, o49, o50, o51, o52, o53, o54, o55, o56, o57, o58, o59, o60, o61, o62, o63, L2, li_s, si_s, k36, k37, k38, k39, k40, k41, k42, k43, k44, k45, k46, k47, k48, k49, k50, k51, k52, k53, k54, k55, k56, k57, k58, k59, k60, k61, k62, k63, b2, hs, Nat.reducePow, Nat.reduceLT, mN_3, nI_add, z42, rz_1]
              refine ⟨1, _, rfl, Fx_t F2 (Fx_sI h2 _ (by simp [PM])), ?_, by simp, ?_, by simp⟩
              · rw [sI_row' (by decide)]; exact hT
              · intro _
                refine ⟨by rw [sI_ne (by omega)]; exact f1, fun k hk => ?_⟩
                dsimp only
                rw [up_at]
                by_cases e : k = s
                · subst e; rw [sI_at, if_pos rfl]
                · rw [sI_ne (fun _ => e), if_neg e]; exact f2 k hk
            by_cases k4 : kd (D a) = 4
            · rw [k4, if_pos (cN_4), f1, if_pos rfl]
              rw [sN_1 (by omega), show nI (K - 1) - oI (some p) = nI (K - 1 - p) from pk_sub (by omega)]
              exact fin (K - 1 - p) (by omega)
            · rw [if_neg (fun e => k4 ((eN_4 (by omega)).mp e)), if_neg k4]
              exact fin p (by omega)
          · rw [if_neg (show ¬ oI (some p) < nI K from fun e => pK ((nI_ltI hp1 (by omega)).mp e))]
            dsimp only
            rw [if_neg pK]
            refine ⟨0, _, by rw [ds_1 (o35 L2), M_isAmiss_s L2, cl_s, rz_0], Fx_t F2 (Fx_sI h2 _ (by simp [PM])), ?_, by simp, by simp, ?_⟩
            · rw [sI_row' (by decide)]; exact hT
            · intro _; exact sI_at ..
  by_cases k4 : kd (D a) = 4
  · rw [k4, if_pos (cN_4)]; exact key 4 (by decide) (by rw [if_pos k4])
  · rw [if_neg (fun e => k4 ((eN_4 (by omega)).mp e))]; exact key 0 (by decide) (by rw [if_neg k4])
theorem MR_pre {q : Bool} {T T' : List Nat} {R : Nat × Nat × (Nat → Nat)} {h h1 h' : Hp} {x : Int32} (f : Fi PM h h1) (e : hI h1 37 = bq q (hI h 37) T) (r : MR q T' R h1 h' x) : MR q (T ++ T') R h h' x := by
  obtain ⟨r1, r2, r3⟩ := r
  exact ⟨Fx_t f r1, by rw [r2, e, ← bq_app], r3⟩
theorem cR_t {d : Md} {c M : Nat} (hl : ln d = some M) : cR d c = tR d (c1 d c) ((cp d (c1 d c)).map (p1 d M)) := by simp [cR, hl]
theorem tR_n {d : Md} {c : Nat} {po : Option Nat} (hl : ln d = none) : tR d c po = (1, 0, fun _ => 0) := by simp [tR, hl]
theorem tR_0 {d : Md} {po po' : Option Nat} : tR d 0 po = tR d 0 po' := by
  unfold tR
  cases ln d <;> simp
theorem M_called_111_s {N a i c n mc : Nat} {D : Nat → Md} {po : Option Nat} {q : Bool} {h : Hp} (hN : 100 < N) (L : Lay h) (hq : hI h 35 16 = qI q) (M : Ms h n mc D) (ha : a < mc) (hi : i < 2 ^ 31) (k5 : kd (D a) ≠ 5) (hc : c ≤ 2) (hpo : c = 0 ∧ po = some 0 ∨ 1 ≤ c ∧ po = cp (D a) c) : ∃ x h', M_calledOf_111 N (some 35) (nI i) (nI a) (nI c) (oI po) h = some (x, h') ∧ MR q (if kd (D a) = 3 then (if c = 0 then 10 :: tT (D a) else if ln (D a) = none then 10 :: lT (D a) else 10 :: (lT (D a) ++ tT (D a))) else tT (D a)) (match ln (D a) with
  | none => (1, 0, fun _ => 0)
  | some M => tR (D a) c ((cp (D a) c).map (p1 (D a) M))) h h' x := by
  have M' := M
  obtain ⟨m0, m1, m2⟩ := M'
  obtain ⟨mm, w1, w2, w3, -⟩ := m2 a ha
  have b1 : a < 30 := by omega
  have hp : ∀ p, po = some p → p < 2 ^ 31 := by
    intro p e
    rcases hpo with ⟨-, q⟩ | ⟨-, q⟩
    · rw [q] at e; cases e; decide
    · exact (w3 c p (by rw [← q]; exact e)).1
  have hcc : 1 ≤ c → po ≠ none → cp (D a) c ≠ none := by
    intro h1 h2
    rcases hpo with ⟨q, -⟩ | ⟨-, q⟩
    · omega
    · rw [← q]; exact h2
  unfold M_calledOf_111
  simp only [gi_s, gl_s, gr_s, pi_s, pl_s, cl_s, ds_1, ck_s, nmE, ok_sI, ok_sL, hK_sI, hK_sL, hR_sI, hR_sL, hL_sI, Lay_sI, Lay_sL, r35_0, r35_4, r35_6, r35_7, r35_8, r35_9, r35_10, r35_11, r35_12, r35_13, r35_17, r35_18, r35_20, r35_23, r35_28, r35_29, r35_31, r35_32, r35_40, r35_42, r35_45, r35_46, r35_47, r35_49, r35_52, r35_54, r35_57, r35_58, o35, o36, o37, o38, o39, o40, o41, o42, o43, o44, o45, o46, o47, o48, o49, o50, o51, o52, o53, o54, o55, o56, o57, o58, o59, o60, o61, o62, o63, L, li_s, k36, k37, k38, k39, k40, k41, k42, k43, k44, k45, k46, k47, k48, k49, k50, k51, k52, k53, k54, k55, k56, k57, k58, k59, k60, k61, k62, k63, b1, Nat.reducePow, Nat.reduceLT, mm.1]
  by_cases k3 : kd (D a) = 3
  · rw [k3, if_pos (cN_3), if_pos rfl]
    obtain ⟨h1, g1, g2, g3, g4⟩ := M_count_s (N := N) (k := 3) (c := 1) L hq (by decide)
    rw [show M_count N (some 35) 3 1 h = some ((), h1) from g1, cl_s]
    have L1 := Fx_Lay g2 L
    have M1 := Ms_PM M g2
    have q1 : hI h1 35 16 = qI q := by rw [g4 35 (by decide)]; exact hq
    by_cases c0 : c = 0
    · subst c0
      rw [if_pos (cN_0), if_pos rfl]
      unfold M_calledOf_145
      rw [if_pos (cN_0)]
      obtain ⟨x, h', e1, e2⟩ := M_called_174_s (N := N) hN L1 q1 M1 ha hi k5 hc hp hcc
      refine ⟨x, h', e1, ?_⟩
      have := MR_pre g2 g3 e2
      cases hl : ln (D a) with
      | none => rw [tR_n hl] at this; exact this
      | some K => rw [tR_0 (po' := ((cp (D a) 0).map (p1 (D a) K)))] at this; exact this
    · rw [if_neg (fun e => c0 ((eN_0 (by omega)).mp e)), if_neg c0]
      obtain ⟨y, h2, e1, e2, e3, e4, e5, e6⟩ := M_leadOf_s (N := N) (i := i) hN L1 q1 M1 ha hi
      rw [ds_1 (o35 L1), e1, cl_s]
      rw [LR_a k5] at e4 e5 e6
      rw [LT_a k5] at e3
      have pre : hI h2 37 = bq q (hI h 37) (10 :: lT (D a)) := by
        rw [e3, g3, ← bq_app]; rfl
      have L2 := Fx_Lay e2 L1
      have M2 := Ms_PM M1 e2
      have q2 : hI h2 35 16 = qI q := by rw [PM_5 e2 (by decide) (by decide)]; exact q1
      unfold lR at e4 e5 e6
      cases hl : ln (D a) with
      | none =>
        rw [hl] at e4 e5 e6
        rw [if_pos rfl]
        refine ⟨0, h2, by rw [e4]; simp [rz_0], Fx_t g2 e2, pre, by simp, by simp, e6⟩
      | some K =>
        rw [hl] at e4 e5 e6
        have e4' : y = 1 := by simpa using e4
        obtain ⟨f1, -⟩ := e5 rfl
        dsimp only at f1 ⊢
        rw [e4', if_neg (show ¬ (1 : Int32) = 0 by decide), if_neg (show ¬ (some K = none) by simp)]
        have hK := (w2 K hl).1
        have po1 : po = cp (D a) c := by
          rcases hpo with ⟨q, -⟩ | ⟨-, q⟩
          · omega
          · exact q
        have go : ∀ po2 : Option Nat, po2 = (cp (D a) c).map (p1 (D a) K) → ∃ x h', M_calledOf_174 N (some 35) (nI i) (nI a) (nI c) (oI po2) h2 = some (x, h') ∧ MR q (10 :: (lT (D a) ++ tT (D a))) (tR (D a) c ((cp (D a) c).map (p1 (D a) K))) h h' x := by
          intro po2 e
          obtain ⟨x, h', t1, t2⟩ := M_called_174_s (N := N) (po := po2) hN L2 q2 M2 ha hi k5 hc (by
            intro p ep
            rw [e] at ep
            obtain ⟨p0, z1, z2⟩ := Option.map_eq_some_iff.mp ep
            have := (w3 c p0 z1).1
            unfold p1 at z2
            split at z2 <;> omega) (by
            intro _ h2 e3
            rw [e, e3] at h2
            exact h2 rfl)
          refine ⟨x, h', t1, ?_⟩
          have := MR_pre (Fx_t g2 e2) pre t2
          rw [e] at this
          exact this
        unfold M_calledOf_145
        rw [if_neg (fun e => c0 ((eN_0 (by omega)).mp e)), gi_s (o35 L2), f1]
        cases hcp : cp (D a) c with
        | none =>
          rw [hcp] at po1 go
          subst po1
          rw [if_pos (show oI none < nI K by rw [← Int32.not_le]; intro e; exact absurd (Int32.le_trans ((Nle_0 (by omega)).mpr (Nat.zero_le K)) e) (by decide))]
          exact go none rfl
        | some p =>
          rw [hcp] at po1 go
          subst po1
          have hp1 := (w3 c p hcp).1
          by_cases pK : p < K
          · rw [if_pos (show oI (some p) < nI K from (nI_ltI hp1 (by omega)).mpr pK)]
            exact go (some p) (by simp [p1, k3]; omega)
          · rw [if_neg (show ¬ oI (some p) < nI K from fun e => pK ((nI_ltI hp1 (by omega)).mp e)), gi_s (o35 L2), f1]
            by_cases K0 : K = 0
            · rw [if_pos ((leN_0 (by omega)).mpr (by omega))]
              exact go (some p) (by simp [p1, k3]; omega)
            · rw [if_neg (fun e => K0 (by have := (leN_0 (by omega)).mp e; omega)), gi_s (o35 L2), f1, nmE, sN_1 (by omega)]
              exact go (some (K - 1)) (by simp [p1, k3]; omega)
  · rw [if_neg (fun e => k3 ((eN_3 (by omega)).mp e)), if_neg k3]
    obtain ⟨x, h', e1, e2⟩ := M_called_174_s (N := N) hN L hq M ha hi k5 hc hp hcc
    refine ⟨x, h', e1, ?_⟩
    cases hl : ln (D a) with
    | none => rw [tR_n hl] at e2; exact e2
    | some K =>
      have e3 : tR (D a) c po = tR (D a) c ((cp (D a) c).map (p1 (D a) K)) := by
        rcases hpo with ⟨q, -⟩ | ⟨-, q⟩
        · subst q; exact tR_0
        · rw [q]
          congr 1
          cases cp (D a) c with
          | none => rfl
          | some p => simp [p1, k3]
      rw [e3] at e2
      exact e2
theorem M_called_43_s {N a i c n mc : Nat} {D : Nat → Md} {q : Bool} {h : Hp} (hN : 100 < N) (L : Lay h) (hq : hI h 35 16 = qI q) (M : Ms h n mc D) (ha : a < mc) (hi : i < 2 ^ 31) (k5 : kd (D a) ≠ 5) (hc : c ≤ 2) : ∃ x h', M_calledOf_43 N (some 35) (nI i) (nI c) (nI a) h = some (x, h') ∧ MR q (cT (D a) c) (cR (D a) c) h h' x := by
  have M' := M
  obtain ⟨m0, m1, m2⟩ := M'
  obtain ⟨mm, w1, w2, w3, -⟩ := m2 a ha
  have b1 : a < 30 := by omega
  have key : ∀ po : Option Nat, (c = 0 ∧ po = some 0 ∨ 1 ≤ c ∧ po = cp (D a) c) → ∃ x h', M_calledOf_65 N (some 35) (nI i) (nI a) (nI c) (oI po) h = some (x, h') ∧ MR q (cT (D a) c) (cR (D a) c) h h' x := by
    intro po hpo
    unfold M_calledOf_65
    simp only [gi_s, gl_s, gr_s, pi_s, pl_s, cl_s, ds_1, ck_s, nmE, ok_sI, ok_sL, hK_sI, hK_sL, hR_sI, hR_sL, hL_sI, Lay_sI, Lay_sL, r35_0, r35_4, r35_6, r35_7, r35_8, r35_9, r35_10, r35_11, r35_12, r35_13, r35_17, r35_18, r35_20, r35_23, r35_28, r35_29, r35_31, r35_32, r35_40, r35_42, r35_45, r35_46, r35_47, r35_49, r35_52, r35_54, r35_57, r35_58, o35, o36, o37, o38, o39, o40, o41, o42, o43, o44, o45, o46, o47, o48, o49, o50, o51, o52, o53, o54, o55, o56, o57, o58, o59, o60, o61, o62, o63, L, li_s, k36, k37, k38, k39, k40, k41, k42, k43, k44, k45, k46, k47, k48, k49, k50, k51, k52, k53, k54, k55, k56, k57, k58, k59, k60, k61, k62, k63, b1, Nat.reducePow, Nat.reduceLT, mm.1]
    unfold cT cR
    by_cases k1 : kd (D a) = 1
    · rw [k1, if_pos (cN_1), if_pos rfl]
      obtain ⟨h1, g1, g2, g3, g4⟩ := M_count_s (N := N) (k := 1) (c := 1) L hq (by decide)
      rw [show M_count N (some 35) 1 1 h = some ((), h1) from g1, cl_s]
      have L1 := Fx_Lay g2 L
      have M1 := Ms_PM M g2
      have q1 : hI h1 35 16 = qI q := by rw [g4 35 (by decide)]; exact hq
      have k3 : kd (D a) ≠ 3 := by omega
      have go : ∀ c' po', c' ≤ 2 → c' = c1 (D a) c → (c' = 0 ∧ po' = some 0 ∨ 1 ≤ c' ∧ po' = cp (D a) c') → ∃ x h', M_calledOf_111 N (some 35) (nI i) (nI a) (nI c') (oI po') h1 = some (x, h') ∧ MR q (4 :: tT (D a)) (match ln (D a) with
          | none => (1, 0, fun _ => 0)
          | some M => tR (D a) (c1 (D a) c) ((cp (D a) (c1 (D a) c)).map (p1 (D a) M))) h h' x := by
        intro c' po' hc' ec hpo'
        obtain ⟨x, h', t1, t2⟩ := M_called_111_s (N := N) hN L1 q1 M1 ha hi k5 hc' hpo'
        rw [if_neg k3] at t2
        refine ⟨x, h', t1, ?_⟩
        rw [← ec]
        exact MR_pre g2 g3 t2
      by_cases c2 : c = 2
      · subst c2
        have po1 : po = cp (D a) 2 := by
          rcases hpo with ⟨q, -⟩ | ⟨-, q⟩
          · omega
          · exact q
        rw [if_pos (cN_2)]
        cases hcp : cp (D a) 2 with
        | none =>
          rw [hcp] at po1
          subst po1
          rw [if_neg (by decide)]
          have z41 : hI h1 41 (3 * a + 1) = oI (cp (D a) 1) := by rw [g4 41 (by decide)]; exact mm.2.2.2.1 1 (by decide) (by decide)
          have b2 : 3 * a + 1 < 90 := by omega
          simp only [gi_s, gl_s, gr_s, pi_s, pl_s, cl_s, ds_1, ck_s, nmE, ok_sI, ok_sL, hK_sI, hK_sL, hR_sI, hR_sL, hL_sI, Lay_sI, Lay_sL, r35_0, r35_4, r35_6, r35_7, r35_8, r35_9, r35_10, r35_11, r35_12, r35_13, r35_17, r35_18, r35_20, r35_23, r35_28, r35_29, r35_31, r35_32, r35_40, r35_42, r35_45, r35_46, r35_47, r35_49, r35_52, r35_54, r35_57, r35_58, o35, o36, o37, o38, o39, o40, o41, o42, o43, o44, o45, o46, o47, o48, o49, o50, o51, o52, o53, o54, o55, o56, o57, o58, o59, o60, o61, o62, o63, L1, li_s, k36, k37, k38, k39, k40, k41, k42, k43, k44, k45, k46, k47, k48, k49, k50, k51, k52, k53, k54, k55, k56, k57, k58, k59, k60, k61, k62, k63, b2, Nat.reducePow, Nat.reduceLT, mN_3, aN_1, z41]
          exact go 1 (cp (D a) 1) (by decide) (by simp [c1, k1, hcp]) (Or.inr ⟨by decide, rfl⟩)
        | some p =>
          rw [hcp] at po1
          subst po1
          rw [if_pos (show (0 : Int32) ≤ oI (some p) from (Nle_0 (w3 2 p hcp).1).mpr (Nat.zero_le _))]
          exact go 2 (some p) (by decide) (by simp [c1, hcp]) (Or.inr ⟨by decide, hcp.symm⟩)
      · rw [if_neg (fun e => c2 ((eN_2 (by omega)).mp e))]
        exact go c po hc (by simp [c1, c2]) hpo
    · rw [if_neg (fun e => k1 ((eN_1 (by omega)).mp e)), if_neg k1]
      have ec : c1 (D a) c = c := by simp [c1, k1]
      rw [ec]
      exact M_called_111_s (N := N) hN L hq M ha hi k5 hc hpo
  unfold M_calledOf_43
  by_cases c0 : c = 0
  · subst c0
    rw [if_pos (cN_0)]
    exact key (some 0) (Or.inl ⟨rfl, rfl⟩)
  · rw [if_neg (fun e => c0 ((eN_0 (by omega)).mp e))]
    have z41 : hI h 41 (3 * a + c) = oI (cp (D a) c) := mm.2.2.2.1 c (by omega) hc
    have b2 : 3 * a + c < 90 := by omega
    simp only [gi_s, gl_s, gr_s, pi_s, pl_s, cl_s, ds_1, ck_s, nmE, ok_sI, ok_sL, hK_sI, hK_sL, hR_sI, hR_sL, hL_sI, Lay_sI, Lay_sL, r35_0, r35_4, r35_6, r35_7, r35_8, r35_9, r35_10, r35_11, r35_12, r35_13, r35_17, r35_18, r35_20, r35_23, r35_28, r35_29, r35_31, r35_32, r35_40, r35_42, r35_45, r35_46, r35_47, r35_49, r35_52, r35_54, r35_57, r35_58, o35, o36, o37, o38, o39, o40, o41, o42, o43, o44, o45, o46, o47, o48, o49, o50, o51, o52, o53, o54, o55, o56, o57, o58, o59, o60, o61, o62, o63, L, li_s, k36, k37, k38, k39, k40, k41, k42, k43, k44, k45, k46, k47, k48, k49, k50, k51, k52, k53, k54, k55, k56, k57, k58, k59, k60, k61, k62, k63, b2, Nat.reducePow, Nat.reduceLT, mN_3, nI_add, z41]
    exact key _ (Or.inr ⟨by omega, rfl⟩)
theorem M_calledOf_s {N m i c n mc : Nat} {D : Nat → Md} {q : Bool} {h : Hp} (hN : 100 < N) (L : Lay h) (hq : hI h 35 16 = qI q) (M : Ms h n mc D) (hm : m < mc) (hi : i < 2 ^ 31) (hc : c ≤ 2) : ∃ x h', M_calledOf N (some 35) (nI m) (nI i) (nI c) h = some (x, h') ∧ MR q (CT D m i c) (CR D m i c) h h' x := by
  unfold M_calledOf
  have M' := M
  obtain ⟨m0, m1, m2⟩ := M'
  obtain ⟨mm, w1, w2, -, w4, w5, -⟩ := m2 m hm
  have b1 : m < 30 := by omega
  simp only [gi_s, gl_s, gr_s, pi_s, pl_s, cl_s, ds_1, ck_s, nmE, ok_sI, ok_sL, hK_sI, hK_sL, hR_sI, hR_sL, hL_sI, Lay_sI, Lay_sL, r35_0, r35_4, r35_6, r35_7, r35_8, r35_9, r35_10, r35_11, r35_12, r35_13, r35_17, r35_18, r35_20, r35_23, r35_28, r35_29, r35_31, r35_32, r35_40, r35_42, r35_45, r35_46, r35_47, r35_49, r35_52, r35_54, r35_57, r35_58, o35, o36, o37, o38, o39, o40, o41, o42, o43, o44, o45, o46, o47, o48, o49, o50, o51, o52, o53, o54, o55, o56, o57, o58, o59, o60, o61, o62, o63, L, li_s, k36, k37, k38, k39, k40, k41, k42, k43, k44, k45, k46, k47, k48, k49, k50, k51, k52, k53, k54, k55, k56, k57, k58, k59, k60, k61, k62, k63, b1, Nat.reducePow, Nat.reduceLT, mm.1]
  by_cases k5 : kd (D m) = 5
  · unfold CT CR rs
    rw [k5, if_pos (cN_5)]
    simp only [if_true]
    obtain ⟨h1, g1, g2, g3, g4⟩ := M_count_s (N := N) (k := 5) (c := 1) L hq (by decide)
    rw [show M_count N (some 35) 5 1 h = some ((), h1) from g1, cl_s]
    have L1 := Fx_Lay g2 L
    have z43 : hI h1 43 m = nI (pt (D m)).length := by rw [g4 43 (by decide)]; exact mm.2.2.2.2.2.1
    simp only [gi_s, gl_s, gr_s, pi_s, pl_s, cl_s, ds_1, ck_s, nmE, ok_sI, ok_sL, hK_sI, hK_sL, hR_sI, hR_sL, hL_sI, Lay_sI, Lay_sL, r35_0, r35_4, r35_6, r35_7, r35_8, r35_9, r35_10, r35_11, r35_12, r35_13, r35_17, r35_18, r35_20, r35_23, r35_28, r35_29, r35_31, r35_32, r35_40, r35_42, r35_45, r35_46, r35_47, r35_49, r35_52, r35_54, r35_57, r35_58, o35, o36, o37, o38, o39, o40, o41, o42, o43, o44, o45, o46, o47, o48, o49, o50, o51, o52, o53, o54, o55, o56, o57, o58, o59, o60, o61, o62, o63, L1, li_s, k36, k37, k38, k39, k40, k41, k42, k43, k44, k45, k46, k47, k48, k49, k50, k51, k52, k53, k54, k55, k56, k57, k58, k59, k60, k61, k62, k63, b1, Nat.reducePow, Nat.reduceLT, z43]
    by_cases hp : (pt (D m)).length = 0
    · rw [hp, if_pos (cN_0)]
      simp only [if_true]
      refine ⟨_, _, by rw [M_isAmiss_s L1, cl_s, rz_0], ?_, ?_, by simp, by simp, ?_⟩
      · exact Fx_t g2 (Fx_sI h1 _ (by simp [PM]))
      · rw [sI_row' (by decide)]; exact g3
      · intro _; exact sI_at ..
    · rw [if_neg (fun q => hp ((nI_eq0 (by omega)).mp q)), if_neg hp]
      have M1 := Ms_PM M g2
      rw [M_partOf_s L1 M1 hm hi (by omega), cl_s]
      have hlt := Nat.mod_lt i (show 0 < (pt (D m)).length by omega)
      obtain ⟨p1, p2⟩ := w5 _ hlt
      obtain ⟨x, h', e1, e2⟩ := M_called_43_s (N := N) (q := q) hN L1 (by rw [g4 35 (by decide)]; exact hq) M1 (show (pt (D m)).getD (i % (pt (D m)).length) 0 < mc by omega) hi p2 hc
      exact ⟨x, h', e1, MR_pre g2 g3 e2⟩
  · rw [if_neg (fun e => k5 ((eN_5 (by omega)).mp e)), CR_a k5, CT_a k5]
    exact M_called_43_s hN L hq M hm hi k5 hc
