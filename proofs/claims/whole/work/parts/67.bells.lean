/-! PURE: a new number of bells -/
def PB (a k : Nat) : Prop := PT a k ∨ a = 0 ∧ (k = 3 ∨ k = 4 ∨ k = 5) ∨ a = 6 ∧ (k = 2 ∨ k = 3 ∨ k = 15) ∨ a = 17 ∧ (k = 17 ∨ k = 18)
theorem forget_C {N n sz : Nat} {w : Nat → Int64} {h : Hp} (hN : 3000 < N) (hn : n ≤ 12) (L : Lay h) (H : Hs h 9 10 11 12 2001 sz w) : ∃ h', ds [(9, Touch_forget N (some 6) (nI n) h)] (some 6) h = some ((), h') ∧ Fx (fun a k => PT a k ∨ a = 6 ∧ (k = 2 ∨ k = 3 ∨ k = 15)) (fun a k => a = 11 ∨ a = 6) h h' ∧ TC h' n 1 (fun _ => rd n) false none 0 0 0 (fun _ => 0) ∧ hI h' 6 2 = 0 ∧ hI h' 6 15 = 0 := by
  have x0 : Fx (fun a k => a = 6 ∧ (k = 2 ∨ k = 3 ∨ k = 15)) (fun a k => a = 6) h (sI (sI (sL (sI h 6 3 (nI n)) 6 4 (lN (rd n))) 6 2 0) 6 15 0) := Fx_t (Fx_t (Fx_t (Fx_sI h _ (by omega)) (Fx_sL _ _ rfl)) (Fx_sI _ _ (by omega))) (Fx_sI _ _ (by omega))
  have e : ds [(9, Touch_forget N (some 6) (nI n) h)] (some 6) h = cl (ds [(9, Touch_beginAnew N (some 6) (sI (sI (sL (sI h 6 3 (nI n)) 6 4 (lN (rd n))) 6 2 0) 6 15 0))] (some 6) (sI (sI (sL (sI h 6 3 (nI n)) 6 4 (lN (rd n))) 6 2 0) 6 15 0)) fun _ h7 => some ((), h7) := by
    unfold Touch_forget
    rw [ds_1 (o6 L), pi_s (o6 L), Rows_rounds_s hn, cl_s]
    simp only [pl_s, pi_s, ok_sI, ok_sL, o6, L]
  have e3 : hI (sI (sI (sL (sI h 6 3 (nI n)) 6 4 (lN (rd n))) 6 2 0) 6 15 0) 6 3 = nI n := by
    rw [sI_ne (by omega), sI_ne (by omega), hI_sL, sI_at]
  have e4 : hL (sI (sI (sL (sI h 6 3 (nI n)) 6 4 (lN (rd n))) 6 2 0) 6 15 0) 6 4 = lN (rd n) := by
    rw [hL_sI, hL_sI, sL_at]
  have e2 : hI (sI (sI (sL (sI h 6 3 (nI n)) 6 4 (lN (rd n))) 6 2 0) 6 15 0) 6 2 = 0 := by
    rw [sI_ne (by omega), sI_at]
  have e5 : hI (sI (sI (sL (sI h 6 3 (nI n)) 6 4 (lN (rd n))) 6 2 0) 6 15 0) 6 15 = 0 := sI_at ..
  rw [e]
  generalize sI (sI (sL (sI h 6 3 (nI n)) 6 4 (lN (rd n))) 6 2 0) 6 15 0 = g at x0 e3 e4 e2 e5 ⊢
  obtain ⟨h1, a1, a2, a3⟩ := anew_C hN (Fx_Lay x0 L) (Hs_f H x0 (by omega) (by omega) (by omega) (by omega)) e3 e4
  refine ⟨h1, by rw [a1, cl_s], Fx_t (Fx_m x0 (fun _ _ c => Or.inr c) (fun _ _ c => Or.inr c)) (Fx_m a2 (fun _ _ c => Or.inl c) (fun _ _ c => Or.inl c)), a3, ?_, ?_⟩
  · rw [Fx_I a2 (by unfold PT; omega)]; exact e2
  · rw [Fx_I a2 (by unfold PT; omega)]; exact e5
theorem bells_C {N n sz : Nat} {w : Nat → Int64} {h : Hp} (hN : 3000 < N) (h4 : 4 ≤ n) (hn : n ≤ 12) (L : Lay h) (H : Hs h 9 10 11 12 2001 sz w) : ∃ h', C_bells N (some 0) (nI n) h = some (1, h') ∧ Fx PB (fun a k => a = 11 ∨ a = 6) h h' ∧ TC h' n 1 (fun _ => rd n) false none 0 0 0 (fun _ => 0) ∧ (hI h' 6 2 = 0 ∧ hI h' 6 15 = 0) ∧ (hI h' 0 4 = nI n ∧ hI h' 0 5 = nI (2 ^ n - 1) ∧ hI h' 0 3 = 0) ∧ hI h' 17 17 = -1 ∧ hI h' 17 18 = 0 := by
  have x0 : Fi (fun a k => a = 0 ∧ (k = 3 ∨ k = 4 ∨ k = 5)) h (sI (sI (sI h 0 4 (nI n)) 0 5 (nI (2 ^ n - 1))) 0 3 0) := Fx_t (Fx_t (Fx_sI h _ (by omega)) (Fx_sI _ _ (by omega))) (Fx_sI _ _ (by omega))
  have p1 : (1 : Int32) <<< (nI n &&& 31) - 1 = nI (2 ^ n - 1) := by rw [nI_shl1 (by omega), nI_m1 (Nat.one_le_two_pow)]
  have e : C_bells N (some 0) (nI n) h = cl (ds [(9, Touch_forget N (some 6) (nI n) (sI (sI (sI h 0 4 (nI n)) 0 5 (nI (2 ^ n - 1))) 0 3 0))] (some 6) (sI (sI (sI h 0 4 (nI n)) 0 5 (nI (2 ^ n - 1))) 0 3 0)) fun _ h5 =>
  gr [11] 8 (some 0) h5 fun x6 =>
  cl (ds [(5, Search_forget N x6 h5)] x6 h5) fun _ h7 =>
  some (1, h7) := by
    unfold C_bells
    rw [if_neg (fun q => by have := (ltN_4 (by omega)).mp q; omega), if_pos ((leN_12 (by omega)).mpr hn), p1]
    simp only [pi_s, gr_s, ok_sI, hR_sI, o0, r0_7, L]
  have e4 : hI (sI (sI (sI h 0 4 (nI n)) 0 5 (nI (2 ^ n - 1))) 0 3 0) 0 4 = nI n := by rw [sI_ne (by omega), sI_ne (by omega), sI_at]
  have e5 : hI (sI (sI (sI h 0 4 (nI n)) 0 5 (nI (2 ^ n - 1))) 0 3 0) 0 5 = nI (2 ^ n - 1) := by rw [sI_ne (by omega), sI_at]
  have e3 : hI (sI (sI (sI h 0 4 (nI n)) 0 5 (nI (2 ^ n - 1))) 0 3 0) 0 3 = 0 := sI_at ..
  rw [e]
  generalize sI (sI (sI h 0 4 (nI n)) 0 5 (nI (2 ^ n - 1))) 0 3 0 = g at x0 e3 e4 e5 ⊢
  obtain ⟨h1, a1, a2, a3, a4, a5⟩ := forget_C hN hn (Fx_Lay x0 L) (Hs_f H x0 (by omega) (by omega) (by omega) (fun _ c => c))
  have L1 := Fx_Lay a2 (Fx_Lay x0 L)
  have x1 : Fi (fun a k => a = 17 ∧ (k = 17 ∨ k = 18)) h1 (sI (sI h1 17 17 (-1)) 17 18 0) := Fx_t (Fx_sI h1 _ (by omega)) (Fx_sI _ _ (by omega))
  refine ⟨sI (sI h1 17 17 (-1)) 17 18 0, ?_, ?_, ?_, ⟨?_, ?_⟩, ⟨?_, ?_, ?_⟩, ?_, ?_⟩
  · unfold Search_forget
    rw [a1, cl_s, gr_s (o0 L1), r0_8 L1, ds_1 (o17 L1)]
    simp only [pi_s, ok_sI, o17, L1, cl_s]
  · refine Fx_t (Fx_t (Fx_m x0 (fun a k c => by unfold PB; exact Or.inr (Or.inl c)) (fun _ _ c => c.elim)) (Fx_m a2 (fun a k c => by unfold PB; rcases c with c | c; exact Or.inl c; exact Or.inr (Or.inr (Or.inl c))) (fun _ _ c => c))) (Fx_m x1 (fun a k c => by unfold PB; exact Or.inr (Or.inr (Or.inr c))) (fun _ _ c => c.elim))
  · exact TC_g a3 L1.1 (Gx_F x1) (by omega) (fun _ _ _ c => c)
  · rw [Fx_I x1 (by omega)]; exact a4
  · rw [Fx_I x1 (by omega)]; exact a5
  · rw [Fx_I x1 (by omega), Fx_I a2 (by unfold PT; omega)]; exact e4
  · rw [Fx_I x1 (by omega), Fx_I a2 (by unfold PT; omega)]; exact e5
  · rw [Fx_I x1 (by omega), Fx_I a2 (by unfold PT; omega)]; exact e3
  · rw [sI_ne (by omega), sI_at]
  · rw [sI_at]
def PN (a k : Nat) : Prop := a = 35 ∧ (21 ≤ k ∧ k ≤ 27 ∨ k = 33 ∨ k = 34 ∨ k = 39 ∨ k = 53)
theorem begin_loop {N n : Nat} (hN : 100 < N) : ∀ (r f i : Nat) (h : Hp), i + r = 13 → r < f → Lay h → Mn h n → ∃ h', M_begin_22 N f (some 35) (nI i) h = some ((), h') ∧ Fx (fun a k => PN a k ∨ a = 52 ∧ i ≤ k) (fun a k => a = 48) h h' ∧ (∀ k, i ≤ k → k < 13 → hI h' 52 k = 0) ∧ TM h' 1 (fun _ => rd n) false none 0 0 0 (fun _ => 0) ∧ hI h' 35 33 = 0 ∧ hI h' 35 39 = 0 ∧ hI h' 35 53 = 0
  | 0, f + 1, i, h, hi, hf, L, hM => by
    have x0 : Fi (fun a k => PN a k ∨ a = 52 ∧ i ≤ k) h (sI (sI (sI (sI h 35 33 0) 35 34 0) 35 39 0) 35 53 0) := by
      refine Fx_t (Fx_t (Fx_t (Fx_sI h _ ?_) (Fx_sI _ _ ?_)) (Fx_sI _ _ ?_)) (Fx_sI _ _ ?_) <;> unfold PN <;> omega
    have e : M_begin_22 N (f + 1) (some 35) (nI i) h = cl (ds [(12, M_anew N (some 35) (sI (sI (sI (sI h 35 33 0) 35 34 0) 35 39 0) 35 53 0))] (some 35) (sI (sI (sI (sI h 35 33 0) 35 34 0) 35 39 0) 35 53 0)) fun _ h5 => some ((), h5) := by
      rw [M_begin_22, if_pos ((Nle_13 (by omega)).mpr (by omega))]
      simp only [pz_s, pi_s, ok_sI, o35, L, true_or]
    have v3 : hI (sI (sI (sI (sI h 35 33 0) 35 34 0) 35 39 0) 35 53 0) 35 33 = 0 := by rw [sI_ne (by omega), sI_ne (by omega), sI_ne (by omega), sI_at]
    have v39 : hI (sI (sI (sI (sI h 35 33 0) 35 34 0) 35 39 0) 35 53 0) 35 39 = 0 := by rw [sI_ne (by omega), sI_at]
    have v53 : hI (sI (sI (sI (sI h 35 33 0) 35 34 0) 35 39 0) 35 53 0) 35 53 = 0 := sI_at ..
    rw [e]
    have M1 : Mn (sI (sI (sI (sI h 35 33 0) 35 34 0) 35 39 0) 35 53 0) n := ⟨hM.1, by rw [sI_ne (by omega), sI_ne (by omega), sI_ne (by omega), sI_ne (by omega)]; exact hM.2.1, hM.2.2⟩
    generalize sI (sI (sI (sI h 35 33 0) 35 34 0) 35 39 0) 35 53 0 = g at x0 v3 v39 v53 M1 ⊢
    obtain ⟨h1, a1, a2, a3⟩ := anew_M hN (Fx_Lay x0 L) M1
    refine ⟨h1, by rw [a1, cl_s], Fx_t (Fx_m x0 (fun _ _ c => c) (fun _ _ c => c.elim)) (Fx_m a2 (fun a k c => by unfold PN; omega) (fun _ _ c => c)), fun k h1 h2 => by omega, a3, ?_, ?_, ?_⟩
    · rw [Fx_I a2 (by omega)]; exact v3
    · rw [Fx_I a2 (by omega)]; exact v39
    · rw [Fx_I a2 (by omega)]; exact v53
  | r + 1, f + 1, i, h, hi, hf, L, hM => by
    have x0 : Fi (fun a k => PN a k ∨ a = 52 ∧ i ≤ k) h (sI h 52 i 0) := Fx_sI h _ (by omega)
    obtain ⟨h', a1, a2, a3, a4⟩ := begin_loop hN r f (i + 1) (sI h 52 i 0) (by omega) (by omega) L ⟨hM.1, by rw [sI_ne (by omega)]; exact hM.2.1, hM.2.2⟩
    refine ⟨h', ?_, Fx_t (Fx_m x0 (fun _ _ c => c) (fun _ _ c => c.elim)) (Fx_m a2 (fun a k c => by rcases c with c | c; exact Or.inl c; exact Or.inr ⟨c.1, by omega⟩) (fun _ _ c => c)), fun k h1 h2 => ?_, a4⟩
    · rw [M_begin_22, if_neg (fun q => by have := (Nle_13 (by omega)).mp q; omega), gr_s (o35 L), r35_31 L, sz_s (o52 L) (by rw [k52 L]; show i < 13; omega) (by rw [k52 L]; decide), nmE, nI_1]
      exact a1
    · by_cases c : k = i
      · subst c
        rw [Fx_I a2 (by unfold PN; omega), sI_at]
      · exact a3 k (by omega) h2
theorem begin_M {N n : Nat} {h : Hp} (hN : 100 < N) (h4 : 4 ≤ n) (hn : n ≤ 12) (L : Lay h) : ∃ h', ds [(12, M_begin N (some 35) (nI n) h)] (some 35) h = some ((), h') ∧ Fx (fun a k => PN a k ∨ a = 52 ∨ a = 35 ∧ (k = 2 ∨ k = 5 ∨ k = 19 ∨ k = 30)) (fun a k => a = 48) h h' ∧ (∀ k, k < 13 → hI h' 52 k = 0) ∧ TM h' 1 (fun _ => rd n) false none 0 0 0 (fun _ => 0) ∧ (hI h' 35 33 = 0 ∧ hI h' 35 39 = 0 ∧ hI h' 35 53 = 0) ∧ hI h' 35 2 = nI n ∧ hI h' 35 5 = 0 ∧ hI h' 35 19 = 0 ∧ hI h' 35 30 = -1 := by
  have x0 : Fi (fun a k => a = 35 ∧ (k = 2 ∨ k = 5 ∨ k = 19 ∨ k = 30)) h (sI (sI (sI (sI h 35 2 (nI n)) 35 5 0) 35 19 0) 35 30 (-1)) := by
    refine Fx_t (Fx_t (Fx_t (Fx_sI h _ ?_) (Fx_sI _ _ ?_)) (Fx_sI _ _ ?_)) (Fx_sI _ _ ?_) <;> omega
  have e : ds [(12, M_begin N (some 35) (nI n) h)] (some 35) h = M_begin_22 N N (some 35) (nI 0) (sI (sI (sI (sI h 35 2 (nI n)) 35 5 0) 35 19 0) 35 30 (-1)) := by
    unfold M_begin
    rw [dM L]
    simp only [pi_s, ok_sI, o35, L]
    rfl
  have v2 : hI (sI (sI (sI (sI h 35 2 (nI n)) 35 5 0) 35 19 0) 35 30 (-1)) 35 2 = nI n := by rw [sI_ne (by omega), sI_ne (by omega), sI_ne (by omega), sI_at]
  have v5 : hI (sI (sI (sI (sI h 35 2 (nI n)) 35 5 0) 35 19 0) 35 30 (-1)) 35 5 = 0 := by rw [sI_ne (by omega), sI_ne (by omega), sI_at]
  have v19 : hI (sI (sI (sI (sI h 35 2 (nI n)) 35 5 0) 35 19 0) 35 30 (-1)) 35 19 = 0 := by rw [sI_ne (by omega), sI_at]
  have v30 : hI (sI (sI (sI (sI h 35 2 (nI n)) 35 5 0) 35 19 0) 35 30 (-1)) 35 30 = -1 := sI_at ..
  rw [e]
  generalize sI (sI (sI (sI h 35 2 (nI n)) 35 5 0) 35 19 0) 35 30 (-1) = g at x0 v2 v5 v19 v30 ⊢
  have L1 := Fx_Lay x0 L
  obtain ⟨h', a1, a2, a3, a4, a5, a6, a7⟩ := begin_loop hN 13 N 0 g (by omega) (by omega) L1 ⟨o35 L1, v2, h4, hn⟩
  refine ⟨h', a1, Fx_t (Fx_m x0 (fun _ _ c => Or.inr (Or.inr c)) (fun _ _ c => c.elim)) (Fx_m a2 (fun a k c => by rcases c with c | c; exact Or.inl c; exact Or.inr (Or.inl c.1)) (fun _ _ c => c)), fun k hk => a3 k (by omega) hk, a4, ⟨a5, a6, a7⟩, ?_, ?_, ?_, ?_⟩
  · rw [Fx_I a2 (by unfold PN; omega)]; exact v2
  · rw [Fx_I a2 (by unfold PN; omega)]; exact v5
  · rw [Fx_I a2 (by unfold PN; omega)]; exact v19
  · rw [Fx_I a2 (by unfold PN; omega)]; exact v30
theorem op_bells {N : Nat} {x : Int32} {h : Hp} (hN : 3000 < N) (I : Inv h) : Op (C_bells N (some 0) x) (M_bells N (some 35) x) h := by
  obtain ⟨n', mc, D, bs, ic, im, ik, i1, i2, i3, i4, i5, i6, i7, i8, ⟨rc, rw, st, cm, ni, cn, ca, cf, W, C, M⟩, i10', i11, i12⟩ := id I
  have L := i1.1
  have z := L.1
  by_cases c4 : x < 4
  · refine Op_id I (-1) ?_ ?_
    · unfold C_bells; rw [if_pos c4]
    · unfold M_bells; rw [if_pos c4]
  rcases i32_cs x with c | ⟨n, hm, e⟩
  · exact absurd (i32_n c 4 (by omega)).1 c4
  subst e
  have h4 : 4 ≤ n := by
    rcases Nat.lt_or_ge n 4 with q | q
    · exact absurd ((ltN_4 hm).mpr q) c4
    · exact q
  by_cases hn : n ≤ 12
  · obtain ⟨h1, a1, a2, a3, ⟨a4, a5⟩, ⟨a6, a7, a8⟩, a9, a10⟩ := bells_C hN h4 hn L C.1
    have L1 := Fx_Lay a2 L
    obtain ⟨h2, b1, b2, b3, b4, ⟨b5, b6, b7⟩, b8, b9, b10, b11⟩ := begin_M (N := N) (by omega) h4 hn L1
    have x0 : Fx (fun a k => PB a k ∨ PN a k ∨ a = 52 ∨ a = 35 ∧ (k = 2 ∨ k = 5 ∨ k = 19 ∨ k = 30)) (fun a k => a = 11 ∨ a = 6 ∨ a = 48) h h2 := Fx_t (Fx_m a2 (fun _ _ c => Or.inl c) (fun _ _ c => by omega)) (Fx_m b2 (fun _ _ c => Or.inr c) (fun _ _ c => by omega))
    have f := Gx_F x0
    have f2 := Gx_F b2
    refine ⟨1, h1, h2, a1, ?_, ?_, Gr_F x0, L1⟩
    · unfold M_bells
      rw [if_neg c4, if_pos ((leN_12 hm).mpr hn), b1, cl_s]
    · have r' : ∀ (X : Nat → Nat → Prop) a k, X a k → ¬ nF a k := fun _ _ _ _ c => c
      have eI : ∀ a k, a ≠ 35 → a ≠ 52 → hI h2 a k = hI h1 a k := fun a k h1 h2 => Fx_I b2 (by unfold PN; omega)
      refine ⟨n, 0, D, bs, 0, im, ik, ⟨Fx_Lay b2 L1, ⟨?_, b8⟩, h4, hn⟩, Tr_g i2 z f ?_, Fdn_g i3 z f ?_, Tp_g i4 z f ?_, ⟨b9, by omega, fun m hm => by omega⟩, ⟨?_, by omega, fun m hm => by omega, fun m m' _ hm => by omega⟩, ⟨2 ^ n - 1, ?_, ?_, fun b h1 h2 => ?_⟩, ⟨by omega, fun j hj => by omega, ⟨?_, fun j hj => by omega⟩, ⟨b10, fun j hj => by omega⟩⟩, ⟨1, fun _ => rd n, false, none, 0, 0, 0, fun _ => 0, TW_1 hn, TC_g a3 L1.1 f2 ?_ ?_, b4⟩, ⟨0, by omega, ?_, by rw [b11]; rfl, fun j hj => by omega⟩, Ot_g i11 z f ?_ ?_, ⟨?_, ⟨?_, ?_⟩, ?_, Or.inl ⟨?_, b5, b7⟩⟩⟩ <;> first | (intro a k c d; omega) | (unfold PB PT PN; intro a k c d; omega) | (unfold PN; intro a k c d; omega) | skip
      · rw [eI _ _ (by omega) (by omega)]; exact a6
      · rw [eI _ _ (by omega) (by omega)]; exact a8
      · have := Nat.one_le_two_pow (n := n); omega
      · rw [eI _ _ (by omega) (by omega)]; exact a7
      · rw [b3 b (by omega), Nat.testBit_two_pow_sub_one, if_pos (by simp; omega)]
      · rw [eI _ _ (by omega) (by omega)]; exact a4
      · rw [eI _ _ (by omega) (by omega)]; exact a5
      · intro i hi c hc
        have s := i12.1
        rw [Fx_R x0] at hc
        obtain ⟨⟨s1, s2⟩, s3, s4, s5, s6⟩ := s i hi c hc
        rw [Fx_z x0, Fx_K x0, Fx_R x0]
        exact ⟨⟨s1, s2⟩, s3, s4, fun m hm => by omega, s6⟩
      · rw [Fx_I x0 (by unfold PB PT PN; omega)]; exact i12.2.1.1
      · rw [eI _ _ (by omega) (by omega), a10, b6]
      · obtain ⟨sz, w, H⟩ := i12.2.2.1
        refine ⟨sz, w, Hs_g H z f (by omega) ?_ (fun k => ?_) (fun k => ?_) (fun k => by omega)⟩ <;> (unfold PB PT PN; omega)
      · rw [eI _ _ (by omega) (by omega)]; exact a9
  · have c : ¬ nI n ≤ 12 := fun q => hn ((leN_12 hm).mp q)
    refine Op_id I (-1) ?_ ?_
    · unfold C_bells; rw [if_neg c4, if_neg c]
    · unfold M_bells; rw [if_neg c4, if_neg c]
