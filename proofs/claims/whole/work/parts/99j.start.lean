/-! PURE: the first heap is as all heaps are between two calls -/
theorem vlI_n {a j : Nat} : ∀ V : List (Nat × Nat × Int32), (∀ q, q ∈ V → q.1 ≠ a) → vlI V a j = 0
  | [], _ => rfl
  | q :: r, h => by
    rw [vlI, if_neg (fun u => h q (List.mem_cons_self ..) u.1.symm)]
    exact vlI_n r (fun q' hq => h q' (List.mem_cons_of_mem _ hq))
def LTb (h : Hp) : Prop := ok h [9] 6 = true ∧ hR h 6 5 = some 9 ∧ hR h 6 6 = some 13 ∧ ok h [4] 9 = true ∧ ok h [0] 13 = true ∧ RO h 9 10 11 12 2001
theorem LTb_f {P Q : Nat → Nat → Prop} {h h1 : Hp} (f : Fx P Q h h1) (L : LTb h) : LTb h1 := by
  obtain ⟨a, b, c, d, e, g⟩ := L
  exact ⟨by rw [Fx_ok f]; exact a, by rw [Fx_R f]; exact b, by rw [Fx_R f]; exact c, by rw [Fx_ok f]; exact d, by rw [Fx_ok f]; exact e, RO_f g f⟩
theorem anew_I {N n sz : Nat} {w : Nat → Int64} {h : Hp} (hN : 3000 < N) (L : LTb h) (H : Hs h 9 10 11 12 2001 sz w) (e3 : hI h 6 3 = nI n) (e4 : hL h 6 4 = lN (rd n)) : ∃ h', ds [(9, Touch_beginAnew N (some 6) h)] (some 6) h = some ((), h') ∧ Fx PT (fun a k => a = 11) h h' ∧ TC h' n 1 (fun _ => rd n) false none 0 0 0 (fun _ => 0) := by
  have h2 := H.2.1
  obtain ⟨l1, l2, l3, l4, l5, l6⟩ := id L
  obtain ⟨h1, a1, a2, a3⟩ := keepFirst_s (N := N) 0 (by omega) l6 H (by omega)
  obtain ⟨m1, m2, m3, m4, m5, m6⟩ := LTb_f a2 L
  rw [show min sz 0 = 0 by omega] at a3
  obtain ⟨h2, b1, b2, b3, -⟩ := add_s (N := N) (lN (rd n)) m6 a3 (by omega)
  obtain ⟨p1, p2, p3, p4, p5, p6⟩ := LTb_f b2 (LTb_f a2 L)
  have x0 : Fi (fun a k => a = 6 ∧ 7 ≤ k ∧ k ≤ 13 ∨ a = 13 ∧ k = 1) h2 (sI (sI (sI (sI (sI (sI (sI h2 13 1 0) 6 7 0) 6 8 0) 6 9 0) 6 10 (-1)) 6 11 (-1)) 6 13 0) := by
    refine Fx_t (Fx_t (Fx_t (Fx_t (Fx_t (Fx_t (Fx_sI h2 _ ?_) (Fx_sI _ _ ?_)) (Fx_sI _ _ ?_)) (Fx_sI _ _ ?_)) (Fx_sI _ _ ?_)) (Fx_sI _ _ ?_)) (Fx_sI _ _ ?_) <;> omega
  have x1 : Fx PT (fun a k => a = 11) h (sI (sI (sI (sI (sI (sI (sI h2 13 1 0) 6 7 0) 6 8 0) 6 9 0) 6 10 (-1)) 6 11 (-1)) 6 13 0) := Fx_t (Fx_t (Fx_m a2 (fun a k c => by unfold PR at c; unfold PT; omega) (fun _ _ c => c.elim)) (Fx_m b2 (fun a k c => by unfold PR at c; unfold PT; omega) (fun a k c => c.1))) (Fx_m x0 (fun a k c => by unfold PT; omega) (fun _ _ c => c.elim))
  refine ⟨_, ?_, x1, ?_⟩
  · unfold Touch_beginAnew
    rw [ds_1 l1, gr_s l1, l2, ds_1 l4, show Rows_keepFirst N (some 9) 0 h = _ from a1, cl_s, gr_s m1, m2, gl_s m1, Fi_L a2, e4, ds_1 m4, b1, cl_s, gr_s p1, p3]
    simp only [pi_s, pz_s, ok_sI, p1, p5, true_or]
  · have H2 := Hs_f b3 x0 (by omega) (by omega) (by omega) (fun _ c => c)
    refine ⟨Hs_congr H2 (fun j hj => ?_), ⟨?_, ?_⟩, ?_, ?_, Or.inl ⟨?_, fun i j h1 h2 => ?_⟩, ⟨0, by omega, ?_, fun e => by omega⟩, fun _ => ⟨?_, ?_, ?_, fun k hk => by omega⟩⟩
    · rw [show j = 0 by omega, up_at, if_pos rfl]
    · rw [Fx_I x1 (by unfold PT; omega)]; exact e3
    · rw [Fx_L x1 (by omega)]; exact e4
    · rw [sI_ne (by omega), sI_ne (by omega), sI_ne (by omega), sI_at]; rfl
    · rw [sI_ne (by omega), sI_ne (by omega), sI_at]; rfl
    · rw [sI_ne (by omega), sI_at]
    · rw [mnt] at h2; omega
    · rw [sI_at]; rfl
    · rw [sI_ne (by omega), sI_ne (by omega), sI_ne (by omega), sI_ne (by omega), sI_at]; rfl
    · rw [sI_ne (by omega), sI_ne (by omega), sI_ne (by omega), sI_ne (by omega), sI_ne (by omega), sI_ne (by omega), sI_at]; rfl
    · rw [sI_ne (by omega), sI_ne (by omega), sI_ne (by omega), sI_ne (by omega), sI_ne (by omega), sI_at]; rfl
theorem forget_I {N n sz : Nat} {w : Nat → Int64} {h : Hp} (hN : 3000 < N) (hn : n ≤ 12) (L : LTb h) (H : Hs h 9 10 11 12 2001 sz w) : ∃ h', ds [(9, Touch_forget N (some 6) (nI n) h)] (some 6) h = some ((), h') ∧ Fx (fun a k => PT a k ∨ a = 6 ∧ (k = 2 ∨ k = 3 ∨ k = 15)) (fun a k => a = 11 ∨ a = 6) h h' ∧ TC h' n 1 (fun _ => rd n) false none 0 0 0 (fun _ => 0) ∧ hI h' 6 2 = 0 ∧ hI h' 6 15 = 0 := by
  have l1 := L.1
  have x0 : Fx (fun a k => a = 6 ∧ (k = 2 ∨ k = 3 ∨ k = 15)) (fun a k => a = 6) h (sI (sI (sL (sI h 6 3 (nI n)) 6 4 (lN (rd n))) 6 2 0) 6 15 0) := Fx_t (Fx_t (Fx_t (Fx_sI h _ (by omega)) (Fx_sL _ _ rfl)) (Fx_sI _ _ (by omega))) (Fx_sI _ _ (by omega))
  have e : ds [(9, Touch_forget N (some 6) (nI n) h)] (some 6) h = cl (ds [(9, Touch_beginAnew N (some 6) (sI (sI (sL (sI h 6 3 (nI n)) 6 4 (lN (rd n))) 6 2 0) 6 15 0))] (some 6) (sI (sI (sL (sI h 6 3 (nI n)) 6 4 (lN (rd n))) 6 2 0) 6 15 0)) fun _ h7 => some ((), h7) := by
    unfold Touch_forget
    rw [ds_1 l1, pi_s l1, Rows_rounds_s hn, cl_s]
    simp only [pl_s, pi_s, ok_sI, ok_sL, l1]
  have e3 : hI (sI (sI (sL (sI h 6 3 (nI n)) 6 4 (lN (rd n))) 6 2 0) 6 15 0) 6 3 = nI n := by
    rw [sI_ne (by omega), sI_ne (by omega), hI_sL, sI_at]
  have e4 : hL (sI (sI (sL (sI h 6 3 (nI n)) 6 4 (lN (rd n))) 6 2 0) 6 15 0) 6 4 = lN (rd n) := by
    rw [hL_sI, hL_sI, sL_at]
  have e2 : hI (sI (sI (sL (sI h 6 3 (nI n)) 6 4 (lN (rd n))) 6 2 0) 6 15 0) 6 2 = 0 := by
    rw [sI_ne (by omega), sI_at]
  have e5 : hI (sI (sI (sL (sI h 6 3 (nI n)) 6 4 (lN (rd n))) 6 2 0) 6 15 0) 6 15 = 0 := sI_at ..
  rw [e]
  generalize sI (sI (sL (sI h 6 3 (nI n)) 6 4 (lN (rd n))) 6 2 0) 6 15 0 = g at x0 e3 e4 e2 e5 ⊢
  obtain ⟨h1, a1, a2, a3⟩ := anew_I hN (LTb_f x0 L) (Hs_f H x0 (by omega) (by omega) (by omega) (by omega)) e3 e4
  refine ⟨h1, by rw [a1, cl_s], Fx_t (Fx_m x0 (fun _ _ c => Or.inr c) (fun _ _ c => Or.inr c)) (Fx_m a2 (fun _ _ c => Or.inl c) (fun _ _ c => Or.inl c)), a3, ?_, ?_⟩
  · rw [Fx_I a2 (by unfold PT; omega)]; exact e2
  · rw [Fx_I a2 (by unfold PT; omega)]; exact e5
theorem TC_e {h h' : Hp} {n rc : Nat} {rW : Nat → Nat} {st : Bool} {cm : Option Nat} {ni cn ca : Nat} {cf : Nat → Nat} (b : TC h n rc rW st cm ni cn ca cf) (e : ∀ a, a < 35 → hI h' a = hI h a ∧ hL h' a = hL h a) : TC h' n rc rW st cm ni cn ca cf := by
  unfold TC Hs at b ⊢
  rw [(e 6 (by omega)).1, (e 6 (by omega)).2, (e 9 (by omega)).1, (e 10 (by omega)).1, (e 11 (by omega)).2, (e 12 (by omega)).1, (e 13 (by omega)).1, (e 14 (by omega)).1, (e 15 (by omega)).1]
  exact b
theorem rft_in : ∀ q, q ∈ rft → (q ∈ TC0 ∧ q.1 < 35) ∨ q ∈ TM0 := by unfold rft TC0 TM0; decide
theorem TC0_lt : ∀ q, q ∈ TC0 → q.1 < 35 := by unfold TC0; decide
theorem VC0_lt : ∀ q, q ∈ VC0 → q.1 < 35 := by unfold VC0; decide
theorem start_s {N : Nat} (hN : 3000 < N) : ∃ h, (∀ xs L, Law_law N xs L hp0 = Law_law_18 N xs L N (some 0) (some 35) 0 h) ∧ Inv h ∧ hz h = 64 ∧ hs h ≤ 200000 ∧ nn h ≤ 1080 := by
  obtain ⟨g0, g, s, e1, o1, e2, I, hs'⟩ := init_C N
  obtain ⟨i1, i2, i3, i4, i5, i6, i7, i8⟩ := id I
  have LT : LTb g := ⟨il_ok I (by omega) (by omega) (by decide), i4 (6, 5, 9) (by decide), i4 (6, 6, 13) (by decide), il_ok I (by omega) (by omega) (by decide), il_ok I (by omega) (by omega) (by decide),
    il_ok I (by omega) (by omega) (by decide), ⟨i4 (9, 0, 11) (by decide), i4 (9, 1, 12) (by decide), i4 (9, 2, 10) (by decide)⟩, ⟨i3 11 (by omega) (by omega), i3 12 (by omega) (by omega), i3 10 (by omega) (by omega)⟩, by omega, by omega, by omega⟩
  have z0 : ∀ a j, (∀ q, q ∈ VC0 → q.1 ≠ a) → hI g a j = 0 := fun a j hq => by rw [i5 a j (by omega)]; exact vlI_n _ hq
  have H : Hs g 9 10 11 12 2001 0 (fun _ => 0) := ⟨z0 9 3 (by decide), by omega, fun j hj => by omega, fun s _ => z0 10 s (by decide), fun j hj => by omega⟩
  obtain ⟨h1, a1, a2, a3, a4, a5⟩ := forget_I (n := 6) hN (by omega) LT H
  have a1' : ds [(9, Touch_forget N (some 6) 6 g)] (some 6) g = some ((), h1) := a1
  have I1 : IL h1 35 h1 35 [] [] s := by
    refine ⟨by rw [Fx_z a2]; exact i1, fun a _ => ⟨rfl, rfl, rfl, rfl⟩, fun a x y => by omega, fun q hq => absurd hq List.not_mem_nil, fun a j ha => ?_, fun a j ha _ => ?_, by rw [Fx_s a2]; exact i7, by omega⟩
    · rw [Fx_I a2 (by unfold PT; omega), i5 a j (by omega)]
      exact vlI_n _ (fun q hq => by have := VC0_lt q hq; omega)
    · rw [Fx_R a2]
      exact i6 a j (by omega) (fun q hq => by have := TC0_lt q hq; omega)
  obtain ⟨g2, g3, s', b1, b2, b3, I', hs2⟩ := init_M (N := N) I1
  obtain ⟨j1, j2, j3, j4, j5, j6, j7, j8⟩ := id I'
  have L3 : Lay g3 := by
    refine ⟨by omega, fun a ha => ?_, fun q hq => ?_⟩
    · by_cases c : a < 35
      · rw [(j2 a c).1, Fx_K a2]; exact i3 a (by omega) c
      · exact j3 a (by omega) ha
    · rcases rft_in q hq with ⟨c, d⟩ | c
      · rw [(j2 q.1 d).2.2.2, Fx_R a2]; exact i4 q c
      · exact j4 q c
  obtain ⟨h2, c1, c2, c3, c4, ⟨c5, c6, c7⟩, c8, c9, c10, c11⟩ := begin_M (N := N) (n := 6) (by omega) (by omega) (by omega) L3
  have c1' : ds [(12, M_begin N (some 35) 6 g3)] (some 35) g3 = some ((), h2) := c1
  have L2 := Fx_Lay c2 L3
  have rI : ∀ a, a < 35 → hI h2 a = hI h1 a := fun a ha => by
    rw [← (j2 a ha).2.1]
    exact Fx_row c2 (fun k => by unfold PN; omega)
  have rL : ∀ a, a < 35 → hL h2 a = hL h1 a := fun a ha => by
    rw [← (j2 a ha).2.2.1]
    exact funext fun k => Fx_L c2 (by omega)
  have rC : ∀ a j, a < 35 → ¬ (PT a j ∨ a = 6 ∧ (j = 2 ∨ j = 3 ∨ j = 15)) → hI h2 a j = vlI VC0 a j := fun a j ha n => by rw [rI a ha, Fx_I a2 n]; exact i5 a j (by omega)
  have rZ : ∀ a j, a < 35 → ¬ (PT a j ∨ a = 6 ∧ (j = 2 ∨ j = 3 ∨ j = 15)) → (∀ q, q ∈ VC0 → q.1 ≠ a) → hI h2 a j = 0 := fun a j ha n hq => by rw [rC a j ha n]; exact vlI_n _ hq
  have rM : ∀ a j, 35 ≤ a → ¬ (PN a j ∨ a = 52 ∨ a = 35 ∧ (j = 2 ∨ j = 5 ∨ j = 19 ∨ j = 30)) → hI h2 a j = vlI VM0 a j := fun a j ha n => by rw [Fx_I c2 n]; exact j5 a j ha
  have r20 : ∀ i, hR h2 20 i = none := fun i => by
    rw [Fx_R c2, (j2 20 (by omega)).2.2.2, Fx_R a2]; exact i6 20 i (by omega) (by decide)
  refine ⟨h2, fun xs L => ?_, ⟨6, 0, fun _ => (0, none, fun _ => 0, fun _ => none, fun _ => 0, [], 0), fun _ => 0, 0, fun _ => 0, fun _ => 0, ⟨L2, ⟨?_, c8⟩, by omega, by omega⟩, ⟨funext fun k => ?_, ?_⟩, ?_, ⟨0, by omega, ?_, ?_, fun k hk => by omega⟩, ⟨c9, by omega, fun m hm => by omega⟩, ⟨?_, by omega, fun m hm => by omega, fun m m' h1 h2 => by omega⟩, ⟨63, by decide, ?_, fun b h1 h2 => ?_⟩, ⟨by omega, fun j hj => by omega, ⟨?_, fun j hj => by omega⟩, ⟨c10, fun j hj => by omega⟩⟩, ⟨1, fun _ => rd 6, false, none, 0, 0, 0, fun _ => 0, TW_1 (by omega), TC_e a3 (fun a ha => ⟨rI a ha, rL a ha⟩), c4⟩, ⟨0, by omega, ?_, ?_, fun j hj => by omega⟩, ⟨0, fun _ => 0, ?_, by omega, fun j hj => by omega, fun s _ => ?_, fun j hj => by omega⟩, ⟨fun i hi c hc => ?_, ⟨?_, ?_⟩, ⟨0, fun _ => 0, ?_, by omega, fun j hj => by omega, fun s _ => ?_, fun j hj => by omega⟩, Or.inl ⟨?_, c5, c7⟩⟩⟩, ?_, ?_, ?_⟩
  · unfold Law_law
    rw [e1, ck_s o1, e2, a1', cl_s, cl_s, b1, ck_s b2, b3, c1', cl_s, cl_s]
  · rw [rC 0 4 (by omega) (by unfold PT; omega)]; rfl
  · rw [rZ 4 k (by omega) (by unfold PT; omega) (by decide), rM 37 k (by omega) (by unfold PN; omega), vlI_n _ (by decide)]
  · rw [rM 35 16 (by omega) (by unfold PN; omega)]; rfl
  · unfold Fdn
    rw [rC 0 6 (by omega) (by unfold PT; omega), rM 35 3 (by omega) (by unfold PN; omega)]; rfl
  · rw [rC 1 1 (by omega) (by unfold PT; omega)]; rfl
  · rw [rM 35 1 (by omega) (by unfold PN; omega)]; rfl
  · rw [rC 0 3 (by omega) (by unfold PT; omega)]; rfl
  · rw [rC 0 5 (by omega) (by unfold PT; omega)]; rfl
  · rw [c3 b (by omega)]
    rcases (by omega : b = 1 ∨ b = 2 ∨ b = 3 ∨ b = 4 ∨ b = 5 ∨ b = 6) with e | e | e | e | e | e <;> (rw [e]; rfl)
  · rw [rI 6 (by omega)]; exact a4
  · rw [rI 6 (by omega)]; exact a5
  · rw [if_pos rfl]; exact c11
  · rw [rC 31 3 (by omega) (by unfold PT; omega)]; rfl
  · rw [rZ 32 s (by omega) (by unfold PT; omega) (by decide)]; rfl
  · rw [r20 i] at hc; cases hc
  · rw [rC 26 0 (by omega) (by unfold PT; omega)]; rfl
  · rw [rC 17 18 (by omega) (by unfold PT; omega), c6]; rfl
  · rw [rC 22 3 (by omega) (by unfold PT; omega)]; rfl
  · rw [rZ 23 s (by omega) (by unfold PT; omega) (by decide)]; rfl
  · rw [rC 17 17 (by omega) (by unfold PT; omega)]; rfl
  · rw [Fx_z c2, j1]
  · rw [Fx_s c2, j7]; omega
  · unfold nn
    exact Nat.le_trans (List.length_filter_le ..) (by rw [List.length_range]; exact Nat.le_refl _)
