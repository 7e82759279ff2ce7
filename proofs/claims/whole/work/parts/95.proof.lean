/-! PURE: proof, check -/
theorem O_50 (h : Hp) (L : Lay h) : ok h [13] 50 = true ∧ hK h 50 = (13, 2001) := ⟨o50 L, k50 L⟩
theorem O_51 (h : Hp) (L : Lay h) : ok h [13] 51 = true ∧ hK h 51 = (13, 2001) := ⟨o51 L, k51 L⟩
def PpC (a k : Nat) : Prop := a = 15 ∨ a = 16 ∨ a = 6 ∧ (k = 13 ∨ k = 15)
theorem op_proof {N : Nat} {h : Hp} (hN : 3000 < N) (I : Inv h) : Op (C_proof N (some 0)) (M_proof N (some 35)) h := by
  obtain ⟨n, mc, D, bs, ic, im, ik, i1, i2, i3, i4, i5, i6, i7, i8, ⟨rc, rw', st, cm, ni, cn, ca, cf, tw, tc, tm⟩, i10', i11, i12⟩ := id I
  have L := i1.1
  have z := L.1
  have hn := i1.2.2.2
  obtain ⟨m1, m2, m3⟩ := mnt_le tw
  have ff := tc.2.2.2.2.1
  have hcm : ∀ c, cm = some c → c < 2 ^ 31 := fun k e => by have := (tw.2.2.2.1 k e).2.1; omega
  by_cases neg : hI h 6 11 < 0
  · obtain ⟨h1, v, e1, x1, s1, v1, tc1⟩ := order_C (N := N) hN hn L tw tc
    have L1 := Fx_Lay x1 L
    have l2 := lay_s 6 15 (nI (mnt rc cm)) L1
    obtain ⟨h2, eh2⟩ : ∃ h2, h2 = sC (sI h1 6 15 (nI (mnt rc cm))) 16 (va_cpy (hI (sI h1 6 15 (nI (mnt rc cm))) 15) (hI (sI h1 6 15 (nI (mnt rc cm))) 16) 0 0 (mnt rc cm)) := ⟨_, rfl⟩
    have l3 : Lay (sC (sI h1 6 15 (nI (mnt rc cm))) 16 (va_cpy (hI (sI h1 6 15 (nI (mnt rc cm))) 15) (hI (sI h1 6 15 (nI (mnt rc cm))) 16) 0 0 (mnt rc cm))) := L1
    have y15 : hI h2 6 15 = nI (mnt rc cm) := by rw [eh2, hI_sC, if_neg (by omega), sI_at]
    have eC : C_proof N (some 0) h = some (nI (mnt rc cm), h2) := by
      unfold C_proof
      rw [gr_s (o0 L), r0_7 L, ds9 L]
      unfold Touch_makeProof
      rw [gi_s (o6 L), if_pos neg, e1, cl_s, pi_s (o6 L1), gr_s (o6 l2), r6_12 l2, gr_s (o6 l2), r6_14 l2, gi_s (o6 l2), sI_at, ac_s (o15 l2) (o16 l2) (by rw [k15 l2]; show mnt rc cm ≤ 2001; omega) (by rw [k16 l2]; show mnt rc cm ≤ 2001; omega) (by omega), gi_s (o6 l3), ← eh2, y15, cl_s]
    have y16 : ∀ j, j < mnt rc cm → hI h2 16 j = nI (v j) := fun j hj => by
      rw [eh2, hI_sC, if_pos rfl]
      simp only [va_cpy]
      rw [if_pos ⟨Nat.zero_le _, by omega⟩, Nat.sub_zero, Nat.zero_add, sI_ne (by omega)]
      exact v1 j hj
    have x2 : Fi (fun a k => a = 16 ∨ a = 6 ∧ k = 15) h1 h2 := by
      rw [eh2]
      exact Fx_t (Fx_sI _ _ (by omega)) (Fx_sC _ _ (fun k q => absurd (Or.inl rfl) q))
    clear eh2
    have x3 : Fi PpC h h2 := Fx_t (Fx_m x1 (fun a k q => by unfold PpC; omega) (fun _ _ q => q)) (Fx_m x2 (fun a k q => by unfold PpC; omega) (fun _ _ q => q))
    have L2' := Fx_Lay x3 L
    have tc2 : TC h2 n rc rw' st cm ni cn ca cf := TC_g tc1 L1.1 (Gx_F x2) (by omega) (fun _ _ _ q => q)
    have tm2 : TM h2 rc rw' st cm ni cn ca cf := TM_g tm z (Gx_F x3) (fun a k q u => by unfold PpC at u; omega) (fun _ _ _ q => q)
    have mn2 : Mn h2 n := ⟨o35 L2', by rw [Fx_I x3 (by unfold PpC; omega)]; exact i1.2.1.2, i1.2.2⟩
    obtain ⟨h3, v', a1, a2, a3, a4⟩ := numbers_M (N := N) (o := 50) hN tw O_50 (by omega) (by omega) L2' mn2 tm2
    have L3 := Fx_Lay a2 L2'
    have tm3 : TM h3 rc rw' st cm ni cn ca cf := TM_g tm2 L2'.1 (Gx_F a2) (by omega) (fun _ _ _ q => q)
    have uq := Srt_uniq s1 a3
    have l4 := lay_s 35 30 (nI (mnt rc cm)) L3
    have eM : M_proof N (some 35) h2 = some (nI (mnt rc cm), sI h3 35 30 (nI (mnt rc cm))) := by
      unfold M_proof
      rw [dM L2', falseAt_M hN hn L2' tw tm2 ff, cl_s, if_pos neg, gr_s (o35 L2'), r35_28 L2', a1, cl_s, meant_M L3 tm3 hcm, cl_s, pi_s (o35 L3), gi_s (o35 l4), sI_at]
    have x4 : Fi (fun a k => a = 50 ∨ a = 35 ∧ k = 30) h2 (sI h3 35 30 (nI (mnt rc cm))) := Fx_t (Fx_m a2 (fun a k q => Or.inl q) (fun _ _ q => q)) (Fx_sI _ _ (by omega))
    have v30 : hI (sI h3 35 30 (nI (mnt rc cm))) 35 30 = nI (mnt rc cm) := sI_at ..
    have v50 : ∀ j, j < mnt rc cm → hI (sI h3 35 30 (nI (mnt rc cm))) 50 j = nI (v' j) := fun j hj => by rw [sI_ne (by omega)]; exact a4 j hj
    generalize sI h3 35 30 (nI (mnt rc cm)) = h4 at eM x4 v30 v50
    have x5 : Fi (fun a k => PpC a k ∨ a = 50 ∨ a = 35 ∧ k = 30) h h4 := Fx_t (Fx_m x3 (fun _ _ q => Or.inl q) (fun _ _ q => q)) (Fx_m x4 (fun _ _ q => Or.inr q) (fun _ _ q => q))
    have f := Gx_F x5
    have r : ∀ (X : Nat → Nat → Prop) a k, X a k → ¬ nF a k := fun _ _ _ _ c => c
    refine ⟨nI (mnt rc cm), h2, h4, eC, eM, ⟨n, mc, D, bs, ic, im, ik, Bs_g i1 f ?_ (r _), Tr_g i2 z f ?_, Fdn_g i3 z f ?_, Tp_g i4 z f ?_, Ms_g i5 z f ?_, Cs_g i6 z f ?_ (r _), Rg_g i7 z f ?_, It_g i8 z f ?_ (r _), ⟨rc, rw', st, cm, ni, cn, ca, cf, tw, TC_g tc2 L2'.1 (Gx_F x4) (by omega) (r _), TM_g tm2 L2'.1 (Gx_F x4) (by omega) (r _)⟩, ⟨mnt rc cm, by omega, ?_, ?_, fun j hj => ?_⟩, Ot_g i11 z f ?_ (r _), Sr_g i12 i6.2.1 z f ?_ (r _) (r _)⟩, Gr_F x5, L2'⟩ <;> first | (intro a k c d; unfold PpC at d; omega) | skip
    · rw [Fx_I x4 (by omega)]; exact y15
    · rw [v30, if_neg (by omega)]
    · rw [v50 j hj, Fx_I x4 (by omega), y16 j hj, uq j hj]
  · refine Op_id I (-1) ?_ ?_
    · unfold C_proof
      rw [gr_s (o0 L), r0_7 L, ds9 L]
      unfold Touch_makeProof
      rw [gi_s (o6 L), if_neg neg, cl_s]
    · unfold M_proof
      rw [dM L, falseAt_M hN hn L tw tm ff, cl_s, if_neg neg]
theorem cmp_C {N p : Nat} {h : Hp} (L : Lay h) (hp : p ≤ 2001) (e : hI h 6 15 = nI p) : ∀ (r g i : Nat), i + r = p → r < g → ((∀ j, i ≤ j → j < p → hI h 16 j = hI h 15 j) ∧ Touch_isProven_27 N g (some 6) (nI i) h = some (1, h)) ∨ ((¬ ∀ j, i ≤ j → j < p → hI h 16 j = hI h 15 j) ∧ Touch_isProven_27 N g (some 6) (nI i) h = some (0, h))
  | r, 0, _, _, hg => absurd hg (by omega)
  | 0, g + 1, i, hi, _ => by
    left
    refine ⟨fun j h1 h2 => absurd h2 (by omega), ?_⟩
    simp only [Touch_isProven_27]
    rw [gi_s (o6 L), e, if_pos ((nI_leI (by omega) (by omega)).mpr (by omega)), rz_1]
  | r + 1, g + 1, i, hi, hg => by
    simp only [Touch_isProven_27]
    rw [gi_s (o6 L), e, if_neg (fun u => absurd ((nI_leI (by omega) (by omega)).mp u) (by omega)), gr_s (o6 L), r6_14 L, li_s (o16 L) (by rw [k16 L]; show i < 2001; omega) (by rw [k16 L]; decide), gr_s (o6 L), r6_12 L, li_s (o15 L) (by rw [k15 L]; show i < 2001; omega) (by rw [k15 L]; decide)]
    by_cases q : hI h 16 i = hI h 15 i
    · rw [if_pos q, nmE, show nI i + 1 = nI (i + 1) from aN_1 i]
      rcases cmp_C (N := N) L hp e r g (i + 1) (by omega) (by omega) with ⟨a, b⟩ | ⟨a, b⟩
      · left
        exact ⟨fun j h1 h2 => by
          by_cases u : j = i
          · rw [u]; exact q
          · exact a j (by omega) h2, b⟩
      · right
        exact ⟨fun u => a (fun j h1 h2 => u j (by omega) h2), b⟩
    · right
      rw [if_neg q, rz_0]
      exact ⟨fun u => q (u i (Nat.le_refl _) (by omega)), rfl⟩
theorem cmp_M {N p : Nat} {h : Hp} (L : Lay h) (hp : p ≤ 2001) (e : hI h 35 30 = nI p) : ∀ (r g i : Nat), i + r = p → r < g → ((∀ j, i ≤ j → j < p → hI h 50 j = hI h 51 j) ∧ M_check_30 N g (some 35) (nI i) h = some (1, h)) ∨ ((¬ ∀ j, i ≤ j → j < p → hI h 50 j = hI h 51 j) ∧ M_check_30 N g (some 35) (nI i) h = some (0, h))
  | r, 0, _, _, hg => absurd hg (by omega)
  | 0, g + 1, i, hi, _ => by
    left
    refine ⟨fun j h1 h2 => absurd h2 (by omega), ?_⟩
    simp only [M_check_30]
    rw [gi_s (o35 L), e, if_pos ((nI_leI (by omega) (by omega)).mpr (by omega)), rz_1]
  | r + 1, g + 1, i, hi, hg => by
    simp only [M_check_30]
    rw [gi_s (o35 L), e, if_neg (fun u => absurd ((nI_leI (by omega) (by omega)).mp u) (by omega)), gr_s (o35 L), r35_28 L, li_s (o50 L) (by rw [k50 L]; show i < 2001; omega) (by rw [k50 L]; decide), gr_s (o35 L), r35_29 L, li_s (o51 L) (by rw [k51 L]; show i < 2001; omega) (by rw [k51 L]; decide)]
    by_cases q : hI h 50 i = hI h 51 i
    · rw [if_pos q, nmE, show nI i + 1 = nI (i + 1) from aN_1 i]
      rcases cmp_M (N := N) L hp e r g (i + 1) (by omega) (by omega) with ⟨a, b⟩ | ⟨a, b⟩
      · left
        exact ⟨fun j h1 h2 => by
          by_cases u : j = i
          · rw [u]; exact q
          · exact a j (by omega) h2, b⟩
      · right
        exact ⟨fun u => a (fun j h1 h2 => u j (by omega) h2), b⟩
    · right
      rw [if_neg q, rz_0]
      exact ⟨fun u => q (u i (Nat.le_refl _) (by omega)), rfl⟩
theorem op_check {N : Nat} {h : Hp} (hN : 3000 < N) (I : Inv h) : Op (C_check N (some 0)) (M_check N (some 35)) h := by
  obtain ⟨n, mc, D, bs, ic, im, ik, i1, i2, i3, i4, i5, i6, i7, i8, ⟨rc, rw', st, cm, ni, cn, ca, cf, tw, tc, tm⟩, ⟨p, p0, p1, p2, p3⟩, i11, i12⟩ := id I
  have L := i1.1
  have z := L.1
  have hn := i1.2.2.2
  obtain ⟨m1, m2, m3⟩ := mnt_le tw
  have ff := tc.2.2.2.2.1
  have hcm : ∀ c, cm = some c → c < 2 ^ 31 := fun k e => by have := (tw.2.2.2.1 k e).2.1; omega
  have pm : hI h 35 30 = nI (mnt rc cm) ↔ p = mnt rc cm := by
    rw [p2]
    by_cases u : p = 0
    · rw [if_pos u]
      constructor
      · intro w
        have := nI_pos' (n := mnt rc cm) (by omega)
        rw [← w] at this
        exact absurd this (by decide)
      · intro w; omega
    · rw [if_neg u]; exact nI_eq (by omega) (by omega)
  have no : (0 ≤ hI h 6 11 ∨ p ≠ mnt rc cm) → Op (C_check N (some 0)) (M_check N (some 35)) h := by
    intro q
    refine Op_id I 0 ?_ ?_
    · unfold C_check
      rw [gr_s (o0 L), r0_7 L, ds9 L]
      unfold Touch_isProven
      rw [gi_s (o6 L)]
      by_cases u : 0 ≤ hI h 6 11
      · rw [if_pos u, rz_0, cl_s, rz_0]
      · rw [if_neg u, gi_s (o6 L), p1, provable_C L tw tc, cl_s, if_neg (fun v => (q.resolve_left u) ((nI_eq (by omega) (by omega)).mp v)), rz_0, cl_s, rz_0]
    · unfold M_check
      rw [gi_s (o35 L), meant_M L tm hcm, cl_s]
      by_cases u : p = mnt rc cm
      · rw [if_pos (pm.mpr u), dM L, falseAt_M hN hn L tw tm ff, cl_s, if_neg (fun v => by
          have w := q.resolve_right (fun w => w u)
          exact absurd v (Int32.not_lt.mpr w)), rz_0]
      · rw [if_neg (fun v => u (pm.mp v)), rz_0]
  by_cases neg : 0 ≤ hI h 6 11
  · exact no (Or.inl neg)
  by_cases ep : p = mnt rc cm
  · have neg' : hI h 6 11 < 0 := Int32.not_le.mp neg
    obtain ⟨h1, v, e1, x1, s1, v1, tc1⟩ := order_C (N := N) hN hn L tw tc
    have L1 := Fx_Lay x1 L
    have tm1 : TM h1 rc rw' st cm ni cn ca cf := TM_g tm z (Gx_F x1) (by omega) (fun _ _ _ q => q)
    have mn1 : Mn h1 n := ⟨o35 L1, by rw [Fx_I x1 (by omega)]; exact i1.2.1.2, i1.2.2⟩
    obtain ⟨h2, v', a1, a2, a3, a4⟩ := numbers_M (N := N) (o := 51) hN tw O_51 (by omega) (by omega) L1 mn1 tm1
    have L2' := Fx_Lay a2 L1
    have uq := Srt_uniq s1 a3
    have x3 : Fi (fun a k => (a = 15 ∨ a = 6 ∧ k = 13) ∨ a = 51) h h2 := Fx_t (Fx_m x1 (fun _ _ q => Or.inl q) (fun _ _ q => q)) (Fx_m a2 (fun _ _ q => Or.inr q) (fun _ _ q => q))
    have e15 : hI h1 6 15 = nI p := by rw [Fx_I x1 (by omega)]; exact p1
    have e30 : hI h2 35 30 = nI p := by rw [Fx_I x3 (by omega), pm.mpr ep, ep]
    have preC : C_check N (some 0) h = cl (Touch_isProven_27 N N (some 6) (nI 0) h1) fun x3 h2 => rz x3 h2 := by
      unfold C_check
      rw [gr_s (o0 L), r0_7 L, ds9 L]
      unfold Touch_isProven
      rw [gi_s (o6 L), if_neg neg, gi_s (o6 L), p1, provable_C L tw tc, cl_s, if_pos (by rw [ep]), e1, cl_s]
      rfl
    have preM : M_check N (some 35) h1 = M_check_30 N N (some 35) (nI 0) h2 := by
      unfold M_check
      rw [gi_s (o35 L1), Fx_I x1 (by omega), meant_M L1 tm1 hcm, cl_s, if_pos (pm.mpr ep), dM L1, falseAt_M hN hn L1 tw tm1 ff, cl_s, if_pos neg', gr_s (o35 L1), r35_29 L1, a1, cl_s]
      rfl
    have same : ∀ j, j < p → (hI h1 16 j = hI h1 15 j ↔ hI h2 50 j = hI h2 51 j) := fun j hj => by
      rw [v1 j (by omega), a4 j (by omega), Fx_I x1 (by omega), Fx_I x3 (by omega), p3 j hj, uq j (by omega)]
    have f := Gx_F x3
    have r : ∀ (X : Nat → Nat → Prop) a k, X a k → ¬ nF a k := fun _ _ _ _ c => c
    have IV : Inv h2 := ⟨n, mc, D, bs, ic, im, ik, Bs_g i1 f (by omega) (r _), Tr_g i2 z f (by omega), Fdn_g i3 z f (by omega), Tp_g i4 z f (by omega), Ms_g i5 z f (by omega), Cs_g i6 z f (by omega) (r _), Rg_g i7 z f (by omega), It_g i8 z f (by omega) (r _), ⟨rc, rw', st, cm, ni, cn, ca, cf, tw, TC_g tc1 L1.1 (Gx_F a2) (by omega) (r _), TM_g tm1 L1.1 (Gx_F a2) (by omega) (r _)⟩, Pf_g ⟨p, p0, p1, p2, p3⟩ z f (by omega), Ot_g i11 z f (by omega) (r _), Sr_g i12 i6.2.1 z f (by omega) (r _) (r _)⟩
    rcases cmp_C (N := N) L1 p0 e15 p N 0 (by omega) (by omega) with ⟨b1, b2⟩ | ⟨b1, b2⟩
    · rcases cmp_M (N := N) L2' p0 e30 p N 0 (by omega) (by omega) with ⟨d1, d2⟩ | ⟨d1, d2⟩
      · exact ⟨1, h1, h2, by rw [preC, b2, cl_s, rz_1], by rw [preM]; exact d2, IV, Gr_F x3, L1⟩
      · exact absurd (fun j h1 h2 => (same j h2).mp (b1 j h1 h2)) d1
    · rcases cmp_M (N := N) L2' p0 e30 p N 0 (by omega) (by omega) with ⟨d1, d2⟩ | ⟨d1, d2⟩
      · exact absurd (fun j h1 h2 => (same j h2).mpr (d1 j h1 h2)) b1
      · exact ⟨0, h1, h2, by rw [preC, b2, cl_s, rz_0], by rw [preM]; exact d2, IV, Gr_F x3, L1⟩
  · exact no (Or.inr ep)
