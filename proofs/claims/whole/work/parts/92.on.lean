/-! PURE: on, falseAt -/
theorem op_on {N : Nat} {x : Int32} {h : Hp} (hN : 3000 < N) (I : Inv h) : Op (C_on N (some 0) x) (M_on N (some 35) x) h := by
  obtain ⟨n, mc, D, bs, ic, im, ik, i1, i2, i3, i4, i5, i6, i7, ⟨i100, iv, iC, iM⟩, ⟨rc, rw', st, cm, ni, cn, ca, cf, tw, tc, tm⟩, i10', i11, i12⟩ := id I
  have L := i1.1
  have z := L.1
  have r1 := tw.1.1
  have r2 := tw.1.2
  have out : x < 0 ∨ ¬ x ≤ 1000 → Op (C_on N (some 0) x) (M_on N (some 35) x) h := by
    intro hx
    have c11 : C_on_11 N (some 0) h = some (nI (rc - 1), sI h 0 6 2) := by
      unfold C_on_11
      rw [gr_s (o0 L), r0_7 L, gr_s (o6 L), r6_5 L, gi_s (o9 L), tc.1.1, nI_m1 r1, C_finds_s L, cl_s]
    have m12 : M_on_12 N (some 35) x (some 35) (sI h 0 6 2) = some (nI (rc - 1), F2 h 2) := by
      unfold M_on_12 M_on_17
      rw [M_finds_1 (LF L 2) i20, cl_s, if_neg i10]
      unfold M_on_43
      rw [gi_s (o35 (L2 L 2)), sI_ne (by omega), sI_ne (by omega), tm.2.1, nI_m1 r1]
      rfl
    refine Op_F I (nI (rc - 1)) 2 ?_ ?_
    · unfold C_on
      rcases hx with hx | hx
      · rw [if_pos hx]; exact c11
      · by_cases h0 : x < 0
        · rw [if_pos h0]; exact c11
        · rw [if_neg h0, if_neg hx]; exact c11
    · unfold M_on
      rcases hx with hx | hx
      · rw [if_pos hx]; exact m12
      · by_cases h0 : x < 0
        · rw [if_pos h0]; exact m12
        · rw [if_neg h0, if_neg hx]; exact m12
  rcases i32_cs x with c0 | ⟨k, hk, e⟩
  · exact out (Or.inl c0)
  subst e
  by_cases k1 : k ≤ 1000
  · obtain ⟨h1, e1, x1, t1, w1, c1⟩ := ringOn_C (N := N) (D := D) (bs := bs) (im := im) (ik := ik) (mc := mc) hN i1.2.2.2 iv i100 k1 (k + 100) N k 0 0 (rc, rw', st, cm, ni, cn, ca, cf) h (by omega) (by omega) (Nat.le_refl _) L i6 iC tw tc
    obtain ⟨Z, eZ⟩ : ∃ Z, Z = rgn n ic D im ik (k + 100) k 0 (rc, rw', st, cm, ni, cn, ca, cf) := ⟨_, rfl⟩
    rw [← eZ] at e1 t1 w1 c1
    have L1 := Fx_Lay x1 L
    have q1 := w1.1.1
    have eC : C_on N (some 0) (nI k) h = some (nI (Z.1.1 - 1), sI h1 0 6 (nI Z.2.1)) := by
      unfold C_on
      rw [if_neg (nI_pos hk), if_pos ((leN_1000 hk).mpr k1), gr_s (o0 L), r0_7 L, ds9 L]
      unfold Touch_ringOn
      rw [show Touch_ringOn_7 N N (some 6) (nI k) 0 (nI k) 0 h = Touch_ringOn_7 N N (some 6) (nI k) (nI 0) (nI k) (nI 0) h from rfl, e1, cl_s, gr_s (o0 L1), r0_7 L1, gr_s (o6 L1), r6_5 L1, gi_s (o9 L1), c1.1.1, nI_m1 q1, C_finds_s L1, cl_s]
    have x2 : Fx (fun a k => PgO a k ∨ a = 0 ∧ k = 6) QgO h (sI h1 0 6 (nI Z.2.1)) := Fx_t (Fx_m x1 (fun _ _ q => Or.inl q) (fun _ _ q => q)) (Fx_sI _ _ (Or.inr ⟨rfl, rfl⟩))
    have v06 : hI (sI h1 0 6 (nI Z.2.1)) 0 6 = nI Z.2.1 := sI_at ..
    have c2 : TCs (sI h1 0 6 (nI Z.2.1)) n Z.1 := TC_g c1 L1.1 (Gx_F (Fx_sI (P := fun a k => a = 0 ∧ k = 6) (Q := nF) h1 _ ⟨rfl, rfl⟩)) (by omega) (fun _ _ _ q => q)
    have t2 : hI (sI h1 0 6 (nI Z.2.1)) 4 = bm (hI h 4) Z.2.2 := by rw [sI_row' (by omega)]; exact t1
    generalize sI h1 0 6 (nI Z.2.1) = h2 at eC x2 v06 c2 t2
    have L2' := Fx_Lay x2 L
    have X : MC (sI h2 35 3 0) n mc ic D im ik := by
      have y : Fx (fun a k => (PgO a k ∨ a = 0 ∧ k = 6) ∨ a = 35 ∧ k = 3) QgO h (sI h2 35 3 0) := Fx_t (Fx_m x2 (fun _ _ q => Or.inl q) (fun _ _ q => q)) (Fx_sI _ _ (Or.inr ⟨rfl, rfl⟩))
      have Ly := Fx_Lay y L
      exact ⟨Ly, ⟨o35 Ly, by rw [Fx_I y (by unfold PgO; omega)]; exact i1.2.1.2, i1.2.2⟩, Ms_g i5 z (Gx_F y) (fun a k q u => by unfold PgO at u; omega), ItM_g iM z (Gx_F y) (fun a k q u => by unfold PgO at u; omega), by rw [Fx_I y (by unfold PgO; omega)]; exact i2.2⟩
    have tm2 : TM (sI h2 35 3 0) rc rw' st cm ni cn ca cf := TM_g tm z (Gx_F (Fx_t (Fx_m x2 (fun _ _ q => Or.inl q) (fun _ _ q => q)) (Fx_sI (P := fun a k => (PgO a k ∨ a = 0 ∧ k = 6) ∨ a = 35 ∧ k = 3) (Q := QgO) _ _ (Or.inr ⟨rfl, rfl⟩)))) (fun a k q u => by unfold PgO at u; omega) (fun a k q u => by unfold QgO at u; omega)
    have s37 : hI (sI h2 35 3 0) 37 = hI h 37 := by rw [sI_row' (by omega)]; exact Fx_row x2 (by unfold PgO; omega)
    have e3 : hI (sI h2 35 3 0) 35 3 = nI 0 := by rw [sI_at]; rfl
    have y1 : Fx (fun a k => a = 35 ∧ k = 3) nF h2 (sI h2 35 3 0) := Fx_sI _ _ ⟨rfl, rfl⟩
    have pM : M_on N (some 35) (nI k) h2 = M_on_25 N N (some 35) (nI k) (nI 0) (sI h2 35 3 0) := by
      unfold M_on
      rw [if_neg (nI_pos hk), if_pos ((leN_1000 hk).mpr k1)]
      unfold M_on_17
      rw [M_finds_0 L2', cl_s, if_pos rfl]
      rfl
    have EM : ∃ h3, M_on N (some 35) (nI k) h2 = some (nI (Z.1.1 - 1), h3) ∧ Fx PgM QgM (sI h2 35 3 0) h3 ∧ hI h3 37 = bq true (hI (sI h2 35 3 0) 37) Z.2.2 ∧ TMs h3 Z.1 ∧ hI h3 35 3 = nI Z.2.1 := by
      rw [pM]
      obtain ⟨K, rfl⟩ : ∃ K, N = K + 1 := ⟨N - 1, by omega⟩
      rw [M_on_25]
      by_cases k0 : k = 0
      · rw [if_pos ((nI_leI (by omega) (by omega)).mpr (by omega))]
        have : Z = ((rc, rw', st, cm, ni, cn, ca, cf), 0, []) := by rw [eZ, rgn_0 (Or.inl k0)]
        rw [this]
        exact ⟨_, on_43 (S := (rc, rw', st, cm, ni, cn, ca, cf)) X.1 tm2 r1, Fx_r _ _ _, rfl, tm2, e3⟩
      · rw [if_neg (fun u => absurd ((nI_leI (by omega) (by omega)).mp u) (by omega)), dM X.1]
        unfold M_rings
        have := ringOn_M (N := K + 1) (k := k) hN iv i100 k1 (k + 100) K (K + 1) k 0 0 (rc, rw', st, cm, ni, cn, ca, cf) (sI h2 35 3 0) (by omega) (by omega) (fun _ => ⟨by show k + (ic - ni) ≤ k + 100; omega, rfl⟩) (by show ic - ni < K + 1; omega) (by omega) X tw tm2 e3
        unfold EOn at this
        rw [← eZ] at this
        exact this
    obtain ⟨h3, eM, x3, t3, m3, f3⟩ := EM
    have x4 : Fx (fun a k => (PgO a k ∨ a = 0 ∧ k = 6) ∨ PgM a k) (fun a k => QgO a k ∨ QgM a k) h h3 := Fx_t (Fx_m x2 (fun _ _ q => Or.inl q) (fun _ _ q => Or.inl q)) (Fx_t (Fx_m y1 (fun a k q => Or.inr (by unfold PgM; omega)) (fun _ _ q => q.elim)) (Fx_m x3 (fun _ _ q => Or.inr q) (fun _ _ q => Or.inr q)))
    have x5 : Fx PgM QgM h2 h3 := Fx_t (Fx_m y1 (fun a k q => by unfold PgM; omega) (fun _ _ q => q.elim)) x3
    have f := Gx_F x4
    refine ⟨nI (Z.1.1 - 1), h2, h3, eC, eM, ⟨n, mc, D, bs, ic, im, ik, Bs_g i1 f (fun a k q u => by unfold PgO PgM at u; omega) (fun _ _ _ q => q), ⟨?_, ?_⟩, ?_, Tp_g i4 z f (fun a k q u => by unfold PgO PgM at u; omega), Ms_g i5 z f (fun a k q u => by unfold PgO PgM at u; omega), Cs_g i6 z f (fun a k q u => by unfold PgO PgM at u; omega) (fun _ _ _ q => q), Rg_g i7 z f (fun a k q u => by unfold PgO PgM at u; omega), ⟨i100, iv, ItC_g iC z f (fun a k q u => by unfold PgO PgM at u; omega) (fun _ _ _ q => q), ItM_g iM z f (fun a k q u => by unfold PgO PgM at u; omega)⟩, ⟨_, _, _, _, _, _, _, _, w1, TC_g c2 L2'.1 (Gx_F x5) (fun a k q u => by unfold PgM at u; omega) (fun a k q u => by unfold QgM at u; omega), m3⟩, Pf_g i10' z f (fun a k q u => by unfold PgO PgM at u; omega), Ot_g i11 z f (fun a k q u => by unfold PgO PgM at u; omega) (fun a k q u => by unfold QgO QgM at u; omega), Sr_g i12 i6.2.1 z f (fun a k q u => by unfold PgO PgM at u; omega) (fun a k q u => by unfold QgO QgM at u; omega) (fun _ _ _ q => q)⟩, Gr_F x4, L2'⟩
    · rw [Fx_row x5 (by unfold PgM; omega), t2, t3, s37, i2.1]
      rfl
    · rw [Fx_I x4 (by unfold PgO PgM; omega)]; exact i2.2
    · unfold Fdn
      rw [f3, Fx_I x5 (by unfold PgM; omega)]; exact v06
  · exact out (Or.inr (fun u => k1 ((leN_1000 hk).mp u)))
/-! the first row that was there before -/
theorem meant_M {N rc : Nat} {rw : Nat → Nat} {st : Bool} {cm : Option Nat} {ni cn ca : Nat} {cf : Nat → Nat} {h : Hp} (L : Lay h) (c : TM h rc rw st cm ni cn ca cf) (hc : ∀ c, cm = some c → c < 2 ^ 31) : ds [(12, M_meant N (some 35) h)] (some 35) h = some (nI (mnt rc cm), h) := by
  rw [dM L]
  unfold M_meant
  rw [gi_s (o35 L), c.2.2.2.1]
  rcases cm with _ | k
  · rw [if_pos (show oI none < 0 by decide), gi_s (o35 L), c.2.1]; rfl
  · rw [if_neg (show ¬ oI (some k) < 0 from nI_pos (hc k rfl)), gi_s (o35 L), c.2.2.2.1]; rfl
theorem falseAt_in {N n rc j : Nat} {rw : Nat → Nat} {re : Option Nat → Int32 → Hp → Option (Int32 × Hp)} {h : Hp} (hn : n ≤ 12) (L : Lay h) (hr : rc ≤ 2001) (hw : ∀ j, j < rc → Rw n (rw j)) (h1 : ∀ j, j < rc → hL h 48 j = lN (rw j)) (hj : j < rc) : ∀ (r g i : Nat), i + r = j → r < g → (∀ a, a < i → rw a ≠ rw j) → ((∀ a, a < j → rw a ≠ rw j) ∧ M_falseAt_12 N re g (some 35) (nI j) (nI i) h = re (some 35) (nI (j + 1)) h) ∨ (∃ i', i' < j ∧ rw i' = rw j ∧ M_falseAt_12 N re g (some 35) (nI j) (nI i) h = some (nI (10000 * j + i'), h))
  | r, 0, _, _, hg, _ => absurd hg (by omega)
  | 0, g + 1, i, hi, _, ha => by
    left
    refine ⟨fun a q => ha a (by omega), ?_⟩
    simp only [M_falseAt_12]
    rw [if_pos ((nI_leI (by omega) (by omega)).mpr (by omega)), nmE, aN_1]
  | r + 1, g + 1, i, hi, hg, ha => by
    simp only [M_falseAt_12]
    rw [if_neg (fun u => absurd ((nI_leI (by omega) (by omega)).mp u) (by omega)), gr_s (o35 L), r35_20 L, ll_s (o48 L) (by rw [k48 L]; show i < 2001; omega) (by rw [k48 L]; decide), h1 i (by omega), gr_s (o35 L), r35_20 L, ll_s (o48 L) (by rw [k48 L]; show j < 2001; omega) (by rw [k48 L]; decide), h1 j hj]
    by_cases q : rw i = rw j
    · right
      refine ⟨i, by omega, q, ?_⟩
      rw [if_pos ((lg_eq _ _).mpr (by rw [q])), show (10000 : Int32) * nI j = nI (10000 * j) from pk_mul 10000 j, nI_add]
    · rw [if_neg (fun u => q (lN_inj (rw64 hn (hw i (by omega))) (rw64 hn (hw j hj)) ((lg_eq _ _).mp u))), nmE, aN_1]
      exact falseAt_in hn L hr hw h1 hj r g (i + 1) (by omega) (by omega) (fun a h2 => by
        by_cases e : a = i
        · rw [e]; exact q
        · exact ha a (by omega))
theorem falseAt_l {N n rc ic : Nat} {rw : Nat → Nat} {st : Bool} {cm : Option Nat} {ni cn ca : Nat} {cf : Nat → Nat} {x : Int32} {h : Hp} (hN : 3000 < N) (hn : n ≤ 12) (L : Lay h) (w : TW n ic rc rw st cm ni cn ca cf) (c : TM h rc rw st cm ni cn ca cf) (f : Ff x rw (mnt rc cm)) : ∀ (r g j : Nat), j + r = mnt rc cm → r < g → (∀ a b, a < b → b < j → rw a ≠ rw b) → M_falseAt_2 N g (some 35) (nI j) h = some (x, h) := by
  have mle : mnt rc cm ≤ rc := by
    rcases cm with _ | k
    · exact Nat.le_refl _
    · have := (w.2.2.2.1 k rfl).2.1
      show k ≤ rc
      omega
  have r2 := w.1.2
  have hc : ∀ c, cm = some c → c < 2 ^ 31 := fun k e => by have := (w.2.2.2.1 k e).2.1; omega
  intro r
  induction r with
  | zero =>
    intro g j hj hg hd
    obtain ⟨g, rfl⟩ : ∃ q, g = q + 1 := ⟨g - 1, by omega⟩
    rw [M_falseAt_2]
    rw [meant_M L c hc, cl_s, if_pos ((nI_leI (by omega) (by omega)).mpr (by omega))]
    rcases f with ⟨a, b⟩ | ⟨j', i', h1, h2, h3, h4, h5⟩
    · rw [a]
    · exact absurd h3 (hd i' j' h1 (by omega))
  | succ r ih =>
    intro g j hj hg hd
    obtain ⟨g, rfl⟩ : ∃ q, g = q + 1 := ⟨g - 1, by omega⟩
    rw [M_falseAt_2]
    rw [meant_M L c hc, cl_s, if_neg (fun u => absurd ((nI_leI (by omega) (by omega)).mp u) (by omega))]
    rcases falseAt_in (N := N) (re := M_falseAt_2 N g) hn L r2 w.2.1 c.1 (show j < rc by omega) j N 0 (by omega) (by omega) (fun a q => absurd q (by omega)) with ⟨a1, a2⟩ | ⟨i', a1, a2, a3⟩
    · rw [show (0 : Int32) = nI 0 from rfl, a2]
      refine ih g (j + 1) (by omega) (by omega) (fun a b h1 h2 => ?_)
      by_cases e : b = j
      · rw [e]; exact a1 a (by omega)
      · exact hd a b h1 (by omega)
    · rw [show (0 : Int32) = nI 0 from rfl, a3]
      rcases f with ⟨a, b⟩ | ⟨j', i2, h1, h2, h3, h4, h5⟩
      · exact absurd a2 (b i' j a1 (by omega))
      · have j1 : ¬ j' < j := fun q => hd i2 j' h1 q h3
        have j2 : ¬ j < j' := fun q => h5 i' j a1 q a2
        have ej : j' = j := by omega
        subst ej
        have e1 : i2 = i' := by
          by_cases u : i2 < i'
          · exact absurd (by rw [h3, a2]) (hd i2 i' u a1)
          · by_cases v : i' < i2
            · exact absurd (by rw [h3, a2]) (hd i' i2 v h1)
            · omega
        rw [h4, e1]
theorem falseAt_M {N n rc ic : Nat} {rw : Nat → Nat} {st : Bool} {cm : Option Nat} {ni cn ca : Nat} {cf : Nat → Nat} {x : Int32} {h : Hp} (hN : 3000 < N) (hn : n ≤ 12) (L : Lay h) (w : TW n ic rc rw st cm ni cn ca cf) (c : TM h rc rw st cm ni cn ca cf) (f : Ff x rw (mnt rc cm)) : M_falseAt N (some 35) h = some (x, h) := by
  have m1 : 1 ≤ mnt rc cm ∧ mnt rc cm ≤ 2001 := by
    have := w.1
    rcases cm with _ | k
    · exact this
    · have := w.2.2.2.1 k rfl
      show 1 ≤ k ∧ k ≤ 2001
      omega
  unfold M_falseAt
  exact falseAt_l hN hn L w c f (mnt rc cm - 1) N 1 (by omega) (by omega) (fun a b h1 h2 => absurd h1 (by omega))
theorem op_falseAt {N : Nat} {h : Hp} (hN : 3000 < N) (I : Inv h) : Op (C_falseAt N (some 0)) (M_falseAt N (some 35)) h := by
  obtain ⟨n, mc, D, bs, ic, im, ik, i1, i2, i3, i4, i5, i6, i7, i8, ⟨rc, rw', st, cm, ni, cn, ca, cf, tw, tc, tm⟩, i10', i11, i12⟩ := id I
  have L := i1.1
  refine Op_id I (hI h 6 11) ?_ (falseAt_M hN i1.2.2.2 L tw tm tc.2.2.2.2.1)
  unfold C_falseAt
  rw [gr_s (o0 L), r0_7 L, gi_s (o6 L)]
