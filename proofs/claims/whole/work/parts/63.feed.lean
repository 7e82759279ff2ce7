/-! PURE: feeding; bells heard; music; ringers -/
theorem tape_step {N f t : Nat} {x s : Int32} {h : Hp} (L : Lay h) (ht : hI h 1 1 = nI t) (h4 : t < 300) (hs : ¬ s < 0) : Tape_add_3 N (f + 1) (some 1) x s h = Tape_add_3 N f (some 1) x (s + (-8)) (sI (sI h 2 t (nb (x >>> (s &&& 31)))) 1 1 (nI (t + 1))) := by
  rw [Tape_add_3, if_neg hs, gi_s (o1 L), ht, if_neg (fun q => by have := (Nle_300 (by omega)).mp q; omega), gr_s (o1 L), r1_0 L, gi_s (o1 L), ht, sb_s (o2 L) (by rw [k2 L]; exact h4) (by rw [k2 L]; decide)]
  rw [show Int8.toInt32 (Int32.toInt8 (x >>> (s &&& 31))) = nb (x >>> (s &&& 31)) from rfl, nb_nb, gi_s (show ok (sI h 2 t (nb (x >>> (s &&& 31)))) [8] 1 = true from o1 L), sI_ne (by omega), ht, nI_1, pi_s (show ok (sI h 2 t (nb (x >>> (s &&& 31)))) [8] 1 = true from o1 L)]
  rfl
theorem tape_add {N t : Nat} {x : Int32} {h : Hp} (hN : 100 < N) (L : Lay h) (ht : hI h 1 1 = nI t) (h4 : t + 4 ≤ 300) : ∃ h', ds [(8, Tape_add N (some 1) x h)] (some 1) h = some ((), h') ∧ Fi (fun a k => a = 1 ∧ k = 1 ∨ a = 2 ∧ t ≤ k) h h' ∧ hI h' 1 1 = nI (t + 4) ∧ ∀ j, j < 4 → hI h' 2 (t + j) = nb (x >>> (nI (24 - 8 * j) &&& 31)) := by
  rw [ds_1 (o1 L)]
  have key : ∀ g, ∃ h', Tape_add_3 N (g + 5) (some 1) x 24 h = some ((), h') ∧ Fi (fun a k => a = 1 ∧ k = 1 ∨ a = 2 ∧ t ≤ k) h h' ∧ hI h' 1 1 = nI (t + 4) ∧ ∀ j, j < 4 → hI h' 2 (t + j) = nb (x >>> (nI (24 - 8 * j) &&& 31)) := by
    intro g
    rw [tape_step (f := g + 4) L ht (by omega) (by decide)]
    rw [tape_step (f := g + 3) (t := t + 1) (by exact L) (sI_at ..) (by omega) (by decide)]
    rw [tape_step (f := g + 2) (t := t + 2) (by exact L) (sI_at ..) (by omega) (by decide)]
    rw [tape_step (f := g + 1) (t := t + 3) (by exact L) (sI_at ..) (by omega) (by decide)]
    rw [Tape_add_3, if_pos (by decide)]
    refine ⟨_, rfl, ?_, ?_, fun j hj => ?_⟩
    · exact Fx_t (Fx_t (Fx_t (Fx_t (Fx_t (Fx_t (Fx_t (Fx_sI h _ (by omega)) (Fx_sI _ _ (by omega))) (Fx_sI _ _ (by omega))) (Fx_sI _ _ (by omega))) (Fx_sI _ _ (by omega))) (Fx_sI _ _ (by omega))) (Fx_sI _ _ (by omega))) (Fx_sI _ _ (by omega))
    · rw [sI_at]
    · have : j = 0 ∨ j = 1 ∨ j = 2 ∨ j = 3 := by omega
      rcases this with rfl | rfl | rfl | rfl
      · rw [sI_ne (by omega), sI_ne (by omega), sI_ne (by omega), sI_ne (by omega), sI_ne (by omega), sI_ne (by omega), sI_ne (by omega)]
        exact sI_at ..
      · rw [sI_ne (by omega), sI_ne (by omega), sI_ne (by omega), sI_ne (by omega), sI_ne (by omega), sI_at]
        rfl
      · rw [sI_ne (by omega), sI_ne (by omega), sI_ne (by omega), sI_at]
        rfl
      · rw [sI_ne (by omega), sI_at]
        rfl
  have := key (N - 5)
  rw [show N - 5 + 5 = N by omega] at this
  exact this
def fA (l1 l2 l3 l4 l5 : Int32) (j : Nat) : Int32 := if j < 4 then l1 else if j < 8 then l2 else if j < 12 then l3 else if j < 16 then l4 else l5
theorem m24 : ∀ k, k < 4 → (24 : Int32) - 8 * nI k = nI (24 - 8 * k) := by decide
theorem feed_71 {N t i : Nat} {re : Option Nat → Int32 → Int32 → Int32 → Int32 → Int32 → Int32 → Hp → Option (Int32 × Hp)} {l1 l2 l3 l4 l5 u : Int32} {h : Hp} (L : Lay h) (ht : hI h 35 1 = nI t) (h4 : t + i < 300) : M_feed_71 N re (some 35) l1 l2 l3 l4 l5 (nI i) u h = re (some 35) l1 l2 l3 l4 l5 (nI (i + 1)) (sI h 36 (t + i) ((u >>> (nI (24 - 8 * (i % 4)) &&& 31)) &&& 255)) := by
  unfold M_feed_71 nz
  rw [gr_s (o35 L), r35_0 L, gi_s (o35 L), ht, if_neg (by decide), nI_add]
  rw [show nI i - nI i / 4 * 4 = nI (i % 4) from nI_mod (b := 4) (by omega) (by omega) (by omega), m24 _ (Nat.mod_lt _ (by decide)), si_s (o36 L) (by rw [k36 L]; exact h4) (by rw [k36 L]; decide), nmE, nI_1]
theorem feed_loop {N t : Nat} {l1 l2 l3 l4 l5 : Int32} (h4 : t + 20 ≤ 300) : ∀ (r f i : Nat) (h : Hp), i + r = 20 → r < f → Lay h → hI h 35 1 = nI t → ∃ h', M_feed_18 N f (some 35) l1 l2 l3 l4 l5 (nI i) h = some (nI (t + 20), h') ∧ Fi (fun a k => a = 36 ∧ t + i ≤ k ∨ a = 35 ∧ k = 1) h h' ∧ hI h' 35 1 = nI (t + 20) ∧ ∀ j, i ≤ j → j < 20 → hI h' 36 (t + j) = ((fA l1 l2 l3 l4 l5 j) >>> (nI (24 - 8 * (j % 4)) &&& 31)) &&& 255
  | 0, f + 1, i, h, hi, hf, L, ht => by
    rw [M_feed_18, if_pos (show (20 : Int32) ≤ nI i from (nI_leI (a := 20) (by omega) (by omega)).mpr (by omega)), gi_s (o35 L), ht, pi_s (o35 L), gi_s (show ok (sI h 35 1 (nI t + 20)) [12] 35 = true from o35 L), sI_at, show nI t + 20 = nI (t + 20) from nI_add t 20]
    exact ⟨_, rfl, Fx_sI h _ (by omega), sI_at .., fun j h1 h2 => by omega⟩
  | r + 1, f + 1, i, h, hi, hf, L, ht => by
    have e : M_feed_18 N (f + 1) (some 35) l1 l2 l3 l4 l5 (nI i) h = M_feed_71 N (M_feed_18 N f) (some 35) l1 l2 l3 l4 l5 (nI i) (fA l1 l2 l3 l4 l5 i) h := by
      rw [M_feed_18, if_neg (show ¬ (20 : Int32) ≤ nI i from fun q => by have := (nI_leI (a := 20) (by omega) (by omega)).mp q; omega)]
      unfold fA
      simp only [Nle_4 (c := i) (by omega), Nle_8 (c := i) (by omega), Nle_12 (c := i) (by omega), Nle_16 (c := i) (by omega)]
      by_cases c4 : i < 4
      · rw [if_neg (by omega), if_pos c4]
      · rw [if_pos (by omega), if_neg c4]
        by_cases c8 : i < 8
        · rw [if_neg (by omega), if_pos c8]
        · rw [if_pos (by omega), if_neg c8]
          by_cases c12 : i < 12
          · rw [if_neg (by omega), if_pos c12]
          · rw [if_pos (by omega), if_neg c12]
            by_cases c16 : i < 16
            · rw [if_neg (by omega), if_pos c16]
            · rw [if_pos (by omega), if_neg c16]
    rw [e, feed_71 L ht (by omega)]
    have f0 : Fi (fun a k => a = 36 ∧ t + i ≤ k ∨ a = 35 ∧ k = 1) h (sI h 36 (t + i) (((fA l1 l2 l3 l4 l5 i) >>> (nI (24 - 8 * (i % 4)) &&& 31)) &&& 255)) := Fx_sI h _ (by omega)
    obtain ⟨h', e1, e2, e3, e4⟩ := feed_loop (N := N) (l1 := l1) (l2 := l2) (l3 := l3) (l4 := l4) (l5 := l5) h4 r f (i + 1) (sI h 36 (t + i) (((fA l1 l2 l3 l4 l5 i) >>> (nI (24 - 8 * (i % 4)) &&& 31)) &&& 255)) (by omega) (by omega) (Fx_Lay f0 L) (by rw [sI_ne (by omega)]; exact ht)
    refine ⟨h', e1, Fx_t f0 (Fx_m e2 (fun a k c => by omega) (fun _ _ c => c)), e3, fun j h1 h2 => ?_⟩
    by_cases c : j = i
    · subst c
      rw [Fx_I e2 (by omega), sI_at]
    · exact e4 j (by omega) h2
theorem op_feed {N : Nat} {l1 l2 l3 l4 l5 : Int32} {h : Hp} (hN : 100 < N) (I : Inv h) : Op (C_feed N (some 0) l1 l2 l3 l4 l5) (M_feed N (some 35) l1 l2 l3 l4 l5) h := by
  obtain ⟨n, mc, D, bs, ic, im, ik, i1, i2, i3, ⟨t, t0, t1, t2, t3⟩, i5, i6, i7, i8, i9, i10', i11, i12⟩ := id I
  have L := i1.1
  have e20 : nI t + 20 = nI (t + 20) := nI_add t 20
  by_cases c : t + 20 ≤ 300
  · have c' : nI (t + 20) ≤ 300 := (leN_300 (by omega)).mpr c
    obtain ⟨h1, a1, a2, a3, a4⟩ := tape_add (x := l1) hN L t1 (by omega)
    have L1 := Fx_Lay a2 L
    obtain ⟨h2, b1, b2, b3, b4⟩ := tape_add (x := l2) hN L1 a3 (by omega)
    have L2' := Fx_Lay b2 L1
    obtain ⟨h3, c1, c2, c3, c4⟩ := tape_add (x := l3) hN L2' b3 (by omega)
    have L3 := Fx_Lay c2 L2'
    obtain ⟨h4, d1, d2, d3, d4⟩ := tape_add (x := l4) hN L3 c3 (by omega)
    have L4 := Fx_Lay d2 L3
    obtain ⟨h5, f1, f2, f3, f4⟩ := tape_add (x := l5) hN L4 d3 (by omega)
    have L5 := Fx_Lay f2 L4
    have fr : Fi (fun a k => a = 1 ∧ k = 1 ∨ a = 2 ∧ t ≤ k) h h5 := Fx_t (Fx_t (Fx_t (Fx_t a2 (Fx_m b2 (fun a k c => by omega) (fun _ _ c => c))) (Fx_m c2 (fun a k c => by omega) (fun _ _ c => c))) (Fx_m d2 (fun a k c => by omega) (fun _ _ c => c))) (Fx_m f2 (fun a k c => by omega) (fun _ _ c => c))
    have val : ∀ j, j < 20 → hI h5 2 (t + j) = nb ((fA l1 l2 l3 l4 l5 j) >>> (nI (24 - 8 * (j % 4)) &&& 31)) := by
      intro j hj
      unfold fA
      by_cases q4 : j < 4
      · rw [if_pos q4, Fx_I f2 (by omega), Fx_I d2 (by omega), Fx_I c2 (by omega), Fx_I b2 (by omega), a4 j q4, show j % 4 = j by omega]
      rw [if_neg q4]
      by_cases q8 : j < 8
      · have := b4 (j - 4) (by omega)
        rw [show t + 4 + (j - 4) = t + j by omega] at this
        rw [if_pos q8, Fx_I f2 (by omega), Fx_I d2 (by omega), Fx_I c2 (by omega), this, show j % 4 = j - 4 by omega]
      rw [if_neg q8]
      by_cases q12 : j < 12
      · have := c4 (j - 8) (by omega)
        rw [show t + 4 + 4 + (j - 8) = t + j by omega] at this
        rw [if_pos q12, Fx_I f2 (by omega), Fx_I d2 (by omega), this, show j % 4 = j - 8 by omega]
      rw [if_neg q12]
      by_cases q16 : j < 16
      · have := d4 (j - 12) (by omega)
        rw [show t + 4 + 4 + 4 + (j - 12) = t + j by omega] at this
        rw [if_pos q16, Fx_I f2 (by omega), this, show j % 4 = j - 12 by omega]
      rw [if_neg q16]
      have := f4 (j - 16) (by omega)
      rw [show t + 4 + 4 + 4 + 4 + (j - 16) = t + j by omega] at this
      rw [this, show j % 4 = j - 16 by omega]
    obtain ⟨h', g1, g2, g3, g4⟩ := feed_loop (N := N) (l1 := l1) (l2 := l2) (l3 := l3) (l4 := l4) (l5 := l5) c 20 N 0 h5 (by omega) (by omega) L5 (by rw [Fx_I fr (by omega)]; exact t2)
    have x0 : Fi (fun a k => a = 1 ∧ k = 1 ∨ a = 2 ∧ t ≤ k ∨ a = 36 ∧ t ≤ k ∨ a = 35 ∧ k = 1) h h' := Fx_t (Fx_m fr (fun a k c => by omega) (fun _ _ c => c)) (Fx_m g2 (fun a k c => by omega) (fun _ _ c => c))
    refine ⟨nI (t + 20), h5, h', ?_, ?_, ?_, Gr_F x0, L5⟩
    · unfold C_feed
      rw [gr_s (o0 L), r0_0 L, gi_s (o1 L), t1, e20, if_pos c', gr_s (o0 L), r0_0 L, a1, cl_s, gr_s (o0 L1), r0_0 L1, b1, cl_s, gr_s (o0 L2'), r0_0 L2', c1, cl_s, gr_s (o0 L3), r0_0 L3, d1, cl_s, gr_s (o0 L4), r0_0 L4, f1, cl_s, gr_s (o0 L5), r0_0 L5, gi_s (o1 L5), f3]
    · unfold M_feed
      rw [gi_s (o35 L5), Fx_I fr (by omega), t2, e20, if_pos c']
      exact g1
    · have f := Gx_F x0
      have z := L.1
      have r : ∀ (X : Nat → Nat → Prop) a k, X a k → ¬ nF a k := fun _ _ _ _ c => c
      refine ⟨n, mc, D, bs, ic, im, ik, Bs_g i1 f ?_ (r _), Tr_g i2 z f ?_, Fdn_g i3 z f ?_, ⟨t + 20, c, ?_, g3, fun k hk => ?_⟩, Ms_g i5 z f ?_, Cs_g i6 z f ?_ (r _), Rg_g i7 z f ?_, It_g i8 z f ?_ (r _), Tc_g i9 z f ?_ (r _), Pf_g i10' z f ?_, Ot_g i11 z f ?_ (r _), Sr_g i12 i6.2.1 z f ?_ (r _) (r _)⟩ <;> first | (intro a k c d; omega) | skip
      · rw [Fx_I g2 (by omega)]; exact f3
      · by_cases kt : k < t
        · rw [Fx_I x0 (by omega), Fx_I x0 (by omega)]
          exact t3 k kt
        · have v1 := val (k - t) (by omega)
          have v2 := g4 (k - t) (by omega) (by omega)
          rw [show t + (k - t) = k by omega] at v1 v2
          obtain ⟨b, b1, b2, b3⟩ := b255 ((fA l1 l2 l3 l4 l5 (k - t)) >>> (nI (24 - 8 * ((k - t) % 4)) &&& 31))
          exact ⟨b, b1, by rw [v2, b2], by rw [Fx_I g2 (by omega), v1, b3]⟩
  · have c' : ¬ nI (t + 20) ≤ 300 := fun q => c ((leN_300 (by omega)).mp q)
    refine Op_id I (-1) ?_ ?_
    · unfold C_feed
      rw [gr_s (o0 L), r0_0 L, gi_s (o1 L), t1, e20, if_neg c']
    · unfold M_feed
      rw [gi_s (o35 L), t2, e20, if_neg c']
