/-! PURE: the search, by the class: the next choice -/
theorem nz3 {β : Type} {F : Option β} : nz 3 F = F := by unfold nz; rw [if_neg (by decide)]
theorem nI_mod3 {m : Nat} (hm : m < 2 ^ 31) : nI m - nI m / 3 * 3 = nI (m % 3) := nI_mod (a := m) (b := 3) (by decide) hm (by decide)
theorem look_C {N n mc dp j : Nat} {D : Nat → Md} {bs : Nat → Nat} {cc : Nat} {ch : Nat → Nat} {kn : Nat → Nat → Nat} {h : Hp} (L : Lay h) (C : Cs h n mc D bs) (S : Sl h mc bs) (K : LK h D cc ch kn) (hcc : ∀ j, j < cc → ch j < 3 * mc) (inj : ∀ i j, i < cc → j < cc → ch i = ch j → i = j) (e14 : hI h 17 14 = nI dp) (d12 : dp < 12) (hj : j < cc) (kv : kn dp j ≤ 2) :
    ∃ h', ds [(5, Search_lookAtItem N (some 17) (nI (ch j)) (some (bs (ch j / 3))) h)] (some 17) h = some ((), h') ∧ Gx (PL mc bs) nF RL h h' ∧ hI h' 4 = bm (hI h 4) (if kn dp j = 0 then CT D (ch j / 3) dp (ch j % 3) else []) ∧ Sl h' mc bs ∧ LK h' D cc ch (up2 kn dp j (if kn dp j = 0 then kn1 (LRd D ch dp j) else kn dp j)) ∧ hR h' 17 15 = (if (if kn dp j = 0 then kn1 (LRd D ch dp j) else kn dp j) = 1 then hR h' 20 (90 * dp + ch j) else none) ∧ hI h' 17 16 = nI 0 ∧ GS h h' := by
  have m30 := C.2.1
  have z := L.1
  have hm : ch j / 3 < mc := by have := hcc j hj; omega
  have c90 : ch j < 90 := by have := hcc j hj; omega
  obtain ⟨idx, eidx⟩ : ∃ idx, idx = 90 * dp + ch j := ⟨_, rfl⟩
  have i1080 : idx < 1080 := by omega
  obtain ⟨g, c0, e1, f1, r1, r2, r3, S1, G1⟩ := lead_make (N := N) (x := nI (ch j)) (y := some (bs (ch j / 3))) L C S i1080
  have Lg : Lay g := Gx_Lay f1 L (fun a k c u => by unfold Rc at c; omega)
  have Cg : Cs g n mc D bs := Cs_G C z f1 (fun _ _ q => q.elim) (fun a k q => by omega)
  have zg := Lg.1
  have eI : ∀ a k, a < hz h → hI g a k = hI h a k := fun a k ha => f1.2.2.1 a k ha (fun q => q)
  have g21 : hI g 21 idx = nI (kn dp j) := by rw [eI 21 _ (by omega), eidx]; exact K.1 dp j d12 hj
  obtain ⟨⟨s1, s2⟩, ⟨s3, s4⟩, s5, s6, s7⟩ := S1 idx i1080 c0 r1
  have pre : ds [(5, Search_lookAtItem N (some 17) (nI (ch j)) (some (bs (ch j / 3))) h)] (some 17) h = Search_lookAtItem_40 N (some 17) (nI (ch j)) (some (bs (ch j / 3))) (nI idx) (some c0) g := by
    rw [ds5 L]
    unfold Search_lookAtItem
    rw [gi_s (o17 L), e14, show nI dp * (90 : Int32) + nI (ch j) = nI idx by rw [show (90 : Int32) = nI 90 from rfl, pk_mul, nI_add, Nat.mul_comm, eidx], nmE, gr_s (o17 L), r17_8 L]
    exact e1
  have nb0 : NB mc bs c0 := fun m hm => by have := s6 m hm; omega
  have nb1 : NB mc bs (c0 + 1) := fun m hm => by have := s6 m hm; omega
  obtain ⟨R, eR⟩ : ∃ R, R = LRd D ch dp j := ⟨_, rfl⟩
  have eR' : R = CR D (ch j / 3) dp (ch j % 3) := eR
  have iq : ∀ d' j', d' < 12 → j' < cc → 90 * d' + ch j' = idx → d' = dp ∧ j' = j := fun d' j' _ h2 e => by
    have := hcc j' h2
    have e1 : d' = dp := by omega
    exact ⟨e1, inj j' j h2 hj (by omega)⟩
  by_cases k0 : kn dp j = 0
  · have wr : Wr g mc bs c0 (c0 + 1) := ⟨⟨ok_K (by omega) s3, s4, by omega, s5, by omega⟩, ⟨by omega, by omega⟩, fun m hm => by have := s6 m hm; unfold Dj; omega⟩
    have wm : ∀ m, m < mc → Wm n m D := fun m hm => (C.2.2.1 m hm).2.2
    have rok := CR_ok (i := dp) (c := ch j % 3) wm hm
    obtain ⟨x, g1, e2, ⟨⟨f2, p1, p2⟩, t1⟩⟩ := Dc_s (N := N) (i := dp) (c := ch j % 3) Lg Cg wr hm (by omega) (by omega)
    rw [← eR'] at p1 p2 rok
    have Lg1 := Fx_Lay f2 Lg
    have okc : ok g1 [0] c0 = true := by rw [Fx_ok f2]; exact ok_K (by omega) s3
    have r100 := rok.2.1
    have r8 := rok.1
    obtain ⟨g2, eg2⟩ : ∃ g2, g2 = sI g1 21 idx (nI (kn1 R)) := ⟨_, rfl⟩
    have Lg2 : Lay g2 := by rw [eg2]; exact lay_s _ _ _ Lg1
    have mid : Search_lookAtItem_40 N (some 17) (nI (ch j)) (some (bs (ch j / 3))) (nI idx) (some c0) g = Search_lookAtItem_92 N (some 17) (nI idx) (some c0) g2 := by
      unfold Search_lookAtItem_40
      rw [gr_s (o17 Lg), r17_9 Lg, li_s (o21 Lg) (by rw [k21 Lg]; exact i1080) (by rw [k21 Lg]; decide), g21, if_pos ((eN_0 (by omega)).mpr k0), if_neg (by simp), gi_s (o17 Lg), eI 17 14 (by omega), e14, nz3, nI_mod3 (by omega), e2, cl_s, gr_s (o17 Lg1), r17_9 Lg1, p1]
      unfold Search_lookAtItem_90 Search_lookAtItem_91
      rw [eg2]
      unfold kn1
      by_cases q : R.1 = 0
      · rw [if_pos ((eN_0 (by omega)).mpr q), gi_s okc, (p2 q).1]
        by_cases u : 0 < R.2.1
        · rw [if_neg (fun v => absurd ((leN_0 (by omega)).mp v) (by omega)), if_pos ⟨q, u⟩, si_s (o21 Lg1) (by rw [k21 Lg1]; exact i1080) (by rw [k21 Lg1]; decide)]
          rfl
        · rw [if_pos ((leN_0 (by omega)).mpr (by omega)), if_neg (fun v => u v.2), si_s (o21 Lg1) (by rw [k21 Lg1]; exact i1080) (by rw [k21 Lg1]; decide)]
          rfl
      · rw [if_neg (fun v => q ((eN_0 (by omega)).mp v)), if_neg (fun v => q v.1), si_s (o21 Lg1) (by rw [k21 Lg1]; exact i1080) (by rw [k21 Lg1]; decide)]
        rfl
    have x2 : Fi (fun a k => PC c0 (c0 + 1) a k ∨ a = 21 ∧ k = idx) g g2 := by rw [eg2]; exact Fx_t (Fx_m f2 (fun _ _ q => Or.inl q) (fun _ _ q => q)) (Fx_sI _ _ (Or.inr ⟨rfl, rfl⟩))
    have y21 : hI g2 21 idx = nI (kn1 R) := by rw [eg2, sI_at]
    have yc : R.1 = 0 → hI g2 c0 1 = nI R.2.1 ∧ ∀ k, k < R.2.1 → hI g2 (c0 + 1) k = nI (R.2.2 k) := fun q => ⟨by rw [eg2, sI_ne (by omega)]; exact (p2 q).1, fun k hk => by rw [eg2, sI_ne (by omega)]; exact (p2 q).2 k hk⟩
    have y4 : hI g2 4 = bm (hI h 4) (CT D (ch j / 3) dp (ch j % 3)) := by
      rw [eg2, sI_row' (by omega), t1, show hI g 4 = hI h 4 from funext fun k => eI 4 k (by omega)]
    clear eg2
    obtain ⟨k1, k2, k3, k4⟩ := kn1_le R
    obtain ⟨h', e3, f3, u15, u16, u1, u2, u3⟩ := look_92 (N := N) (c0 := c0) Lg2 i1080 y21 k1
    rw [if_pos k0, if_pos k0, ← eR]
    have zg2 : hz g2 = hz g := Fx_z x2
    have eI3 : ∀ a k, a < hz g → ¬ (a = 17 ∧ k = 16) → hI h' a k = hI g2 a k := fun a k ha q => f3.2.2.1 a k (by omega) q
    have eR3 : ∀ i, hR h' 20 i = hR g 20 i := fun i => by rw [u3, Fx_R x2]
    refine ⟨h', by rw [pre, mid]; exact e3, ?_, ?_, ?_, ⟨fun d' j' h1 h2 => ?_, fun d' j' h1 h2 hk => ?_⟩, ?_, u16, GS_t G1 (GS_t (GS_F x2) (GS_s u3 u1 u2))⟩
    · refine Gx_t (Gx_m f1 (fun _ _ _ q => q.elim) (fun _ _ _ q => q) (fun a k _ q => Or.inr q)) (Gx_t (Gx_m (Gx_X x2) (fun a k _ q => ?_) (fun _ _ _ q => q) (fun _ _ _ q => q)) (Gx_m f3 (fun a k _ q => by unfold PL; omega) (fun _ _ _ q => q) (fun a k _ q => Or.inl q)))
      unfold PC at q
      unfold PL
      rcases q with (q | q | q) | q
      · exact Or.inl q
      · exact Or.inr (Or.inr (Or.inr ⟨by omega, by rw [q.1]; exact nb0⟩))
      · exact Or.inr (Or.inr (Or.inr ⟨by omega, by rw [q]; exact nb1⟩))
      · exact Or.inr (Or.inl q.1)
    · rw [← y4]
      exact funext fun k => eI3 4 k (by omega) (by omega)
    · have S2 : Sl g2 mc bs := Sl_g S1 zg (Gx_F x2) (fun _ _ _ q => q)
      exact Sl_g S2 (by omega) f3 (by omega)
    · rw [eI3 21 _ (by omega) (by omega), up2_at]
      by_cases q : d' = dp ∧ j' = j
      · rw [if_pos q, q.1, q.2, ← eidx]; exact y21
      · rw [if_neg q, Fx_I x2 (by
          rintro (u | u)
          · unfold PC at u; omega
          · exact q (iq d' j' h1 h2 u.2)), eI 21 _ (by omega)]
        exact K.1 d' j' h1 h2
    · rw [up2_at] at hk
      by_cases q : d' = dp ∧ j' = j
      · rw [if_pos q] at hk
        obtain ⟨a1, a2⟩ := k3 hk
        obtain ⟨b1, b2⟩ := yc a1
        rw [q.1, q.2, ← eR, ← eidx]
        exact ⟨c0, by rw [eR3]; exact r1, by rw [eI3 _ _ (by omega) (by omega)]; exact b1, fun k hk => by rw [eI3 _ _ (by omega) (by omega)]; exact b2 k hk⟩
      · rw [if_neg q] at hk
        obtain ⟨c', a1, a2, a3⟩ := K.2 d' j' h1 h2 hk
        have ne : 90 * d' + ch j' ≠ idx := fun e => q (iq d' j' h1 h2 e)
        have g1' : hR g 20 (90 * d' + ch j') = some c' := by rw [r2 _ ne]; exact a1
        have ch' := hcc j' h2
        have i1 : 90 * d' + ch j' < 1080 := by omega
        obtain ⟨⟨w1, w2⟩, -, -, -, w7⟩ := S1 _ i1 c' g1'
        have dj := w7 idx i1080 (fun e => ne e.symm) c0 r1
        have old := (S _ i1 c' a1).1.2
        refine ⟨c', by rw [eR3]; exact g1', ?_, fun k hk => ?_⟩
        · rw [eI3 _ _ (by omega) (by omega), Fx_I x2 (by unfold PC; omega), eI _ _ (by omega)]; exact a2
        · rw [eI3 _ _ (by omega) (by omega), Fx_I x2 (by unfold PC; omega), eI _ _ (by omega)]; exact a3 k hk
    · rw [u15, ← eidx, eR3, r1]
  · have mid : Search_lookAtItem_40 N (some 17) (nI (ch j)) (some (bs (ch j / 3))) (nI idx) (some c0) g = Search_lookAtItem_92 N (some 17) (nI idx) (some c0) g := by
      unfold Search_lookAtItem_40
      rw [gr_s (o17 Lg), r17_9 Lg, li_s (o21 Lg) (by rw [k21 Lg]; exact i1080) (by rw [k21 Lg]; decide), g21, if_neg (fun u => k0 ((eN_0 (by omega)).mp u))]
    obtain ⟨h', e3, f3, u15, u16, u1, u2, u3⟩ := look_92 (N := N) (c0 := c0) Lg i1080 g21 kv
    rw [if_neg k0, if_neg k0]
    have eI3 : ∀ a k, a < hz g → ¬ (a = 17 ∧ k = 16) → hI h' a k = hI g a k := fun a k ha q => f3.2.2.1 a k ha q
    have same : ∀ d' j', up2 kn dp j (kn dp j) d' j' = kn d' j' := fun d' j' => by
      rw [up2_at]
      by_cases q : d' = dp ∧ j' = j
      · rw [if_pos q, q.1, q.2]
      · rw [if_neg q]
    refine ⟨h', by rw [pre, mid]; exact e3, ?_, ?_, Sl_g S1 zg f3 (by omega), ⟨fun d' j' h1 h2 => ?_, fun d' j' h1 h2 hk => ?_⟩, ?_, u16, GS_t G1 (GS_s u3 u1 u2)⟩
    · exact Gx_t (Gx_m f1 (fun _ _ _ q => q.elim) (fun _ _ _ q => q) (fun a k _ q => Or.inr q)) (Gx_m f3 (fun a k _ q => by unfold PL; omega) (fun _ _ _ q => q) (fun a k _ q => Or.inl q))
    · exact funext fun k => by rw [eI3 4 k (by omega) (by omega), eI 4 k (by omega)]; rfl
    · rw [same, eI3 21 _ (by omega) (by omega), eI 21 _ (by omega)]; exact K.1 d' j' h1 h2
    · rw [same] at hk
      obtain ⟨c', a1, a2, a3⟩ := K.2 d' j' h1 h2 hk
      have ch' := hcc j' h2
      have i1 : 90 * d' + ch j' < 1080 := by omega
      have old := (S _ i1 c' a1).1.2
      refine ⟨c', ?_, ?_, fun k hk => ?_⟩
      · rw [u3]
        by_cases q : 90 * d' + ch j' = idx
        · rw [q] at a1 ⊢
          rw [(r3 c' a1).2]; exact a1
        · rw [r2 _ q]; exact a1
      · rw [eI3 _ _ (by have := f1.1; omega) (by have := (S _ i1 c' a1).1.1; omega), eI _ _ (by omega)]; exact a2
      · rw [eI3 _ _ (by have := f1.1; omega) (by have := (S _ i1 c' a1).1.1; omega), eI _ _ (by omega)]; exact a3 k hk
    · rw [u15, ← eidx, u3, r1]
