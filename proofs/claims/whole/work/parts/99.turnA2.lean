/-! PURE: the search, by the class: a turn without a row -/
def PS (mc : Nat) (bs : Nat → Nat) (a k : Nat) : Prop := a = 17 ∧ 14 ≤ k ∧ k ≤ 18 ∨ a = 4 ∨ a = 21 ∨ a = 22 ∧ k = 3 ∨ a = 23 ∨ 25 ≤ a ∧ a ≤ 28 ∨ 64 ≤ a ∧ NB mc bs a
def QS (a k : Nat) : Prop := a = 24
theorem PS_nb {mc : Nat} {bs : Nat → Nat} {a k : Nat} (q : PS mc bs a k) (h : 64 ≤ a) : NB mc bs a := by
  unfold PS at q
  rcases q with q | q | q | q | q | q | q
  all_goals first | exact q.2 | (exfalso; omega)
theorem PL_PS {mc : Nat} {bs : Nat → Nat} {a k : Nat} (q : PL mc bs a k) : PS mc bs a k := by
  unfold PL at q
  unfold PS
  rcases q with q | q | q | q
  · exact Or.inr (Or.inl q)
  · exact Or.inr (Or.inr (Or.inl q))
  · exact Or.inl ⟨q.1, by omega, by omega⟩
  · exact Or.inr (Or.inr (Or.inr (Or.inr (Or.inr (Or.inr q)))))
/-- what a turn leaves -/
def TR (h h' : Hp) (n mc : Nat) (D : Nat → Md) (bs : Nat → Nat) (cc : Nat) (ch : Nat → Nat) (len wd pat out : Nat) (S : SS) (rows : Nat) (T : List Nat) : Prop :=
  Gx (PS mc bs) QS RL h h' ∧ hI h' 4 = bm (hI h 4) T ∧ hI h' 17 18 = hI h 17 18 + nI rows ∧ hI h' 17 17 = nI out ∧ Sl h' mc bs ∧ hI h' 26 0 = 0 ∧ (∃ sz w, Hs h' 22 23 24 25 1201 sz w) ∧ GS h h' ∧ (out = 2 → LCs h' n D bs cc ch len wd pat S) ∧
  (out = 1 → hI h' 17 3 = nI len ∧ ∀ i, i < len → 1 ≤ S.2.1 i ∧ S.2.1 i ≤ cc ∧ hI h' 27 i = nI (S.2.1 i - 1) ∧ hI h' 18 (S.2.1 i - 1) = nI (ch (S.2.1 i - 1)))
theorem leave_C {N dp f sz : Nat} {w : Nat → Int64} {h : Hp} (hN : 3000 < N) (L : Lay h) (e14 : hI h 17 14 = nI dp) (d12 : dp < 12) (e28 : hI h 28 dp = nI f) (fs : f ≤ sz) (H : Hs h 22 23 24 25 1201 sz w) : ∃ h', ds [(5, Search_leaveItem N (some 17) h)] (some 17) h = some ((), h') ∧ Gx (fun a k => a = 22 ∧ k = 3 ∨ a = 23 ∨ a = 25) nF (fun a k => a = 17 ∧ k = 15) h h' ∧ hR h' 17 15 = none ∧ Hs h' 22 23 24 25 1201 f w ∧ (hz h' = hz h ∧ hs h' = hs h ∧ hR h' 20 = hR h 20) := by
  have s1 := H.2.1
  obtain ⟨g, e1, x1, H1⟩ := keepFirst_s (N := N) f (by omega) (RO_22 L) H (by omega)
  have L1 := Fx_Lay x1 L
  have x1' : Fi (fun a k => a = 22 ∧ k = 3 ∨ a = 23 ∨ a = 25) h g := Fx_m x1 (fun a k q => by unfold PR at q; omega) (fun _ _ q => q)
  have f2 : Gx (fun a k => a = 22 ∧ k = 3 ∨ a = 23 ∨ a = 25) nF (fun a k => a = 17 ∧ k = 15) g (sR g 17 15 none) := Gx_sR g _ ⟨rfl, rfl⟩
  refine ⟨sR g 17 15 none, ?_, Gx_t (Gx_X x1') f2, sR_at .., ?_, by rw [hz_sR]; exact Fx_z x1, by rw [hs_sR]; exact Fx_s x1, ?_⟩
  · rw [ds5 L]
    unfold Search_leaveItem
    rw [gr_s (o17 L), r17_10 L, gr_s (o17 L), r17_13 L, gi_s (o17 L), e14, li_s (o28 L) (by rw [k28 L]; exact d12) (by rw [k28 L]; decide), e28, ds_1 (o22 L), e1, cl_s, pr_s (o17 L1)]
  · rw [Nat.min_eq_right fs] at H1
    obtain ⟨h1, h2, h3, h4, h5⟩ := H1
    exact ⟨h1, h2, h3, h4, h5⟩
  · rw [← Fx_R x1]
    exact funext fun i => sR_ne (by omega)
theorem LK_g {P Q R : Nat → Nat → Prop} {h h' : Hp} {mc : Nat} {D : Nat → Md} {bs : Nat → Nat} {cc : Nat} {ch : Nat → Nat} {kn : Nat → Nat → Nat} (K : LK h D cc ch kn) (S : Sl h mc bs) (c90 : ∀ j, j < cc → ch j < 90) (z : 64 ≤ hz h) (f : Gx P Q R h h') (p : ∀ a k, P a k → a ≠ 21 ∧ a < 64) (r : ∀ a k, R a k → a ≠ 20) : LK h' D cc ch kn := by
  refine ⟨fun d j hd hj => by rw [Gx_I f z (by omega) (fun q => (p _ _ q).1 rfl)]; exact K.1 d j hd hj, fun d j hd hj hk => ?_⟩
  obtain ⟨c, a1, a2, a3⟩ := K.2 d j hd hj hk
  have := c90 j hj
  obtain ⟨⟨s1, s2⟩, -⟩ := S (90 * d + ch j) (by omega) c a1
  exact ⟨c, by rw [Gx_R f z (by omega) (fun q => r _ _ q rfl)]; exact a1, by rw [f.2.2.1 _ _ (by omega) (fun q => by have := (p _ _ q).2; omega)]; exact a2, fun k hk => by rw [f.2.2.1 _ _ (by omega) (fun q => by have := (p _ _ q).2; omega)]; exact a3 k hk⟩
theorem turnA {N n mc : Nat} {D : Nat → Md} {bs : Nat → Nat} {cc : Nat} {ch : Nat → Nat} {len wd pat dp : Nat} {tk fr : Nat → Nat} {sz : Nat} {w : Nat → Nat} {ga : Nat} {kn : Nat → Nat → Nat} {re : Option Nat → Int32 → Int32 → Hp → Option (Int32 × Hp)} {x y : Int32} {h : Hp} (hN : 3000 < N) (L : Lay h) (C : Cs h n mc D bs) (S : Sl h mc bs) (b : LW n mc D cc ch len wd pat dp tk fr sz w false ga kn) (c : LC h n D bs cc ch len wd pat dp tk fr sz w false ga kn) (e17 : hI h 17 17 = nI 2) :
    ∃ h', Search_seek_32 N re (some 17) x y h = Search_seek_92 N re (some 17) x y h' ∧ TR h h' n mc D bs cc ch len wd pat (stA D cc ch dp tk fr sz w kn).1 (stA D cc ch dp tk fr sz w kn).2.1 0 (stA D cc ch dp tk fr sz w kn).2.2 := by
  have z := L.1
  have m30 := C.2.1
  have c90 := LW_90 b m30
  obtain ⟨⟨b1, b2, b3⟩, ⟨c1, c2, c3, c4, c5⟩, b4, b5, b6, b7, b8, b9, b10, b11, b12, b13⟩ := b
  obtain ⟨d1, d2, ⟨d3, d4, d5⟩, ⟨d6, d7, d8⟩, d9, d10, d11, d12, d13, d14, d15⟩ := c
  have sf := b11 rfl
  have dl : dp < 12 := by omega
  have f1 := b6 dp (Nat.le_refl _)
  have g0 : hI h 26 0 = 0 := by rw [d11 0 (by omega)]; rfl
  obtain ⟨h4, eh4⟩ : ∃ h4, h4 = sI h 27 dp (nI (tk dp)) := ⟨_, rfl⟩
  have x4 : Fi (fun a k => a = 27 ∧ k = dp) h h4 := by rw [eh4]; exact Fx_sI _ _ ⟨rfl, rfl⟩
  have v4 : hI h4 27 dp = nI (tk dp) := by rw [eh4, sI_at]
  have L4 := Fx_Lay x4 L
  have z4 := L4.1
  have e14 : hI h4 17 14 = nI dp := by rw [Fx_I x4 (by omega)]; exact d5
  have k0 : (nI (tk dp) - 1 : Int32) + 1 = nI (tk dp) := Int32.sub_add_cancel _ _
  have preT : ds [(5, Search_takesNextChoice N (some 17) h)] (some 17) h = if nI cc ≤ nI (tk dp) then (if nI dp ≤ 0 then some (0, sI h4 17 17 0) else (cl (ds [(5, Search_leaveItem N (some 17) (sI h4 17 14 (nI dp - 1)))] (some 17) (sI h4 17 14 (nI dp - 1))) fun _ h13 => rz 0 h13)) else some (1, h4) := by
    rw [ds5 L]
    unfold Search_takesNextChoice
    rw [gr_s (o17 L), r17_12 L, gi_s (o17 L), d5, li_s (o27 L) (by rw [k27 L]; exact dl) (by rw [k27 L]; decide), (d9 dp (Nat.le_refl _)).1, k0, si_s (o27 L) (by rw [k27 L]; exact dl) (by rw [k27 L]; decide), ← eh4, gr_s (o17 L4), r17_12 L4, gi_s (o17 L4), e14, li_s (o27 L4) (by rw [k27 L4]; exact dl) (by rw [k27 L4]; decide), v4, gi_s (o17 L4), Fx_I x4 (show ¬ (17 = 27 ∧ 2 = dp) by omega), d1, gi_s (o17 L4), e14, pi_s (o17 L4), rz_0, gi_s (o17 L4), e14, pi_s (o17 L4), rz_1]
  have C4 : Cs h4 n mc D bs := Cs_g C z (Gx_F x4) (by omega) (fun _ _ _ q => q)
  have S4 : Sl h4 mc bs := Sl_g S z (Gx_F x4) (fun _ _ _ q => q)
  have K4 : LK h4 D cc ch kn := LK_g ⟨d12, d13⟩ S c90 z (Gx_F x4) (fun a k q => by omega) (fun _ _ q => q.elim)
  have pre0 : Search_seek_32 N re (some 17) x y h = cl (ds [(5, Search_takesNextChoice N (some 17) h)] (some 17) h) fun x3 h2 =>
    if x3 = 0 then (Search_seek_92 N re (some 17) x y h2) else (gr [5] 0 (some 17) h2 fun x4 =>
    gr [5] 12 (some 17) h2 fun x5 =>
    gi [5] 14 (some 17) h2 fun x6 =>
    li 13 x5 x6 h2 fun x7 =>
    li 13 x4 x7 h2 fun x8 =>
    gr [5] 1 (some 17) h2 fun x9 =>
    gr [5] 12 (some 17) h2 fun x10 =>
    gi [5] 14 (some 17) h2 fun x11 =>
    li 13 x10 x11 h2 fun x12 =>
    lr 18 x9 x12 h2 fun x13 =>
    cl (ds [(5, Search_lookAtItem N (some 17) x8 x13 h2)] (some 17) h2) fun _ h14 =>
    Search_seek_92 N re (some 17) x y h14) := by
    unfold Search_seek_32
    rw [gr_s (o17 L), d14 rfl, if_pos rfl]
  clear eh4
  by_cases q : tk dp < cc
  · obtain ⟨h', e1, f2, t2, S2, K2, u15, u16, G2⟩ := look_C (N := N) L4 C4 S4 K4 b2 b3 e14 dl q (b13 dp (tk dp) dl q).1
    have F : Gx (PS mc bs) QS RL h h' := Gx_t (Gx_m (Gx_X x4) (fun a k _ q => by unfold PS; omega) (fun _ _ _ q => q.elim) (fun _ _ _ q => q)) (Gx_m f2 (fun a k _ q => PL_PS q) (fun _ _ _ q => q.elim) (fun _ _ _ q => q))
    have eI : ∀ a k, a < 64 → ¬ (a = 27 ∧ k = dp) → a ≠ 4 → a ≠ 21 → ¬ (a = 17 ∧ k = 16) → hI h' a k = hI h a k := fun a k ha n1 n2 n3 n4 => by rw [Gx_I f2 z4 ha (by unfold PL; omega), Fx_I x4 n1]
    have eL : ∀ a k, a < 64 → hL h' a k = hL h a k := fun a k ha => by rw [Gx_L f2 z4 ha (fun q => q), Fi_L x4]
    have eR : ∀ a k, a < 64 → ¬ RL a k → hR h' a k = hR h a k := fun a k ha n => by rw [Gx_R f2 z4 ha n, Fx_R x4]
    unfold stA
    rw [if_pos q]
    have kk : (if kn dp (tk dp) = 0 then kn1 (LRd D ch dp (tk dp)) else kn dp (tk dp)) = knA D ch dp tk kn := rfl
    rw [kk] at K2 u15
    have tu : va_up tk dp (tk dp + 1) dp = tk dp + 1 := by rw [up_at, if_pos rfl]
    refine ⟨h', ?_, F, ?_, ?_, ?_, S2, ?_, ⟨sz, fun j => lN (w j), ?_⟩, GS_t (GS_F x4) G2, fun _ => ?_, fun u => absurd (show (2 : Nat) = 1 from u) (by decide)⟩
    · rw [pre0, preT, if_neg (fun u => absurd ((nI_leI (by omega) (by omega)).mp u) (by omega)), cl_s, if_neg i10, gr_s (o17 L4), r17_0 L4, gr_s (o17 L4), r17_12 L4, gi_s (o17 L4), e14, li_s (o27 L4) (by rw [k27 L4]; exact dl) (by rw [k27 L4]; decide), v4, li_s (o18 L4) (by rw [k18 L4]; show tk dp < 90; omega) (by rw [k18 L4]; decide), Fx_I x4 (by omega), (d2 (tk dp) q).1, gr_s (o17 L4), r17_1 L4, gr_s (o17 L4), r17_12 L4, gi_s (o17 L4), e14, li_s (o27 L4) (by rw [k27 L4]; exact dl) (by rw [k27 L4]; decide), v4, lr_s (o19 L4) (by rw [k19 L4]; show tk dp < 90; omega) (by rw [k19 L4]; decide), Fx_R x4, (d2 (tk dp) q).2, e1, cl_s]
    · rw [t2, Fx_row x4 (by omega)]
    · rw [eI _ _ (by omega) (by omega) (by omega) (by omega) (by omega)]; exact (Int32.add_zero _).symm
    · rw [eI _ _ (by omega) (by omega) (by omega) (by omega) (by omega)]; exact e17
    · rw [eI _ _ (by omega) (by omega) (by omega) (by omega) (by omega)]; exact g0
    · exact Hs_g (Hs_f d10 x4 (by omega) (by omega) (by omega) (fun _ q => q)) z4 f2 (by omega) (by unfold PL; omega) (by unfold PL; omega) (by unfold PL; omega) (fun _ q => q)
    · refine ⟨?_, fun j hj => ⟨?_, ?_⟩, ⟨?_, ?_, ?_⟩, ⟨?_, ?_, ?_⟩, fun d hd => ⟨?_, ?_⟩, ?_, fun j hj => ?_, K2.1, K2.2, fun e => ?_, fun e => ⟨?_, u16⟩⟩
      · rw [eI _ _ (by omega) (by omega) (by omega) (by omega) (by omega)]; exact d1
      · rw [eI _ _ (by omega) (by omega) (by omega) (by omega) (by omega)]; exact (d2 j hj).1
      · rw [eR _ _ (by omega) (by unfold RL; omega)]; exact (d2 j hj).2
      · rw [eI _ _ (by omega) (by omega) (by omega) (by omega) (by omega)]; exact d3
      · rw [eI _ _ (by omega) (by omega) (by omega) (by omega) (by omega)]; exact d4
      · rw [eI _ _ (by omega) (by omega) (by omega) (by omega) (by omega)]; exact d5
      · rw [eL _ _ (by omega)]; exact d6
      · rw [eL _ _ (by omega)]; exact d7
      · rw [eL _ _ (by omega)]; exact d8
      · have hd' : d ≤ dp := hd
        show hI h' 27 d = nI (va_up tk dp (tk dp + 1) d) - 1
        by_cases u : d = dp
        · rw [u, tu, sN_1 (by omega), Gx_I f2 z4 (by omega) (by unfold PL; omega), v4]; rfl
        · rw [up_at, if_neg u, eI _ _ (by omega) (by omega) (by omega) (by omega) (by omega)]; exact (d9 d hd).1
      · rw [eI _ _ (by omega) (by omega) (by omega) (by omega) (by omega)]; exact (d9 d hd).2
      · exact Hs_g (Hs_f d10 x4 (by omega) (by omega) (by omega) (fun _ q => q)) z4 f2 (by omega) (by unfold PL; omega) (by unfold PL; omega) (by unfold PL; omega) (fun _ q => q)
      · rw [eI _ _ (by omega) (by omega) (by omega) (by omega) (by omega)]; exact d11 j hj
      · have e' : ¬ knA D ch dp tk kn = 1 := of_decide_eq_false e
        show hR h' 17 15 = none
        rw [u15, if_neg e']
      · have e' : knA D ch dp tk kn = 1 := of_decide_eq_true e
        show hR h' 17 15 = hR h' 20 (90 * dp + ch (va_up tk dp (tk dp + 1) dp - 1))
        rw [u15, if_pos e', tu]; rfl
  · have tc : tk dp = cc := by omega
    unfold stA
    rw [if_neg q]
    by_cases d0 : dp = 0
    · rw [if_pos d0]
      have x5 : Fi (fun a k => a = 27 ∧ k = dp ∨ a = 17 ∧ k = 17) h (sI h4 17 17 0) := Fx_t (Fx_m x4 (fun _ _ q => Or.inl q) (fun _ _ q => q)) (Fx_sI _ _ (by omega))
      refine ⟨sI h4 17 17 0, ?_, Gx_m (Gx_X x5) (fun a k _ q => by unfold PS; omega) (fun _ _ _ q => q.elim) (fun _ _ _ q => q), ?_, ?_, ?_, Sl_g S z (Gx_F x5) (fun _ _ _ q => q), ?_, ⟨sz, fun j => lN (w j), Hs_f d10 x5 (by omega) (by omega) (by omega) (fun _ q => q)⟩, GS_F x5, fun u => absurd (show (0 : Nat) = 2 from u) (by decide), fun u => absurd (show (0 : Nat) = 1 from u) (by decide)⟩
      · rw [pre0, preT, if_pos ((nI_leI (by omega) (by omega)).mpr (by omega)), if_pos ((leN_0 (by omega)).mpr (by omega)), cl_s, if_pos rfl]
      · rw [Fx_row x5 (by omega)]; rfl
      · rw [Fx_I x5 (by omega)]; exact (Int32.add_zero _).symm
      · rw [sI_at]; rfl
      · rw [Fx_I x5 (by omega)]; exact g0
    · rw [if_neg d0]
      have x5 : Fi (fun a k => a = 27 ∧ k = dp ∨ a = 17 ∧ k = 14) h (sI h4 17 14 (nI (dp - 1))) := Fx_t (Fx_m x4 (fun _ _ q => Or.inl q) (fun _ _ q => q)) (Fx_sI _ _ (by omega))
      have L5 := Fx_Lay x5 L
      have fm := b7 (dp - 1) (by omega)
      have v5 : hI (sI h4 17 14 (nI (dp - 1))) 17 14 = nI (dp - 1) := sI_at ..
      obtain ⟨h', e1, f2, u15, H2, w1, w2, w3⟩ := leave_C (N := N) (f := fr (dp - 1)) (sz := sz) hN L5 v5 (by omega) (by rw [Fx_I x5 (by omega)]; exact (d9 (dp - 1) (by omega)).2) (by omega) (Hs_f d10 x5 (by omega) (by omega) (by omega) (fun _ q => q))
      have z5 := L5.1
      have eI : ∀ a k, a < 64 → ¬ (a = 27 ∧ k = dp ∨ a = 17 ∧ k = 14) → ¬ (a = 22 ∧ k = 3 ∨ a = 23 ∨ a = 25) → hI h' a k = hI h a k := fun a k ha n1 n2 => by rw [Gx_I f2 z5 ha n2, Fx_I x5 n1]
      have eL : ∀ a k, a < 64 → hL h' a k = hL h a k := fun a k ha => by rw [Gx_L f2 z5 ha (fun q => q), Fi_L x5]
      have eR : ∀ a k, a < 64 → ¬ (a = 17 ∧ k = 15) → hR h' a k = hR h a k := fun a k ha n => by rw [Gx_R f2 z5 ha n, Fx_R x5]
      have S5 : Sl (sI h4 17 14 (nI (dp - 1))) mc bs := Sl_g S z (Gx_F x5) (fun _ _ _ q => q)
      have K5 : LK (sI h4 17 14 (nI (dp - 1))) D cc ch kn := LK_g ⟨d12, d13⟩ S c90 z (Gx_F x5) (fun a k q => by omega) (fun _ _ q => q.elim)
      have K6 : LK h' D cc ch kn := LK_g K5 S5 c90 z5 f2 (fun a k q => by omega) (fun a k q => by omega)
      refine ⟨h', ?_, Gx_t (Gx_m (Gx_X x5) (fun a k _ q => by unfold PS; omega) (fun _ _ _ q => q.elim) (fun _ _ _ q => q)) (Gx_m f2 (fun a k _ q => by unfold PS; omega) (fun _ _ _ q => q.elim) (fun a k _ q => Or.inl q)), ?_, ?_, ?_, Sl_g S5 z5 f2 (by omega), ?_, ⟨_, _, H2⟩, GS_t (GS_F x5) (GS_s w3 w1 w2), fun _ => ?_, fun u => absurd (show (2 : Nat) = 1 from u) (by decide)⟩
      · rw [pre0, preT, if_pos ((nI_leI (by omega) (by omega)).mpr (by omega)), if_neg (fun u => d0 (by have := (leN_0 (by omega)).mp u; omega)), nI_m1 (by omega), e1, cl_s, rz_0, cl_s, if_pos rfl]
      · exact funext fun k => by rw [eI _ _ (by omega) (by omega) (by omega)]; rfl
      · rw [eI _ _ (by omega) (by omega) (by omega)]; exact (Int32.add_zero _).symm
      · rw [eI _ _ (by omega) (by omega) (by omega)]; exact e17
      · rw [eI _ _ (by omega) (by omega) (by omega)]; exact g0
      · refine ⟨?_, fun j hj => ⟨?_, ?_⟩, ⟨?_, ?_, ?_⟩, ⟨?_, ?_, ?_⟩, fun d hd => ⟨?_, ?_⟩, H2, fun j hj => ?_, K6.1, K6.2, fun _ => u15, fun e => (by cases e)⟩
        · rw [eI _ _ (by omega) (by omega) (by omega)]; exact d1
        · rw [eI _ _ (by omega) (by omega) (by omega)]; exact (d2 j hj).1
        · rw [eR _ _ (by omega) (by omega)]; exact (d2 j hj).2
        · rw [eI _ _ (by omega) (by omega) (by omega)]; exact d3
        · rw [eI _ _ (by omega) (by omega) (by omega)]; exact d4
        · rw [Gx_I f2 z5 (by omega) (by omega)]; exact v5
        · rw [eL _ _ (by omega)]; exact d6
        · rw [eL _ _ (by omega)]; exact d7
        · rw [eL _ _ (by omega)]; exact d8
        · have hd' : d ≤ dp - 1 := hd
          rw [eI _ _ (by omega) (by omega) (by omega)]; exact (d9 d (by omega)).1
        · have hd' : d ≤ dp - 1 := hd
          rw [eI _ _ (by omega) (by omega) (by omega)]; exact (d9 d (by omega)).2
        · have hj' : j < fr (dp - 1) := hj
          rw [eI _ _ (by omega) (by omega) (by omega)]; exact d11 j (by omega)
