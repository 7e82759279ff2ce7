/-! PURE: items, ringing begun anew, bells -/
theorem Gx_sI {P Q R : Nat → Nat → Prop} (h : Hp) {a k : Nat} (x : Int32) (p : P a k) : Gx P Q R h (sI h a k x) := Gx_m (Gx_F (Fx_sI (P := P) (Q := Q) h x p)) (fun _ _ _ c => c) (fun _ _ _ c => c) (fun _ _ _ c => c.elim)
theorem Gx_sR {P Q R : Nat → Nat → Prop} (h : Hp) {a k : Nat} (x : Option Nat) (p : R a k) : Gx P Q R h (sR h a k x) := by
  refine ⟨Nat.le_refl _, fun _ _ => rfl, fun _ _ _ _ => rfl, fun _ _ _ _ => rfl, fun b j _ n => ?_⟩
  rw [hR_sR]
  by_cases c : b = a
  · subst c
    rw [if_pos rfl, up_at, if_neg (fun e => n (by rw [e]; exact p))]
  · rw [if_neg c]
theorem Gx_X {P Q R : Nat → Nat → Prop} {h h' : Hp} (f : Fx P Q h h') : Gx P Q R h h' := Gx_m (Gx_F f) (fun _ _ _ c => c) (fun _ _ _ c => c) (fun _ _ _ c => c.elim)
theorem sR_at (h : Hp) (a k : Nat) (x : Option Nat) : hR (sR h a k x) a k = x := by rw [hR_sR, if_pos rfl, up_at, if_pos rfl]
theorem sR_ne {h : Hp} {a k b j : Nat} {x : Option Nat} (e : b = a → j ≠ k) : hR (sR h a k x) b j = hR h b j := by
  rw [hR_sR]
  by_cases c : b = a
  · subst c
    rw [if_pos rfl, up_at, if_neg (e rfl)]
  · rw [if_neg c]
theorem meth_cs (x : Int32) (mc : Nat) : (∃ m, m < mc ∧ x = nI m) ∨ ∀ m, m < mc → x ≠ nI m := by
  by_cases c : ∃ m, m < mc ∧ x = nI m
  · exact Or.inl c
  · exact Or.inr (fun m hm e => c ⟨m, hm, e⟩)
theorem methodAt_y {N n mc m : Nat} {D : Nat → Md} {bs : Nat → Nat} {h : Hp} (L : Lay h) (C : Cs h n mc D bs) (hm : m < mc) : ds [(11, C_methodAt N (some 0) (nI m) h)] (some 0) h = some (some (bs m), h) := by
  have := C.2.1
  unfold C_methodAt
  rw [ds_1 (o0 L), if_neg (nI_pos (by omega)), gi_s (o0 L), C.1, if_pos ((nI_ltI (by omega) (by omega)).mpr hm), gr_s (o0 L), r0_2 L, lr_s (o5 L) (by rw [k5 L]; show m < 30; omega) (by rw [k5 L]; decide), (C.2.2.1 m hm).1]
theorem not_nI {x : Int32} {mc : Nat} (h30 : mc < 2 ^ 31) (hx : ∀ m, m < mc → x ≠ nI m) (c : ¬ x < 0) : ¬ x < nI mc ∧ nI mc ≤ x := by
  obtain ⟨m, hm, e⟩ := i32_of c
  subst e
  have : ¬ m < mc := fun q => hx m q rfl
  exact ⟨fun q => this ((nI_ltI hm h30).mp q), (nI_leI h30 hm).mpr (by omega)⟩
theorem methodAt_n {N n mc : Nat} {x : Int32} {D : Nat → Md} {bs : Nat → Nat} {h : Hp} (L : Lay h) (C : Cs h n mc D bs) (hx : ∀ m, m < mc → x ≠ nI m) : ds [(11, C_methodAt N (some 0) x h)] (some 0) h = some (none, h) := by
  have := C.2.1
  unfold C_methodAt C_methodAt_12
  rw [ds_1 (o0 L)]
  by_cases c : x < 0
  · rw [if_pos c]
  · rw [if_neg c, gi_s (o0 L), C.1, if_neg (not_nI (by omega) hx c).1]
theorem isMethod_y {N n mc m : Nat} {D : Nat → Md} {h : Hp} (L : Lay h) (C : Ms h n mc D) (hm : m < mc) : ds [(12, M_isMethod N (some 35) (nI m) h)] (some 35) h = some (1, h) := by
  have := C.2.1
  unfold M_isMethod
  rw [dM L, if_neg (nI_pos (by omega)), gi_s (o35 L), C.1, if_neg (fun q => by have := (nI_leI (by omega) (by omega)).mp q; omega), rz_1]
theorem isMethod_n {N n mc : Nat} {x : Int32} {D : Nat → Md} {h : Hp} (L : Lay h) (C : Ms h n mc D) (hx : ∀ m, m < mc → x ≠ nI m) : ds [(12, M_isMethod N (some 35) x h)] (some 35) h = some (0, h) := by
  have := C.2.1
  unfold M_isMethod
  rw [dM L]
  by_cases c : x < 0
  · rw [if_pos c, rz_0]
  · rw [if_neg c, gi_s (o35 L), C.1, if_pos (not_nI (by omega) hx c).2, rz_0]
theorem Ms_6 {n mc : Nat} {D : Nat → Md} {h : Hp} (L : Lay h) (M : Ms h n mc D) (c : Int32) : Ms (sI h 0 6 c) n mc D := Ms_g M L.1 (Gx_sI (P := fun a k => a = 0 ∧ k = 6) (Q := nF) (R := nF) h c ⟨rfl, rfl⟩) (by omega)
theorem call_cs (x : Int32) : (∃ c, c ≤ 2 ∧ x = nI c) ∨ (x < 0 ∨ ∃ m, 3 ≤ m ∧ m < 2 ^ 31 ∧ x = nI m) := by
  rcases i32_cs x with c | ⟨m, hm, e⟩
  · exact Or.inr (Or.inl c)
  · by_cases q : m ≤ 2
    · exact Or.inl ⟨m, q, e⟩
    · exact Or.inr (Or.inr ⟨m, by omega, hm, e⟩)
theorem isCall_y {N c : Nat} {h : Hp} (hc : c ≤ 2) : C_isCall N (nI c) h = some (1, h) := by
  unfold C_isCall
  rw [if_neg (nI_pos (by omega)), if_neg (fun q => by have := (Nle_3 (by omega)).mp q; omega), rz_1]
theorem isCall_n {N : Nat} {x : Int32} {h : Hp} (hx : x < 0 ∨ ∃ m, 3 ≤ m ∧ m < 2 ^ 31 ∧ x = nI m) : C_isCall N x h = some (0, h) := by
  unfold C_isCall
  rcases hx with c | ⟨m, h3, hm, e⟩
  · rw [if_pos c, rz_0]
  · rw [e, if_neg (nI_pos hm), if_pos ((Nle_3 hm).mpr h3), rz_0]
theorem Tc_mono {h : Hp} {n ic ic' : Nat} (t : Tc h n ic) (hi : ic ≤ ic') : Tc h n ic' := by
  obtain ⟨rc, rw, st, cm, ni, cn, ca, cf, ⟨w1, w2, w3, w4, w5, w6, w7⟩, C, M⟩ := t
  exact ⟨rc, rw, st, cm, ni, cn, ca, cf, ⟨w1, w2, w3, w4, w5, w6, fun e => ⟨Nat.le_trans (w7 e).1 hi, (w7 e).2⟩⟩, C, M⟩
theorem touch_C {N n mc ic m c : Nat} {D : Nat → Md} {bs : Nat → Nat} {h : Hp} (L : Lay h) (C : Cs h n mc D bs) (hm : m < mc) (hc : c ≤ 2) (t : hI h 6 2 = nI ic) (full : ic < 100) : ∃ h1, C_touch N (some 0) (nI m) (nI c) h = some (nI (ic + 1), h1) ∧ Gx (fun a k => a = 8 ∧ k = ic ∨ a = 6 ∧ k = 2 ∨ a = 0 ∧ k = 6) nF (fun a k => a = 7 ∧ k = ic) h h1 ∧ hR h1 7 ic = some (bs m) ∧ hI h1 8 ic = nI c ∧ hI h1 6 2 = nI (ic + 1) ∧ hI h1 0 6 = 0 ∧ hR h1 20 = hR h 20 ∧ hz h1 = hz h ∧ hs h1 = hs h := by
  have hb := (C.2.2.1 m hm).2.1
  have okb : ∀ b, some (bs m) = some b → ok h [1, 2, 3, 6, 7, 10] b = true := by
    intro b e
    cases e
    exact CM_ok hb kc_in
  have g1 : Gx (fun a k => a = 8 ∧ k = ic ∨ a = 6 ∧ k = 2 ∨ a = 0 ∧ k = 6) nF (fun a k => a = 7 ∧ k = ic) h (sR h 7 ic (some (bs m))) := Gx_sR h _ ⟨rfl, rfl⟩
  have L1 := Gx_Lay g1 L (by unfold Rc; omega)
  have e1 : hI (sR h 7 ic (some (bs m))) 6 2 = nI ic := t
  have v7 : hR (sR h 7 ic (some (bs m))) 7 ic = some (bs m) := sR_at ..
  have v20 : hR (sR h 7 ic (some (bs m))) 20 = hR h 20 := by rw [hR_sR, if_neg (by omega)]
  have vz : hz (sR h 7 ic (some (bs m))) = hz h := hz_sR ..
  have vs : hs (sR h 7 ic (some (bs m))) = hs h := hs_sR ..
  have eC : C_touch N (some 0) (nI m) (nI c) h = cl (gr [9] 1 (some 6) (sR h 7 ic (some (bs m))) fun x5 =>
  gi [9] 2 (some 6) (sR h 7 ic (some (bs m))) fun x6 =>
  si x5 x6 (nI c) (sR h 7 ic (some (bs m))) fun h7 =>
  gi [9] 2 (some 6) h7 fun x8 =>
  pi [9] 2 (some 6) (x8 + (1 : Int32)) h7 fun h9 =>
  some ((), h9)) fun _ h8 =>
  gr [11] 7 (some 0) h8 fun x9 =>
  gi [9] 2 x9 h8 fun x10 =>
  cl (ds [(11, C_finds N (some 0) 0 x10 h8)] (some 0) h8) fun x12 h11 =>
  some (x12, h11) := by
    unfold C_touch Touch_addItem
    rw [methodAt_y L C hm, cl_s, if_neg (by simp), isCall_y hc, cl_s, if_neg i10, gr_s (o0 L), r0_7 L, gi_s (o6 L), t, if_pos ((ltN_100 (by omega)).mpr full), gr_s (o0 L), r0_7 L, ds_1 (o6 L), gi_s (o6 L), t, if_neg (fun q => by have := (Nle_100 (by omega)).mp q; omega), gr_s (o6 L), r6_0 L, gi_s (o6 L), t, sr_s (o7 L) (by rw [k7 L]; exact full) (by rw [k7 L]; decide) okb]
  generalize sR h 7 ic (some (bs m)) = g at g1 L1 e1 v7 v20 vz vs eC
  have e2 : hI (sI g 8 ic (nI c)) 6 2 = nI ic := by rw [sI_ne (by omega)]; exact e1
  refine ⟨sI (sI (sI g 8 ic (nI c)) 6 2 (nI (ic + 1))) 0 6 0, ?_, Gx_t (Gx_t (Gx_t g1 (Gx_sI _ _ (by omega))) (Gx_sI _ _ (by omega))) (Gx_sI _ _ (by omega)), ?_, ?_, ?_, sI_at .., ?_, ?_, ?_⟩
  · rw [eC, gr_s (o6 L1), r6_1 L1, gi_s (o6 L1), e1, si_s (o8 L1) (by rw [k8 L1]; exact full) (by rw [k8 L1]; decide)]
    have L2 : Lay (sI g 8 ic (nI c)) := L1
    rw [gi_s (o6 L2), e2, nI_1, pi_s (o6 L2), cl_s]
    have L3 : Lay (sI (sI g 8 ic (nI c)) 6 2 (nI (ic + 1))) := L1
    rw [gr_s (o0 L3), r0_7 L3, gi_s (o6 L3), sI_at, C_finds_s L3, cl_s]
  · rw [hR_sI, hR_sI, hR_sI]; exact v7
  · rw [sI_ne (by omega), sI_ne (by omega), sI_at]
  · rw [sI_ne (by omega), sI_at]
  · rw [hR_sI, hR_sI, hR_sI]; exact v20
  · rw [hz_sI, hz_sI, hz_sI]; exact vz
  · rw [hs_sI, hs_sI, hs_sI]; exact vs
theorem touch_M {N n mc ic m c : Nat} {D : Nat → Md} {h : Hp} (L : Lay h) (C : Ms h n mc D) (hm : m < mc) (hc : c ≤ 2) (t : hI h 35 19 = nI ic) (full : ic < 100) : ∃ h1, M_touch N (some 35) (nI m) (nI c) h = some (nI (ic + 1), h1) ∧ Fi (fun a k => a = 35 ∧ (k = 3 ∨ k = 19) ∨ a = 46 ∧ k = ic ∨ a = 47 ∧ k = ic) h h1 ∧ hI h1 46 ic = nI m ∧ hI h1 47 ic = nI c ∧ hI h1 35 19 = nI (ic + 1) ∧ hI h1 35 3 = 0 := by
  refine ⟨sI (sI (sI (sI h 35 3 0) 46 ic (nI m)) 47 ic (nI c)) 35 19 (nI (ic + 1)), ?_, Fx_t (Fx_t (Fx_t (Fx_sI h _ (by omega)) (Fx_sI _ _ (by omega))) (Fx_sI _ _ (by omega))) (Fx_sI _ _ (by omega)), ?_, ?_, sI_at .., ?_⟩
  · unfold M_touch M_touch_36
    rw [isMethod_y L C hm, cl_s, if_neg i10, if_neg (nI_pos (by omega)), if_neg (fun q => by have := (Nlt_2 (by omega)).mp q; omega), gi_s (o35 L), t, if_neg (fun q => by have := (eN_100 (by omega)).mp q; omega), M_finds_0 L, cl_s, if_pos rfl]
    simp only [gi_s, gl_s, gr_s, pi_s, pl_s, cl_s, ds_1, ck_s, nmE, ok_sI, ok_sL, hK_sI, hK_sL, hR_sI, hR_sL, hL_sI, Lay_sI, Lay_sL, r35_0, r35_4, r35_6, r35_7, r35_8, r35_9, r35_10, r35_11, r35_12, r35_13, r35_17, r35_18, r35_20, r35_23, r35_28, r35_29, r35_31, r35_32, r35_40, r35_42, r35_45, r35_46, r35_47, r35_49, r35_52, r35_54, r35_57, r35_58, o35, o36, o37, o38, o39, o40, o41, o42, o43, o44, o45, o46, o47, o48, o49, o50, o51, o52, o53, o54, o55, o56, o57, o58, o59, o60, o61, o62, o63, L, hI_sI, up_at, reduceIte, Nat.reduceEqDiff, si_s, k46, k47, full, t, nI_1, Nat.reducePow, Nat.reduceLT]
  · rw [sI_ne (by omega), sI_ne (by omega), sI_at]
  · rw [sI_ne (by omega), sI_at]
  · rw [sI_ne (by omega), sI_ne (by omega), sI_ne (by omega), sI_at]
theorem touch_36 {N : Nat} {x y c : Int32} {h : Hp} (L : Lay h) (hc : ¬ c = 0) : M_touch_36 N (some 35) x y (some 35) c h = some (0, sI h 35 3 c) := by
  unfold M_touch_36
  rw [M_finds_1 L hc, cl_s, if_neg i10]
theorem op_touch {N : Nat} {x y : Int32} {h : Hp} (I : Inv h) : Op (C_touch N (some 0) x y) (M_touch N (some 35) x y) h := by
  obtain ⟨n, mc, D, bs, ic, im, ik, i1, i2, i3, i4, i5, i6, i7, i8, i9, i10', i11, i12⟩ := id I
  have L := i1.1
  obtain ⟨t1, t2, t3, t4⟩ := i8
  rcases meth_cs x mc with ⟨m, hm, e⟩ | hx
  · subst e
    rcases call_cs y with ⟨c, hc, e⟩ | hy
    · subst e
      by_cases full : ic < 100
      · have z := L.1
        obtain ⟨h1, eC, G4, v7, v8, v6, v0, v20, vz, vs⟩ := touch_C (N := N) L i6 hm hc t3.1 full
        have L4 := Gx_Lay G4 L (by unfold Rc; omega)
        have M1 : Ms h1 n mc D := Ms_g i5 z G4 (by omega)
        obtain ⟨h2, eM, x0, w46, w47, w19, w3⟩ := touch_M (N := N) L4 M1 hm hc (by rw [Gx_I G4 z (by omega) (by omega)]; exact t4.1) full
        have G : Gx (fun a k => a = 8 ∧ k = ic ∨ a = 6 ∧ k = 2 ∨ a = 0 ∧ k = 6 ∨ a = 35 ∧ (k = 3 ∨ k = 19) ∨ a = 46 ∧ k = ic ∨ a = 47 ∧ k = ic) nF (fun a k => a = 7 ∧ k = ic) h h2 := Gx_t (Gx_m G4 (fun a k _ c => by omega) (fun _ _ _ c => c) (fun _ _ _ c => c)) (Gx_m (Gx_X (R := fun a k => a = 7 ∧ k = ic) x0) (fun a k _ c => by omega) (fun _ _ _ c => c) (fun _ _ _ c => c))
        refine ⟨nI (ic + 1), h1, h2, eC, eM, ?_, ?_, L4⟩
        · have r' : ∀ (X : Nat → Nat → Prop) a k, X a k → ¬ nF a k := fun _ _ _ _ c => c
          refine ⟨n, mc, D, bs, ic + 1, va_up im ic m, va_up ik ic c, Bs_g i1 G ?_ ?_, Tr_g i2 z G ?_, ?_, Tp_g i4 z G ?_, Ms_g i5 z G ?_, Cs_g i6 z G ?_ ?_, Rg_g i7 z G ?_, ⟨by omega, fun j hj => ?_, ⟨?_, fun j hj => ?_⟩, ⟨w19, fun j hj => ?_⟩⟩, Tc_mono (Tc_g i9 z G ?_ (r' _)) (by omega), Pf_g i10' z G ?_, Ot_g i11 z G ?_ (r' _), Sr_g i12 i6.2.1 z G ?_ (r' _) ?_⟩ <;> first | (intro a k c d; omega) | (unfold Rc; intro a k c d; omega) | skip
          · unfold Fdn
            rw [w3, Fx_I x0 (by omega)]; exact v0
          · rw [up_at, up_at]
            by_cases q : j = ic
            · rw [if_pos q, if_pos q]; exact ⟨hm, hc⟩
            · rw [if_neg q, if_neg q]; exact t2 j (by omega)
          · rw [Fx_I x0 (by omega)]; exact v6
          · rw [up_at, up_at]
            by_cases q : j = ic
            · subst q
              rw [if_pos rfl, if_pos rfl, Fx_R x0, Fx_I x0 (by omega)]; exact ⟨v7, v8⟩
            · rw [if_neg q, if_neg q, Gx_R G z (by omega) (by omega), Gx_I G z (by omega) (by omega)]; exact t3.2 j (by omega)
          · rw [up_at, up_at]
            by_cases q : j = ic
            · subst q
              rw [if_pos rfl, if_pos rfl]; exact ⟨w46, w47⟩
            · rw [if_neg q, if_neg q, Gx_I G z (by omega) (by omega), Gx_I G z (by omega) (by omega)]; exact t4.2 j (by omega)
        · unfold Gr nn
          rw [Fx_R x0, Fx_z x0, Fx_s x0, v20, vz, vs]
          omega
      · have e100 : ic = 100 := by omega
        refine Op_F I 0 2 ?_ ?_
        · unfold C_touch C_touch_36
          rw [methodAt_y L i6 hm, cl_s, if_neg (by simp), isCall_y hc, cl_s, if_neg i10, gr_s (o0 L), r0_7 L, gi_s (o6 L), t3.1, if_neg (fun q => full ((ltN_100 (by omega)).mp q)), C_finds_s L, cl_s]
        · unfold M_touch M_touch_31
          rw [isMethod_y (LF L 2) (Ms_6 L i5 2) hm, cl_s, if_neg i10, if_neg (nI_pos (by omega)), if_neg (fun q => by have := (Nlt_2 (by omega)).mp q; omega), gi_s (o35 (LF L 2)), sI_ne (by omega), t4.1, if_pos ((eN_100 (by omega)).mpr e100), touch_36 (LF L 2) i20]
          rfl
    · refine Op_F I 0 2 ?_ ?_
      · unfold C_touch C_touch_36
        rw [methodAt_y L i6 hm, cl_s, if_neg (by simp), isCall_n hy, cl_s, if_pos rfl, C_finds_s L, cl_s]
      · unfold M_touch M_touch_31
        rw [isMethod_y (LF L 2) (Ms_6 L i5 2) hm, cl_s, if_neg i10]
        rcases hy with c | ⟨k, k3, hk, e⟩
        · rw [if_pos c, touch_36 (LF L 2) i20]; rfl
        · rw [e, if_neg (nI_pos hk), if_pos ((Nlt_2 hk).mpr (by omega)), touch_36 (LF L 2) i20]; rfl
  · refine Op_F I 0 4 ?_ ?_
    · unfold C_touch
      rw [methodAt_n L i6 hx, cl_s, if_pos rfl, C_finds_s L, cl_s]
    · unfold M_touch
      rw [isMethod_n (LF L 4) (Ms_6 L i5 4) hx, cl_s, if_pos rfl, touch_36 (LF L 4) i40]
      rfl
/-! begun anew -/
def PT (a k : Nat) : Prop := a = 6 ∧ 7 ≤ k ∧ k ≤ 13 ∨ a = 9 ∧ k = 3 ∨ a = 10 ∨ a = 12 ∨ a = 13 ∧ k = 1
theorem anew_C {N n sz : Nat} {w : Nat → Int64} {h : Hp} (hN : 3000 < N) (L : Lay h) (H : Hs h 9 10 11 12 2001 sz w) (e3 : hI h 6 3 = nI n) (e4 : hL h 6 4 = lN (rd n)) : ∃ h', ds [(9, Touch_beginAnew N (some 6) h)] (some 6) h = some ((), h') ∧ Fx PT (fun a k => a = 11) h h' ∧ TC h' n 1 (fun _ => rd n) false none 0 0 0 (fun _ => 0) := by
  have h2 := H.2.1
  obtain ⟨h1, a1, a2, a3⟩ := keepFirst_s (N := N) 0 (by omega) (RO_9 L) H (by omega)
  have L1 := Fx_Lay a2 L
  rw [show min sz 0 = 0 by omega] at a3
  obtain ⟨h2, b1, b2, b3, -⟩ := add_s (N := N) (lN (rd n)) (RO_9 L1) a3 (by omega)
  have L2 := Fx_Lay b2 L1
  have x0 : Fi (fun a k => a = 6 ∧ 7 ≤ k ∧ k ≤ 13 ∨ a = 13 ∧ k = 1) h2 (sI (sI (sI (sI (sI (sI (sI h2 13 1 0) 6 7 0) 6 8 0) 6 9 0) 6 10 (-1)) 6 11 (-1)) 6 13 0) := by
    refine Fx_t (Fx_t (Fx_t (Fx_t (Fx_t (Fx_t (Fx_sI h2 _ ?_) (Fx_sI _ _ ?_)) (Fx_sI _ _ ?_)) (Fx_sI _ _ ?_)) (Fx_sI _ _ ?_)) (Fx_sI _ _ ?_)) (Fx_sI _ _ ?_) <;> omega
  have x1 : Fx PT (fun a k => a = 11) h (sI (sI (sI (sI (sI (sI (sI h2 13 1 0) 6 7 0) 6 8 0) 6 9 0) 6 10 (-1)) 6 11 (-1)) 6 13 0) := Fx_t (Fx_t (Fx_m a2 (fun a k c => by unfold PR at c; unfold PT; omega) (fun _ _ c => c.elim)) (Fx_m b2 (fun a k c => by unfold PR at c; unfold PT; omega) (fun a k c => c.1))) (Fx_m x0 (fun a k c => by unfold PT; omega) (fun _ _ c => c.elim))
  have ab : Fx PT (fun a k => a = 11) h h2 := Fx_t (Fx_m a2 (fun a k c => by unfold PR at c; unfold PT; omega) (fun _ _ c => c.elim)) (Fx_m b2 (fun a k c => by unfold PR at c; unfold PT; omega) (fun a k c => c.1))
  refine ⟨_, ?_, x1, ?_⟩
  · unfold Touch_beginAnew
    rw [ds_1 (o6 L), gr_s (o6 L), r6_5 L, ds_1 (o9 L), show Rows_keepFirst N (some 9) 0 h = _ from a1, cl_s, gr_s (o6 L1), r6_5 L1, gl_s (o6 L1), Fi_L a2, e4, ds_1 (o9 L1), b1, cl_s, gr_s (o6 L2), r6_6 L2]
    simp only [pi_s, pz_s, ok_sI, o6, o13, L2, true_or]
  · have H2 := Hs_f b3 x0 (by omega) (by omega) (by omega) (fun _ c => c)
    refine ⟨Hs_congr H2 (fun j hj => ?_), ⟨?_, ?_⟩, ?_, ?_, Or.inl ⟨?_, fun i j h1 h2 => ?_⟩, ⟨0, by omega, ?_, fun e => by omega⟩, fun _ => ⟨?_, ?_, ?_, fun k hk => by omega⟩⟩
    · rw [show j = 0 by omega, up_at, if_pos rfl]
    · rw [Fx_I x1 (by unfold PT; omega)]; exact e3
    · rw [Fx_L x1 (by omega)]; exact e4
    · rw [sI_ne (by omega), sI_ne (by omega), sI_ne (by omega), sI_at]; rfl
    · rw [sI_ne (by omega), sI_ne (by omega), sI_at]; rfl
    · rw [sI_ne (by omega), sI_at]
    · rw [mnt] at h2; omega
    · rw [sI_at]; rfl
    · rw [sI_ne (by omega), sI_ne (by omega), sI_ne (by omega), sI_ne (by omega), sI_at]; rfl
    · rw [sI_ne (by omega), sI_ne (by omega), sI_ne (by omega), sI_ne (by omega), sI_ne (by omega), sI_ne (by omega), sI_at]; rfl
    · rw [sI_ne (by omega), sI_ne (by omega), sI_ne (by omega), sI_ne (by omega), sI_ne (by omega), sI_at]; rfl
theorem sl_0 {β : Type} {a : Nat} {x : Int64} {h : Hp} {f : Hp → Option β} (o : ok h [14] a = true) (hj : 0 < (hK h a).2) (hn : (hK h a).2 < 2 ^ 31) : sl (some a) 0 x h f = f (sL h a 0 x) := sl_s (j := 0) o hj hn
theorem anew_M {N n : Nat} {h : Hp} (hN : 100 < N) (L : Lay h) (hM : Mn h n) : ∃ h', ds [(12, M_anew N (some 35) h)] (some 35) h = some ((), h') ∧ Fx (fun a k => a = 35 ∧ 21 ≤ k ∧ k ≤ 27) (fun a k => a = 48) h h' ∧ TM h' 1 (fun _ => rd n) false none 0 0 0 (fun _ => 0) := by
  have x0 : Fx (fun a k => a = 35 ∧ 21 ≤ k ∧ k ≤ 27) (fun a k => a = 48) h (sI (sI (sI (sI (sI (sI (sL h 48 0 (lN (rd n))) 35 21 1) 35 22 0) 35 24 0) 35 25 0) 35 26 0) 35 27 (-1)) := by
    refine Fx_t (Fx_t (Fx_t (Fx_t (Fx_t (Fx_t (Fx_sL h _ rfl) (Fx_sI _ _ ?_)) (Fx_sI _ _ ?_)) (Fx_sI _ _ ?_)) (Fx_sI _ _ ?_)) (Fx_sI _ _ ?_)) (Fx_sI _ _ ?_) <;> omega
  refine ⟨_, ?_, x0, fun j hj => ?_, ?_, ?_, ?_, fun _ => ⟨?_, ?_, ?_, fun k hk => by omega⟩⟩
  · unfold M_anew
    rw [dM L, gr_s (o35 L), r35_20 L, dM L, M_rounds_s (by omega) hM, cl_s, sl_0 (o48 L) (by rw [k48 L]; decide) (by rw [k48 L]; decide)]
    simp only [pi_s, pz_s, ok_sI, ok_sL, o35, L, true_or]
  · rw [show j = 0 by omega]
    simp only [hL_sI]
    exact sL_at ..
  · rw [sI_ne (by omega), sI_ne (by omega), sI_ne (by omega), sI_ne (by omega), sI_ne (by omega), sI_at]; rfl
  · rw [sI_ne (by omega), sI_at]; rfl
  · rw [sI_at]; rfl
  · rw [sI_ne (by omega), sI_ne (by omega), sI_ne (by omega), sI_ne (by omega), sI_at]; rfl
  · rw [sI_ne (by omega), sI_ne (by omega), sI_ne (by omega), sI_at]; rfl
  · rw [sI_ne (by omega), sI_ne (by omega), sI_at]; rfl
theorem TW_1 {n ic : Nat} (hn : n ≤ 12) : TW n ic 1 (fun _ => rd n) false none 0 0 0 (fun _ => 0) :=
  ⟨⟨by omega, by omega⟩, fun _ _ => rd_rw hn, rfl, fun c e => by simp at e, fun j h1 h2 => by omega, fun e => by omega, fun _ => ⟨by omega, by omega, by omega, fun k hk => by omega⟩⟩
theorem op_ring {N : Nat} {h : Hp} (hN : 3000 < N) (I : Inv h) : Op (C_ring N (some 0)) (M_ring N (some 35)) h := by
  obtain ⟨n, mc, D, bs, ic, im, ik, i1, i2, i3, i4, i5, i6, i7, i8, ⟨rc, rw, st, cm, ni, cn, ca, cf, W, C, M⟩, i10', i11, i12⟩ := id I
  have L := i1.1
  obtain ⟨h1, a1, a2, a3⟩ := anew_C hN L C.1 C.2.1.1 C.2.1.2
  have L1 := Fx_Lay a2 L
  obtain ⟨h2, b1, b2, b3⟩ := anew_M (N := N) (n := n) (by omega) L1 ⟨o35 L1, by rw [Fx_I a2 (by unfold PT; omega)]; exact i1.2.1.2, i1.2.2⟩
  have x0 : Fx (fun a k => PT a k ∨ a = 35 ∧ 21 ≤ k ∧ k ≤ 27) (fun a k => a = 11 ∨ a = 48) h h2 := Fx_t (Fx_m a2 (fun _ _ c => Or.inl c) (fun _ _ c => Or.inl c)) (Fx_m b2 (fun _ _ c => Or.inr c) (fun _ _ c => Or.inr c))
  refine ⟨1, h1, h2, ?_, ?_, ?_, Gr_F x0, L1⟩
  · unfold C_ring
    rw [gr_s (o0 L), r0_7 L, a1, cl_s]
  · unfold M_ring
    rw [b1, cl_s]
  · have f := Gx_F x0
    have z := L.1
    have r' : ∀ (X : Nat → Nat → Prop) a k, X a k → ¬ nF a k := fun _ _ _ _ c => c
    refine ⟨n, mc, D, bs, ic, im, ik, Bs_g i1 f ?_ (r' _), Tr_g i2 z f ?_, Fdn_g i3 z f ?_, Tp_g i4 z f ?_, Ms_g i5 z f ?_, Cs_g i6 z f ?_ (r' _), Rg_g i7 z f ?_, It_g i8 z f ?_ (r' _), ⟨1, fun _ => rd n, false, none, 0, 0, 0, fun _ => 0, TW_1 i1.2.2.2, TC_g a3 (by rw [Fx_z a2]; exact z) (Gx_F b2) ?_ ?_, b3⟩, Pf_g i10' z f ?_, Ot_g i11 z f ?_ ?_, Sr_g i12 i6.2.1 z f ?_ ?_ (r' _)⟩ <;> first | (intro a k c d; omega) | (unfold PT; intro a k c d; omega)
theorem op_clear {N : Nat} {h : Hp} (hN : 3000 < N) (I : Inv h) : Op (C_clear N (some 0)) (M_clear N (some 35)) h := by
  obtain ⟨n, mc, D, bs, ic, im, ik, i1, i2, i3, i4, i5, i6, i7, i8, ⟨rc, rw, st, cm, ni, cn, ca, cf, W, C, M⟩, i10', i11, i12⟩ := id I
  have L := i1.1
  have z := L.1
  have f0 : Fi (fun a k => a = 6 ∧ k = 2) h (sI h 6 2 0) := Fx_sI h _ ⟨rfl, rfl⟩
  obtain ⟨h1, a1, a2, a3⟩ := anew_C (h := sI h 6 2 0) hN L (Hs_f C.1 f0 (by omega) (by omega) (by omega) (fun _ c => c)) (by rw [sI_ne (by omega)]; exact C.2.1.1) C.2.1.2
  have L1 : Lay h1 := Fx_Lay a2 L
  have a5 : Fx (fun a k => PT a k ∨ a = 6 ∧ k = 2) (fun a k => a = 11) h h1 := Fx_t (Fx_m f0 (fun _ _ c => Or.inr c) (fun _ _ c => c.elim)) (Fx_m a2 (fun _ _ c => Or.inl c) (fun _ _ c => c))
  obtain ⟨h2, b1, b2, b3⟩ := anew_M (N := N) (n := n) (h := sI h1 35 19 0) (by omega) L1 ⟨o35 L1, by rw [sI_ne (by omega), Fx_I a5 (by unfold PT; omega)]; exact i1.2.1.2, i1.2.2⟩
  have b5 : Fx (fun a k => a = 35 ∧ 21 ≤ k ∧ k ≤ 27 ∨ a = 35 ∧ k = 19) (fun a k => a = 48) h1 h2 := Fx_t (Fx_sI h1 _ (by omega)) (Fx_m b2 (fun _ _ c => Or.inl c) (fun _ _ c => c))
  have x0 : Fx (fun a k => PT a k ∨ a = 6 ∧ k = 2 ∨ a = 35 ∧ 21 ≤ k ∧ k ≤ 27 ∨ a = 35 ∧ k = 19) (fun a k => a = 11 ∨ a = 48) h h2 := Fx_t (Fx_m a5 (fun _ _ c => by rcases c with c | c; exact Or.inl c; exact Or.inr (Or.inl c)) (fun _ _ c => Or.inl c)) (Fx_m b5 (fun _ _ c => Or.inr (Or.inr c)) (fun _ _ c => Or.inr c))
  refine ⟨1, h1, h2, ?_, ?_, ?_, Gr_F x0, L1⟩
  · unfold C_clear
    rw [gr_s (o0 L), r0_7 L, pi_s (o6 L), gr_s (show ok (sI h 6 2 0) [11] 0 = true from o0 L), show hR (sI h 6 2 0) 0 7 = some 6 from r0_7 L, a1, cl_s]
  · unfold M_clear
    rw [pi_s (o35 L1), b1, cl_s]
  · have f := Gx_F x0
    have r' : ∀ (X : Nat → Nat → Prop) a k, X a k → ¬ nF a k := fun _ _ _ _ c => c
    refine ⟨n, mc, D, bs, 0, im, ik, Bs_g i1 f ?_ (r' _), Tr_g i2 z f ?_, Fdn_g i3 z f ?_, Tp_g i4 z f ?_, Ms_g i5 z f ?_, Cs_g i6 z f ?_ (r' _), Rg_g i7 z f ?_, ⟨by omega, fun j hj => by omega, ⟨?_, fun j hj => by omega⟩, ⟨?_, fun j hj => by omega⟩⟩, ⟨1, fun _ => rd n, false, none, 0, 0, 0, fun _ => 0, TW_1 i1.2.2.2, TC_g a3 (by rw [Fx_z a5]; exact z) (Gx_F b5) ?_ ?_, b3⟩, Pf_g i10' z f ?_, Ot_g i11 z f ?_ ?_, Sr_g i12 i6.2.1 z f ?_ ?_ (r' _)⟩ <;> first | (intro a k c d; omega) | (unfold PT; intro a k c d; omega) | skip
    · rw [Fx_I b5 (by omega), Fx_I a2 (by unfold PT; omega), sI_at]; rfl
    · rw [Fx_I b2 (by omega), sI_at]; rfl
