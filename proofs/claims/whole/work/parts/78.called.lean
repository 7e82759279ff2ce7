/-! PURE: called, allow, part -/
def dCall (d : Md) (c p k : Nat) : Md := (kd d, ln d, ld d, va_up (cp d) c (some p), va_up (cc d) c k, pt d, aw d)
theorem called_C {N n mc m c p k : Nat} {D : Nat → Md} {bs : Nat → Nat} {h : Hp} (B : Bs h n) (C : Cs h n mc D bs) (hm : m < mc) (k5 : kd (D m) ≠ 5) (h1c : 1 ≤ c) (hc : c ≤ 2) (hp : p < 2 ^ 31) (hk : Ch n k) : ∃ h1, C_called N (some 0) (nI m) (nI c) (nI p) (nI k) h = some (1, h1) ∧ Fi (fun a j => (a = bs m + 3 ∨ a = bs m + 4) ∧ j = c ∨ a = 17 ∧ j = 19 ∨ a = 0 ∧ j = 6) h h1 ∧ hI h1 17 19 = 1 ∧ hI h1 0 6 = 0 ∧ Cs h1 n mc (va_up D m (dCall (D m) c p k)) bs := by
  have La := B.1
  obtain ⟨-, cm, w⟩ := C.2.2.1 m hm
  obtain ⟨b64, bz⟩ := blk cm
  have okb := CM_ok cm kc_in
  have ok3 : ok h [13] (bs m + 3) = true := ok_K (by omega) cm.2.1.2.2.2.1
  have ok4 : ok h [13] (bs m + 4) = true := ok_K (by omega) cm.2.1.2.2.2.2.1
  have K3 := cm.2.1.2.2.2.1
  have K4' := cm.2.1.2.2.2.2.1
  have x0 : Fi (fun a j => (a = bs m + 3 ∨ a = bs m + 4) ∧ j = c ∨ a = 17 ∧ j = 19 ∨ a = 0 ∧ j = 6) h (sI (sI (sI (sI h (bs m + 3) c (nI p)) (bs m + 4) c (nI k)) 17 19 1) 0 6 0) := Fx_t (Fx_t (Fx_t (Fx_sI h _ (by omega)) (Fx_sI _ _ (by omega))) (Fx_sI _ _ (by omega))) (Fx_sI _ _ (by omega))
  have isC : Rows_isChange N (nI k) (nI n) h = some (1, h) := by
    rcases isChange_2 (N := N) (nI k) B.2.2.1 B.2.2.2 with ⟨v, -, -, q, -⟩ | ⟨q, -⟩
    · exact q h
    · have := q h
      rcases Rows_isChange_s (N := N) (x := nI k) (h := h) (n := n) (by have := B.2.2.1; omega) B.2.2.2 with ⟨-, g⟩ | ⟨g, -⟩
      · exact g
      · exact absurd hk (g k (Nat.lt_of_lt_of_le (ch_lt B.2.2.2 hk) (by decide)) rfl)
  have e45 : C_called_45 N (some 0) (nI c) (nI p) (nI k) (some (bs m)) h = some (1, sI (sI (sI (sI h (bs m + 3) c (nI p)) (bs m + 4) c (nI k)) 17 19 1) 0 6 0) := by
    unfold C_called_45
    rw [if_pos (show (0 : Int32) ≤ nI p from (Nle_0 hp).mpr (by omega)), gi_s (o0 La), n0 B, isC, cl_s, if_neg i10, gr_s okb, cm.2.2.1.2.2.1, si_s ok3 (by rw [K3]; show c < 3; omega) (by rw [K3]; decide)]
    rw [gr_s (show ok (sI h (bs m + 3) c (nI p)) [1, 2, 3, 6, 7, 10] (bs m) = true from okb), hR_sI, cm.2.2.1.2.2.2.1, si_s (show ok (sI h (bs m + 3) c (nI p)) [13] (bs m + 4) = true from ok4) (by rw [hK_sI, K4']; show c < 3; omega) (by rw [hK_sI, K4']; decide)]
    simp only [gr_s, pz_s, ok_sI, hR_sI, o0, o17, r0_8, La, or_true]
    rw [C_finds_s (show Lay (sI (sI (sI h (bs m + 3) c (nI p)) (bs m + 4) c (nI k)) 17 19 1) from La), cl_s]
  have eC : C_called N (some 0) (nI m) (nI c) (nI p) (nI k) h = some (1, sI (sI (sI (sI h (bs m + 3) c (nI p)) (bs m + 4) c (nI k)) 17 19 1) 0 6 0) := by
    unfold C_called
    rw [methodAt_y La C hm, cl_s, if_neg (by simp), io_6 cm w.1, if_neg k5, if_pos rfl]
    by_cases q : c = 1
    · rw [if_pos ((eN_1 (by omega)).mpr q), e45]
    · rw [if_neg (fun u => q ((eN_1 (by omega)).mp u)), if_pos ((eN_2 (by omega)).mpr (by omega)), e45]
  have v1 : hI (sI (sI (sI (sI h (bs m + 3) c (nI p)) (bs m + 4) c (nI k)) 17 19 1) 0 6 0) 17 19 = 1 := by rw [sI_ne (by omega), sI_at]
  have v2 : hI (sI (sI (sI (sI h (bs m + 3) c (nI p)) (bs m + 4) c (nI k)) 17 19 1) 0 6 0) 0 6 = 0 := sI_at ..
  have v3 : hI (sI (sI (sI (sI h (bs m + 3) c (nI p)) (bs m + 4) c (nI k)) 17 19 1) 0 6 0) (bs m + 3) c = nI p := by rw [sI_ne (by omega), sI_ne (by omega), sI_ne (by omega), sI_at]
  have v4 : hI (sI (sI (sI (sI h (bs m + 3) c (nI p)) (bs m + 4) c (nI k)) 17 19 1) 0 6 0) (bs m + 4) c = nI k := by rw [sI_ne (by omega), sI_ne (by omega), sI_at]
  generalize sI (sI (sI (sI h (bs m + 3) c (nI p)) (bs m + 4) c (nI k)) 17 19 1) 0 6 0 = h1 at x0 eC v1 v2 v3 v4
  refine ⟨h1, eC, x0, v1, v2, ?_⟩
  obtain ⟨u1, u2, u3, ⟨i0, i1⟩, u5, u6, ⟨u7, u8⟩, u9, u10⟩ := cm
  have ecp : ∀ q, cp (dCall (D m) c p k) q = if q = c then some p else cp (D m) q := fun q => rfl
  have ecc : ∀ q, cc (dCall (D m) c p k) q = if q = c then k else cc (D m) q := fun q => rfl
  refine Cs_up C La.1 hm (Gx_F x0) (fun a j q => by omega) (fun a j q => q.elim) rfl (CM_re ⟨u1, u2, u3, ⟨i0, i1⟩, u5, u6, ⟨u7, u8⟩, u9, u10⟩ (Gx_F x0) (fun _ _ _ _ q => q) rfl ⟨?_, ?_⟩ (fun M e => ⟨?_, ?_, fun j hj => ?_⟩) (fun e => ⟨?_, ?_⟩) ⟨?_, fun q h1 h2 => ?_⟩ (fun q h1 h2 h3 => ?_) (fun e => absurd e k5)) (Wm_me rfl w.2.1 (fun q p' e => ?_) w.2.2.2.1 w.2.2.2.2.1 w.2.2.2.2.2.1 (fun e => absurd e k5) w.1)
  · rw [Fx_I x0 (by omega)]; exact i0
  · rw [Fx_I x0 (by omega)]; exact i1
  · rw [Fx_I x0 (by omega)]; exact (u5 M e).1
  · rw [Fx_I x0 (by omega)]; exact (u5 M e).2.1
  · rw [Fx_I x0 (by omega)]; exact (u5 M e).2.2 j hj
  · rw [Fx_I x0 (by omega)]; exact (u6 e).1
  · rw [Fx_I x0 (by omega)]; exact (u6 e).2
  · rw [Fx_I x0 (by omega)]; exact u7
  · rw [ecp]
    by_cases e : q = c
    · rw [if_pos e, e]; exact v3
    · rw [if_neg e, Fx_I x0 (by omega)]; exact u8 q h1 h2
  · rw [ecp] at h3
    rw [ecc]
    by_cases e : q = c
    · rw [if_pos e, e]; exact v4
    · rw [if_neg e] at h3 ⊢
      rw [Fx_I x0 (by omega)]; exact u9 q h1 h2 h3
  · rw [ecp] at e
    rw [ecc]
    by_cases q' : q = c
    · rw [if_pos q'] at e ⊢
      cases e; exact ⟨hp, hk⟩
    · rw [if_neg q'] at e ⊢
      exact w.2.2.1 q p' e
theorem op_called {N : Nat} {x y u v : Int32} {h : Hp} (I : Inv h) : Op (C_called N (some 0) x y u v) (M_called N (some 35) x y u v) h := by
  obtain ⟨n, mc, D, bs, ic, im, ik, i1, i2, i3, i4, i5, i6, i7, i8, i9, i10', i11, i12⟩ := id I
  have L := i1.1
  have z := L.1
  have m61 : ∀ (c : Int32) (h : Hp), Lay h → ¬ c = 0 → M_called_61 N (some 35) x y u v (some 35) c h = some (0, sI h 35 3 c) := by
    intro c h L hc
    unfold M_called_61
    rw [M_finds_1 L hc, cl_s, if_neg i10]
  rcases meth_cs x mc with ⟨m, hm, e⟩ | hx
  · subst e
    have m30 := i6.2.1
    obtain ⟨-, c, w⟩ := i6.2.2.1 m hm
    have w1 := w.1
    have MMm := (i5.2.2 m hm).1
    have preM : ∀ h', Lay h' → Ms h' n mc D → M_called N (some 35) (nI m) y u v h' = if kd (D m) = 5 then M_called_61 N (some 35) (nI m) y u v (some 35) 9 h' else (if y < 1 then M_called_61 N (some 35) (nI m) y u v (some 35) 2 h' else if 2 < y then M_called_61 N (some 35) (nI m) y u v (some 35) 2 h' else if 0 ≤ u then (cl (M_isChange N (some 35) v h') fun x6 h5 => if x6 = 0 then (M_called_61 N (some 35) (nI m) y u v (some 35) 8 h5) else (M_called_61 N (some 35) (nI m) y u v (some 35) 0 h5)) else M_called_61 N (some 35) (nI m) y u v (some 35) 2 h') := by
      intro h' L' M'
      have mm := (M'.2.2 m hm).1
      unfold M_called M_called_42
      rw [isMethod_y L' M' hm, cl_s, if_neg i10, gr_s (o35 L'), r35_6 L', li_s (o38 L') (by rw [k38 L']; show m < 30; omega) (by rw [k38 L']; decide), mm.1, dM L']
      by_cases q : kd (D m) = 5
      · rw [if_pos ((eN_5 (by omega)).mpr q), if_pos q]
      · rw [if_neg (fun u => q ((eN_5 (by omega)).mp u)), if_neg q]
    by_cases k5 : kd (D m) = 5
    · refine Op_F I 0 9 ?_ ?_
      · unfold C_called
        rw [methodAt_y L i6 hm, cl_s, if_neg (by simp), io_6 c w.1, if_pos k5, if_neg i10, C_finds_s L, cl_s]
      · rw [preM _ (LF L 9) (Ms_6 L i5 9), if_pos k5, m61 9 _ (LF L 9) (by decide)]
        rfl
    have two : C_called N (some 0) (nI m) y u v h = some (0, sI h 0 6 2) → (y < 1 ∨ 2 < y ∨ ¬ 0 ≤ u) → Op (C_called N (some 0) (nI m) y u v) (M_called N (some 35) (nI m) y u v) h := by
      intro eC d
      refine Op_F I 0 2 eC ?_
      rw [preM _ (LF L 2) (Ms_6 L i5 2), if_neg k5]
      by_cases d1 : y < 1
      · rw [if_pos d1, m61 2 _ (LF L 2) i20]; rfl
      · rw [if_neg d1]
        by_cases d2 : 2 < y
        · rw [if_pos d2, m61 2 _ (LF L 2) i20]; rfl
        · rw [if_neg d2, if_neg ((d.resolve_left d1).resolve_left d2), m61 2 _ (LF L 2) i20]; rfl
    have e49 : C_called_49 N (some 0) h = some (0, sI h 0 6 2) := by
      unfold C_called_49
      rw [C_finds_s L, cl_s]
    by_cases yc : y = 1 ∨ y = 2
    · obtain ⟨q, q1, q2, eq⟩ : ∃ q, 1 ≤ q ∧ q ≤ 2 ∧ y = nI q := by
        rcases yc with e | e
        · exact ⟨1, by omega, by omega, e⟩
        · exact ⟨2, by omega, by omega, e⟩
      have preC : C_called N (some 0) (nI m) y u v h = C_called_45 N (some 0) y u v (some (bs m)) h := by
        unfold C_called
        rw [methodAt_y L i6 hm, cl_s, if_neg (by simp), io_6 c w.1, if_neg k5, if_pos rfl]
        by_cases y1 : y = 1
        · rw [if_pos y1]
        · rw [if_neg y1, if_pos (yc.resolve_left y1)]
      rcases i32_cs u with cu | ⟨p, hp, eu⟩
      · have u0 : ¬ (0 : Int32) ≤ u := (i32_n cu 0 (by omega)).2.1
        refine two ?_ (Or.inr (Or.inr u0))
        rw [preC]
        unfold C_called_45
        rw [if_neg u0, e49]
      · subst eu
        have u0 : (0 : Int32) ≤ nI p := (Nle_0 hp).mpr (by omega)
        have y1 : ¬ y < 1 := by rw [eq]; exact fun w => by have := (ltN_1 (by omega)).mp w; omega
        have y2 : ¬ 2 < y := by rw [eq]; exact fun w => by have := (Nlt_2 (by omega)).mp w; omega
        rcases isChange_2 (N := N) v i1.2.2.1 i1.2.2.2 with ⟨k, ek, hk, g, g'⟩ | ⟨g, g'⟩
        · subst ek
          have kl := ch_lt i1.2.2.2 hk
          subst eq
          obtain ⟨h1, eC, x0, v1, v2, C1⟩ := called_C (N := N) i1 i6 hm k5 q1 q2 hp hk
          have L1 := Fx_Lay x0 L
          have b64 := CM_64 c
          have M1 : Ms h1 n mc D := Ms_g i5 z (Gx_F x0) (by omega)
          have x1 : Fi (fun a j => a = 35 ∧ (j = 3 ∨ j = 34) ∨ (a = 41 ∨ a = 42) ∧ j = 3 * m + q) h1 (sI (sI (sI (sI h1 35 3 0) 41 (3 * m + q) (nI p)) 42 (3 * m + q) (nI k)) 35 34 1) := Fx_t (Fx_t (Fx_t (Fx_sI h1 _ (by omega)) (Fx_sI _ _ (by omega))) (Fx_sI _ _ (by omega))) (Fx_sI _ _ (by omega))
          have eM : M_called N (some 35) (nI m) (nI q) (nI p) (nI k) h1 = some (1, sI (sI (sI (sI h1 35 3 0) 41 (3 * m + q) (nI p)) 42 (3 * m + q) (nI k)) 35 34 1) := by
            rw [preM _ L1 M1, if_neg k5, if_neg y1, if_neg y2, if_pos u0, g' _ ⟨o35 L1, by rw [Fx_I x0 (by omega)]; exact i1.2.1.2, i1.2.2⟩, cl_s, if_neg i10]
            unfold M_called_61
            rw [M_finds_0 L1, cl_s, if_pos rfl, mN_3, nI_add]
            have L2 : Lay (sI h1 35 3 0) := L1
            have L3 : Lay (sI (sI h1 35 3 0) 41 (3 * m + q) (nI p)) := L1
            rw [gr_s (o35 L2), r35_9 L2, si_s (o41 L2) (by rw [k41 L2]; show _ < 90; omega) (by rw [k41 L2]; decide), gr_s (o35 L3), r35_10 L3, si_s (o42 L3) (by rw [k42 L3]; show _ < 90; omega) (by rw [k42 L3]; decide), pz_1 (show ok (sI (sI (sI h1 35 3 0) 41 (3 * m + q) (nI p)) 42 (3 * m + q) (nI k)) [12] 35 = true from o35 L1)]
          have v3 : hI (sI (sI (sI (sI h1 35 3 0) 41 (3 * m + q) (nI p)) 42 (3 * m + q) (nI k)) 35 34 1) 41 (3 * m + q) = nI p := by rw [sI_ne (by omega), sI_ne (by omega), sI_at]
          have v3' : hI (sI (sI (sI (sI h1 35 3 0) 41 (3 * m + q) (nI p)) 42 (3 * m + q) (nI k)) 35 34 1) 42 (3 * m + q) = nI k := by rw [sI_ne (by omega), sI_at]
          have v4 : hI (sI (sI (sI (sI h1 35 3 0) 41 (3 * m + q) (nI p)) 42 (3 * m + q) (nI k)) 35 34 1) 35 34 = 1 := sI_at ..
          have v5 : hI (sI (sI (sI (sI h1 35 3 0) 41 (3 * m + q) (nI p)) 42 (3 * m + q) (nI k)) 35 34 1) 35 3 = 0 := by rw [sI_ne (by omega), sI_ne (by omega), sI_ne (by omega), sI_at]
          generalize sI (sI (sI (sI h1 35 3 0) 41 (3 * m + q) (nI p)) 42 (3 * m + q) (nI k)) 35 34 1 = h2 at x1 eM v3 v3' v4 v5
          have x2 : Fi (fun a j => ((a = bs m + 3 ∨ a = bs m + 4) ∧ j = q ∨ a = 17 ∧ j = 19 ∨ a = 0 ∧ j = 6) ∨ a = 35 ∧ (j = 3 ∨ j = 34) ∨ (a = 41 ∨ a = 42) ∧ j = 3 * m + q) h h2 := Fx_t (Fx_m x0 (fun _ _ c => Or.inl c) (fun _ _ c => c)) (Fx_m x1 (fun _ _ c => Or.inr c) (fun _ _ c => c))
          have wd : Wm n m (va_up D m (dCall (D m) q p k)) := (C1.2.2.1 m hm).2.2
          refine ⟨1, h1, h2, eC, eM, Inv_mod i1 i2 i7 i8 i9 i10' i11 i12 (Gx_F x2) (fun a j _ q => by omega) (fun a j _ q => q) (fun a j _ q => q.elim) (Ms_up (m := m) (d := dCall (D m) q p k) i5 z (Gx_F x2) (by omega) (fun a j q _ => by unfold PQ; omega) rfl ?_ wd) (Cs_g C1 L1.1 (Gx_F x1) (by omega) (fun _ _ _ q => q)) (Nat.le_refl _) (fun _ _ => rfl) (Tp_g i4 z (Gx_F x2) (by omega)) ?_ (Sl_g i12.1 z (Gx_F x2) (fun _ _ _ q => q)) ?_ v4, Gr_F x2, L1⟩
          · obtain ⟨m1, m2, m3, m4, m5, m6, m7, m8⟩ := MMm
            have ecp : ∀ j, cp (dCall (D m) q p k) j = if j = q then some p else cp (D m) j := fun j => rfl
            have ecc : ∀ j, cc (dCall (D m) q p k) j = if j = q then k else cc (D m) j := fun j => rfl
            refine ⟨by rw [Fx_I x2 (by omega)]; exact m1, by rw [Fx_I x2 (by omega)]; exact m2, fun L' e j hj => by rw [Fx_I x2 (by omega)]; exact m3 L' e j hj, fun c h1 h2 => ?_, fun c h1 h2 h3 => ?_, by rw [Fx_I x2 (by omega)]; exact m6, fun i hi => by rw [Fx_I x2 (by omega)]; exact m7 i hi, by rw [Fx_I x2 (by omega)]; exact m8⟩
            · rw [ecp]
              by_cases e : c = q
              · rw [if_pos e, e]; exact v3
              · rw [if_neg e, Fx_I x2 (by omega)]; exact m4 c h1 h2
            · rw [ecp] at h3
              rw [ecc]
              by_cases e : c = q
              · rw [if_pos e, e]; exact v3'
              · rw [if_neg e] at h3 ⊢
                rw [Fx_I x2 (by omega)]; exact m5 c h1 h2 h3
          · unfold Fdn; rw [v5, Fx_I x1 (by omega)]; exact v2
          · rw [Fx_I x1 (by omega)]; exact v1
        · refine Op_F I 0 8 ?_ ?_
          · rw [preC]
            unfold C_called_45
            rw [if_pos u0, gi_s (o0 L), n0 i1, g, cl_s, if_pos rfl, C_finds_s L, cl_s]
          · rw [preM _ (LF L 8) (Ms_6 L i5 8), if_neg k5, if_neg y1, if_neg y2, if_pos u0, g' _ (Mn_6 i1 8), cl_s, if_pos rfl, m61 8 _ (LF L 8) i80]
            rfl
    · refine two ?_ ?_
      · unfold C_called
        rw [methodAt_y L i6 hm, cl_s, if_neg (by simp), io_6 c w.1, if_neg k5, if_pos rfl, if_neg (fun q => yc (Or.inl q)), if_neg (fun q => yc (Or.inr q)), e49]
      · by_cases y1 : y < 1
        · exact Or.inl y1
        · by_cases y2 : 2 < y
          · exact Or.inr (Or.inl y2)
          · exfalso
            rcases i32_cs y with cy | ⟨q, hq, e⟩
            · exact y1 (i32_n cy 1 (by omega)).1
            · subst e
              have a : ¬ q < 1 := fun q' => y1 ((ltN_1 hq).mpr q')
              have b : ¬ 2 < q := fun q' => y2 ((Nlt_2 hq).mpr q')
              have : q = 1 ∨ q = 2 := by omega
              rcases this with e | e
              · exact yc (Or.inl (by rw [e]; rfl))
              · exact yc (Or.inr (by rw [e]; rfl))
  · refine Op_F I 0 4 ?_ ?_
    · unfold C_called
      rw [methodAt_n L i6 hx, cl_s, if_pos rfl, C_finds_s L, cl_s]
    · unfold M_called
      rw [isMethod_n (LF L 4) (Ms_6 L i5 4) hx, cl_s, if_pos rfl, m61 4 _ (LF L 4) i40]
      rfl
