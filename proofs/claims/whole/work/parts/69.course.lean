/-! PURE: lead heads, courses, falseness -/
/-- both sides have done an act that tells R and counts T; the finding becomes a -/
theorem act_fin {α : Type} {C M : Hp → Option (α × Hp)} {h h1 h3 : Hp} {T : List Nat} {R : Nat × Nat × (Nat → Nat)} {x2 : Int32} (I : Inv h) (f1 : Fi P1 h h1) (t1 : hI h1 4 = bm (hI h 4) T) (a : Int32) (r : α) (eC : C h = some (r, sI h1 0 6 a)) (mr : MR true T R (sI (sI h1 0 6 a) 35 3 0) h3 x2) (eM : M (sI h1 0 6 a) = some (r, sI h3 35 3 a)) : Op C M h := by
  obtain ⟨g1, g2, -⟩ := mr
  have fa : Fi P1 h (sI h1 0 6 a) := Fx_t f1 (Fx_sI _ _ (by unfold P1; omega))
  have ta : hI (sI h1 0 6 a) 4 = bm (hI h 4) T := by rw [sI_row' (by omega)]; exact t1
  have fb : Fi P2 (sI h1 0 6 a) (sI h3 35 3 a) := Fx_t (Fx_t (Fx_sI _ _ (by unfold P2; omega)) (Fx_m g1 (fun a k c => by unfold PM at c; unfold P2; omega) (fun _ _ c => c))) (Fx_sI _ _ (by unfold P2; omega))
  have tb : hI (sI h3 35 3 a) 37 = bq true (hI (sI h1 0 6 a) 37) T := by
    rw [sI_row' (by omega), g2, sI_row' (by omega)]
  obtain ⟨z1, z2⟩ := Inv_T I fa ta fb tb (by rw [sI_at, sI_ne (by omega), Fx_I g1 (by unfold PM; omega), sI_ne (by omega), sI_at])
  exact ⟨r, _, _, eC, eM, z1, z2, Fx_Lay fa (Inv_Lay I)⟩
theorem act_M {h h1 : Hp} {n mc : Nat} {D : Nat → Md} (L : Lay h) (f1 : Fi P1 h h1) (i2 : Tr h) (i5 : Ms h n mc D) (a : Int32) : Lay (sI h1 0 6 a) ∧ Lay (sI (sI h1 0 6 a) 35 3 0) ∧ hI (sI (sI h1 0 6 a) 35 3 0) 35 16 = qI true ∧ Ms (sI h1 0 6 a) n mc D ∧ Ms (sI (sI h1 0 6 a) 35 3 0) n mc D := by
  have L1 := Fx_Lay f1 L
  have fa : Fi P1 h (sI h1 0 6 a) := Fx_t f1 (Fx_sI _ _ (by unfold P1; omega))
  have Ma : Ms (sI h1 0 6 a) n mc D := Ms_g i5 L.1 (Gx_F fa) (by unfold P1; omega)
  refine ⟨L1, L1, ?_, Ma, Ms_g Ma L1.1 (Gx_sI (P := fun a k => a = 35 ∧ k = 3) (Q := nF) (R := nF) _ _ ⟨rfl, rfl⟩) (by omega)⟩
  rw [sI_ne (by omega), Fx_I fa (by unfold P1; omega)]; exact i2.2
theorem behind_s {N n v : Nat} {R : Nat × Nat × (Nat → Nat)} {h : Hp} (hN : 100 < N) (hn : n ≤ 12) (L : Lay h) (l6 : ∀ k, k < R.2.1 → hI h 45 k = nI (R.2.2 k)) (w : RW n R) (hv : Rw n v) : ds [(12, M_behind N (some 35) (lN v) (nI R.2.1) h)] (some 35) h = some (lN (rng R.2.2 v R.2.1), h) := by
  have := w.2.1
  rw [dM L]
  exact behind_loop hN hn L l6 w hv R.2.1 N 0 (by omega) (by omega)
theorem Mn_3 {h : Hp} {n : Nat} (m : Mn h n) (a : Int32) : Mn (sI h 35 3 a) n := ⟨m.1, by rw [sI_ne (by omega)]; exact m.2.1, m.2.2⟩
theorem Mn_P {h h3 : Hp} {n : Nat} (m : Mn h n) (f : Fi PM h h3) : Mn h3 n := ⟨by rw [Fx_ok f]; exact m.1, by rw [Fx_I f (by unfold PM; omega)]; exact m.2.1, m.2.2⟩
theorem Mn_1 {h h1 : Hp} {n : Nat} (m : Mn h n) (f : Fi P1 h h1) : Mn h1 n := ⟨by rw [Fx_ok f]; exact m.1, by rw [Fx_I f (by unfold P1; omega)]; exact m.2.1, m.2.2⟩
theorem Mn_a {h h1 h3 : Hp} {n : Nat} {a : Int32} (b : Bs h n) (f1 : Fi P1 h h1) (g : Fi PM (sI (sI h1 0 6 a) 35 3 0) h3) : Mn (sI h3 35 3 0) n :=
  Mn_3 (Mn_P (Mn_3 (Mn_1 (Mn_of b) (Fx_t f1 (Fx_sI _ a (by unfold P1; omega)))) 0) g) 0
theorem op_leadHead {N : Nat} {x y : Int32} {h : Hp} (hN : 100 < N) (I : Inv h) : Op (C_leadHead N (some 0) x y) (M_leadHead N (some 35) x y) h := by
  obtain ⟨n, mc, D, bs, ic, im, ik, i1, i2, i3, i4, i5, i6, -⟩ := id I
  have L := i1.1
  have hn := i1.2.2.2
  have m31 : ∀ (c : Int32) (h : Hp), Lay h → ¬ c = 0 → M_leadHead_27 N (some 35) x y (some 35) c h = some (0, sI h 35 3 c) := by
    intro c h L hc
    unfold M_leadHead_27
    rw [M_finds_1 L hc, cl_s, if_neg i10]
  rcases meth_cs x mc with ⟨m, hm, e⟩ | hx
  · subst e
    rcases call_cs y with ⟨c, hc, ec⟩ | hy
    · subst ec
      have hw : ∀ m, m < mc → Wm n m D := fun m hm => (i6.2.2.1 m hm).2.2
      have rok := CR_ok (i := 0) (c := c) hw hm
      have w2 := rok.2.1
      obtain ⟨x1, h1, e1, ⟨⟨f1, q1, v1⟩, t1⟩⟩ := Dc_s (N := N) (i := 0) L i6 (Wr_29 L i6) hm (by omega) hc
      have L1 := Fx_Lay f1 L
      have f1' : Fi P1 h h1 := Fx_m f1 (fun a k c => by unfold PC at c; unfold P1; omega) (fun _ _ c => c)
      have b4 : hI h1 0 4 = nI n := by rw [Fx_I f1' (by unfold P1; omega)]; exact n0 i1
      have preC : C_leadHead N (some 0) (nI m) (nI c) h = (if x1 = 0 then (gr [11] 9 (some 0) h1 fun x8 =>
  gi [11] 4 (some 0) h1 fun x9 =>
  cl (Rows_rounds N x9 h1) fun x11 h10 =>
  cl (ds [(0, Lead_rungFrom N x8 x11 h10)] x8 h10) fun x13 h12 =>
  cl (ds [(11, C_findsRow N (some 0) x13 h12)] (some 0) h12) fun x15 h14 =>
  some (x15, h14)) else (cl (ds [(11, C_finds N (some 0) x1 0 h1)] (some 0) h1) fun x17 h16 =>
  some ((Int32.toInt64 x17), h16))) := by
        unfold C_leadHead
        rw [methodAt_y L i6 hm, cl_s, if_neg (by simp), isCall_y hc, cl_s, if_neg i10, gr_s (o0 L), r0_9 L]
        rw [show (0 : Int32) = nI 0 from rfl, e1, cl_s]
      have pre : ∀ a, M_leadHead N (some 35) (nI m) (nI c) (sI h1 0 6 a) = M_leadHead_27 N (some 35) (nI m) (nI c) (some 35) 0 (sI h1 0 6 a) := fun a => by
        obtain ⟨La, -, -, Ma, -⟩ := act_M L f1' i2 i5 a
        unfold M_leadHead
        rw [isMethod_y La Ma hm, cl_s, if_neg i10, if_neg (nI_pos (by omega)), if_pos ((leN_2 (by omega)).mpr hc)]
      by_cases r0 : (CR D m 0 c).1 = 0
      · obtain ⟨La, Lb, hq, -, Mb⟩ := act_M L f1' i2 i5 0
        obtain ⟨x2, h3, e3, mr⟩ := M_calledOf_s (i := 0) hN Lb hq Mb hm (by omega) hc
        have L3 : Lay h3 := Fx_Lay mr.1 Lb
        obtain ⟨v2, v3⟩ := v1 r0
        rw [q1, r0, if_pos cN_0] at preC
        refine act_fin I f1' t1 0 (lN (rng (CR D m 0 c).2.2 (rd n) (CR D m 0 c).2.1)) ?_ mr ?_
        · have := rung_loop hN hn (o29 L1) (o30 L1) (k30 L1) (r29_0 L1) v2 v3 rok (rd_rw hn) (CR D m 0 c).2.1 N 0 (by omega) (by omega)
          rw [preC, gr_s (o0 L1), r0_9 L1, gi_s (o0 L1), b4, Rows_rounds_s hn, cl_s, ds_1 (o29 L1), show Lead_rungFrom N (some 29) (lN (rd n)) h1 = _ from this, cl_s, C_findsRow_s L1, cl_s]
        · obtain ⟨g1, -, g3, g4, -⟩ := mr
          rw [if_pos r0] at g3
          have mn := Mn_a i1 f1' g1
          have L4 : Lay (sI h3 35 3 0) := L3
          rw [pre]
          unfold M_leadHead_27 M_leadHead_52
          rw [M_finds_0 La, cl_s, if_pos rfl, dM Lb, show M_calledOf N (some 35) (nI m) 0 (nI c) _ = _ from e3, cl_s, g3, if_neg i10, M_finds_0 L3, cl_s, if_pos rfl, dM L4, M_rounds_s (by omega) mn, cl_s, gi_s (o35 L4), sI_ne (by omega), (g4 r0).1, behind_s hN hn L4 (fun k hk => by rw [sI_ne (by omega)]; exact (g4 r0).2 k hk) rok (rd_rw hn), cl_s]
      · have r8 := rok.1
        have rn := nI_ne0' r0 (by omega)
        obtain ⟨La, Lb, hq, -, Mb⟩ := act_M L f1' i2 i5 (nI (CR D m 0 c).1)
        obtain ⟨x2, h3, e3, mr⟩ := M_calledOf_s (i := 0) hN Lb hq Mb hm (by omega) hc
        have L3 : Lay h3 := Fx_Lay mr.1 Lb
        rw [q1, if_neg rn, C_finds_s L1, cl_s] at preC
        refine act_fin I f1' t1 (nI (CR D m 0 c).1) 0 (by rw [preC]; rfl) mr ?_
        obtain ⟨g1, -, g3, -, g5⟩ := mr
        rw [if_neg r0] at g3
        rw [pre]
        unfold M_leadHead_27 M_leadHead_52
        rw [M_finds_0 La, cl_s, if_pos rfl, dM Lb, show M_calledOf N (some 35) (nI m) 0 (nI c) _ = _ from e3, cl_s, g3, if_pos rfl, gi_s (o35 L3), g5 r0, M_finds_1 L3 rn, cl_s, if_neg i10]
    · refine Op_F I 0 2 ?_ ?_
      · unfold C_leadHead
        rw [methodAt_y L i6 hm, cl_s, if_neg (by simp), isCall_n hy, cl_s, if_pos rfl, C_finds_s L, cl_s]
        rfl
      · unfold M_leadHead M_leadHead_22
        rw [isMethod_y (LF L 2) (Ms_6 L i5 2) hm, cl_s, if_neg i10]
        rcases hy with c | ⟨q, q3, hq, e⟩
        · rw [if_pos c, m31 2 _ (LF L 2) i20]; rfl
        · subst e
          rw [if_neg (nI_pos hq), if_neg (fun c => by have := (leN_2 hq).mp c; omega), m31 2 _ (LF L 2) i20]; rfl
  · refine Op_F I 0 4 ?_ ?_
    · unfold C_leadHead
      rw [methodAt_n L i6 hx, cl_s, if_pos rfl, C_finds_s L, cl_s]
      rfl
    · unfold M_leadHead
      rw [isMethod_n (LF L 4) (Ms_6 L i5 4) hx, cl_s, if_pos rfl, m31 4 _ (LF L 4) i40]
      rfl
theorem op_course {N : Nat} {x : Int32} {h : Hp} (hN : 100 < N) (I : Inv h) : Op (C_course N (some 0) x) (M_course N (some 35) x) h := by
  obtain ⟨n, mc, D, bs, ic, im, ik, i1, i2, i3, i4, i5, i6, -⟩ := id I
  have L := i1.1
  have hn := i1.2.2.2
  rcases meth_cs x mc with ⟨m, hm, e⟩ | hx
  · subst e
    have hw : ∀ m, m < mc → Wm n m D := fun m hm => (i6.2.2.1 m hm).2.2
    have rok := LR_ok (i := 0) hw hm
    have w2 := rok.2.1
    obtain ⟨y, yc, h1, e1, f1, t1, ⟨l1, l2, l3, l4, l5, l6, l7, l8⟩, y64, yc64⟩ := Dl_s (N := N) (i := 0) L i6 hm (by omega)
    have L1 := Fx_Lay f1 L
    have f1' : Fi P1 h h1 := Fx_m f1 (fun a k c => by unfold P4 at c; unfold P1; omega) (fun _ _ c => c)
    have b4 : hI h1 0 4 = nI n := by rw [Fx_I f1' (by unfold P1; omega)]; exact n0 i1
    have hd : hK h1 y = (0, (hK h1 y).2) := by
      have := ok_tag l1
      simp at this
      rw [← this]
    have preC : C_course N (some 0) (nI m) h = (gi [0] 2 (some y) h1 fun x5 =>
  if x5 = 0 then (gi [11] 4 (some 0) h1 fun x6 =>
  cl (Rows_rounds N x6 h1) fun x8 h7 =>
  cl (ds [(0, Lead_rungFrom N (some y) x8 h7)] (some y) h7) fun x10 h9 =>
  gi [11] 4 (some 0) h9 fun x11 =>
  cl (Rows_orderOf N x10 x11 h9) fun x13 h12 =>
  cl (ds [(11, C_finds N (some 0) 0 x13 h12)] (some 0) h12) fun x15 h14 =>
  some (x15, h14)) else (gi [0] 2 (some y) h1 fun x16 =>
  cl (ds [(11, C_finds N (some 0) x16 0 h1)] (some 0) h1) fun x18 h17 =>
  some (x18, h17))) := by
      unfold C_course
      rw [methodAt_y L i6 hm, cl_s, if_neg (by simp)]
      rw [show (0 : Int32) = nI 0 from rfl, e1, cl_s]
    have pre : ∀ a, M_course N (some 35) (nI m) (sI h1 0 6 a) = M_course_14 N (some 35) (nI m) (some 35) 0 (sI h1 0 6 a) := fun a => by
      obtain ⟨La, -, -, Ma, -⟩ := act_M L f1' i2 i5 a
      unfold M_course
      rw [isMethod_y La Ma hm, cl_s, if_neg i10]
    by_cases r0 : (LR D m 0).1 = 0
    · obtain ⟨La, Lb, hq, -, Mb⟩ := act_M L f1' i2 i5 0
      obtain ⟨x2, h3, e3, mr⟩ := M_leadOf_s (i := 0) hN Lb hq Mb hm (by omega)
      have L3 : Lay h3 := Fx_Lay mr.1 Lb
      have vr := rng_rw (rd_rw hn) rok.2.2 (LR D m 0).2.1 (Nat.le_refl _)
      obtain ⟨K, hK⟩ := od_ex hn vr
      refine act_fin I f1' t1 0 (nI (K + 1)) ?_ mr ?_
      · have := rung_loop hN hn l1 l2 l3 l4 l6 l8 rok (rd_rw hn) (LR D m 0).2.1 N 0 (by omega) (by omega)
        rw [preC, gi_s l1, l5, r0, if_pos cN_0, gi_s (o0 L1), b4, Rows_rounds_s hn, cl_s, ds_1 l1, show Lead_rungFrom N (some y) (lN (rd n)) h1 = _ from this, cl_s, gi_s (o0 L1), b4, Rows_orderOf_s hN hn vr hK, cl_s, C_finds_s L1, cl_s]
      · obtain ⟨g1, -, g3, g4, -⟩ := mr
        rw [if_pos r0] at g3
        have mn := Mn_a i1 f1' g1
        have L4 : Lay (sI h3 35 3 0) := L3
        rw [pre]
        unfold M_course_14 M_course_38
        rw [M_finds_0 La, cl_s, if_pos rfl, dM Lb, show M_leadOf N (some 35) (nI m) 0 _ = _ from e3, cl_s, g3, if_neg i10, M_finds_0 L3, cl_s, if_pos rfl, dM L4, M_rounds_s (by omega) mn, cl_s, gi_s (o35 L4), sI_ne (by omega), (g4 r0).1, behind_s hN hn L4 (fun k hk => by rw [sI_ne (by omega)]; exact (g4 r0).2 k hk) rok (rd_rw hn), cl_s, dM L4, M_orderOf_s hN mn vr hK, cl_s]
    · have r8 := rok.1
      have rn := nI_ne0' r0 (by omega)
      obtain ⟨La, Lb, hq, -, Mb⟩ := act_M L f1' i2 i5 (nI (LR D m 0).1)
      obtain ⟨x2, h3, e3, mr⟩ := M_leadOf_s (i := 0) hN Lb hq Mb hm (by omega)
      have L3 : Lay h3 := Fx_Lay mr.1 Lb
      refine act_fin I f1' t1 (nI (LR D m 0).1) 0 ?_ mr ?_
      · rw [preC, gi_s l1, l5, if_neg rn, gi_s l1, l5, C_finds_s L1, cl_s]
      obtain ⟨g1, -, g3, -, g5⟩ := mr
      rw [if_neg r0] at g3
      rw [pre]
      unfold M_course_14 M_course_38
      rw [M_finds_0 La, cl_s, if_pos rfl, dM Lb, show M_leadOf N (some 35) (nI m) 0 _ = _ from e3, cl_s, g3, if_pos rfl, gi_s (o35 L3), g5 r0, M_finds_1 L3 rn, cl_s, if_neg i10]
  · refine Op_F I 0 4 ?_ ?_
    · unfold C_course
      rw [methodAt_n L i6 hx, cl_s, if_pos rfl, C_finds_s L, cl_s]
    · unfold M_course M_course_14
      rw [isMethod_n (LF L 4) (Ms_6 L i5 4) hx, cl_s, if_pos rfl, M_finds_1 (LF L 4) i40, cl_s, if_neg i10]
      rfl
