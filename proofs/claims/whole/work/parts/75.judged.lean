/-! PURE: judging, spliced methods too -/
theorem Cs_K {T : List Nat} {h h' : Hp} {n mc : Nat} {D : Nat → Md} {bs : Nat → Nat} (c : Cs h n mc D bs) (L : Lay h) (a : K4 T h h') : Cs h' n mc D bs := Cs_g c L.1 a.1 (by unfold P4; omega) (fun _ _ _ q => q)
theorem Jd_of {h : Hp} {n mc m : Nat} {D : Nat → Md} {bs : Nat → Nat} (L : Lay h) (hn : 4 ≤ n ∧ n ≤ 12) (c : Cs h n mc D bs) (hm : m < mc) : Jd h (bs m) n (D m) bs := ⟨L, (c.2.2.1 m hm).2.1, hn, fun M hM => (c.2.2.1 m hm).2.2.2.1 M hM⟩
def Gn (r : Nat) (h h' : Hp) : Prop := hz h' ≤ hz h + r ∧ hs h' ≤ hs h + 13 * r ∧ hR h' 20 = hR h 20
/-- what both sides say of a judgement -/
def Rl (x y : Int32) (hm : Hp) : Prop := (∃ q : Bool, x = qI q ∧ y = qI q) ∨ (x = -1 ∧ y = -1 ∧ hI hm 35 15 = 1)
theorem Rl_of {d : Md} {P : Nat → Prop} {x y : Int32} {hm : Hp} (a : Ans d P x) (b : AnM d P y hm) : Rl x y hm := by
  rcases hl : ln d with _ | M
  · exact Or.inr ⟨a.1 hl, b.1 hl⟩
  · obtain ⟨q, q1, q2⟩ := a.2 M hl
    obtain ⟨r, r1, r2⟩ := b.2 M hl
    refine Or.inl ⟨q, q2, ?_⟩
    rw [r2]
    congr 1
    cases q <;> cases r <;> simp_all
theorem spl_loop {N m n mc : Nat} {D : Nat → Md} {bs : Nat → Nat} (hN : 200 < N) (hn : 4 ≤ n ∧ n ≤ 12) (hm : m < mc) (k5 : kd (D m) = 5) (hp : 0 < (pt (D m)).length) : ∀ (r f i : Nat) (h : Hp) (l1 : Int32), i + r = (pt (D m)).length → r < f → Lay h → Cs h n mc D bs → (0 < i → l1 = 1) → ∃ x h' T, Spliced_judged_16 N f (some (bs m)) l1 (nI i) h = some (x, h') ∧ K4 T h h' ∧ Gn r h h' ∧ ∀ (hm' : Hp) (g : Nat), MS hm' n mc D → r < g → ∃ y h2, M_judgeOf_1_37 N g (some 35) (nI m) (nI i) hm' = some (y, h2) ∧ MJ T hm' h2 ∧ Rl x y h2
  | 0, f + 1, i, h, l1, hi, hf, L, C, hl => by
    obtain ⟨-, c2, c3⟩ := C.2.2.1 m hm
    have okb : ok h [6] (bs m) = true := CM_ok c2 (by rw [k5]; decide)
    obtain ⟨p1, p2⟩ := c2.2.2.2.2.2.2.2.2 k5
    have l6 := c3.2.2.2.1
    refine ⟨l1, h, [], ?_, ⟨Gx_r _ _ _ _, rfl⟩, ⟨by omega, by omega, rfl⟩, fun hm' g ms hg => ?_⟩
    · rw [Spliced_judged_16, gi_s okb, p1, if_pos ((nI_leI (by omega) (by omega)).mpr (by omega))]
    · obtain ⟨g', rfl⟩ : ∃ g', g = g' + 1 := ⟨g - 1, by omega⟩
      have m30 := ms.2.2.2.2.1
      have e43 := (ms.2.2.2.2.2 m hm).1.2.2.2.2.2.1
      refine ⟨1, hm', ?_, ⟨Fx_r _ _ _, rfl⟩, Or.inl ⟨true, hl (by omega), rfl⟩⟩
      rw [M_judgeOf_1_37, gr_s (o35 ms.1), r35_11 ms.1, li_s (o43 ms.1) (by rw [k43 ms.1]; show m < 30; omega) (by rw [k43 ms.1]; decide), e43, if_pos ((nI_leI (by omega) (by omega)).mpr (by omega))]
  | r + 1, f + 1, i, h, l1, hi, hf, L, C, hl => by
    obtain ⟨-, c2, c3⟩ := C.2.2.1 m hm
    have okb : ok h [6] (bs m) = true := CM_ok c2 (by rw [k5]; decide)
    obtain ⟨p1, p2⟩ := c2.2.2.2.2.2.2.2.2 k5
    have K5 := c2.2.1.2.2.2.2.2 k5
    have z := c2.1.2
    rw [bw, if_pos k5] at z
    have ok5 : ok h [18] (bs m + 5) = true := ok_K (by omega) K5
    have l6 := c3.2.2.2.1
    obtain ⟨pa, pk⟩ := c3.2.2.2.2.1 i (by omega)
    have ea := p2 i (by omega)
    generalize he : (pt (D m)).getD i 0 = a at pa pk ea
    have ham : a < mc := by omega
    have kd5 : kd (D a) < 5 := by have := (C.2.2.1 a ham).2.2.1; omega
    have wa := (C.2.2.1 a ham).2.2
    obtain ⟨x, h1, e1, a1, g1, an⟩ := judged_5 hN (Jd_of L hn C ham) kd5
    have L1 := K4_L a1 L
    have C1 := Cs_K C L a1
    have c2a := (C.2.2.1 a ham).2.1
    have bz : bs a < hz h := ok_lt (CM_ok c2a kc_in)
    have eC : Spliced_judged_16 N (f + 1) (some (bs m)) l1 (nI i) h = Spliced_judged_44 N (Spliced_judged_16 N f) (some (bs m)) (nI i) x h1 := by
      rw [Spliced_judged_16, gi_s okb, p1, if_neg (fun q => by have := (nI_leI (by omega) (by omega)).mp q; omega), gr_s okb, c2.2.2.1.2.2.2.2.2 k5, lr_s ok5 (by rw [K5]; show i < 6; omega) (by rw [K5]; decide), ea, if_neg (by simp), ds_a bz c2a.2.1.1, e1, cl_s]
    have mod : ∀ (hm' : Hp) (g : Nat), MS hm' n mc D → 0 < g → ∃ y h2, MJ (jT (D a)) hm' h2 ∧ Rl x y h2 ∧ MS h2 n mc D ∧ M_judgeOf_1_37 N g (some 35) (nI m) (nI i) hm' = if 1 ≤ y then M_judgeOf_1_37 N (g - 1) (some 35) (nI m) (nI (i + 1)) h2 else some (y, h2) := by
      intro hm' g ms hg
      obtain ⟨g', rfl⟩ : ∃ g', g = g' + 1 := ⟨g - 1, by omega⟩
      have m30 := ms.2.2.2.2.1
      have mm := (ms.2.2.2.2.2 m hm).1
      obtain ⟨y, h2, b1, b2, b3⟩ := judge_0 hN ms ham kd5 wa
      refine ⟨y, h2, b2, Rl_of an b3, MS_J ms b2, ?_⟩
      rw [M_judgeOf_1_37, gr_s (o35 ms.1), r35_11 ms.1, li_s (o43 ms.1) (by rw [k43 ms.1]; show m < 30; omega) (by rw [k43 ms.1]; decide), mm.2.2.2.2.2.1, if_neg (fun q => by have := (nI_leI (by omega) (by omega)).mp q; omega), gr_s (o35 ms.1), r35_12 ms.1, mN_6, nI_add, li_s (o44 ms.1) (by rw [k44 ms.1]; show _ < 180; omega) (by rw [k44 ms.1]; decide), mm.2.2.2.2.2.2.1 i (by omega), he, dM ms.1, b1, cl_s, nmE, nI_1]
      rfl
    unfold Spliced_judged_44 at eC
    by_cases x1 : x = 1
    · rw [if_pos x1, nmE, nI_1, x1] at eC
      obtain ⟨x', h', T, q1, q2, q3, q4⟩ := spl_loop hN hn hm k5 hp r f (i + 1) h1 1 (by omega) (by omega) L1 C1 (fun _ => rfl)
      refine ⟨x', h', jT (D a) ++ T, by rw [eC, q1], K4_t a1 q2, ⟨by have := g1.1; have := q3.1; omega, by have := g1.2.1; have := q3.2.1; omega, by rw [q3.2.2, g1.2.2]⟩, fun hm' g ms hg => ?_⟩
      obtain ⟨y, h2, b1, b2, b3, b4⟩ := mod hm' g ms (by omega)
      have y1 : y = 1 := by
        rcases b2 with ⟨q, w1, w2⟩ | ⟨w1, -⟩
        · rw [w2, ← w1, x1]
        · rw [x1] at w1; exact absurd w1 (by decide)
      obtain ⟨y', h3, d1, d2, d3⟩ := q4 h2 (g - 1) b3 (by omega)
      refine ⟨y', h3, ?_, MJ_t b1 d2, d3⟩
      rw [b4, y1, if_pos (by decide)]; exact d1
    · rw [if_neg x1] at eC
      refine ⟨x, h1, jT (D a), eC, a1, ⟨by have := g1.1; omega, by have := g1.2.1; omega, g1.2.2⟩, fun hm' g ms hg => ?_⟩
      obtain ⟨y, h2, b1, b2, b3, b4⟩ := mod hm' g ms (by omega)
      refine ⟨y, h2, ?_, b1, b2⟩
      rw [b4, if_neg]
      intro c
      rcases b2 with ⟨q, w1, w2⟩ | ⟨-, w2, -⟩
      · cases q
        · rw [w2] at c; exact absurd c (by decide)
        · exact x1 w1
      · rw [w2] at c; exact absurd c (by decide)
theorem j1_0 {N : Nat} {l0 : Option Nat} {l1 l2 : Int32} {h : Hp} : M_judgeOf_1_139 N l0 l1 l2 h = M_judgeOf_0_139 N l0 l1 l2 h := rfl
theorem judge_1 {N a n mc : Nat} {D : Nat → Md} {h : Hp} (m : MS h n mc D) (ha : a < mc) (hk : kd (D a) < 5) : M_judgeOf_1 N (some 35) (nI a) h = M_judgeOf_0 N (some 35) (nI a) h := by
  have L := m.1
  have a30 := m.2.2.2.2.1
  have e38 : hI h 38 a = nI (kd (D a)) := (m.2.2.2.2.2 a ha).1.1
  have n5 : ¬ nI (kd (D a)) = 5 := fun z => by have := (eN_5 (by omega)).mp z; omega
  unfold M_judgeOf_1 M_judgeOf_0
  rw [gr_s (o35 L), r35_6 L, li_s (o38 L) (by rw [k38 L]; show a < 30; omega) (by rw [k38 L]; decide), e38, if_neg n5, gr_s (o35 L), r35_6 L, li_s (o38 L) (by rw [k38 L]; show a < 30; omega) (by rw [k38 L]; decide), e38, if_neg n5]
  simp only [j1_0]
theorem judge_both {N m n mc : Nat} {D : Nat → Md} {bs : Nat → Nat} {h : Hp} (hN : 200 < N) (hn : 4 ≤ n ∧ n ≤ 12) (hm : m < mc) (L : Lay h) (C : Cs h n mc D bs) : ∃ x h' T, ds [(1, Little_judged N (some (bs m)) h), (2, Plain_judged N (some (bs m)) h), (3, Principle_judged N (some (bs m)) h), (6, Spliced_judged N (some (bs m)) h), (7, Surprise_judged N (some (bs m)) h), (10, Treble_judged N (some (bs m)) h)] (some (bs m)) h = some (x, h') ∧ K4 T h h' ∧ Gn 6 h h' ∧ ∀ hm', MS hm' n mc D → ∃ y h2, M_judgeOf_1 N (some 35) (nI m) hm' = some (y, h2) ∧ MJ T hm' h2 ∧ (Rl x y h2 ∨ x = -7 ∧ y = -1 ∧ hI h2 35 15 = 7) := by
  obtain ⟨-, c2, c3⟩ := C.2.2.1 m hm
  have bz : bs m < hz h := ok_lt (CM_ok c2 kc_in)
  rw [ds_a bz c2.2.1.1]
  by_cases k5 : kd (D m) = 5
  · have okb : ok h [6] (bs m) = true := CM_ok c2 (by rw [k5]; decide)
    have e : dl [(1, Little_judged N (some (bs m)) h), (2, Plain_judged N (some (bs m)) h), (3, Principle_judged N (some (bs m)) h), (6, Spliced_judged N (some (bs m)) h), (7, Surprise_judged N (some (bs m)) h), (10, Treble_judged N (some (bs m)) h)] (kc' (kd (D m))) = Spliced_judged_16 N N (some (bs m)) (-7) (nI 0) (sI h 4 17 (hI h 4 17 + 1)) := by
      rw [k5]
      show Spliced_judged N (some (bs m)) h = _
      unfold Spliced_judged
      simp only [gr_s, okb, c2.2.2.1.1, li_17, si_17, o4, k4, L, Nat.reducePow, Nat.reduceLT]
      rfl
    rw [e]
    have a1 : K4 [17] h (sI h 4 17 (hI h 4 17 + 1)) := K4_b
    have z1 : hz (sI h 4 17 (hI h 4 17 + 1)) = hz h ∧ hs (sI h 4 17 (hI h 4 17 + 1)) = hs h ∧ hR (sI h 4 17 (hI h 4 17 + 1)) = hR h := ⟨rfl, rfl, rfl⟩
    generalize sI h 4 17 (hI h 4 17 + 1) = h1 at a1 z1 ⊢
    have L1 := K4_L a1 L
    have C1 := Cs_K C L a1
    have preM : ∀ hm', MS hm' n mc D → ∃ h2, MJ [17] hm' h2 ∧ MS h2 n mc D ∧ M_judgeOf_1 N (some 35) (nI m) hm' = if nI (pt (D m)).length = 0 then (pi [12] 15 (some 35) 7 h2 fun h17 => some ((-1), h17)) else (M_judgeOf_1_37 N N (some 35) (nI m) 0 h2) := by
      intro hm' ms
      have m30 := ms.2.2.2.2.1
      have mm := (ms.2.2.2.2.2 m hm).1
      obtain ⟨h2, e1, b1⟩ := cnt_J (N := N) (k := 5) (c := 2) ms (by omega)
      have ms2 := MS_J ms b1
      refine ⟨h2, b1, ms2, ?_⟩
      unfold M_judgeOf_1
      rw [gr_s (o35 ms.1), r35_6 ms.1, li_s (o38 ms.1) (by rw [k38 ms.1]; show m < 30; omega) (by rw [k38 ms.1]; decide), mm.1, if_pos ((eN_5 (by omega)).mpr k5), show ds [(12, M_count N (some 35) 5 2 hm')] (some 35) hm' = _ from e1, cl_s, gr_s (o35 ms2.1), r35_11 ms2.1, li_s (o43 ms2.1) (by rw [k43 ms2.1]; show m < 30; omega) (by rw [k43 ms2.1]; decide), (ms2.2.2.2.2.2 m hm).1.2.2.2.2.2.1]
    have l6 := c3.2.2.2.1
    by_cases hp : 0 < (pt (D m)).length
    · obtain ⟨x, h', T, q1, q2, q3, q4⟩ := spl_loop hN hn hm k5 hp (pt (D m)).length N 0 h1 (-7) (by omega) (by omega) L1 C1 (fun w => by omega)
      refine ⟨x, h', [17] ++ T, q1, K4_t a1 q2, ⟨by have := q3.1; rw [z1.1] at this; omega, by have := q3.2.1; rw [z1.2.1] at this; omega, by rw [q3.2.2, z1.2.2]⟩, fun hm' ms => ?_⟩
      obtain ⟨h2, b1, b2, b3⟩ := preM hm' ms
      obtain ⟨y, h3, d1, d2, d3⟩ := q4 h2 N b2 (by omega)
      refine ⟨y, h3, ?_, MJ_t b1 d2, Or.inl d3⟩
      rw [b3, if_neg (fun w => by have := (nI_eq0 (by omega)).mp w; omega)]
      exact d1
    · obtain ⟨-, c2', -⟩ := C1.2.2.1 m hm
      have okb1 : ok h1 [6] (bs m) = true := CM_ok c2' (by rw [k5]; decide)
      obtain ⟨p1, -⟩ := c2'.2.2.2.2.2.2.2.2 k5
      have key : ∀ g, Spliced_judged_16 N (g + 1) (some (bs m)) (-7) (nI 0) h1 = some (-7, h1) := by
        intro g
        rw [Spliced_judged_16, gi_s okb1, p1, if_pos ((nI_leI (by omega) (by omega)).mpr (by omega))]
      refine ⟨-7, h1, [17], ?_, a1, ⟨by rw [z1.1]; omega, by rw [z1.2.1]; omega, by rw [z1.2.2]⟩, fun hm' ms => ?_⟩
      · have := key (N - 1)
        rw [show N - 1 + 1 = N by omega] at this
        exact this
      · obtain ⟨h2, b1, b2, b3⟩ := preM hm' ms
        refine ⟨-1, sI h2 35 15 7, ?_, ?_, Or.inr ⟨rfl, rfl, sI_at ..⟩⟩
        · rw [b3, if_pos ((nI_eq0 (by omega)).mpr (by omega)), pi_s (o35 b2.1)]
        · have := MJ_t b1 (show MJ [] h2 (sI h2 35 15 7) from ⟨Fx_sI _ _ (by unfold PJ; omega), by rw [sI_row' (by omega)]; rfl⟩)
          exact this
  · have kl : kd (D m) < 5 := by have := c3.1; omega
    rw [called_6 kl]
    obtain ⟨x, h', e, a, g, an⟩ := judged_5 hN (Jd_of L hn C hm) kl
    refine ⟨x, h', jT (D m), e, a, ⟨by have := g.1; omega, by have := g.2.1; omega, g.2.2⟩, fun hm' ms => ?_⟩
    obtain ⟨y, h2, b1, b2, b3⟩ := judge_0 hN ms hm kl c3
    exact ⟨y, h2, by rw [judge_1 ms hm kl]; exact b1, b2, Or.inl (Rl_of an b3)⟩
theorem op_judge {N : Nat} {x : Int32} {h : Hp} (hN : 200 < N) (I : Inv h) : Op (C_judge N (some 0) x) (M_judge N (some 35) x) h := by
  obtain ⟨n, mc, D, bs, ic, im, ik, i1, i2, i3, i4, i5, i6, i7, i8, i9, i10', i11, i12⟩ := id I
  have L := i1.1
  rcases meth_cs x mc with ⟨m, hm, e⟩ | hx
  · subst e
    obtain ⟨x, h1, T, e1, a1, g1, md⟩ := judge_both hN i1.2.2 hm L i6
    have L1 := K4_L a1 L
    have z := L.1
    have preC : C_judge N (some 0) (nI m) h = if 0 ≤ x then some (x, sI h1 0 6 0) else some (0, sI h1 0 6 (-x)) := by
      unfold C_judge
      rw [methodAt_y L i6 hm, cl_s, if_neg (by simp), e1, cl_s, C_finds_s L1, cl_s, C_finds_s L1, cl_s]
    have fin : ∀ (a r : Int32), C_judge N (some 0) (nI m) h = some (r, sI h1 0 6 a) → (∀ y h2, MJ T (sI (sI h1 0 6 a) 35 3 0) h2 → Lay h2 → (Rl x y h2 ∨ x = -7 ∧ y = -1 ∧ hI h2 35 15 = 7) → (if 0 ≤ y then M_judge_41 N y (some 35) 0 h2 else (gi [12] 15 (some 35) h2 fun x5 => M_judge_41 N y (some 35) x5 h2)) = some (r, sI h2 35 3 a)) → Op (C_judge N (some 0) (nI m)) (M_judge N (some 35) (nI m)) h := by
      intro a r eC eM
      have La : Lay (sI h1 0 6 a) := L1
      have ga : Gx (fun a k => a = 4 ∨ a = 0 ∧ k = 6) nF nF h (sI h1 0 6 a) := Gx_t (Gx_m a1.1 (fun _ _ _ c => Or.inl c) (fun _ _ _ c => c) (fun _ _ _ c => c)) (Gx_sI _ _ (by omega))
      have Ma : Ms (sI h1 0 6 a) n mc D := Ms_g i5 z ga (by omega)
      have Lb : Lay (sI (sI h1 0 6 a) 35 3 0) := L1
      have ms : MS (sI (sI h1 0 6 a) 35 3 0) n mc D := by
        refine ⟨Lb, ⟨o35 Lb, ?_, i1.2.2⟩, ?_, Ms_g Ma La.1 (Gx_sI (P := fun a k => a = 35 ∧ k = 3) (Q := nF) (R := nF) _ _ ⟨rfl, rfl⟩) (by omega)⟩
        · rw [sI_ne (by omega), Gx_I ga z (by omega) (by omega)]; exact i1.2.1.2
        · rw [sI_ne (by omega), Gx_I ga z (by omega) (by omega)]; exact i2.2
      obtain ⟨y, h2, b1, b2, b3⟩ := md _ ms
      have L2 := Fx_Lay b2.1 Lb
      have eM := eM y h2 b2 L2 b3
      have xb : Fi (fun a k => PJ a k ∨ a = 35 ∧ k = 3) (sI h1 0 6 a) (sI h2 35 3 a) := Fx_t (Fx_t (Fx_sI _ _ (by omega)) (Fx_m b2.1 (fun _ _ c => Or.inl c) (fun _ _ c => c))) (Fx_sI _ _ (by omega))
      have G : Gx (fun a k => (a = 4 ∨ a = 0 ∧ k = 6) ∨ PJ a k ∨ a = 35 ∧ k = 3) nF nF h (sI h2 35 3 a) := Gx_t (Gx_m ga (fun _ _ _ c => Or.inl c) (fun _ _ _ c => c) (fun _ _ _ c => c)) (Gx_m (Gx_F xb) (fun _ _ _ c => Or.inr c) (fun _ _ _ c => c) (fun _ _ _ c => c))
      refine ⟨r, _, _, eC, ?_, Inv_x I G (fun a k _ c => by unfold PJ at c; omega) (fun a k _ c => c.elim) ⟨?_, ?_⟩ ?_ (Ot_g i11 z G (by unfold PJ; omega) (fun _ _ _ c => c)), ?_, La⟩
      · unfold M_judge M_judge_14
        rw [isMethod_y La Ma hm, cl_s, if_neg i10, M_finds_0 La, cl_s, if_pos rfl, dM Lb, b1, cl_s]
        exact eM
      · have e4 : hI (sI h2 35 3 a) 4 = hI h1 4 := by rw [Fx_row xb (by unfold PJ; omega), sI_row' (by omega)]
        have e37 : hI (sI h1 0 6 a) 37 = hI h 37 := funext fun k => Gx_I ga z (by omega) (by omega)
        rw [e4, a1.2, sI_row' (by omega), b2.2, sI_row' (by omega), e37, ← i2.1]
      · rw [Gx_I G z (by omega) (by unfold PJ; omega)]; exact i2.2
      · unfold Fdn
        rw [sI_at, Fx_I xb (by unfold PJ; omega), sI_at]
      · unfold Gr nn
        have e20 : hR (sI h2 35 3 a) 20 = hR h 20 := by rw [Fx_R xb]; exact g1.2.2
        rw [e20, Fx_z xb, Fx_s xb]
        have q1 := g1.1
        have q2 := g1.2.1
        have q3 : hz (sI h1 0 6 a) = hz h1 := rfl
        have q4 : hs (sI h1 0 6 a) = hs h1 := rfl
        omega
    by_cases x0 : 0 ≤ x
    · rw [if_pos x0] at preC
      refine fin 0 x preC (fun y h2 mj L2 rl => ?_)
      have yx : y = x := by
        rcases rl with (⟨q, w1, w2⟩ | ⟨w1, -⟩) | ⟨w1, -⟩
        · rw [w1, w2]
        · rw [w1] at x0; exact absurd x0 (by decide)
        · rw [w1] at x0; exact absurd x0 (by decide)
      rw [yx, if_pos x0]
      unfold M_judge_41
      rw [M_finds_0 L2, cl_s, if_pos rfl]
    · rw [if_neg x0] at preC
      refine fin (-x) 0 preC (fun y h2 mj L2 rl => ?_)
      have c : y = -1 ∧ hI h2 35 15 = -x ∧ ¬ -x = 0 := by
        rcases rl with (⟨q, w1, w2⟩ | ⟨w1, w2, w3⟩) | ⟨w1, w2, w3⟩
        · rw [w1] at x0; exact absurd (q01 q) x0
        · rw [w1]; exact ⟨w2, w3, by decide⟩
        · rw [w1]; exact ⟨w2, w3, by decide⟩
      rw [c.1, if_neg (by decide), gi_s (o35 L2), c.2.1]
      unfold M_judge_41
      rw [M_finds_1 L2 c.2.2, cl_s, if_neg i10]
  · refine Op_F I 0 4 ?_ ?_
    · unfold C_judge
      rw [methodAt_n L i6 hx, cl_s, if_pos rfl, C_finds_s L, cl_s]
    · unfold M_judge M_judge_14
      rw [isMethod_n (LF L 4) (Ms_6 L i5 4) hx, cl_s, if_pos rfl, M_finds_1 (LF L 4) i40, cl_s, if_neg i10]
      rfl
