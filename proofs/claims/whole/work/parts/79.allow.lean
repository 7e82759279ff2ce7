/-! PURE: allow, part -/
def dAw (d : Md) (k : Nat) : Md := (kd d, ln d, ld d, cp d, cc d, pt d, k)
def smA (D : Nat → Md) : Nat → Nat
  | 0 => 0
  | k + 1 => smA D k + pc (aw (D k))
theorem pc_le (r : Nat) : pc r ≤ 13 := by unfold pc; rw [bcn_f]; exact bcn_le r 13
theorem smA_le (D : Nat → Md) : ∀ k, smA D k ≤ 13 * k
  | 0 => Nat.le_refl 0
  | k + 1 => by have := smA_le D k; have := pc_le (aw (D k)); rw [smA]; omega
theorem allow_C {N n mc : Nat} {D : Nat → Md} {bs : Nat → Nat} {h : Hp} (L : Lay h) (C : Cs h n mc D bs) : ∀ (r f i : Nat), i + r = mc → r < f → C_allow_41 N f (some 0) (nI (smA D i)) (nI i) h = some (nI (smA D mc), h)
  | 0, f + 1, i, hi, hf => by
    have := C.2.1
    rw [C_allow_41, gi_s (o0 L), C.1, if_pos ((nI_leI (by omega) (by omega)).mpr (by omega)), show i = mc by omega]
  | r + 1, f + 1, i, hi, hf => by
    have m30 := C.2.1
    obtain ⟨c1, c2, c3⟩ := C.2.2.1 i (by omega)
    have a8 := c3.2.2.2.2.2.1
    rw [C_allow_41, gi_s (o0 L), C.1, if_neg (fun q => by have := (nI_leI (by omega) (by omega)).mp q; omega), gr_s (o0 L), r0_2 L, lr_s (o5 L) (by rw [k5 L]; show i < 30; omega) (by rw [k5 L]; decide), c1, if_neg (by simp), gi_s (CM_ok c2 kc_in), c2.2.2.2.1.2, bitCount_s (by omega), cl_s]
    unfold C_allow_78
    rw [nmE, nmE, nI_add, nI_1]
    exact allow_C L C r f (i + 1) (by omega) (by omega)
theorem allow_M {N n mc : Nat} {D : Nat → Md} {h : Hp} (L : Lay h) (C : Ms h n mc D) : ∀ (r f i : Nat), i + r = mc → r < f → M_allow_37 N f (some 35) (nI (smA D i)) (nI i) h = some (nI (smA D mc), h)
  | 0, f + 1, i, hi, hf => by
    have := C.2.1
    rw [M_allow_37, gi_s (o35 L), C.1, if_pos ((nI_leI (by omega) (by omega)).mpr (by omega)), show i = mc by omega]
  | r + 1, f + 1, i, hi, hf => by
    have m30 := C.2.1
    obtain ⟨c2, c3⟩ := C.2.2 i (by omega)
    have a8 := c3.2.2.2.2.2.1
    rw [M_allow_37, gi_s (o35 L), C.1, if_neg (fun q => by have := (nI_leI (by omega) (by omega)).mp q; omega), gr_s (o35 L), r35_32 L, li_s (o53 L) (by rw [k53 L]; show i < 30; omega) (by rw [k53 L]; decide), c2.2.2.2.2.2.2.2, bitCount_s (by omega), cl_s, nmE, nI_add, nmE, nI_1]
    exact allow_M L C r f (i + 1) (by omega) (by omega)
theorem op_allow {N : Nat} {x y : Int32} {h : Hp} (hN : 100 < N) (I : Inv h) : Op (C_allow N (some 0) x y) (M_allow N (some 35) x y) h := by
  obtain ⟨n, mc, D, bs, ic, im, ik, i1, i2, i3, i4, i5, i6, i7, i8, i9, i10', i11, i12⟩ := id I
  have L := i1.1
  have z := L.1
  rcases meth_cs x mc with ⟨m, hm, e⟩ | hx
  · subst e
    have m30 := i6.2.1
    obtain ⟨-, c, w⟩ := i6.2.2.1 m hm
    have MMm := (i5.2.2 m hm).1
    have no : (y < 0 ∨ ∃ k, k < 2 ^ 31 ∧ 8 ≤ k ∧ y = nI k) → Op (C_allow N (some 0) (nI m) y) (M_allow N (some 35) (nI m) y) h := by
      intro d
      refine Op_id I (-1) ?_ ?_
      · unfold C_allow
        rw [methodAt_y L i6 hm, cl_s, if_neg (by simp)]
        rcases d with d | ⟨k, hk, h8, e⟩
        · rw [if_pos d]
        · rw [e, if_neg (nI_pos hk), if_neg (fun q => by have := (ltN_8 hk).mp q; omega)]
      · unfold M_allow
        rw [isMethod_y L i5 hm, cl_s, if_neg i10]
        rcases d with d | ⟨k, hk, h8, e⟩
        · rw [if_pos d]
        · rw [e, if_neg (nI_pos hk), if_neg (fun q => by have := (leN_7 hk).mp q; omega)]
    rcases i32_cs y with cy | ⟨k, hk, e⟩
    · exact no (Or.inl cy)
    by_cases k8 : 8 ≤ k
    · exact no (Or.inr ⟨k, hk, k8, e⟩)
    subst e
    obtain ⟨b64, bz⟩ := blk c
    have okb := CM_ok c kc_in
    have x0 : Fi (fun a j => a = bs m ∧ j = 5 ∨ a = 17 ∧ j = 19) h (sI (sI h (bs m) 5 (nI k)) 17 19 1) := Fx_t (Fx_sI h _ (by omega)) (Fx_sI _ _ (by omega))
    have v1 : hI (sI (sI h (bs m) 5 (nI k)) 17 19 1) 17 19 = 1 := sI_at ..
    have v3 : hI (sI (sI h (bs m) 5 (nI k)) 17 19 1) (bs m) 5 = nI k := by rw [sI_ne (by omega), sI_at]
    have eC : C_allow N (some 0) (nI m) (nI k) h = C_allow_41 N N (some 0) 0 0 (sI (sI h (bs m) 5 (nI k)) 17 19 1) := by
      unfold C_allow
      rw [methodAt_y L i6 hm, cl_s, if_neg (by simp), if_neg (nI_pos hk), if_pos ((ltN_8 hk).mpr (by omega)), pi_s okb]
      simp only [gr_s, pz_s, ok_sI, hR_sI, o0, o17, r0_8, L, or_true]
    generalize sI (sI h (bs m) 5 (nI k)) 17 19 1 = h1 at x0 v1 v3 eC
    have L1 := Fx_Lay x0 L
    obtain ⟨u1, u2, u3, ⟨j0, j1⟩, u5, u6, ⟨u7, u8⟩, u9, u10⟩ := c
    have C1 : Cs h1 n mc (va_up D m (dAw (D m) k)) bs := by
      refine Cs_up i6 z hm (Gx_F x0) (fun a j q => by omega) (fun a j q => q.elim) rfl (CM_re ⟨u1, u2, u3, ⟨j0, j1⟩, u5, u6, ⟨u7, u8⟩, u9, u10⟩ (Gx_F x0) (fun _ _ _ _ q => q) rfl ⟨?_, v3⟩ (fun M e => ⟨?_, ?_, fun j hj => ?_⟩) (fun e => ⟨?_, ?_⟩) ⟨?_, fun q h1 h2 => ?_⟩ (fun q h1 h2 h3 => ?_) (fun e => ⟨?_, fun i hi => ?_⟩)) (Wm_me rfl w.2.1 w.2.2.1 w.2.2.2.1 w.2.2.2.2.1 (by show k < 8; omega) w.2.2.2.2.2.2 w.1)
      · rw [Fx_I x0 (by omega)]; exact j0
      · rw [Fx_I x0 (by omega)]; exact (u5 M e).1
      · rw [Fx_I x0 (by omega)]; exact (u5 M e).2.1
      · rw [Fx_I x0 (by omega)]; exact (u5 M e).2.2 j hj
      · rw [Fx_I x0 (by omega)]; exact (u6 e).1
      · rw [Fx_I x0 (by omega)]; exact (u6 e).2
      · rw [Fx_I x0 (by omega)]; exact u7
      · rw [Fx_I x0 (by omega)]; exact u8 q h1 h2
      · rw [Fx_I x0 (by omega)]; exact u9 q h1 h2 h3
      · rw [Fx_I x0 (by omega)]; exact (u10 e).1
      · rw [Fx_R x0]; exact (u10 e).2 i hi
    have M1 : Ms h1 n mc D := Ms_g i5 z (Gx_F x0) (by omega)
    have x1 : Fi (fun a j => a = 35 ∧ j = 34 ∨ a = 53 ∧ j = m) h1 (sI (sI h1 53 m (nI k)) 35 34 1) := Fx_t (Fx_sI h1 _ (by omega)) (Fx_sI _ _ (by omega))
    have v4 : hI (sI (sI h1 53 m (nI k)) 35 34 1) 35 34 = 1 := sI_at ..
    have v5 : hI (sI (sI h1 53 m (nI k)) 35 34 1) 53 m = nI k := by rw [sI_ne (by omega), sI_at]
    have eM : M_allow N (some 35) (nI m) (nI k) h1 = M_allow_37 N N (some 35) 0 0 (sI (sI h1 53 m (nI k)) 35 34 1) := by
      unfold M_allow
      rw [isMethod_y L1 M1 hm, cl_s, if_neg i10, if_neg (nI_pos hk), if_pos ((leN_7 hk).mpr (by omega)), gr_s (o35 L1), r35_32 L1, si_s (o53 L1) (by rw [k53 L1]; show m < 30; omega) (by rw [k53 L1]; decide), pz_1 (show ok (sI h1 53 m (nI k)) [12] 35 = true from o35 L1)]
    generalize sI (sI h1 53 m (nI k)) 35 34 1 = h2 at x1 v4 v5 eM
    have L2 := Fx_Lay x1 L1
    have x2 : Fi (fun a j => (a = bs m ∧ j = 5 ∨ a = 17 ∧ j = 19) ∨ a = 35 ∧ j = 34 ∨ a = 53 ∧ j = m) h h2 := Fx_t (Fx_m x0 (fun _ _ c => Or.inl c) (fun _ _ c => c)) (Fx_m x1 (fun _ _ c => Or.inr c) (fun _ _ c => c))
    have wd : Wm n m (va_up D m (dAw (D m) k)) := (C1.2.2.1 m hm).2.2
    have M2 : Ms h2 n mc (va_up D m (dAw (D m) k)) := by
      refine Ms_up (m := m) i5 z (Gx_F x2) (by omega) (fun a j q _ => by unfold PQ; omega) rfl ?_ wd
      obtain ⟨m1, m2, m3, m4, m5, m6, m7, m8⟩ := MMm
      exact ⟨by rw [Fx_I x2 (by omega)]; exact m1, by rw [Fx_I x2 (by omega)]; exact m2, fun L' e j hj => by rw [Fx_I x2 (by omega)]; exact m3 L' e j hj, fun c h1 h2 => by rw [Fx_I x2 (by omega)]; exact m4 c h1 h2, fun c h1 h2 h3 => by rw [Fx_I x2 (by omega)]; exact m5 c h1 h2 h3, by rw [Fx_I x2 (by omega)]; exact m6, fun i hi => by rw [Fx_I x2 (by omega)]; exact m7 i hi, v5⟩
    refine ⟨nI (smA (va_up D m (dAw (D m) k)) mc), h1, h2, by rw [eC]; exact allow_C L1 C1 mc N 0 (by omega) (by omega), by rw [eM]; exact allow_M L2 M2 mc N 0 (by omega) (by omega), Inv_mod i1 i2 i7 i8 i9 i10' i11 i12 (Gx_F x2) (fun a j _ q => by omega) (fun a j _ q => q) (fun a j _ q => q.elim) M2 (Cs_g C1 L1.1 (Gx_F x1) (by omega) (fun _ _ _ q => q)) (Nat.le_refl _) (fun _ _ => rfl) (Tp_g i4 z (Gx_F x2) (by omega)) (Fdn_g i3 z (Gx_F x2) (by omega)) (Sl_g i12.1 z (Gx_F x2) (fun _ _ _ q => q)) (by rw [Fx_I x1 (by omega)]; exact v1) v4, Gr_F x2, L1⟩
  · refine Op_id I (-1) ?_ ?_
    · unfold C_allow
      rw [methodAt_n L i6 hx, cl_s, if_pos rfl]
    · unfold M_allow
      rw [isMethod_n L i5 hx, cl_s, if_pos rfl]
def dPart (d : Md) (a : Nat) : Md := (kd d, ln d, ld d, cp d, cc d, pt d ++ [a], aw d)
theorem getD_app {l : List Nat} {a i : Nat} : (l ++ [a]).getD i 0 = if i = l.length then a else if i < l.length then l.getD i 0 else 0 := by
  by_cases q : i < l.length
  · rw [if_neg (by omega), if_pos q]
    simp [List.getD, List.getElem?_append_left q]
  · rw [if_neg q]
    by_cases e : i = l.length
    · subst e; simp [List.getD]
    · rw [if_neg e]
      simp only [List.getD]
      rw [List.getElem?_eq_none (by simp; omega)]
      rfl
theorem kc_s {β : Type} {t a : Nat} {h : Hp} {f : Option β} (o : ok h [t] a = true) : kc t (some a) h f = f := by simp [kc, o]
theorem part_C {N n mc m a : Nat} {D : Nat → Md} {bs : Nat → Nat} {h : Hp} (La : Lay h) (C : Cs h n mc D bs) (hm : m < mc) (ha : a < m) (k5 : kd (D m) = 5) (ka : kd (D a) ≠ 5) (hl : (pt (D m)).length < 6) : ∃ h1, C_part N (some 0) (nI m) (nI a) h = some (nI ((pt (D m)).length + 1), h1) ∧ Gx (fun b j => b = bs m ∧ j = 7 ∨ b = 17 ∧ j = 19 ∨ b = 0 ∧ j = 6) nF (fun b j => b = bs m + 5 ∧ j = (pt (D m)).length) h h1 ∧ hI h1 17 19 = 1 ∧ hI h1 0 6 = 0 ∧ Cs h1 n mc (va_up D m (dPart (D m) a)) bs ∧ hz h1 = hz h ∧ hs h1 = hs h ∧ hR h1 20 = hR h 20 := by
  obtain ⟨-, c, w⟩ := C.2.2.1 m hm
  obtain ⟨-, ca, wa⟩ := C.2.2.1 a (by omega)
  have zb := c.1.2
  rw [bw, if_pos k5] at zb
  have b64 := CM_64 c
  have okb := CM_ok c kc_in
  have ok6 : ok h [6] (bs m) = true := CM_ok c (by rw [k5]; decide)
  have K5 := c.2.1.2.2.2.2.2 k5
  have ok5 : ok h [18] (bs m + 5) = true := ok_K (by omega) K5
  obtain ⟨p1, p2⟩ := c.2.2.2.2.2.2.2.2 k5
  have r6 := c.2.2.1.2.2.2.2.2 k5
  have oka : ∀ b, some (bs a) = some b → ok h [1, 2, 3, 6, 7, 10] b = true := by
    intro b e
    cases e
    exact CM_ok ca kc_in
  have m30 := C.2.1
  have g1 : Gx (fun b j => b = bs m ∧ j = 7 ∨ b = 17 ∧ j = 19 ∨ b = 0 ∧ j = 6) nF (fun b j => b = bs m + 5 ∧ j = (pt (D m)).length) h (sR h (bs m + 5) (pt (D m)).length (some (bs a))) := Gx_sR h _ ⟨rfl, rfl⟩
  have L1 := Gx_Lay g1 La (by unfold Rc; omega)
  have okx : ∀ ts b, ok (sR h (bs m + 5) (pt (D m)).length (some (bs a))) ts b = ok h ts b := fun _ _ => rfl
  have e1 : hI (sR h (bs m + 5) (pt (D m)).length (some (bs a))) (bs m) 7 = nI (pt (D m)).length := p1
  have v7 : hR (sR h (bs m + 5) (pt (D m)).length (some (bs a))) (bs m + 5) (pt (D m)).length = some (bs a) := sR_at ..
  have v20 : hR (sR h (bs m + 5) (pt (D m)).length (some (bs a))) 20 = hR h 20 := by rw [hR_sR, if_neg (by omega)]
  have vz : hz (sR h (bs m + 5) (pt (D m)).length (some (bs a))) = hz h := hz_sR ..
  have vs : hs (sR h (bs m + 5) (pt (D m)).length (some (bs a))) = hs h := hs_sR ..
  have eC : C_part N (some 0) (nI m) (nI a) h = (gi [6] 7 (some (bs m)) (sR h (bs m + 5) (pt (D m)).length (some (bs a))) fun x11 =>
  pi [6] 7 (some (bs m)) (x11 + (1 : Int32)) (sR h (bs m + 5) (pt (D m)).length (some (bs a))) fun h12 =>
  gr [11] 8 (some 0) h12 fun x13 =>
  pz [5] 19 x13 1 h12 fun h14 =>
  gi [6] 7 (some (bs m)) h14 fun x15 =>
  cl (ds [(11, C_finds N (some 0) 0 x15 h14)] (some 0) h14) fun x17 h16 =>
  some (x17, h16)) := by
    unfold C_part
    rw [methodAt_y La C hm, cl_s, methodAt_y La C (by omega), cl_s, if_neg (by simp), if_neg (by simp), io_6 c w.1, if_pos k5, if_neg i10, kc_s ok6, io_6 ca wa.1, if_neg ka, if_pos rfl, if_neg (fun q => by have := (nI_leI (by omega) (by omega)).mp q; omega), gi_s ok6, p1, if_pos ((ltN_6 (by omega)).mpr hl), gr_s ok6, r6, gi_s ok6, p1, sr_s ok5 (by rw [K5]; exact hl) (by rw [K5]; decide) oka]
  have K6 : ok (sR h (bs m + 5) (pt (D m)).length (some (bs a))) [6] (bs m) = true := by rw [okx]; exact ok6
  generalize sR h (bs m + 5) (pt (D m)).length (some (bs a)) = g at g1 L1 okx e1 v7 v20 vz vs eC K6
  have G2 : Gx (fun b j => b = bs m ∧ j = 7 ∨ b = 17 ∧ j = 19 ∨ b = 0 ∧ j = 6) nF (fun b j => b = bs m + 5 ∧ j = (pt (D m)).length) h (sI (sI (sI g (bs m) 7 (nI ((pt (D m)).length + 1))) 17 19 1) 0 6 0) := Gx_t (Gx_t (Gx_t g1 (Gx_sI _ _ (by omega))) (Gx_sI _ _ (by omega))) (Gx_sI _ _ (by omega))
  have w7 : hI (sI (sI (sI g (bs m) 7 (nI ((pt (D m)).length + 1))) 17 19 1) 0 6 0) (bs m) 7 = nI ((pt (D m)).length + 1) := by rw [sI_ne (by omega), sI_ne (by omega), sI_at]
  have wR : hR (sI (sI (sI g (bs m) 7 (nI ((pt (D m)).length + 1))) 17 19 1) 0 6 0) = hR g := rfl
  refine ⟨sI (sI (sI g (bs m) 7 (nI ((pt (D m)).length + 1))) 17 19 1) 0 6 0, ?_, G2, by rw [sI_ne (by omega), sI_at], sI_at .., ?_, by rw [hz_sI, hz_sI, hz_sI]; exact vz, by rw [hs_sI, hs_sI, hs_sI]; exact vs, by rw [hR_sI, hR_sI, hR_sI]; exact v20⟩
  · rw [eC, gi_s K6, e1, nI_1, pi_s K6]
    have L2 : Lay (sI g (bs m) 7 (nI ((pt (D m)).length + 1))) := L1
    rw [gr_s (o0 L2), r0_8 L2, pz_1 (o17 L2), gi_s (show ok (sI (sI g (bs m) 7 (nI ((pt (D m)).length + 1))) 17 19 1) [6] (bs m) = true from K6), sI_ne (by omega), sI_at, C_finds_s (show Lay (sI (sI g (bs m) 7 (nI ((pt (D m)).length + 1))) 17 19 1) from L1), cl_s]
  · generalize sI (sI (sI g (bs m) 7 (nI ((pt (D m)).length + 1))) 17 19 1) 0 6 0 = h1 at G2 w7 wR ⊢
    obtain ⟨u1, u2, u3, ⟨j0, j1⟩, u5, u6, ⟨u7, u8⟩, u9, u10⟩ := c
    have eI : ∀ b j, bs m ≤ b → b < bs m + 5 → ¬ (b = bs m ∧ j = 7) → hI h1 b j = hI h b j := fun b j x y n => G2.2.2.1 b j (by omega) (by omega)
    have elen : (pt (dPart (D m) a)).length = (pt (D m)).length + 1 := by show (pt (D m) ++ [a]).length = _; simp
    have eget : ∀ i, (pt (dPart (D m) a)).getD i 0 = if i = (pt (D m)).length then a else if i < (pt (D m)).length then (pt (D m)).getD i 0 else 0 := fun i => getD_app
    refine Cs_up C La.1 hm G2 (fun a j q => by omega) (fun b j q => ⟨by omega, fun _ => ⟨q.1, k5⟩⟩) rfl (CM_re ⟨u1, u2, u3, ⟨j0, j1⟩, u5, u6, ⟨u7, u8⟩, u9, u10⟩ G2 (fun b j x y q => by omega) rfl ⟨?_, ?_⟩ (fun M e => ⟨?_, ?_, fun j hj => ?_⟩) (fun e => ⟨?_, ?_⟩) ⟨?_, fun q h1 h2 => ?_⟩ (fun q h1 h2 h3 => ?_) (fun e => ⟨?_, fun i hi => ?_⟩)) (Wm_me rfl w.2.1 w.2.2.1 (by rw [elen]; omega) (fun i hi => ?_) w.2.2.2.2.2.1 w.2.2.2.2.2.2 w.1)
    · rw [eI _ _ (by omega) (by omega) (by omega)]; exact j0
    · rw [eI _ _ (by omega) (by omega) (by omega)]; exact j1
    · rw [eI _ _ (by omega) (by omega) (by omega)]; exact (u5 M e).1
    · rw [eI _ _ (by omega) (by omega) (by omega)]; exact (u5 M e).2.1
    · rw [eI _ _ (by omega) (by omega) (by omega)]; exact (u5 M e).2.2 j hj
    · rw [eI _ _ (by omega) (by omega) (by omega)]; exact (u6 e).1
    · rw [eI _ _ (by omega) (by omega) (by omega)]; exact (u6 e).2
    · rw [eI _ _ (by omega) (by omega) (by omega)]; exact u7
    · rw [eI _ _ (by omega) (by omega) (by omega)]; exact u8 q h1 h2
    · rw [eI _ _ (by omega) (by omega) (by omega)]; exact u9 q h1 h2 h3
    · rw [elen]; exact w7
    · rw [elen] at hi
      rw [eget]
      by_cases q : i = (pt (D m)).length
      · rw [if_pos q, wR, q]; exact v7
      · rw [if_neg q, if_pos (by omega), G2.2.2.2.2 _ _ (by omega) (by omega)]; exact p2 i (by omega)
    · rw [elen] at hi
      rw [eget]
      by_cases q : i = (pt (D m)).length
      · rw [if_pos q]; exact ⟨ha, ka⟩
      · rw [if_neg q, if_pos (by omega)]; exact w.2.2.2.2.1 i (by omega)
theorem op_part {N : Nat} {x y : Int32} {h : Hp} (I : Inv h) : Op (C_part N (some 0) x y) (M_part N (some 35) x y) h := by
  obtain ⟨n, mc, D, bs, ic, im, ik, i1, i2, i3, i4, i5, i6, i7, i8, i9, i10', i11, i12⟩ := id I
  have L := i1.1
  have z := L.1
  have m30 := i6.2.1
  have m66 : ∀ (c : Int32) (h : Hp), Lay h → ¬ c = 0 → M_part_66 N (some 35) x y (some 35) c h = some (0, sI h 35 3 c) := by
    intro c h L hc
    unfold M_part_66
    rw [M_finds_1 L hc, cl_s, if_neg i10]
  have c22 : C_part_22 N (some 0) h = some (0, sI h 0 6 4) := by
    unfold C_part_22; rw [C_finds_s L, cl_s]
  have c50 : C_part_50 N (some 0) h = some (0, sI h 0 6 3) := by
    unfold C_part_50; rw [C_finds_s L, cl_s]
  have c72 : C_part_72 N (some 0) h = some (0, sI h 0 6 2) := by
    unfold C_part_72; rw [C_finds_s L, cl_s]
  rcases meth_cs x mc with ⟨m, hm, e⟩ | hx
  · rcases meth_cs y mc with ⟨a, ha, e'⟩ | hy
    · subst e e'
      obtain ⟨-, c, w⟩ := i6.2.2.1 m hm
      obtain ⟨-, ca, wa⟩ := i6.2.2.1 a ha
      have MMm := (i5.2.2 m hm).1
      have w1 := w.1
      have wa1 := wa.1
      have l6 := w.2.2.2.1
      have preM : ∀ h', Lay h' → Ms h' n mc D → M_part N (some 35) (nI m) (nI a) h' = if kd (D m) = 5 then (if kd (D a) = 5 then M_part_66 N (some 35) (nI m) (nI a) (some 35) 3 h' else if m ≤ a then M_part_66 N (some 35) (nI m) (nI a) (some 35) 2 h' else if (pt (D m)).length = 6 then M_part_66 N (some 35) (nI m) (nI a) (some 35) 2 h' else M_part_66 N (some 35) (nI m) (nI a) (some 35) 0 h') else M_part_66 N (some 35) (nI m) (nI a) (some 35) 3 h' := by
        intro h' L' M'
        have mm := (M'.2.2 m hm).1
        have ma := (M'.2.2 a ha).1
        unfold M_part M_part_41 M_part_61
        rw [isMethod_y L' M' hm, cl_s, if_neg i10, isMethod_y L' M' ha, cl_s, if_neg i10, gr_s (o35 L'), r35_6 L', li_s (o38 L') (by rw [k38 L']; show m < 30; omega) (by rw [k38 L']; decide), mm.1]
        by_cases q : kd (D m) = 5
        · rw [if_pos ((eN_5 (by omega)).mpr q), if_pos q, gr_s (o35 L'), r35_6 L', li_s (o38 L') (by rw [k38 L']; show a < 30; omega) (by rw [k38 L']; decide), ma.1]
          by_cases q' : kd (D a) = 5
          · rw [if_pos ((eN_5 (by omega)).mpr q'), if_pos q']
          · rw [if_neg (fun u => q' ((eN_5 (by omega)).mp u)), if_neg q']
            by_cases am : m ≤ a
            · rw [if_pos ((nI_leI (by omega) (by omega)).mpr am), if_pos am]
            · rw [if_neg (fun u => am ((nI_leI (by omega) (by omega)).mp u)), if_neg am, gr_s (o35 L'), r35_11 L', li_s (o43 L') (by rw [k43 L']; show m < 30; omega) (by rw [k43 L']; decide), mm.2.2.2.2.2.1]
              by_cases f6 : (pt (D m)).length = 6
              · rw [if_pos ((eN_6 (by omega)).mpr f6), if_pos f6]
              · rw [if_neg (fun u => f6 ((eN_6 (by omega)).mp u)), if_neg f6]
        · rw [if_neg (fun u => q ((eN_5 (by omega)).mp u)), if_neg q]
      by_cases k5 : kd (D m) = 5
      · have ok6 : ok h [6] (bs m) = true := CM_ok c (by rw [k5]; decide)
        obtain ⟨p1, p2⟩ := c.2.2.2.2.2.2.2.2 k5
        by_cases ka : kd (D a) = 5
        · refine Op_F I 0 3 ?_ ?_
          · unfold C_part
            rw [methodAt_y L i6 hm, cl_s, methodAt_y L i6 ha, cl_s, if_neg (by simp), if_neg (by simp), io_6 c w.1, if_pos k5, if_neg i10, kc_s ok6, io_6 ca wa.1, if_pos ka, if_neg i10, c50]
          · rw [preM _ (LF L 3) (Ms_6 L i5 3), if_pos k5, if_pos ka, m66 3 _ (LF L 3) (by decide)]
            rfl
        · by_cases am : m ≤ a
          · refine Op_F I 0 2 ?_ ?_
            · unfold C_part
              rw [methodAt_y L i6 hm, cl_s, methodAt_y L i6 ha, cl_s, if_neg (by simp), if_neg (by simp), io_6 c w.1, if_pos k5, if_neg i10, kc_s ok6, io_6 ca wa.1, if_neg ka, if_pos rfl, if_pos ((nI_leI (by omega) (by omega)).mpr am), c72]
            · rw [preM _ (LF L 2) (Ms_6 L i5 2), if_pos k5, if_neg ka, if_pos am, m66 2 _ (LF L 2) i20]
              rfl
          · by_cases f6 : (pt (D m)).length = 6
            · refine Op_F I 0 2 ?_ ?_
              · unfold C_part
                rw [methodAt_y L i6 hm, cl_s, methodAt_y L i6 ha, cl_s, if_neg (by simp), if_neg (by simp), io_6 c w.1, if_pos k5, if_neg i10, kc_s ok6, io_6 ca wa.1, if_neg ka, if_pos rfl, if_neg (fun u => am ((nI_leI (by omega) (by omega)).mp u)), gi_s ok6, p1, if_neg (fun u => by have := (ltN_6 (by omega)).mp u; omega), c72]
              · rw [preM _ (LF L 2) (Ms_6 L i5 2), if_pos k5, if_neg ka, if_neg am, if_pos f6, m66 2 _ (LF L 2) i20]
                rfl
            · obtain ⟨h1, eC, G1, v1, v2, C1, vz, vs, v20⟩ := part_C (N := N) L i6 hm (by omega) k5 ka (by omega)
              have b64 := CM_64 c
              have L1 := Gx_Lay G1 L (by unfold Rc; omega)
              have M1 : Ms h1 n mc D := Ms_g i5 z G1 (by omega)
              have x1 : Fi (fun b j => b = 35 ∧ (j = 3 ∨ j = 34) ∨ b = 44 ∧ j = 6 * m + (pt (D m)).length ∨ b = 43 ∧ j = m) h1 (sI (sI (sI (sI h1 35 3 0) 44 (6 * m + (pt (D m)).length) (nI a)) 43 m (nI ((pt (D m)).length + 1))) 35 34 1) := Fx_t (Fx_t (Fx_t (Fx_sI h1 _ (by omega)) (Fx_sI _ _ (by omega))) (Fx_sI _ _ (by omega))) (Fx_sI _ _ (by omega))
              have e43 : hI h1 43 m = nI (pt (D m)).length := (M1.2.2 m hm).1.2.2.2.2.2.1
              have v3 : hI (sI (sI (sI (sI h1 35 3 0) 44 (6 * m + (pt (D m)).length) (nI a)) 43 m (nI ((pt (D m)).length + 1))) 35 34 1) 44 (6 * m + (pt (D m)).length) = nI a := by rw [sI_ne (by omega), sI_ne (by omega), sI_at]
              have v4 : hI (sI (sI (sI (sI h1 35 3 0) 44 (6 * m + (pt (D m)).length) (nI a)) 43 m (nI ((pt (D m)).length + 1))) 35 34 1) 43 m = nI ((pt (D m)).length + 1) := by rw [sI_ne (by omega), sI_at]
              have v5 : hI (sI (sI (sI (sI h1 35 3 0) 44 (6 * m + (pt (D m)).length) (nI a)) 43 m (nI ((pt (D m)).length + 1))) 35 34 1) 35 34 = 1 := sI_at ..
              have v6 : hI (sI (sI (sI (sI h1 35 3 0) 44 (6 * m + (pt (D m)).length) (nI a)) 43 m (nI ((pt (D m)).length + 1))) 35 34 1) 35 3 = 0 := by rw [sI_ne (by omega), sI_ne (by omega), sI_ne (by omega), sI_at]
              have eM : M_part N (some 35) (nI m) (nI a) h1 = some (nI ((pt (D m)).length + 1), sI (sI (sI (sI h1 35 3 0) 44 (6 * m + (pt (D m)).length) (nI a)) 43 m (nI ((pt (D m)).length + 1))) 35 34 1) := by
                rw [preM _ L1 M1, if_pos k5, if_neg ka, if_neg am, if_neg f6]
                unfold M_part_66
                rw [M_finds_0 L1, cl_s, if_pos rfl]
                have L2 : Lay (sI h1 35 3 0) := L1
                have L3 : Lay (sI (sI h1 35 3 0) 44 (6 * m + (pt (D m)).length) (nI a)) := L1
                have L4 : Lay (sI (sI (sI h1 35 3 0) 44 (6 * m + (pt (D m)).length) (nI a)) 43 m (nI ((pt (D m)).length + 1))) := L1
                have q2 : hI (sI h1 35 3 0) 43 m = nI (pt (D m)).length := by rw [sI_ne (by omega)]; exact e43
                have q3 : hI (sI (sI h1 35 3 0) 44 (6 * m + (pt (D m)).length) (nI a)) 43 m = nI (pt (D m)).length := by rw [sI_ne (by omega)]; exact q2
                rw [gr_s (o35 L2), r35_12 L2, gr_s (o35 L2), r35_11 L2, li_s (o43 L2) (by rw [k43 L2]; show m < 30; omega) (by rw [k43 L2]; decide), q2, mN_6, nI_add, si_s (o44 L2) (by rw [k44 L2]; show _ < 180; omega) (by rw [k44 L2]; decide)]
                rw [gr_s (o35 L3), r35_11 L3, li_s (o43 L3) (by rw [k43 L3]; show m < 30; omega) (by rw [k43 L3]; decide), q3, nI_1, si_s (o43 L3) (by rw [k43 L3]; show m < 30; omega) (by rw [k43 L3]; decide), pz_1 (o35 L4)]
                rw [gr_s (show ok (sI (sI (sI (sI h1 35 3 0) 44 (6 * m + (pt (D m)).length) (nI a)) 43 m (nI ((pt (D m)).length + 1))) 35 34 1) [12] 35 = true from o35 L1), show hR (sI (sI (sI (sI h1 35 3 0) 44 (6 * m + (pt (D m)).length) (nI a)) 43 m (nI ((pt (D m)).length + 1))) 35 34 1) 35 11 = some 43 from r35_11 L1, li_s (show ok (sI (sI (sI (sI h1 35 3 0) 44 (6 * m + (pt (D m)).length) (nI a)) 43 m (nI ((pt (D m)).length + 1))) 35 34 1) [13] 43 = true from o43 L1) (by rw [hK_sI, hK_sI, hK_sI, hK_sI, k43 L1]; show m < 30; omega) (by rw [hK_sI, hK_sI, hK_sI, hK_sI, k43 L1]; decide), v4]
              generalize sI (sI (sI (sI h1 35 3 0) 44 (6 * m + (pt (D m)).length) (nI a)) 43 m (nI ((pt (D m)).length + 1))) 35 34 1 = h2 at x1 v3 v4 v5 v6 eM
              have G2 : Gx (fun b j => (b = bs m ∧ j = 7 ∨ b = 17 ∧ j = 19 ∨ b = 0 ∧ j = 6) ∨ b = 35 ∧ (j = 3 ∨ j = 34) ∨ b = 44 ∧ j = 6 * m + (pt (D m)).length ∨ b = 43 ∧ j = m) nF (fun b j => b = bs m + 5 ∧ j = (pt (D m)).length) h h2 := Gx_t (Gx_m G1 (fun _ _ _ c => Or.inl c) (fun _ _ _ c => c) (fun _ _ _ c => c)) (Gx_m (Gx_X (R := fun b j => b = bs m + 5 ∧ j = (pt (D m)).length) x1) (fun _ _ _ c => Or.inr c) (fun _ _ _ c => c) (fun _ _ _ c => c))
              have wd : Wm n m (va_up D m (dPart (D m) a)) := (C1.2.2.1 m hm).2.2
              have zb := c.1.2
              rw [bw, if_pos k5] at zb
              refine ⟨nI ((pt (D m)).length + 1), h1, h2, eC, eM, Inv_mod i1 i2 i7 i8 i9 i10' i11 i12 G2 (fun a j _ q => by omega) (fun a j _ q => q) (fun a j _ q => by omega) (Ms_up (m := m) (d := dPart (D m) a) i5 z G2 (by omega) (fun a j q _ => by unfold PQ; omega) rfl ?_ wd) (Cs_g C1 L1.1 (Gx_F x1) (by omega) (fun _ _ _ q => q)) (Nat.le_refl _) (fun _ _ => rfl) (Tp_g i4 z G2 (by omega)) ?_ ?_ ?_ v5, ?_, L1⟩
              · obtain ⟨m1, m2, m3, m4, m5, m6, m7, m8⟩ := MMm
                have elen : (pt (dPart (D m) a)).length = (pt (D m)).length + 1 := by show (pt (D m) ++ [a]).length = _; simp
                refine ⟨by rw [Gx_I G2 z (by omega) (by omega)]; exact m1, by rw [Gx_I G2 z (by omega) (by omega)]; exact m2, fun L' e j hj => by rw [Gx_I G2 z (by omega) (by omega)]; exact m3 L' e j hj, fun c h1 h2 => by rw [Gx_I G2 z (by omega) (by omega)]; exact m4 c h1 h2, fun c h1 h2 h3 => by rw [Gx_I G2 z (by omega) (by omega)]; exact m5 c h1 h2 h3, by rw [elen]; exact v4, fun i hi => ?_, by rw [Gx_I G2 z (by omega) (by omega)]; exact m8⟩
                rw [elen] at hi
                rw [show (pt (dPart (D m) a)).getD i 0 = _ from getD_app]
                by_cases q : i = (pt (D m)).length
                · rw [if_pos q, q]; exact v3
                · rw [if_neg q, if_pos (by omega), Gx_I G2 z (by omega) (by omega)]; exact m7 i (by omega)
              · unfold Fdn; rw [v6, Fx_I x1 (by omega)]; exact v2
              · intro i hi q hq
                have s := i12.1
                rw [Fx_R x1, v20] at hq
                obtain ⟨⟨s1, s2⟩, ⟨s3, s3'⟩, s4, s5, s6⟩ := s i hi q hq
                have K5 := c.2.1.2.2.2.2.2 k5
                have qn : q ≠ bs m + 5 := fun e => by
                  rw [e, K5] at s3
                  exact absurd s3 (by decide)
                refine ⟨⟨s1, Nat.le_trans s2 G2.1⟩, ⟨by rw [G2.2.1 _ (by omega)]; exact s3, by rw [G2.2.1 _ (by omega)]; exact s3'⟩, by rw [G2.2.2.2.2 _ _ (by omega) (by omega)]; exact s4, s5, fun j hj hn q' hq' => ?_⟩
                rw [Fx_R x1, v20] at hq'
                exact s6 j hj hn q' hq'
              · rw [Fx_I x1 (by omega)]; exact v1
              · unfold Gr nn
                rw [Fx_R x1, Fx_z x1, Fx_s x1, v20, vz, vs]
                omega
      · refine Op_F I 0 3 ?_ ?_
        · unfold C_part
          rw [methodAt_y L i6 hm, cl_s, methodAt_y L i6 ha, cl_s, if_neg (by simp), if_neg (by simp), io_6 c w.1, if_neg k5, if_pos rfl, c50]
        · rw [preM _ (LF L 3) (Ms_6 L i5 3), if_neg k5, m66 3 _ (LF L 3) (by decide)]
          rfl
    · subst e
      refine Op_F I 0 4 ?_ ?_
      · unfold C_part
        rw [methodAt_y L i6 hm, cl_s, methodAt_n L i6 hy, cl_s, if_neg (by simp), if_pos rfl, c22]
      · unfold M_part M_part_17
        rw [isMethod_y (LF L 4) (Ms_6 L i5 4) hm, cl_s, if_neg i10, isMethod_n (LF L 4) (Ms_6 L i5 4) hy, cl_s, if_pos rfl, m66 4 _ (LF L 4) i40]
        rfl
  · refine Op_F I 0 4 ?_ ?_
    · have : ∃ r, ds [(11, C_methodAt N (some 0) y h)] (some 0) h = some (r, h) := by
        rcases meth_cs y mc with ⟨a, ha, e'⟩ | hy
        · subst e'; exact ⟨_, methodAt_y L i6 ha⟩
        · exact ⟨_, methodAt_n L i6 hy⟩
      obtain ⟨r, er⟩ := this
      unfold C_part
      rw [methodAt_n L i6 hx, cl_s, er, cl_s, if_pos rfl, c22]
    · unfold M_part M_part_17
      rw [isMethod_n (LF L 4) (Ms_6 L i5 4) hx, cl_s, if_pos rfl, m66 4 _ (LF L 4) i40]
      rfl
