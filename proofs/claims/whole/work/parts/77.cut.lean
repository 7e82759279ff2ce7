/-! PURE: cut, called, allow -/
theorem CM_re {P Q R : Nat → Nat → Prop} {h h' : Hp} {b n : Nat} {d d' : Md} {bs : Nat → Nat} (c : CM h b n d bs) (f : Gx P Q R h h') (r : ∀ a k, b ≤ a → a < b + 5 → ¬ R a k) (hd : kd d' = kd d)
    (i : hI h' b 0 = nI n ∧ hI h' b 5 = nI (aw d')) (l1 : ∀ M, ln d' = some M → hI h' (b + 1) 2 = 0 ∧ hI h' (b + 1) 1 = nI M ∧ ∀ k, k < M → hI h' (b + 2) k = nI (ld d' k)) (l2 : ln d' = none → hI h' (b + 1) 1 = 0 ∧ hI h' (b + 1) 2 = nI (if kd d' = 5 then 7 else 1))
    (a1 : hI h' (b + 3) 0 = -1 ∧ ∀ c, 1 ≤ c → c ≤ 2 → hI h' (b + 3) c = oI (cp d' c)) (a3 : ∀ c, 1 ≤ c → c ≤ 2 → cp d' c ≠ none → hI h' (b + 4) c = nI (cc d' c)) (a4 : kd d' = 5 → hI h' b 7 = nI (pt d').length ∧ ∀ i, i < (pt d').length → hR h' (b + 5) i = some (bs ((pt d').getD i 0))) : CM h' b n d' bs := by
  obtain ⟨⟨c1, c2⟩, ⟨k0, k1, k2, k3, k4, k5⟩, ⟨q1, q2, q3, q4, q5, q6⟩, -⟩ := c
  have hb : b + 5 ≤ hz h := by unfold bw at c2; split at c2 <;> omega
  have eR : ∀ a k, b ≤ a → a < b + 5 → hR h' a k = hR h a k := fun a k x y => f.2.2.2.2 a k (by omega) (r a k x y)
  have eK : ∀ a, a < b + 5 → hK h' a = hK h a := fun a x => f.2.1 a (by omega)
  refine ⟨⟨c1, by rw [bw_k hd]; exact Nat.le_trans c2 f.1⟩, ⟨?_, ?_, ?_, ?_, ?_, fun k => ?_⟩, ⟨?_, ?_, ?_, ?_, ?_, fun k => ?_⟩, i, l1, l2, a1, a3, a4⟩
  · rw [eK _ (by omega), hd]; exact k0
  · rw [eK _ (by omega)]; exact k1
  · rw [eK _ (by omega)]; exact k2
  · rw [eK _ (by omega)]; exact k3
  · rw [eK _ (by omega)]; exact k4
  · rw [hd] at k
    rw [bw, if_pos k] at c2
    rw [f.2.1 _ (by omega)]; exact k5 k
  · rw [eR _ _ (by omega) (by omega)]; exact q1
  · rw [eR _ _ (by omega) (by omega)]; exact q2
  · rw [eR _ _ (by omega) (by omega)]; exact q3
  · rw [eR _ _ (by omega) (by omega)]; exact q4
  · rw [eR _ _ (by omega) (by omega)]; exact q5
  · rw [hd] at k
    rw [eR _ _ (by omega) (by omega)]; exact q6 k
theorem blk {h : Hp} {b n : Nat} {d : Md} {bs : Nat → Nat} (c : CM h b n d bs) : 64 ≤ b ∧ b + 5 ≤ hz h := by
  refine ⟨c.1.1, ?_⟩
  have := c.1.2
  unfold bw at this
  split at this <;> omega
def dCut (d : Md) (k : Nat) : Md := (kd d, some k, ld d, cp d, cc d, pt d, aw d)
theorem cut_C {N n mc m k L : Nat} {D : Nat → Md} {bs : Nat → Nat} {h : Hp} (La : Lay h) (C : Cs h n mc D bs) (hm : m < mc) (k5 : kd (D m) ≠ 5) (hl : ln (D m) = some L) (hk : k ≤ L) : ∃ h1, C_cut N (some 0) (nI m) (nI k) h = some (nI k, h1) ∧ Fi (fun a j => a = bs m + 1 ∧ j = 1 ∨ a = 17 ∧ j = 19 ∨ a = 0 ∧ j = 6) h h1 ∧ hI h1 17 19 = 1 ∧ hI h1 0 6 = 0 ∧ Cs h1 n mc (va_up D m (dCut (D m) k)) bs := by
  obtain ⟨-, c, w⟩ := C.2.2.1 m hm
  obtain ⟨b64, bz⟩ := blk c
  have hL := (w.2.1 L hl).1
  obtain ⟨l1, l2, l3⟩ := c.2.2.2.2.1 L hl
  have okb := CM_ok c kc_in
  have ok1 : ok h [0] (bs m + 1) = true := ok_K (by omega) c.2.1.2.1
  have x0 : Fi (fun a j => a = bs m + 1 ∧ j = 1 ∨ a = 17 ∧ j = 19 ∨ a = 0 ∧ j = 6) h (sI (sI (sI h (bs m + 1) 1 (nI k)) 17 19 1) 0 6 0) := Fx_t (Fx_t (Fx_sI h _ (by omega)) (Fx_sI _ _ (by omega))) (Fx_sI _ _ (by omega))
  have eC : C_cut N (some 0) (nI m) (nI k) h = some (nI k, sI (sI (sI h (bs m + 1) 1 (nI k)) 17 19 1) 0 6 0) := by
    unfold C_cut
    rw [methodAt_y La C hm, cl_s, if_neg (by simp), io_6 c w.1, if_neg k5, if_pos rfl, gr_s okb, c.2.2.1.2.1, gi_s ok1, l1, if_pos rfl, if_pos (show (0 : Int32) ≤ nI k from (Nle_0 (by omega)).mpr (by omega)), gr_s okb, c.2.2.1.2.1, gi_s ok1, l2, if_pos ((nI_leI (by omega) (by omega)).mpr hk), gr_s okb, c.2.2.1.2.1, pi_s ok1]
    simp only [gr_s, pz_s, ok_sI, hR_sI, o0, o17, r0_8, La, or_true]
    rw [C_finds_s (show Lay (sI (sI h (bs m + 1) 1 (nI k)) 17 19 1) from La), cl_s]
  have v1 : hI (sI (sI (sI h (bs m + 1) 1 (nI k)) 17 19 1) 0 6 0) 17 19 = 1 := by rw [sI_ne (by omega), sI_at]
  have v2 : hI (sI (sI (sI h (bs m + 1) 1 (nI k)) 17 19 1) 0 6 0) 0 6 = 0 := sI_at ..
  have v3 : hI (sI (sI (sI h (bs m + 1) 1 (nI k)) 17 19 1) 0 6 0) (bs m + 1) 1 = nI k := by rw [sI_ne (by omega), sI_ne (by omega), sI_at]
  generalize sI (sI (sI h (bs m + 1) 1 (nI k)) 17 19 1) 0 6 0 = h1 at x0 eC v1 v2 v3
  refine ⟨h1, eC, x0, v1, v2, ?_⟩
  obtain ⟨u1, u2, u3, ⟨i0, i1⟩, u5, u6, ⟨u7, u8⟩, u9, u10⟩ := c
  refine Cs_up C La.1 hm (Gx_F x0) (fun a j q => by omega) (fun a j q => q.elim) rfl (CM_re ⟨u1, u2, u3, ⟨i0, i1⟩, u5, u6, ⟨u7, u8⟩, u9, u10⟩ (Gx_F x0) (fun _ _ _ _ q => q) rfl ⟨?_, ?_⟩ (fun M e => ⟨?_, ?_, fun j hj => ?_⟩) (fun e => (by cases e)) ⟨?_, fun c h1 h2 => ?_⟩ (fun c h1 h2 h3 => ?_) (fun e => absurd e k5)) (Wm_me rfl (fun L' e => ?_) w.2.2.1 w.2.2.2.1 w.2.2.2.2.1 w.2.2.2.2.2.1 (fun e => absurd e k5) w.1)
  · rw [Fx_I x0 (by omega)]; exact i0
  · rw [Fx_I x0 (by omega)]; exact i1
  · rw [Fx_I x0 (by omega)]; exact l1
  · cases e; exact v3
  · cases e
    rw [Fx_I x0 (by omega)]; exact l3 j (by omega)
  · rw [Fx_I x0 (by omega)]; exact u7
  · rw [Fx_I x0 (by omega)]; exact u8 c h1 h2
  · rw [Fx_I x0 (by omega)]; exact u9 c h1 h2 h3
  · cases e
    exact ⟨by omega, fun j hj => (w.2.1 L hl).2 j (by omega)⟩
theorem pz_1 {β : Type} {ts : List Nat} {k a : Nat} {h : Hp} {f : Hp → Option β} (o : ok h ts a = true) : pz ts k (some a) 1 h f = f (sI h a k 1) := pz_s o (Or.inr rfl)
theorem op_cut {N : Nat} {x y : Int32} {h : Hp} (I : Inv h) : Op (C_cut N (some 0) x y) (M_cut N (some 35) x y) h := by
  obtain ⟨n, mc, D, bs, ic, im, ik, i1, i2, i3, i4, i5, i6, i7, i8, i9, i10', i11, i12⟩ := id I
  have L := i1.1
  have z := L.1
  have m64 : ∀ (c : Int32) (h : Hp), Lay h → ¬ c = 0 → M_cut_64 N (some 35) x y (some 35) c h = some (0, sI h 35 3 c) := by
    intro c h L hc
    unfold M_cut_64
    rw [M_finds_1 L hc, cl_s, if_neg i10]
  rcases meth_cs x mc with ⟨m, hm, e⟩ | hx
  · subst e
    have m30 := i6.2.1
    obtain ⟨-, c, w⟩ := i6.2.2.1 m hm
    obtain ⟨b64, bz⟩ := blk c
    have okb := CM_ok c kc_in
    have ok1 : ok h [0] (bs m + 1) = true := ok_K (by omega) c.2.1.2.1
    have MMm := (i5.2.2 m hm).1
    have preM : ∀ h', Lay h' → Ms h' n mc D → M_cut N (some 35) (nI m) y h' = if kd (D m) = 5 then M_cut_64 N (some 35) (nI m) y (some 35) 3 h' else if 0 ≤ oI (ln (D m)) then (if 0 ≤ y then (if y ≤ oI (ln (D m)) then M_cut_64 N (some 35) (nI m) y (some 35) 0 h' else M_cut_64 N (some 35) (nI m) y (some 35) 5 h') else M_cut_64 N (some 35) (nI m) y (some 35) 6 h') else M_cut_64 N (some 35) (nI m) y (some 35) 1 h' := by
      intro h' L' M'
      have mm := (M'.2.2 m hm).1
      unfold M_cut
      rw [isMethod_y L' M' hm, cl_s, if_neg i10, gr_s (o35 L'), r35_6 L', li_s (o38 L') (by rw [k38 L']; show m < 30; omega) (by rw [k38 L']; decide), mm.1]
      have w1 := w.1
      by_cases q : kd (D m) = 5
      · rw [if_pos ((eN_5 (by omega)).mpr q), if_pos q]
      · rw [if_neg (fun u => q ((eN_5 (by omega)).mp u)), if_neg q, gr_s (o35 L'), r35_7 L', li_s (o39 L') (by rw [k39 L']; show m < 30; omega) (by rw [k39 L']; decide), mm.2.1, gr_s (o35 L'), r35_7 L', li_s (o39 L') (by rw [k39 L']; show m < 30; omega) (by rw [k39 L']; decide), mm.2.1]
    by_cases k5 : kd (D m) = 5
    · refine Op_F I 0 3 ?_ ?_
      · unfold C_cut
        rw [methodAt_y L i6 hm, cl_s, if_neg (by simp), io_6 c w.1, if_pos k5, if_neg i10, C_finds_s L, cl_s]
      · rw [preM _ (LF L 3) (Ms_6 L i5 3), if_pos k5, m64 3 _ (LF L 3) (by decide)]
        rfl
    rcases hl : ln (D m) with _ | Ln
    · have a2 := (c.2.2.2.2.2.1 hl).2
      rw [if_neg k5] at a2
      refine Op_F I 0 1 ?_ ?_
      · unfold C_cut
        rw [methodAt_y L i6 hm, cl_s, if_neg (by simp), io_6 c w.1, if_neg k5, if_pos rfl, gr_s okb, c.2.2.1.2.1, gi_s ok1, a2, if_neg (show ¬ nI 1 = 0 by decide), gr_s okb, c.2.2.1.2.1, gi_s ok1, a2, C_finds_s L, cl_s]
        rfl
      · rw [preM _ (LF L 1) (Ms_6 L i5 1), if_neg k5, hl, if_neg (by decide), m64 1 _ (LF L 1) i10]
        rfl
    · obtain ⟨l1, l2, l3⟩ := c.2.2.2.2.1 Ln hl
      have hL := (w.2.1 Ln hl).1
      have n0' : (0 : Int32) ≤ oI (some Ln) := (Nle_0 (by omega)).mpr (by omega)
      rcases i32_cs y with cy | ⟨k, hk, e⟩
      · have y0 : ¬ (0 : Int32) ≤ y := (i32_n cy 0 (by omega)).2.1
        refine Op_F I 0 6 ?_ ?_
        · unfold C_cut
          rw [methodAt_y L i6 hm, cl_s, if_neg (by simp), io_6 c w.1, if_neg k5, if_pos rfl, gr_s okb, c.2.2.1.2.1, gi_s ok1, l1, if_pos rfl, if_neg y0, C_finds_s L, cl_s]
        · rw [preM _ (LF L 6) (Ms_6 L i5 6), if_neg k5, hl, if_pos n0', if_neg y0, m64 6 _ (LF L 6) (by decide)]
          rfl
      · subst e
        have y0 : (0 : Int32) ≤ nI k := (Nle_0 hk).mpr (by omega)
        by_cases kl : k ≤ Ln
        · obtain ⟨h1, eC, x0, v1, v2, C1⟩ := cut_C (N := N) L i6 hm k5 hl kl
          have L1 := Fx_Lay x0 L
          have M1 : Ms h1 n mc D := Ms_g i5 z (Gx_F x0) (by omega)
          have x1 : Fi (fun a j => a = 35 ∧ (j = 3 ∨ j = 34) ∨ a = 39 ∧ j = m) h1 (sI (sI (sI h1 35 3 0) 39 m (nI k)) 35 34 1) := Fx_t (Fx_t (Fx_sI h1 _ (by omega)) (Fx_sI _ _ (by omega))) (Fx_sI _ _ (by omega))
          have eM : M_cut N (some 35) (nI m) (nI k) h1 = some (nI k, sI (sI (sI h1 35 3 0) 39 m (nI k)) 35 34 1) := by
            rw [preM _ L1 M1, if_neg k5, hl, if_pos n0', if_pos y0, if_pos (show nI k ≤ oI (some Ln) from (nI_leI hk (by omega)).mpr kl)]
            unfold M_cut_64
            rw [M_finds_0 L1, cl_s, if_pos rfl]
            have L2 : Lay (sI h1 35 3 0) := L1
            rw [gr_s (o35 L2), r35_7 L2, si_s (o39 L2) (by rw [k39 L2]; show m < 30; omega) (by rw [k39 L2]; decide), pz_1 (show ok (sI (sI h1 35 3 0) 39 m (nI k)) [12] 35 = true from o35 L1)]
          have v3 : hI (sI (sI (sI h1 35 3 0) 39 m (nI k)) 35 34 1) 39 m = nI k := by rw [sI_ne (by omega), sI_at]
          have v4 : hI (sI (sI (sI h1 35 3 0) 39 m (nI k)) 35 34 1) 35 34 = 1 := sI_at ..
          have v5 : hI (sI (sI (sI h1 35 3 0) 39 m (nI k)) 35 34 1) 35 3 = 0 := by rw [sI_ne (by omega), sI_ne (by omega), sI_at]
          generalize sI (sI (sI h1 35 3 0) 39 m (nI k)) 35 34 1 = h2 at x1 eM v3 v4 v5
          have x2 : Fi (fun a j => (a = bs m + 1 ∧ j = 1 ∨ a = 17 ∧ j = 19 ∨ a = 0 ∧ j = 6) ∨ a = 35 ∧ (j = 3 ∨ j = 34) ∨ a = 39 ∧ j = m) h h2 := Fx_t (Fx_m x0 (fun _ _ c => Or.inl c) (fun _ _ c => c)) (Fx_m x1 (fun _ _ c => Or.inr c) (fun _ _ c => c))
          have wd : Wm n m (va_up D m (dCut (D m) k)) := (C1.2.2.1 m hm).2.2
          refine ⟨nI k, h1, h2, eC, eM, Inv_mod i1 i2 i7 i8 i9 i10' i11 i12 (Gx_F x2) (fun a j _ q => by omega) (fun a j _ q => q) (fun a j _ q => q.elim) (Ms_up (m := m) (d := dCut (D m) k) i5 z (Gx_F x2) (by omega) (fun a j q _ => by unfold PQ; omega) rfl ?_ wd) (Cs_g C1 L1.1 (Gx_F x1) (by omega) (fun _ _ _ q => q)) (Nat.le_refl _) (fun _ _ => rfl) (Tp_g i4 z (Gx_F x2) (by omega)) ?_ (Sl_g i12.1 z (Gx_F x2) (fun _ _ _ q => q)) ?_ v4, Gr_F x2, L1⟩
          · obtain ⟨m1, m2, m3, m4, m5, m6, m7, m8⟩ := MMm
            refine ⟨by rw [Fx_I x2 (by omega)]; exact m1, v3, fun L' e j hj => ?_, fun c h1 h2 => by rw [Fx_I x2 (by omega)]; exact m4 c h1 h2, fun c h1 h2 h3 => by rw [Fx_I x2 (by omega)]; exact m5 c h1 h2 h3, by rw [Fx_I x2 (by omega)]; exact m6, fun i hi => by rw [Fx_I x2 (by omega)]; exact m7 i hi, by rw [Fx_I x2 (by omega)]; exact m8⟩
            cases e
            rw [Fx_I x2 (by omega)]; exact m3 Ln hl j (by omega)
          · unfold Fdn; rw [v5, Fx_I x1 (by omega)]; exact v2
          · rw [Fx_I x1 (by omega)]; exact v1
        · have kl' : ¬ nI k ≤ nI Ln := fun q => kl ((nI_leI hk (by omega)).mp q)
          refine Op_F I 0 5 ?_ ?_
          · unfold C_cut
            rw [methodAt_y L i6 hm, cl_s, if_neg (by simp), io_6 c w.1, if_neg k5, if_pos rfl, gr_s okb, c.2.2.1.2.1, gi_s ok1, l1, if_pos rfl, if_pos y0, gr_s okb, c.2.2.1.2.1, gi_s ok1, l2, if_neg kl', C_finds_s L, cl_s]
          · rw [preM _ (LF L 5) (Ms_6 L i5 5), if_neg k5, hl, if_pos n0', if_pos y0, if_neg (show ¬ nI k ≤ oI (some Ln) from kl'), m64 5 _ (LF L 5) (by decide)]
            rfl
  · refine Op_F I 0 4 ?_ ?_
    · unfold C_cut
      rw [methodAt_n L i6 hx, cl_s, if_pos rfl, C_finds_s L, cl_s]
    · unfold M_cut
      rw [isMethod_n (LF L 4) (Ms_6 L i5 4) hx, cl_s, if_pos rfl, m64 4 _ (LF L 4) i40]
      rfl
