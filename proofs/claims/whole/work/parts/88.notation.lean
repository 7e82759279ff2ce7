/-! PURE: notation, on both sides -/
theorem copy_l {N m X : Nat} {W : Nat → Nat} (hm : m < 30) (hX : X ≤ 100) : ∀ (r g i : Nat) (h : Hp), i + r = X → r < g → Lay h → hI h 35 55 = nI X → (∀ k, k < X → hI h 61 k = nI (W k)) → (∀ k, k < i → hI h 40 (100 * m + k) = nI (W k)) → ∃ h', M_notation_140 N g (some 35) (nI m) (nI i) h = some (nI X, h') ∧ Fi (fun a k => a = 39 ∧ k = m ∨ a = 35 ∧ k = 34 ∨ a = 40 ∧ 100 * m ≤ k ∧ k < 100 * m + 100) h h' ∧ hI h' 39 m = nI X ∧ hI h' 35 34 = 1 ∧ ∀ k, k < X → hI h' 40 (100 * m + k) = nI (W k)
  | r, 0, _, _, _, hg, _, _, _, _ => absurd hg (by omega)
  | 0, g + 1, i, h, hi, _, L, e, hw, hc => by
    simp only [M_notation_140]
    have L1 : Lay (sI h 39 m (nI X)) := L
    have L2 : Lay (sI (sI h 39 m (nI X)) 35 34 1) := L
    rw [gi_s (o35 L), e, if_pos ((nI_leI (by omega) (by omega)).mpr (by omega)), gr_s (o35 L), r35_7 L, gi_s (o35 L), e, si_s (o39 L) (by rw [k39 L]; exact hm) (by rw [k39 L]; decide), pz_1 (o35 L1), gi_s (o35 L2), sI_ne (by omega), sI_ne (by omega), e]
    refine ⟨_, rfl, Fx_t (Fx_sI _ _ (by omega)) (Fx_sI _ _ (by omega)), by rw [sI_ne (by omega), sI_at], sI_at .., fun k hk => ?_⟩
    rw [sI_ne (by omega), sI_ne (by omega)]
    exact hc k (by omega)
  | r + 1, g + 1, i, h, hi, hg, L, e, hw, hc => by
    simp only [M_notation_140]
    rw [gi_s (o35 L), e, if_neg (fun u => absurd ((nI_leI (by omega) (by omega)).mp u) (by omega)), gr_s (o35 L), r35_8 L, gr_s (o35 L), r35_54 L, li_s (o61 L) (by rw [k61 L]; show i < 600; omega) (by rw [k61 L]; decide), hw i (by omega), mN_100, nI_add, si_s (o40 L) (by rw [k40 L]; show 100 * m + i < 3000; omega) (by rw [k40 L]; decide), nmE, show nI i + 1 = nI (i + 1) from aN_1 i]
    obtain ⟨h', a1, a2, a3, a4, a5⟩ := copy_l (N := N) (W := W) hm hX r g (i + 1) (sI h 40 (100 * m + i) (nI (W i))) (by omega) (by omega) L (by rw [sI_ne (by omega)]; exact e) (fun k hk => by rw [sI_ne (by omega)]; exact hw k hk) (fun k hk => by
      by_cases q : k = i
      · rw [q, sI_at]
      · rw [sI_ne (by omega)]; exact hc k (by omega))
    exact ⟨h', a1, Fx_t (Fx_sI _ _ (by omega)) a2, a3, a4, a5⟩
theorem Inv_t {P : Nat → Nat → Prop} {h h' : Hp} (I : Inv h) (f : Fi P h h') (p : ∀ a k, P a k → a = 0 ∧ k = 6 ∨ a = 35 ∧ (k = 1 ∨ k = 3 ∨ k = 55 ∨ k = 56) ∨ a = 3 ∨ a = 1 ∨ a = 61) (T : Tp h') (F : Fdn h') : Inv h' := by
  obtain ⟨n, mc, D, bs, ic, im, ik, i1, i2, i3, i4, i5, i6, i7, i8, i9, i10, i11, i12⟩ := I
  have z := i1.1.1
  have f := Gx_F (Fx_m f p (fun _ _ c => c))
  have r : ∀ (X : Nat → Nat → Prop) a k, X a k → ¬ nF a k := fun _ _ _ _ c => c
  refine ⟨n, mc, D, bs, ic, im, ik, Bs_g i1 f ?_ (r _), Tr_g i2 z f ?_, F, T, Ms_g i5 z f ?_, Cs_g i6 z f ?_ (r _), Rg_g i7 z f ?_, It_g i8 z f ?_ (r _), Tc_g i9 z f ?_ (r _), Pf_g i10 z f ?_, Ot_g i11 z f ?_ (r _), Sr_g i12 i6.2.1 z f ?_ (r _) (r _)⟩ <;> (intro a k c d; omega)
theorem neg_e : ∀ e, e < 301 → (-1 : Int32) - nI e < 0 := by decide +kernel
theorem lF_ch {n fb m : Nat} {U : Nat → Nat} (hU : ∀ j, j < m → Ch n (U j)) (hf : fb < m) : ∀ k, k < tot fb m → Ch n (lF fb m U k) := by
  intro k hk
  unfold tot at hk
  unfold lF
  by_cases f0 : fb = 0
  · rw [if_pos f0] at hk
    rw [if_pos (Or.inl f0)]; exact hU k hk
  · rw [if_neg f0] at hk
    (repeat' split) <;> exact hU _ (by omega)
def dLead (d : Md) (X : Nat) (F : Nat → Nat) : Md := (kd d, some X, F, cp d, cc d, pt d, aw d)
def PN1 (a k : Nat) : Prop := PTp a k ∨ a = 1 ∧ k = 1 ∨ a = 0 ∧ k = 6
/-- the class: nothing is written -/
theorem not_C {N : Nat} {y : Int32} {h h1 : Hp} (L1 : Lay h1) (x : Fi PTp h h1) (hy : y < 0) : (gr [11] 0 (some 0) h1 fun x9 => pi [8] 1 x9 0 h1 fun h10 => if y < 0 then (C_notation_67 N (some 0) y h10) else (gr [11] 8 (some 0) h10 fun x11 => pz [5] 19 x11 1 h10 fun h12 => C_notation_67 N (some 0) y h12)) = some (y, sI (sI h1 1 1 0) 0 6 0) ∧ Fi PN1 h (sI (sI h1 1 1 0) 0 6 0) := by
  have L2 : Lay (sI h1 1 1 0) := L1
  refine ⟨?_, Fx_t (Fx_m x (fun _ _ c => Or.inl c) (fun _ _ c => c)) (Fx_t (Fx_sI _ _ (by unfold PN1; omega)) (Fx_sI _ _ (by unfold PN1; omega)))⟩
  rw [gr_s (o0 L1), r0_0 L1, pi_s (o1 L1), if_pos hy]
  unfold C_notation_67
  rw [C_finds_s L2, cl_s]
theorem op_notation {N : Nat} {x : Int32} {h : Hp} (hN : 1000 < N) (I : Inv h) : Op (C_notation N (some 0) x) (M_notation N (some 35) x) h := by
  obtain ⟨n, mc, D, bs, ic, im, ik, i1, i2, i3, i4, i5, i6, i7, i8, i9, i10', i11, i12⟩ := id I
  have L := i1.1
  have z := L.1
  have m30 := i6.2.1
  have n12 := i1.2.2.2
  rcases meth_cs x mc with ⟨m, hm, e⟩ | hx
  · subst e
    obtain ⟨-, c, w⟩ := i6.2.2.1 m hm
    obtain ⟨b64, bz⟩ := blk c
    have okb := CM_ok c kc_in
    have MMm := (i5.2.2 m hm).1
    have w1 := w.1
    have preM : ∀ h', Lay h' → Ms h' n mc D → M_notation N (some 35) (nI m) h' = if kd (D m) = 5 then M_notation_28 N (some 35) (nI m) (some 35) 3 h' else M_notation_28 N (some 35) (nI m) (some 35) 0 h' := by
      intro h' L' M'
      have mm := (M'.2.2 m hm).1
      unfold M_notation
      rw [isMethod_y L' M' hm, cl_s, if_neg i10, gr_s (o35 L'), r35_6 L', li_s (o38 L') (by rw [k38 L']; show m < 30; omega) (by rw [k38 L']; decide), mm.1]
      by_cases q : kd (D m) = 5
      · rw [if_pos ((eN_5 (by omega)).mpr q), if_pos q]
      · rw [if_neg (fun u => q ((eN_5 (by omega)).mp u)), if_neg q]
    by_cases k5 : kd (D m) = 5
    · refine Op_F I 0 3 ?_ ?_
      · unfold C_notation
        rw [methodAt_y L i6 hm, cl_s, if_neg (by simp), io_6 c w.1, if_pos k5, if_neg i10, C_finds_s L, cl_s]
      · rw [preM _ (LF L 3) (Ms_6 L i5 3), if_pos k5]
        unfold M_notation_28
        rw [M_finds_1 (LF L 3) (by decide), cl_s, if_neg i10]
        rfl
    obtain ⟨t, t0, t1, t2, t3⟩ := id i4
    obtain ⟨B, hB⟩ : ∃ B : Nat → Nat, ∀ k, k < t → B k < 256 ∧ hI h 36 k = nI (B k) ∧ hI h 2 k = sgn (B k) := by
      have : ∀ k, ∃ b, k < t → b < 256 ∧ hI h 36 k = nI b ∧ hI h 2 k = sgn b := fun k => by
        by_cases q : k < t
        · obtain ⟨b, b1, b2, b3⟩ := t3 k q
          exact ⟨b, fun _ => ⟨b1, b2, b3⟩⟩
        · exact ⟨0, fun u => absurd u q⟩
      exact Classical.axiomOfChoice this
    obtain ⟨ha, eha⟩ : ∃ ha, ha = sI (sI (sI h 1 3 0) 1 4 0) 1 5 0 := ⟨_, rfl⟩
    have xa : Fi PTp h ha := by rw [eha]; exact Fx_t (Fx_t (Fx_sI _ _ (by unfold PTp; omega)) (Fx_sI _ _ (by unfold PTp; omega))) (Fx_sI _ _ (by unfold PTp; omega))
    have Ra : RT ha 0 0 0 0 0 (fun _ => 0) := by
      rw [eha]
      exact ⟨by rw [sI_ne (by omega), sI_ne (by omega), sI_at]; rfl, by rw [sI_ne (by omega), sI_at]; rfl, by rw [sI_at]; rfl, fun u => absurd u (by decide), fun j hj => absurd hj (by omega)⟩
    have La := Fx_Lay xa L
    have preC : C_notation N (some 0) (nI m) h = cl (Tape_readLead_17 N N (some 1) (nI n) (some (bs m + 1)) (nI 0) ha) fun y h1 => (gr [11] 0 (some 0) h1 fun x9 => pi [8] 1 x9 0 h1 fun h10 => if y < 0 then (C_notation_67 N (some 0) y h10) else (gr [11] 8 (some 0) h10 fun x11 => pz [5] 19 x11 1 h10 fun h12 => C_notation_67 N (some 0) y h12)) := by
      have l1 := lay_s 1 3 0 L
      have l2 := lay_s 1 4 0 l1
      unfold C_notation
      rw [methodAt_y L i6 hm, cl_s, if_neg (by simp), io_6 c w.1, if_neg k5, if_pos rfl, gr_s (o0 L), r0_0 L, gi_s (o0 L), i1.2.1.1, gr_s okb, c.2.2.1.2.1, ds8 L]
      unfold Tape_readLead
      rw [pi_s (o1 L), pi_s (o1 l1), pi_s (o1 l2), ← eha]
      rfl
    obtain ⟨A, C⟩ := readLead_l (N := N) (lo := some (bs m + 1)) (by omega) n12 t0 (fun k hk => (hB k hk).1) t N 0 0 0 0 0 0 (fun _ => 0) ha (by omega) (by omega) La (by rw [Fx_I xa (by unfold PTp; omega)]; exact t1) (fun k hk => by rw [Fx_I xa (by unfold PTp; omega)]; exact (hB k hk).2.2) Ra (WS_0 n)
    have MTg : ∀ {P : Nat → Nat → Prop} (h' : Hp), Fi P h h' → (∀ a k, P a k → a ≠ 35 ∧ a ≠ 36) → MT h' n t B := fun h' f p =>
      ⟨Fx_Lay f L, ⟨o35 (Fx_Lay f L), by rw [Fx_I f (fun q => (p _ _ q).1 rfl)]; exact i1.2.1.2, i1.2.2⟩, by rw [Fx_I f (fun q => (p _ _ q).1 rfl)]; exact t2, fun k hk => by rw [Fx_I f (fun q => (p _ _ q).2 rfl)]; exact (hB k hk).2.1, t0, fun k hk => (hB k hk).1⟩
    -- where nothing is written
    have none' : ∀ (y : Int32) (h1 : Hp), y < 0 → Tape_readLead_17 N N (some 1) (nI n) (some (bs m + 1)) (nI 0) ha = some (y, h1) → Fi PTp ha h1 → (∀ h3, MT h3 n t B → ∃ h4, M_notation_28 N (some 35) (nI m) (some 35) 0 h3 = some (y, h4) ∧ Fi (fun a k => PMr a k ∨ a = 35 ∧ (k = 1 ∨ k = 3)) h3 h4 ∧ hI h4 35 1 = 0 ∧ hI h4 35 3 = 0) → Op (C_notation N (some 0) (nI m)) (M_notation N (some 35) (nI m)) h := by
      intro y h1 hy e1 x1 hM
      have x1' := Fx_t xa x1
      obtain ⟨e2, x2⟩ := not_C (N := N) (Fx_Lay x1' L) x1' hy
      have v11 : hI (sI (sI h1 1 1 0) 0 6 0) 1 1 = 0 := by rw [sI_ne (by omega), sI_at]
      have v06 : hI (sI (sI h1 1 1 0) 0 6 0) 0 6 = 0 := sI_at ..
      generalize sI (sI h1 1 1 0) 0 6 0 = h3 at e2 x2 v11 v06
      obtain ⟨h4, e3, x3, v35, v3⟩ := hM h3 (MTg h3 x2 (fun a k q => by unfold PN1 PTp at q; omega))
      have x4 : Fi (fun a k => PN1 a k ∨ PMr a k ∨ a = 35 ∧ (k = 1 ∨ k = 3)) h h4 := Fx_t (Fx_m x2 (fun _ _ q => Or.inl q) (fun _ _ q => q)) (Fx_m x3 (fun _ _ q => Or.inr q) (fun _ _ q => q))
      refine ⟨y, h3, h4, by rw [preC, e1, cl_s]; exact e2, ?_, Inv_t I x4 (fun a k q => by unfold PN1 PTp PMr at q; omega) ⟨0, by omega, ?_, v35, fun k hk => absurd hk (by omega)⟩ ?_, Gr_F x4, Fx_Lay x2 L⟩
      · rw [preM h3 (Fx_Lay x2 L) (Ms_g i5 z (Gx_F x2) (fun a k q u => by unfold PN1 PTp at u; omega)), if_neg k5]; exact e3
      · rw [Fx_I x3 (by unfold PMr; omega)]; exact v11
      · unfold Fdn; rw [v3, Fx_I x3 (by unfold PMr; omega)]; exact v06
    have p109 : ∀ h' : Hp, Lay h' → Lay (sI h' 35 1 0) := fun h' l => l
    rcases R : rn n B t 0 T0 with e | s
    · have ele := rn_le t 0 T0 e R
      obtain ⟨h1, e1, x1⟩ := A e R
      refine none' _ h1 (neg_e e (by omega)) e1 x1 (fun h3 M3 => ?_)
      obtain ⟨h4, x4, v3, c4⟩ := parse_M (N := N) (m := m) hN M3
      have L4 := Fx_Lay x4 M3.1
      rcases c4 with ⟨e', a1, a2, a3⟩ | ⟨s, a1, a2, a3⟩
      · rw [R] at a3
        cases a3
        refine ⟨sI h4 35 1 0, ?_, Fx_t (Fx_m x4 (fun a k q => q.elim Or.inl (fun q => Or.inr (by omega))) (fun _ _ q => q)) (Fx_sI _ _ (Or.inr (by omega))), sI_at .., by rw [sI_ne (by omega)]; exact v3⟩
        rw [a1]
        unfold M_notation_109
        rw [pi_s (o35 L4), if_pos rfl, gi_s (o35 (p109 _ L4)), sI_ne (by omega), a2]
      · rw [R] at a2; cases a2
    · obtain ⟨h1, e1, x1, ⟨v3, v4, v5⟩, w', st'⟩ := C s R
      obtain ⟨st, tc, fb, lp, oc, T⟩ := s
      dsimp only at e1 v3 v4 v5 w' st'
      have ws1 := w'.1
      have ws7 := w'.2.2.2.2 (by omega)
      have wch := cT_ch w'
      have parse : ∀ h3, MT h3 n t B → ∃ h4, Fi (fun a k => PMr a k ∨ a = 35 ∧ k = 3) h3 h4 ∧ hI h4 35 3 = 0 ∧ M_notation_28 N (some 35) (nI m) (some 35) 0 h3 = M_notation_109 N (some 35) (nI m) 1 h4 ∧ hI h4 35 55 = nI (tot fb (ctc st tc)) ∧ tot fb (ctc st tc) ≤ 600 ∧ ∀ k, k < tot fb (ctc st tc) → hI h4 61 k = nI (lF fb (ctc st tc) (cTf n st tc lp oc T) k) := fun h3 M3 => by
        obtain ⟨h4, x4, v3, c4⟩ := parse_M (N := N) (m := m) hN M3
        rcases c4 with ⟨e', a1, a2, a3⟩ | ⟨s, a1, a2, a3, a4, a5⟩
        · rw [R] at a3; cases a3
        · rw [R] at a2
          cases a2
          exact ⟨h4, x4, v3, a1, a3, a4, a5⟩
      obtain ⟨m1, em1⟩ : ∃ m1, m1 = ctc st tc := ⟨_, rfl⟩
      obtain ⟨U, eU⟩ : ∃ U, U = cTf n st tc lp oc T := ⟨_, rfl⟩
      rw [← em1] at e1 v3 v5 ws7 wch ws1
      rw [← eU] at v5 wch
      simp only [← em1, ← eU] at parse
      obtain ⟨X, eX⟩ : ∃ X, X = tot fb m1 := ⟨_, rfl⟩
      have x1' := Fx_t xa x1
      have L1 := Fx_Lay x1' L
      have X600 : X ≤ 600 := by rw [eX]; unfold tot; split <;> omega
      have CH := lF_ch (n := n) (fb := fb) (m := m1) (U := U) wch ws7
      rw [← eX] at e1 CH
      simp only [← eX] at parse
      by_cases big : X ≤ 100
      · have CM1 : CM h1 (bs m) n (D m) bs := CM_f c x1' (fun a h1 h2 k q => by unfold PTp at q; omega)
        have ok1 : ok h1 [0] (bs m + 1) = true := ok_K (by have := blk CM1; omega) CM1.2.1.2.1
        have WT1 : WT h1 m1 fb U (bs m + 1) (bs m + 2) := ⟨L1, ⟨ok1, CM1.2.1.2.2.1, by have := blk CM1; omega, CM1.2.2.1.2.2.2.2.1, by omega⟩, ⟨by omega, by omega⟩, ⟨v3, v4⟩, v5, by omega, by omega⟩
        obtain ⟨h2, e2, x2, u2, ⟨u1, u3⟩⟩ := write_s (N := N) hN WT1 ws7 (by rw [← eX]; exact big)
        rw [← eX] at u1 u3
        have L2 := Fx_Lay x2 L1
        have l3 := lay_s 1 1 0 L2
        have l4 := lay_s 17 19 1 l3
        obtain ⟨h3, eh3⟩ : ∃ h3, h3 = sI (sI (sI h2 1 1 0) 17 19 1) 0 6 0 := ⟨_, rfl⟩
        have eC : C_notation N (some 0) (nI m) h = some (nI X, h3) := by
          rw [preC, e1]
          unfold Tape_readLead_90
          rw [if_pos ((leN_100 (by omega)).mpr big), e2, cl_s, cl_s, gr_s (o0 L2), r0_0 L2, pi_s (o1 L2), if_neg (nI_pos (by omega)), gr_s (o0 l3), r0_8 l3, pz_1 (o17 l3)]
          unfold C_notation_67
          rw [C_finds_s l4, cl_s, eh3]
        have x3 : Fi (fun a k => (PTp a k ∨ a = bs m + 1 ∧ (k = 1 ∨ k = 2) ∨ a = bs m + 2) ∨ a = 1 ∧ k = 1 ∨ a = 17 ∧ k = 19 ∨ a = 0 ∧ k = 6) h h3 := by
          rw [eh3]
          exact Fx_t (Fx_m (Fx_t (P := fun a k => PTp a k ∨ a = bs m + 1 ∧ (k = 1 ∨ k = 2) ∨ a = bs m + 2) (Fx_m x1' (fun _ _ q => Or.inl q) (fun _ _ q => q)) (Fx_m x2 (fun _ _ q => Or.inr q) (fun _ _ q => q))) (fun _ _ q => Or.inl q) (fun _ _ q => q)) (Fx_t (Fx_t (Fx_sI _ _ (Or.inr (by omega))) (Fx_sI _ _ (Or.inr (by omega)))) (Fx_sI _ _ (Or.inr (by omega))))
        have y11 : hI h3 1 1 = 0 := by rw [eh3, sI_ne (by omega), sI_ne (by omega), sI_at]
        have y19 : hI h3 17 19 = 1 := by rw [eh3, sI_ne (by omega), sI_at]
        have y06 : hI h3 0 6 = 0 := by rw [eh3, sI_at]
        have yb : ∀ a k, a = bs m + 1 ∨ a = bs m + 2 → hI h3 a k = hI h2 a k := fun a k q => by rw [eh3, sI_ne (by omega), sI_ne (by omega), sI_ne (by omega)]
        clear eh3
        have C3 : Cs h3 n mc (va_up D m (dLead (D m) X (lF fb m1 U))) bs := by
          obtain ⟨u1', u2', u3', ⟨i0, i1'⟩, u5, u6, ⟨u7, u8⟩, u9, u10⟩ := c
          refine Cs_up i6 z hm (Gx_F x3) (fun a j q => by unfold PTp at q; omega) (fun a j q => q.elim) rfl (CM_re ⟨u1', u2', u3', ⟨i0, i1'⟩, u5, u6, ⟨u7, u8⟩, u9, u10⟩ (Gx_F x3) (fun _ _ _ _ q => q) rfl ⟨?_, ?_⟩ (fun M e => ⟨?_, ?_, fun j hj => ?_⟩) (fun e => (by cases e)) ⟨?_, fun c h1 h2 => ?_⟩ (fun c h1 h2 h3 => ?_) (fun e => absurd e k5)) (Wm_me rfl (fun L' e => ?_) w.2.2.1 w.2.2.2.1 w.2.2.2.2.1 w.2.2.2.2.2.1 (fun e => absurd e k5) w.1)
          · rw [Fx_I x3 (by unfold PTp; omega)]; exact i0
          · rw [Fx_I x3 (by unfold PTp; omega)]; exact i1'
          · rw [yb _ _ (by omega)]; exact u2
          · cases e; rw [yb _ _ (by omega)]; exact u1
          · cases e
            rw [yb _ _ (by omega)]; exact u3 j hj
          · rw [Fx_I x3 (by unfold PTp; omega)]; exact u7
          · rw [Fx_I x3 (by unfold PTp; omega)]; exact u8 c h1 h2
          · rw [Fx_I x3 (by unfold PTp; omega)]; exact u9 c h1 h2 h3
          · cases e
            exact ⟨big, CH⟩
        obtain ⟨h4, x4, z3, a1, a55, -, a61⟩ := parse h3 (MTg h3 x3 (fun a k q => by unfold PTp at q; omega))
        have L3 := Fx_Lay x3 L
        have L4 := Fx_Lay x4 L3
        obtain ⟨h5, b1, b2, b3, b4, b5⟩ := copy_l (N := N) (m := m) (X := X) (W := lF fb m1 U) (by omega) big X N 0 (sI h4 35 1 0) (by omega) (by omega) L4 (by rw [sI_ne (by omega)]; exact a55) (fun k hk => by rw [sI_ne (by omega)]; exact a61 k hk) (fun k hk => absurd hk (by omega))
        have x5 : Fi (fun a k => PMr a k ∨ a = 35 ∧ (k = 1 ∨ k = 3 ∨ k = 34) ∨ a = 39 ∧ k = m ∨ a = 40 ∧ 100 * m ≤ k ∧ k < 100 * m + 100) h3 h5 := Fx_t (Fx_m x4 (fun a k q => q.elim Or.inl (fun q => Or.inr (by omega))) (fun _ _ q => q)) (Fx_t (Fx_sI _ _ (Or.inr (by omega))) (Fx_m b2 (fun a k q => Or.inr (by omega)) (fun _ _ q => q)))
        have eM : M_notation N (some 35) (nI m) h3 = some (nI X, h5) := by
          rw [preM h3 L3 (Ms_g i5 z (Gx_F x3) (fun a k q u => by unfold PTp at u; omega)), if_neg k5, a1]
          unfold M_notation_109
          rw [pi_s (o35 L4), if_neg i10, gi_s (o35 (p109 _ L4)), sI_ne (by omega), a55, if_pos ((leN_100 (by omega)).mpr big)]
          exact b1
        have x6 : Fi (fun a k => ((PTp a k ∨ a = bs m + 1 ∧ (k = 1 ∨ k = 2) ∨ a = bs m + 2) ∨ a = 1 ∧ k = 1 ∨ a = 17 ∧ k = 19 ∨ a = 0 ∧ k = 6) ∨ PMr a k ∨ a = 35 ∧ (k = 1 ∨ k = 3 ∨ k = 34) ∨ a = 39 ∧ k = m ∨ a = 40 ∧ 100 * m ≤ k ∧ k < 100 * m + 100) h h5 := Fx_t (Fx_m x3 (fun _ _ q => Or.inl q) (fun _ _ q => q)) (Fx_m x5 (fun _ _ q => Or.inr q) (fun _ _ q => q))
        have w351 : hI h5 35 1 = 0 := by rw [Fx_I b2 (by omega), sI_at]
        have w353 : hI h5 35 3 = 0 := by rw [Fx_I b2 (by omega), sI_ne (by omega)]; exact z3
        have wd : Wm n m (va_up D m (dLead (D m) X (lF fb m1 U))) := (C3.2.2.1 m hm).2.2
        refine ⟨nI X, h3, h5, eC, eM, Inv_mod i1 i2 i7 i8 i9 i10' i11 i12 (Gx_F x6) (fun a j _ q => by unfold PTp PMr at q; omega) (fun a j _ q => q) (fun a j _ q => q.elim) (Ms_up (m := m) (d := dLead (D m) X (lF fb m1 U)) i5 z (Gx_F x6) (by unfold PTp PMr; omega) (fun a j q _ => by unfold PTp PMr at q; unfold PQ; omega) rfl ?_ wd) (Cs_g C3 L3.1 (Gx_F x5) (fun a k q u => by unfold PMr at u; omega) (fun _ _ _ q => q)) (Nat.le_refl _) (fun _ _ => rfl) ⟨0, by omega, ?_, w351, fun k hk => absurd hk (by omega)⟩ ?_ (Sl_g i12.1 z (Gx_F x6) (fun _ _ _ q => q)) ?_ b4, Gr_F x6, L3⟩
        · obtain ⟨m1', m2', m3, m4, m5, m6, m7, m8⟩ := MMm
          refine ⟨by rw [Fx_I x6 (by unfold PTp PMr; omega)]; exact m1', b3, fun L' e j hj => ?_, fun c h1 h2 => by rw [Fx_I x6 (by unfold PTp PMr; omega)]; exact m4 c h1 h2, fun c h1 h2 h3 => by rw [Fx_I x6 (by unfold PTp PMr; omega)]; exact m5 c h1 h2 h3, by rw [Fx_I x6 (by unfold PTp PMr; omega)]; exact m6, fun i hi => by rw [Fx_I x6 (by unfold PTp PMr; omega)]; exact m7 i hi, by rw [Fx_I x6 (by unfold PTp PMr; omega)]; exact m8⟩
          cases e
          exact b5 j hj
        · rw [Fx_I x5 (by unfold PMr; omega)]; exact y11
        · unfold Fdn; rw [w353, Fx_I x5 (by unfold PMr; omega)]; exact y06
        · rw [Fx_I x5 (by unfold PMr; omega)]; exact y19
      · refine none' (-1000) h1 (by decide) ?_ x1 (fun h3 M3 => ?_)
        · rw [e1]
          unfold Tape_readLead_90
          rw [if_neg (fun u => big ((leN_100 (by omega)).mp u))]
        · obtain ⟨h4, x4, z3, a1, a55, -, a61⟩ := parse h3 M3
          have L4 := Fx_Lay x4 M3.1
          refine ⟨sI h4 35 1 0, ?_, Fx_t (Fx_m x4 (fun a k q => q.elim Or.inl (fun q => Or.inr (by omega))) (fun _ _ q => q)) (Fx_sI _ _ (Or.inr (by omega))), sI_at .., by rw [sI_ne (by omega)]; exact z3⟩
          rw [a1]
          unfold M_notation_109
          rw [pi_s (o35 L4), if_neg i10, gi_s (o35 (p109 _ L4)), sI_ne (by omega), a55, if_neg (fun u => big ((leN_100 (by omega)).mp u))]
  · refine Op_F I 0 4 ?_ ?_
    · unfold C_notation
      rw [methodAt_n L i6 hx, cl_s, if_pos rfl, C_finds_s L, cl_s]
    · unfold M_notation
      rw [isMethod_n (LF L 4) (Ms_6 L i5 4) hx, cl_s, if_pos rfl]
      unfold M_notation_28
      rw [M_finds_1 (LF L 4) i40, cl_s, if_neg i10]
      rfl
