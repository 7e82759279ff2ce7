/-! PURE: leads told, lead heads, courses -/
theorem sw4_rw {n v p : Nat} (hv : Rw n v) (hp : p + 1 < n) : Rw n (sw4 v p) := by
  obtain ⟨h1, h2, h3⟩ := hv
  have e : ∀ i, i < n → ∃ j, j < n ∧ dg (sw4 v p) i = dg v j ∧ (i = p → j = p + 1) ∧ (i = p + 1 → j = p) ∧ (i ≠ p → i ≠ p + 1 → j = i) := by
    intro i hi
    rw [sw4_dg]
    by_cases c : i = p
    · rw [if_pos c]; exact ⟨p + 1, hp, rfl, fun _ => rfl, fun q => by omega, fun q => absurd c q⟩
    · rw [if_neg c]
      by_cases c' : i = p + 1
      · rw [if_pos c']; exact ⟨p, by omega, rfl, fun q => absurd q c, fun _ => rfl, fun _ q => absurd c' q⟩
      · rw [if_neg c']; exact ⟨i, hi, rfl, fun q => absurd q c, fun q => absurd q c', fun _ _ => rfl⟩
  refine ⟨sw4_lt h1 hp, fun i hi => ?_, fun i j hi hj q => ?_⟩
  · obtain ⟨j, hj, ej, -⟩ := e i hi
    rw [ej]; exact h2 j hj
  · obtain ⟨a, ha, ea, a1, a2, a3⟩ := e i hi
    obtain ⟨b, hb, eb, b1, b2, b3⟩ := e j hj
    rw [ea, eb] at q
    have := h3 a b ha hb q
    by_cases c1 : i = p
    · by_cases d1 : j = p
      · omega
      · by_cases d2 : j = p + 1
        · have := a1 c1; have := b2 d2; omega
        · have := a1 c1; have := b3 d1 d2; omega
    · by_cases c2 : i = p + 1
      · by_cases d1 : j = p
        · have := a2 c2; have := b1 d1; omega
        · by_cases d2 : j = p + 1
          · omega
          · have := a2 c2; have := b3 d1 d2; omega
      · have := a3 c1 c2
        by_cases d1 : j = p
        · have := b1 d1; omega
        · by_cases d2 : j = p + 1
          · have := b2 d2; omega
          · have := b3 d1 d2; omega
theorem chgF_rw {n : Nat} : ∀ (f v c p : Nat), Rw n v → c < 2 ^ (n - 1 - p) → Rw n (chgF f v c p)
  | 0, v, c, p, hv, hc => hv
  | f + 1, v, c, p, hv, hc => by
    rw [chgF]
    have c2 : c / 2 < 2 ^ (n - 1 - (p + 1)) := by
      rcases Nat.eq_zero_or_pos c with e | e
      · subst e; exact Nat.pow_pos (by decide)
      · have : 1 ≤ n - 1 - p := by
          rcases Nat.eq_zero_or_pos (n - 1 - p) with q | q
          · rw [q] at hc; simp at hc; omega
          · exact q
        have e2 : 2 ^ (n - 1 - p) = 2 * 2 ^ (n - 1 - (p + 1)) := by
          rw [show n - 1 - p = (n - 1 - (p + 1)) + 1 by omega, Nat.pow_succ]; omega
        omega
    refine chgF_rw f _ _ _ ?_ c2
    by_cases q : c % 2 = 1
    · rw [if_pos q]
      refine sw4_rw hv ?_
      rcases Nat.eq_zero_or_pos (n - 1 - p) with q' | q'
      · rw [q'] at hc; simp at hc; omega
      · omega
    · rw [if_neg q]; exact hv
theorem chg_rw {n v c : Nat} (hv : Rw n v) (hc : Ch n c) : Rw n (chg v c) := chgF_rw 11 v c 0 hv (by rw [Nat.sub_zero]; exact hc.1)
/-- the row behind k changes -/
def rng (f : Nat → Nat) (v : Nat) : Nat → Nat
  | 0 => v
  | k + 1 => chg (rng f v k) (f k)
theorem rng_rw {n v M : Nat} {f : Nat → Nat} (hv : Rw n v) (hf : ∀ k, k < M → Ch n (f k)) : ∀ k, k ≤ M → Rw n (rng f v k)
  | 0, _ => hv
  | k + 1, hk => chg_rw (rng_rw hv hf k (by omega)) (hf k (by omega))
/-- what holds of a lead that was found -/
def RW (n : Nat) (R : Nat × Nat × (Nat → Nat)) : Prop := R.1 < 8 ∧ R.2.1 ≤ 100 ∧ ∀ k, k < R.2.1 → Ch n (R.2.2 k)
theorem rs_lt {D : Nat → Md} {n m i mc a : Nat} (hm : m < mc) (w : Wm n m D) (e : rs D m i = some a) : a < mc := by
  unfold rs at e
  by_cases k : kd (D m) = 5
  · rw [if_pos k] at e
    by_cases p : (pt (D m)).length = 0
    · rw [if_pos p] at e; cases e
    · rw [if_neg p] at e
      cases e
      have := (w.2.2.2.2.1 (i % (pt (D m)).length) (Nat.mod_lt _ (by omega))).1
      omega
  · rw [if_neg k] at e
    cases e
    exact hm
theorem lR_ok {n m : Nat} {D : Nat → Md} (w : Wm n m D) : RW n (lR (D m)) := by
  unfold lR RW
  split
  · exact ⟨by decide, by show (0 : Nat) ≤ 100; omega, fun k hk => by simp at hk⟩
  · rename_i M hM
    exact ⟨by show (0 : Nat) < 8; omega, (w.2.1 M hM).1, (w.2.1 M hM).2⟩
theorem LR_ok {n mc m i : Nat} {D : Nat → Md} (w : ∀ m, m < mc → Wm n m D) (hm : m < mc) : RW n (LR D m i) := by
  unfold LR
  split
  · exact ⟨by decide, by show (0 : Nat) ≤ 100; omega, fun k hk => by simp at hk⟩
  · rename_i a ha
    exact lR_ok (w a (rs_lt hm (w m hm) ha))
theorem tR_ok {n m c : Nat} {D : Nat → Md} {po : Option Nat} (w : Wm n m D) (hp : ∀ p, po = some p → c ≠ 0 → ∃ p', cp (D m) c = some p') : RW n (tR (D m) c po) := by
  unfold tR
  split
  · exact ⟨by decide, by show (0 : Nat) ≤ 100; omega, fun k hk => by simp at hk⟩
  · rename_i M hM
    obtain ⟨w1, w2⟩ := w.2.1 M hM
    by_cases c0 : c = 0
    · rw [if_pos c0]; exact ⟨by show (0 : Nat) < 8; omega, w1, w2⟩
    · rw [if_neg c0]
      split
      · exact ⟨by decide, by show (0 : Nat) ≤ 100; omega, fun k hk => by simp at hk⟩
      · rename_i p
        obtain ⟨p', e'⟩ := hp p rfl c0
        by_cases pM : p < M
        · rw [if_pos pM]
          refine ⟨by show (0 : Nat) < 8; omega, w1, fun k hk => ?_⟩
          dsimp only
          rw [up_at]
          by_cases q : k = if kd (D m) = 4 then M - 1 - p else p
          · rw [if_pos q]; exact (w.2.2.1 c p' e').2
          · rw [if_neg q]; exact w2 k hk
        · rw [if_neg pM]; exact ⟨by decide, by show (0 : Nat) ≤ 100; omega, fun k hk => by simp at hk⟩
theorem cR_ok {n m c : Nat} {D : Nat → Md} (w : Wm n m D) : RW n (cR (D m) c) := by
  unfold cR
  split
  · exact ⟨by decide, by show (0 : Nat) ≤ 100; omega, fun k hk => by simp at hk⟩
  · refine tR_ok w (fun p e _ => ?_)
    rcases h : cp (D m) (c1 (D m) c) with _ | q
    · rw [h] at e; cases e
    · exact ⟨q, rfl⟩
theorem CR_ok {n mc m i c : Nat} {D : Nat → Md} (w : ∀ m, m < mc → Wm n m D) (hm : m < mc) : RW n (CR D m i c) := by
  unfold CR
  split
  · exact ⟨by decide, by show (0 : Nat) ≤ 100; omega, fun k hk => by simp at hk⟩
  · rename_i a ha
    exact cR_ok (w a (rs_lt hm (w m hm) ha))
theorem rung_loop {N n y yc v : Nat} {R : Nat × Nat × (Nat → Nat)} {h : Hp} (hN : 100 < N) (hn : n ≤ 12) (l1 : ok h [0] y = true) (l2 : ok h [13] yc = true) (l3 : hK h yc = (13, 100)) (l4 : hR h y 0 = some yc) (l5 : hI h y 1 = nI R.2.1) (l6 : ∀ k, k < R.2.1 → hI h yc k = nI (R.2.2 k)) (w : RW n R) (hv : Rw n v) : ∀ (r f k : Nat), k + r = R.2.1 → r < f → Lead_rungFrom_5 N f (some y) (lN (rng R.2.2 v k)) (nI k) h = some (lN (rng R.2.2 v R.2.1), h)
  | 0, f + 1, k, hk, hf => by
    have := w.2.1
    rw [Lead_rungFrom_5, gi_s l1, l5, if_pos ((nI_leI (by omega) (by omega)).mpr (by omega)), show k = R.2.1 by omega]
  | r + 1, f + 1, k, hk, hf => by
    have w2 := w.2.1
    have ch := w.2.2 k (by omega)
    rw [Lead_rungFrom_5, gi_s l1, l5, if_neg (fun q => by have := (nI_leI (by omega) (by omega)).mp q; omega), gr_s l1, l4, li_s l2 (by rw [l3]; show k < 100; omega) (by rw [l3]; decide), l6 k (by omega), Rows_changed_s (by omega) (ch_lt hn ch) (lN_lt12 hn (rng_rw hv w.2.2 k (by omega)).1), cl_s, nmE, nI_1]
    exact rung_loop hN hn l1 l2 l3 l4 l5 l6 w hv r f (k + 1) (by omega) (by omega)
theorem behind_loop {N n v : Nat} {R : Nat × Nat × (Nat → Nat)} {h : Hp} (hN : 100 < N) (hn : n ≤ 12) (L : Lay h) (l6 : ∀ k, k < R.2.1 → hI h 45 k = nI (R.2.2 k)) (w : RW n R) (hv : Rw n v) : ∀ (r f k : Nat), k + r = R.2.1 → r < f → M_behind_6 N f (some 35) (nI R.2.1) (lN (rng R.2.2 v k)) (nI k) h = some (lN (rng R.2.2 v R.2.1), h)
  | 0, f + 1, k, hk, hf => by
    have := w.2.1
    rw [M_behind_6, if_pos ((nI_leI (by omega) (by omega)).mpr (by omega)), show k = R.2.1 by omega]
  | r + 1, f + 1, k, hk, hf => by
    have w2 := w.2.1
    have ch := w.2.2 k (by omega)
    rw [M_behind_6, if_neg (fun q => by have := (nI_leI (by omega) (by omega)).mp q; omega), gr_s (o35 L), r35_13 L, li_s (o45 L) (by rw [k45 L]; show k < 100; omega) (by rw [k45 L]; decide), l6 k (by omega), M_done_s (by omega) (ch_lt hn ch) (lN_lt12 hn (rng_rw hv w.2.2 k (by omega)).1), cl_s, nmE, nI_1]
    exact behind_loop hN hn L l6 w hv r f (k + 1) (by omega) (by omega)
/-! what is left behind acts on both sides -/
def P1 (a k : Nat) : Prop := a = 0 ∧ k = 6 ∨ a = 4 ∨ a = 29 ∨ a = 30
def P2 (a k : Nat) : Prop := a = 35 ∧ (k = 3 ∨ k = 14 ∨ k = 15) ∨ a = 37 ∨ a = 45 ∨ a = 62
theorem Inv_T {h h1 h2 : Hp} {T : List Nat} (I : Inv h) (f1 : Fi P1 h h1) (t1 : hI h1 4 = bm (hI h 4) T) (f2 : Fi P2 h1 h2) (t2 : hI h2 37 = bq true (hI h1 37) T) (fd : hI h2 0 6 = hI h2 35 3) : Inv h2 ∧ Gr h h2 := by
  have x0 : Fi (fun a k => P1 a k ∨ P2 a k) h h2 := Fx_t (Fx_m f1 (fun _ _ c => Or.inl c) (fun _ _ c => c)) (Fx_m f2 (fun _ _ c => Or.inr c) (fun _ _ c => c))
  have I' := I
  obtain ⟨n, mc, D, bs, ic, im, ik, i1, i2, i3, i4, i5, i6, i7, i8, i9, i10', i11, i12⟩ := I
  refine ⟨Inv_x I' (Gx_F x0) (fun a k _ c => by unfold P1 P2 at c; omega) (fun a k _ c => c.elim) ⟨?_, ?_⟩ fd (Ot_g i11 i1.1.1 (Gx_F x0) (by unfold P1 P2; omega) (fun _ _ _ c => c)), Gr_F x0⟩
  · have e4 : hI h2 4 = hI h1 4 := Fx_row f2 (by unfold P2; omega)
    have e37 : hI h1 37 = hI h 37 := Fx_row f1 (by unfold P1; omega)
    rw [e4, t1, t2, e37, ← i2.1]
    rfl
  · rw [Fx_I x0 (by unfold P1 P2; omega)]; exact i2.2
theorem Wr_29 {h : Hp} {n mc : Nat} {D : Nat → Md} {bs : Nat → Nat} (L : Lay h) (C : Cs h n mc D bs) : Wr h mc bs 29 30 := by
  have z := L.1
  refine ⟨⟨o29 L, k30 L, by omega, r29_0 L, by omega⟩, ⟨by omega, by omega⟩, fun m hm => ?_⟩
  have := CM_64 (C.2.2.1 m hm).2.1
  unfold Dj
  omega
theorem Wr_13 {h : Hp} {n mc : Nat} {D : Nat → Md} {bs : Nat → Nat} (L : Lay h) (C : Cs h n mc D bs) : Wr h mc bs 13 14 := by
  have z := L.1
  refine ⟨⟨o13 L, k14 L, by omega, r13_0 L, by omega⟩, ⟨by omega, by omega⟩, fun m hm => ?_⟩
  have := CM_64 (C.2.2.1 m hm).2.1
  unfold Dj
  omega
theorem nI_ne0' {k : Nat} (h : k ≠ 0) (h2 : k < 2 ^ 31) : ¬ nI k = 0 := fun q => h ((nI_eq0 h2).mp q)
theorem op_lead {N : Nat} {x i y k : Int32} {h : Hp} (hN : 100 < N) (I : Inv h) : Op (C_lead N (some 0) x i y k) (M_lead N (some 35) x i y k) h := by
  obtain ⟨n, mc, D, bs, ic, im, ik, i1, i2, i3, i4, i5, i6, -⟩ := id I
  have L := i1.1
  have m31 : ∀ (c : Int32) (h : Hp), Lay h → ¬ c = 0 → M_lead_31 N (some 35) x i y k (some 35) c h = some (-1, sI h 35 3 c) := by
    intro c h L hc
    unfold M_lead_31
    rw [M_finds_1 L hc, cl_s, if_neg i10]
  rcases meth_cs x mc with ⟨m, hm, e⟩ | hx
  · subst e
    rcases i32_cs i with ci | ⟨j, hj, ej⟩
    · refine Op_F I (-1) 2 ?_ ?_
      · unfold C_lead C_lead_30
        rw [methodAt_y L i6 hm, cl_s, if_neg (by simp), if_pos ci, C_finds_s L, cl_s]
      · unfold M_lead M_lead_26
        rw [isMethod_y (LF L 2) (Ms_6 L i5 2) hm, cl_s, if_neg i10, if_pos ci, m31 2 _ (LF L 2) i20]
        rfl
    rcases call_cs y with ⟨c, hc, ec⟩ | hy
    · subst ej ec
      have hw : ∀ m, m < mc → Wm n m D := fun m hm => (i6.2.2.1 m hm).2.2
      have rok := CR_ok (i := j) (c := c) hw hm
      obtain ⟨x1, h1, e1, ⟨⟨f1, q1, v1⟩, t1⟩⟩ := Dc_s (N := N) L i6 (Wr_29 L i6) hm hj hc
      have L1 := Fx_Lay f1 L
      have f1' : Fi P1 h h1 := Fx_m f1 (fun a k c => by unfold PC at c; unfold P1; omega) (fun _ _ c => c)
      have fa : ∀ a, Fi P1 h (sI h1 0 6 a) := fun a => Fx_t f1' (Fx_sI _ _ (by unfold P1; omega))
      have Ma : ∀ a, Ms (sI h1 0 6 a) n mc D := fun a => Ms_g i5 L.1 (Gx_F (fa a)) (by unfold P1; omega)
      have La : ∀ a, Lay (sI h1 0 6 a) := fun a => L1
      have mk : ∀ a, ∃ x2 h3, M_calledOf N (some 35) (nI m) (nI j) (nI c) (sI (sI h1 0 6 a) 35 3 0) = some (x2, h3) ∧ MR true (CT D m j c) (CR D m j c) (sI (sI h1 0 6 a) 35 3 0) h3 x2 := fun a =>
        M_calledOf_s hN (show Lay (sI (sI h1 0 6 a) 35 3 0) from L1) (by rw [sI_ne (by omega), Fx_I (fa a) (by unfold P1; omega)]; exact i2.2) (Ms_g (Ma a) L1.1 (Gx_sI (P := fun a k => a = 35 ∧ k = 3) (Q := nF) (R := nF) _ _ ⟨rfl, rfl⟩) (by omega)) hm hj hc
      have pre : ∀ a, M_lead N (some 35) (nI m) (nI j) (nI c) k (sI h1 0 6 a) = M_lead_31 N (some 35) (nI m) (nI j) (nI c) k (some 35) 0 (sI h1 0 6 a) := fun a => by
        unfold M_lead
        rw [isMethod_y (La a) (Ma a) hm, cl_s, if_neg i10, if_neg (nI_pos hj), if_neg (nI_pos (by omega)), if_pos ((leN_2 (by omega)).mpr hc)]
      have fin : ∀ (a r : Int32), C_lead N (some 0) (nI m) (nI j) (nI c) k h = some (r, sI h1 0 6 a) →
          (∀ x2 h3, MR true (CT D m j c) (CR D m j c) (sI (sI h1 0 6 a) 35 3 0) h3 x2 → Lay h3 → M_calledOf N (some 35) (nI m) (nI j) (nI c) (sI (sI h1 0 6 a) 35 3 0) = some (x2, h3) → M_lead_31 N (some 35) (nI m) (nI j) (nI c) k (some 35) 0 (sI h1 0 6 a) = some (r, sI h3 35 3 a)) → Op (C_lead N (some 0) (nI m) (nI j) (nI c) k) (M_lead N (some 35) (nI m) (nI j) (nI c) k) h := by
        intro a r eC eM
        obtain ⟨x2, h3, e3, mr⟩ := mk a
        have L3 : Lay h3 := Fx_Lay mr.1 L1
        have eM := eM x2 h3 mr L3 e3
        obtain ⟨g1, g2, -⟩ := mr
        have ta : hI (sI h1 0 6 a) 4 = bm (hI h 4) (CT D m j c) := by rw [sI_row' (by omega)]; exact t1
        have fb : Fi P2 (sI h1 0 6 a) (sI h3 35 3 a) := Fx_t (Fx_t (Fx_sI _ _ (by unfold P2; omega)) (Fx_m g1 (fun a k c => by unfold PM at c; unfold P2; omega) (fun _ _ c => c))) (Fx_sI _ _ (by unfold P2; omega))
        have tb : hI (sI h3 35 3 a) 37 = bq true (hI (sI h1 0 6 a) 37) (CT D m j c) := by
          rw [sI_row' (by omega), g2, sI_row' (by omega)]
        obtain ⟨z1, z2⟩ := Inv_T I (fa a) ta fb tb (by rw [sI_at, sI_ne (by omega), Fx_I g1 (by unfold PM; omega), sI_ne (by omega), sI_at])
        exact ⟨r, _, _, eC, by rw [pre]; exact eM, z1, z2, La a⟩
      have preC : C_lead N (some 0) (nI m) (nI j) (nI c) k h = (if x1 = 0 then (if k < 0 then (C_lead_80 N (some 0) h1) else (gr [11] 9 (some 0) h1 fun x8 =>
  gi [0] 1 x8 h1 fun x9 =>
  if k < x9 then (gr [11] 9 (some 0) h1 fun x10 =>
  gr [0] 0 x10 h1 fun x11 =>
  li 13 x11 k h1 fun x12 =>
  cl (ds [(11, C_finds N (some 0) 0 x12 h1)] (some 0) h1) fun x14 h13 =>
  some (x14, h13)) else (C_lead_80 N (some 0) h1))) else (cl (ds [(11, C_finds N (some 0) x1 (-1) h1)] (some 0) h1) fun x16 h15 =>
  some (x16, h15))) := by
        unfold C_lead
        rw [methodAt_y L i6 hm, cl_s, if_neg (by simp), if_neg (nI_pos hj), isCall_y hc, cl_s, if_neg i10, gr_s (o0 L), r0_9 L, e1, cl_s]
      have c80 : C_lead_80 N (some 0) h1 = some (-1, sI h1 0 6 2) := by
        unfold C_lead_80
        rw [C_finds_s L1, cl_s]
      by_cases r0 : (CR D m j c).1 = 0
      · obtain ⟨v2, v3⟩ := v1 r0
        rw [q1, r0, if_pos cN_0] at preC
        have no : (k < 0 ∨ nI (CR D m j c).2.1 ≤ k) → Op (C_lead N (some 0) (nI m) (nI j) (nI c) k) (M_lead N (some 35) (nI m) (nI j) (nI c) k) h := by
          intro ck
          refine fin 2 (-1) ?_ ?_
          · rw [preC]
            by_cases k0 : k < 0
            · rw [if_pos k0, c80]
            · rw [if_neg k0, gr_s (o0 L1), r0_9 L1, gi_s (o29 L1), v2, if_neg (fun q => by have := ck.resolve_left k0; rw [Int32.le_iff_toInt_le] at this; rw [Int32.lt_iff_toInt_lt] at q; omega), c80]
          · intro x2 h3 mr L3 e3
            obtain ⟨-, -, g3, g4, -⟩ := mr
            rw [if_pos r0] at g3
            unfold M_lead_31 M_lead_71 M_lead_76
            rw [M_finds_0 (La 2), cl_s, if_pos rfl, dM (show Lay (sI (sI h1 0 6 2) 35 3 0) from L1), e3, cl_s, g3, if_neg i10]
            by_cases k0 : k < 0
            · rw [if_pos k0, M_finds_1 L3 i20, cl_s, if_neg i10]
            · rw [if_neg k0, gi_s (o35 L3), (g4 r0).1, if_neg (fun q => by have := ck.resolve_left k0; rw [Int32.le_iff_toInt_le] at this; rw [Int32.lt_iff_toInt_lt] at q; omega), M_finds_1 L3 i20, cl_s, if_neg i10]
        rcases i32_cs k with ck | ⟨kk, hk, ek⟩
        · exact no (Or.inl ck)
        · by_cases kl : kk < (CR D m j c).2.1
          · subst ek
            have w2 := rok.2.1
            refine fin 0 (nI ((CR D m j c).2.2 kk)) ?_ ?_
            · rw [preC, if_neg (nI_pos hk), gr_s (o0 L1), r0_9 L1, gi_s (o29 L1), v2, if_pos ((nI_ltI hk (by omega)).mpr kl), gr_s (o0 L1), r0_9 L1, gr_s (o29 L1), r29_0 L1, li_s (o30 L1) (by rw [k30 L1]; show kk < 100; omega) (by rw [k30 L1]; decide), v3 kk kl, C_finds_s L1, cl_s]
            · intro x2 h3 mr L3 e3
              obtain ⟨-, -, g3, g4, -⟩ := mr
              rw [if_pos r0] at g3
              unfold M_lead_31 M_lead_76
              rw [M_finds_0 (La 0), cl_s, if_pos rfl, dM (show Lay (sI (sI h1 0 6 0) 35 3 0) from L1), e3, cl_s, g3, if_neg i10, if_neg (nI_pos hk), gi_s (o35 L3), (g4 r0).1, if_pos ((nI_ltI hk (by omega)).mpr kl), M_finds_0 L3, cl_s, if_pos rfl]
              have L4 : Lay (sI h3 35 3 0) := L3
              rw [gr_s (o35 L4), r35_13 L4, li_s (o45 L4) (by rw [k45 L4]; show kk < 100; omega) (by rw [k45 L4]; decide), sI_ne (by omega), (g4 r0).2 kk kl]
          · exact no (Or.inr (by rw [ek]; exact (nI_leI (by have := rok.2.1; omega) hk).mpr (by omega)))
      · have r8 := rok.1
        have rn := nI_ne0' r0 (by omega)
        rw [q1, if_neg rn, C_finds_s L1, cl_s] at preC
        refine fin (nI (CR D m j c).1) (-1) preC ?_
        intro x2 h3 mr L3 e3
        obtain ⟨-, -, g3, -, g5⟩ := mr
        rw [if_neg r0] at g3
        unfold M_lead_31 M_lead_76
        rw [M_finds_0 (La _), cl_s, if_pos rfl, dM (show Lay (sI (sI h1 0 6 _) 35 3 0) from L1), e3, cl_s, g3, if_pos rfl, gi_s (o35 L3), g5 r0, M_finds_1 L3 rn, cl_s, if_neg i10]
    · subst ej
      refine Op_F I (-1) 2 ?_ ?_
      · unfold C_lead C_lead_30
        rw [methodAt_y L i6 hm, cl_s, if_neg (by simp), if_neg (nI_pos hj), isCall_n hy, cl_s, if_pos rfl, C_finds_s L, cl_s]
      · unfold M_lead M_lead_26
        rw [isMethod_y (LF L 2) (Ms_6 L i5 2) hm, cl_s, if_neg i10, if_neg (nI_pos hj)]
        rcases hy with c | ⟨q, q3, hq, e⟩
        · rw [if_pos c, m31 2 _ (LF L 2) i20]; rfl
        · subst e
          rw [if_neg (nI_pos hq), if_neg (fun c => by have := (leN_2 hq).mp c; omega), m31 2 _ (LF L 2) i20]; rfl
  · refine Op_F I (-1) 4 ?_ ?_
    · unfold C_lead
      rw [methodAt_n L i6 hx, cl_s, if_pos rfl, C_finds_s L, cl_s]
    · unfold M_lead
      rw [isMethod_n (LF L 4) (Ms_6 L i5 4) hx, cl_s, if_pos rfl, m31 4 _ (LF L 4) i40]
      rfl
