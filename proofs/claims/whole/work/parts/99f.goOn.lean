/-! PURE: the search, by the model: all turns; goOn -/
theorem TMr_0 {h : Hp} {D : Nat → Md} {cc : Nat} {ch : Nat → Nat} {len wd pat : Nat} {S : SS} (e16 : hI h 35 16 = 1) (c : LMs h D cc ch len wd pat S) (e35 : hI h 35 35 = nI 2) : TMr h h D cc ch len wd pat 2 S 0 [] :=
  ⟨Fx_r _ _ _, rfl, (Int32.add_zero _).symm, e35, e16, fun _ => c, fun _ => rfl, fun u => absurd u (by decide)⟩
theorem go_M {N n mc : Nat} {D : Nat → Md} {cc : Nat} {ch : Nat → Nat} {len wd pat : Nat} (hN : 3000 < N) : ∀ (f g left did most : Nat) (S : SS) (h : Hp), did + left = most → most < 2 ^ 31 → mu cc left S < f → 2 * f ≤ g → MX h n mc D → LWs n mc D cc ch len wd pat S → LMs h D cc ch len wd pat S → hI h 35 35 = nI 2 → ∃ h', M_go_2 N g (some 35) (nI most) (nI did) h = some ((), h') ∧ TMr h h' D cc ch len wd pat (sk n D cc ch len wd pat f left S).1 (sk n D cc ch len wd pat f left S).2.1 (sk n D cc ch len wd pat f left S).2.2.1 (sk n D cc ch len wd pat f left S).2.2.2 ∧ ((sk n D cc ch len wd pat f left S).1 = 2 → (sk n D cc ch len wd pat f left S).2.1.2.2.2.2.2.1 = true) := by
  intro f
  induction f with
  | zero => intro g left did most S h _ _ hm; exact absurd hm (by omega)
  | succ f ih =>
    intro g left did most S h hd hm hu hg X w c e35
    have hw : ∀ m, m < mc → Wm n m D := fun m hm => (X.2.2.1.2.2 m hm).2
    have L := X.1
    obtain ⟨dp, tk, fr, sz, w', inn, ga, kn⟩ := S
    rw [sk]
    cases inn with
    | true =>
      have w0 : LW n mc D cc ch len wd pat dp tk fr sz w' true ga kn := w
      have c0 : LM h D cc ch len wd pat dp tk fr sz w' true ga kn := c
      rw [if_pos rfl]
      by_cases l0 : left = 0
      · rw [if_pos l0]
        obtain ⟨g, rfl⟩ : ∃ q, g = q + 1 := ⟨g - 1, by omega⟩
        refine ⟨h, ?_, TMr_0 X.2.2.2 c e35, fun _ => rfl⟩
        obtain ⟨a1, a2, a3, a4⟩ := c0.2.2.2.2.2.2.2.2 rfl
        have b1 := (w0.2.2.2.2.2.2.2.2.2.2.1 rfl).2.2.2
        have rok := RWd (d := dp) hw w0.1.2.1 (show tk dp - 1 < cc by have := (w0.2.2.2.2.2.2.2.2.2.2.1 rfl).1; have := w0.2.2.2.1; omega)
        have r100 := rok.2.1
        rw [M_go_2]
        rw [gi_s (o35 L), c0.2.2.2.2.2.2.2.1, if_neg (show ¬ qI true = 0 by decide), gi_s (o35 L), a2, gi_s (o35 L), a3, if_neg (fun u => absurd ((nI_eq (by omega) (by omega)).mp u) (by omega)), if_pos (by congr 1; omega)]
      · rw [if_neg l0]
        obtain ⟨left, rfl⟩ : ∃ q, left = q + 1 := ⟨left - 1, by omega⟩
        obtain ⟨g, rfl⟩ : ∃ q, g = q + 2 := ⟨g - 2, by omega⟩
        obtain ⟨g', h1, e0, e1, t1⟩ := goB (N := N) (g := g) (did := did) (most := most) hN X w0 c0 e35 (by omega) hm
        have es : skB n D ch len wd pat (dp, tk, fr, sz, w', true, ga, kn) = stB n D ch len wd pat dp tk fr sz w' ga kn := rfl
        rw [es, Nat.add_sub_cancel, e1]
        by_cases q : (stB n D ch len wd pat dp tk fr sz w' ga kn).1 = 2
        · rw [if_pos q, if_pos q]
          have mu1 := mu_B (n := n) (D := D) (ch := ch) (len := len) (wd := wd) (pat := pat) (dp := dp) (tk := tk) (fr := fr) (sz := sz) (w := w') (ga := ga) (kn := kn) (left := left) (cc := cc) w0.1.1
          rw [q] at t1
          obtain ⟨h2, e2, t2, k2⟩ := ih g' left (did + 1) most _ h1 (by omega) hm (by omega) (by omega) (MX_f X t1.1 t1.2.2.2.2.1) (LW_B hw w0) (t1.2.2.2.2.2.1 rfl) t1.2.2.2.1
          exact ⟨h2, e2, TMr_t t1 t2 (by decide), k2⟩
        · rw [if_neg q, if_neg q]
          exact ⟨h1, rfl, t1, fun u => absurd u q⟩
    | false =>
      have w0 : LW n mc D cc ch len wd pat dp tk fr sz w' false ga kn := w
      have c0 : LM h D cc ch len wd pat dp tk fr sz w' false ga kn := c
      rw [if_neg (show ¬ false = true by decide)]
      obtain ⟨g, rfl⟩ : ∃ q, g = q + 1 := ⟨g - 1, by omega⟩
      obtain ⟨h1, e1, t1⟩ := goA (N := N) (g := g) (x := nI most) (y := nI did) hN X w0 c0 e35
      have es : skA D cc ch (dp, tk, fr, sz, w', false, ga, kn) = stA D cc ch dp tk fr sz w' kn := rfl
      rw [es, e1]
      by_cases q : (stA D cc ch dp tk fr sz w' kn).1 = 2
      · rw [if_pos q, if_pos q]
        have mu1 := mu_A (D := D) (cc := cc) (ch := ch) (dp := dp) (tk := tk) (fr := fr) (sz := sz) (w := w') (ga := ga) (kn := kn) (left := left) q
        have lw := LW_A w0 q
        rw [q] at t1
        obtain ⟨h2, e2, t2, k2⟩ := ih g left did most _ h1 hd hm (by omega) (by omega) (MX_f X t1.1 t1.2.2.2.2.1) lw (t1.2.2.2.2.2.1 rfl) t1.2.2.2.1
        have t3 := TMr_t t1 t2 (by decide)
        rw [Nat.zero_add] at t3
        exact ⟨h2, e2, t3, k2⟩
      · rw [if_neg q, if_neg q]
        exact ⟨h1, rfl, t1, fun u => absurd u q⟩
theorem sk_o {n : Nat} {D : Nat → Md} {cc : Nat} {ch : Nat → Nat} {len wd pat : Nat} : ∀ (f left : Nat) (S : SS), (sk n D cc ch len wd pat f left S).1 ≤ 2
  | 0, _, _ => Nat.le_refl 2
  | f + 1, left, S => by
    rw [sk]
    by_cases i : S.2.2.2.2.2.1 = true
    · rw [if_pos i]
      by_cases l : left = 0
      · rw [if_pos l]; exact Nat.le_refl 2
      · rw [if_neg l]
        by_cases q : (skB n D ch len wd pat S).1 = 2
        · rw [if_pos q]; exact sk_o f _ _
        · rw [if_neg q]
          have := stB_o (n := n) (D := D) (ch := ch) (len := len) (wd := wd) (pat := pat) (dp := S.1) (tk := S.2.1) (fr := S.2.2.1) (sz := S.2.2.2.1) (w := S.2.2.2.2.1) (ga := S.2.2.2.2.2.2.1) (kn := S.2.2.2.2.2.2.2)
          show (stB n D ch len wd pat S.1 S.2.1 S.2.2.1 S.2.2.2.1 S.2.2.2.2.1 S.2.2.2.2.2.2.1 S.2.2.2.2.2.2.2).1 ≤ 2
          omega
    · rw [if_neg i]
      by_cases q : (skA D cc ch S).1 = 2
      · rw [if_pos q]; exact sk_o f _ _
      · rw [if_neg q]
        have := stA_o (D := D) (cc := cc) (ch := ch) (dp := S.1) (tk := S.2.1) (fr := S.2.2.1) (sz := S.2.2.2.1) (w := S.2.2.2.2.1) (kn := S.2.2.2.2.2.2.2)
        show (stA D cc ch S.1 S.2.1 S.2.2.1 S.2.2.2.1 S.2.2.2.2.1 S.2.2.2.2.2.2.2).1 ≤ 2
        omega
def PSx (mc : Nat) (bs : Nat → Nat) (a k : Nat) : Prop := PS mc bs a k ∨ a = 17 ∨ a = 18
def QSx (a k : Nat) : Prop := a = 24 ∨ a = 17
def RLx (a k : Nat) : Prop := RL a k ∨ a = 19
def PMx (a k : Nat) : Prop := a = 35 ∧ (14 ≤ k ∧ k ≤ 16 ∨ 33 ≤ k ∧ k ≤ 53) ∨ a = 37 ∨ a = 45 ∨ 54 ≤ a ∧ a ≤ 60
def QMx (a k : Nat) : Prop := a = 58 ∨ a = 35
/-- all holds again behind a search -/
theorem Inv_S {h h1 h2 : Hp} {n mc ic : Nat} {D : Nat → Md} {bs im ik : Nat → Nat} {T : List Nat} (i1 : Bs h n) (i2 : Tr h) (i3 : Fdn h) (i4 : Tp h) (i5 : Ms h n mc D) (i6 : Cs h n mc D bs) (i7 : Rg h n) (i8 : It h mc bs ic im ik) (i9 : Tc h n ic) (i10 : Pf h) (i11 : Ot h)
    (f1 : Gx (PSx mc bs) QSx RLx h h1) (f2 : Fx PMx QMx h1 h2) (t1 : hI h1 4 = bm (hI h 4) T) (t2 : hI h2 37 = bm (hI h1 37) T) (e16 : hI h2 35 16 = 1) (s : Sr h2 n mc D bs) (gs : GS h h1) : Inv h2 ∧ Gr h h2 := by
  have z := i1.1.1
  have f : Gx (fun a k => PSx mc bs a k ∨ PMx a k) (fun a k => QSx a k ∨ QMx a k) RLx h h2 := Gx_t (Gx_m f1 (fun _ _ _ q => Or.inl q) (fun _ _ _ q => Or.inl q) (fun _ _ _ q => q)) (Gx_m (Gx_X f2) (fun _ _ _ q => Or.inr q) (fun _ _ _ q => Or.inr q) (fun _ _ _ q => q))
  refine ⟨⟨n, mc, D, bs, ic, im, ik, Bs_g i1 f (fun a k c d => by unfold PSx PS PMx at d; omega) (fun a k c d => by unfold Rc at c; unfold RLx RL at d; omega), ⟨?_, e16⟩, Fdn_g i3 z f (fun a k c d => by unfold PSx PS PMx at d; omega), Tp_g i4 z f (fun a k c d => by unfold PSx PS PMx at d; omega), Ms_g i5 z f (fun a k c d => by unfold PSx PS PMx at d; omega), Cs_G i6 z f (fun a k d => ⟨?_, fun u => ?_⟩) (fun a k d => by unfold RLx RL at d; omega), Rg_g i7 z f (fun a k c d => by unfold PSx PS PMx at d; omega), It_g i8 z f (fun a k c d => by unfold PSx PS PMx at d; omega) (fun a k c d => by unfold RLx RL at d; omega), Tc_g i9 z f (fun a k c d => by unfold PSx PS PMx at d; omega) (fun a k c d => by unfold QSx QMx at d; omega), Pf_g i10 z f (fun a k c d => by unfold PSx PS PMx at d; omega), Ot_g i11 z f (fun a k c d => by unfold PSx PS PMx at d; omega) (fun a k c d => by unfold QSx QMx at d; omega), s⟩, ?_⟩
  · have e37 : hI h1 37 = hI h 37 := funext fun k => Gx_I f1 z (by omega) (by unfold PSx PS; omega)
    rw [t2, Fx_row f2 (by unfold PMx; omega), t1, e37, i2.1]
  · unfold PSx PS PMx at d; omega
  · rcases d with (d | d) | d
    · exact PS_nb d u
    · exfalso; omega
    · exfalso; unfold PMx at d; omega
  · obtain ⟨g1, g2⟩ := gs
    have e : nn h2 = nn h1 := by unfold nn; rw [Fx_R f2]
    unfold Gr
    rw [e, Fx_z f2, Fx_s f2]
    generalize nn h1 = q at g1 g2 ⊢
    generalize nn h = q' at g1 g2 ⊢
    omega
theorem PS_x {mc : Nat} {bs : Nat → Nat} {h h' : Hp} (f : Gx (PS mc bs) QS RL h h') : Gx (PSx mc bs) QSx RLx h h' := Gx_m f (fun _ _ _ q => Or.inl q) (fun _ _ _ q => Or.inl q) (fun _ _ _ q => Or.inl q)
theorem PM_x {h h' : Hp} (f : Fx PMs QMs h h') : Fx PMx QMx h h' := Fx_m f (fun a k q => by unfold PMs at q; unfold PMx; omega) (fun a k q => Or.inl q)
/-- what the search keeps, behind both runs -/
theorem Sr_of {hb h1 hm h2 : Hp} {n mc : Nat} {D : Nat → Md} {bs : Nat → Nat} {cc : Nat} {ch : Nat → Nat} {len wd pat out rows : Nat} {S : SS} {T : List Nat} (z1 : 64 ≤ hz h1) (t1 : TR hb h1 n mc D bs cc ch len wd pat out S rows T) (f12 : Fx PMx QMx h1 h2) (t2 : TMr hm h2 D cc ch len wd pat out S rows T) (m30 : mc ≤ 30) (es : hI hb 17 18 = hI hm 35 39) (e53 : hI hm 35 53 = 0) (e33 : hI h2 35 33 = 1) (e34 : hI h2 35 34 = 0) (e19 : hI h1 17 19 = 0) (l12 : len ≤ 12) (c90 : cc ≤ 90) (o : out ≤ 2) (k2 : out = 2 → LWs n mc D cc ch len wd pat S ∧ S.2.2.2.2.2.1 = true) : Sr h2 n mc D bs := by
  obtain ⟨a1, a2, a3, a4, a5, a6, ⟨sz, w, a7⟩, a8, a9, a10⟩ := t1
  obtain ⟨b1, b2, b3, b4, b5, b6, b7, b8⟩ := t2
  have eI : ∀ a k, a < 35 → hI h2 a k = hI h1 a k := fun a k ha => Fx_I f12 (by unfold PMx; omega)
  refine ⟨Sl_g a5 z1 (Gx_F f12) (fun _ _ _ q => q), ⟨by rw [eI _ _ (by omega)]; exact a6, by rw [eI _ _ (by omega), a3, b3, es]⟩, ⟨sz, w, Hs_f a7 f12 (by unfold PMx; omega) (by unfold PMx; omega) (by unfold PMx; omega) (by unfold QMx; omega)⟩, ?_⟩
  unfold Sn
  rw [e33, e34, b4, eI 17 17 (by omega), a4, eI 17 19 (by omega), e19, eI 17 3 (by omega)]
  refine Or.inr ⟨rfl, rfl, rfl, ?_⟩
  have oo : out = 0 ∨ out = 1 ∨ out = 2 := by omega
  rcases oo with rfl | rfl | rfl
  · exact Or.inl ⟨rfl, by rw [b7 (by decide), e53]⟩
  · obtain ⟨c1, c2⟩ := a10 rfl
    obtain ⟨d1, d2⟩ := b8 rfl
    refine Or.inr (Or.inl ⟨rfl, len, l12, c1, d1, fun i hi => ?_⟩)
    obtain ⟨g1, g2, g3, g4⟩ := c2 i hi
    exact ⟨S.2.1 i - 1, by omega, by rw [eI _ _ (by omega)]; exact g3, by rw [eI _ _ (by omega), g4, d2 i hi]⟩
  · refine Or.inr (Or.inr ⟨rfl, by rw [b7 (by decide), e53], fun _ => ?_⟩)
    obtain ⟨lw, li⟩ := k2 rfl
    have lc := a9 rfl
    have lm := b6 rfl
    obtain ⟨dp, tk, fr, sz', w', inn, ga, kn⟩ := S
    have li' : inn = true := li
    subst li'
    have c91 := LW_90 (show LW n mc D cc ch len wd pat dp tk fr sz' w' true ga kn from lw) m30
    exact ⟨cc, ch, len, wd, pat, dp, tk, fr, sz', w', ga, kn, lw, LC_g (show LC h1 n D bs cc ch len wd pat dp tk fr sz' w' true ga kn from lc) a5 c91 z1 (Gx_F f12) (fun a k q u => by unfold PMx at u; omega) (fun a k q u => by unfold QMx at u; omega) (fun _ _ _ q => q), lm⟩
theorem op_goOn {N : Nat} {x : Int32} {h : Hp} (hN : 3000000 < N) (I : Inv h) : Op (C_goOn N (some 0) x) (M_goOn N (some 35) x) h := by
  obtain ⟨n, mc, D, bs, ic, im, ik, i1, i2, i3, i4, i5, i6, i7, i8, i9, i10', i11, ⟨s1, ⟨s2, s3⟩, s4, s5⟩⟩ := id I
  have L := i1.1
  have z := L.1
  have m30 := i6.2.1
  have n12 := i1.2.2.2
  have ist : ds [(5, Search_isThere N (some 17) h)] (some 17) h = some (if hI h 17 17 = -1 then 0 else 1, h) := by
    rw [ds5 L]
    unfold Search_isThere
    rw [gi_s (o17 L)]
    by_cases q : hI h 17 17 = -1
    · rw [if_pos q, if_pos q, rz_0]
    · rw [if_neg q, if_neg q, rz_1]
  rcases s5 with ⟨a1, a2, a3⟩ | ⟨a1, a2, a3, a4⟩
  · refine Op_id I (-1) ?_ ?_
    · unfold C_goOn
      rw [gr_s (o0 L), r0_8 L, ist, if_pos a1, cl_s, if_pos rfl]
    · unfold M_goOn
      rw [gi_s (o35 L), a2, if_pos rfl]
  have ne1 : hI h 17 17 ≠ -1 := by
    rcases a4 with ⟨a4, -⟩ | ⟨a4, -⟩ | ⟨a4, -⟩ <;> (rw [a4]; decide)
  by_cases c0 : x < 0
  · refine Op_id I (-1) ?_ ?_
    · unfold C_goOn
      rw [gr_s (o0 L), r0_8 L, ist, if_neg ne1, cl_s, if_neg i10, if_pos c0]
    · unfold M_goOn
      rw [gi_s (o35 L), a1, if_neg i10, if_pos c0]
  by_cases c1 : x ≤ 1000
  · by_cases v0 : hI h 17 19 = 0
    · have preC : C_goOn N (some 0) x h = cl (Search_seek_4 N N (some 17) x 0 h) fun x8 h7 => some (x8, h7) := by
        unfold C_goOn
        rw [gr_s (o0 L), r0_8 L, ist, if_neg ne1, cl_s, if_neg i10, if_neg c0, if_pos c1, gr_s (o0 L), r0_8 L, gi_s (o17 L), if_pos v0, gr_s (o0 L), r0_8 L, ds5 L]
        rfl
      have preM : ∀ h', Lay h' → hI h' 35 33 = 1 → hI h' 35 34 = 0 → M_goOn N (some 35) x h' = if hI h' 35 35 = 2 then (cl (ds [(12, M_go N (some 35) x h')] (some 35) h') fun _ h4 => M_goOn_43 N (some 35) h4) else M_goOn_43 N (some 35) h' := fun h' L' e1 e2 => by
        unfold M_goOn
        rw [gi_s (o35 L'), e1, if_neg i10, if_neg c0, if_pos c1, gi_s (o35 L'), e2, if_pos rfl, gi_s (o35 L')]
      have v34 : hI h 35 34 = 0 := by rw [← a3]; exact v0
      by_cases o2 : hI h 17 17 = 2
      · rcases a4 with ⟨a4, -⟩ | ⟨a4, -⟩ | ⟨-, a5, a6⟩
        · rw [a4] at o2; exact absurd o2 (by decide)
        · rw [a4] at o2; exact absurd o2 (by decide)
        obtain ⟨cc, ch, len, wd, pat, dp, tk, fr, sz, w, ga, kn, lw, lc, lm⟩ := a6 v0
        obtain ⟨k, hk, rfl⟩ := i32_of c0
        have k1 : k ≤ 1000 := (leN_1000 hk).mp c1
        have lw0 : LWs n mc D cc ch len wd pat (dp, tk, fr, sz, w, true, ga, kn) := lw
        obtain ⟨h1, e1, t1, w1⟩ := seek_C (N := N) (mc := mc) (D := D) (bs := bs) (cc := cc) (ch := ch) (len := len) (wd := wd) (pat := pat) (by omega) n12 1000000 N k 0 (dp, tk, fr, sz, w, true, ga, kn) h (by omega) (by omega) hk L i6 s1 lw0 lc o2
        have L1 := Lay_S L t1.1
        have z1 := L1.1
        have X : MX h1 n mc D := ⟨L1, ⟨o35 L1, by rw [Gx_I t1.1 z (by omega) (by unfold PS; omega)]; exact i1.2.1.2, i1.2.2⟩, Ms_g i5 z t1.1 (fun a k q u => by unfold PS at u; omega), by rw [Gx_I t1.1 z (by omega) (by unfold PS; omega)]; exact i2.2⟩
        have lm1 : LMs h1 D cc ch len wd pat (dp, tk, fr, sz, w, true, ga, kn) := LM_g lm z t1.1 (fun a k q u => by unfold PS at u; omega) (fun a k q u => by unfold QS at u; omega)
        have e35 : hI h1 35 35 = nI 2 := by rw [Gx_I t1.1 z (by omega) (by unfold PS; omega), a2, o2]; rfl
        have muB : mu cc k (dp, tk, fr, sz, w, true, ga, kn) < 1000000 := by
          have p1 := phi_le (cc := cc) (tk := tk) dp
          have c90 := lw.1.1
          have d12 := lw.2.1
          have p2 : (cc + 1) * (dp + 1) ≤ 91 * 12 := Nat.mul_le_mul (by omega) (by omega)
          show phi cc tk dp + 93 * k < 1000000
          omega
        obtain ⟨h2, e2, t2, k2⟩ := go_M (N := N) (n := n) (mc := mc) (by omega) 1000000 N k 0 k (dp, tk, fr, sz, w, true, ga, kn) h1 (by omega) hk muB (by omega) X lw0 lm1 e35
        have so := sk_o (n := n) (D := D) (cc := cc) (ch := ch) (len := len) (wd := wd) (pat := pat) 1000000 k (dp, tk, fr, sz, w, true, ga, kn)
        generalize sk n D cc ch len wd pat 1000000 k (dp, tk, fr, sz, w, true, ga, kn) = Z at e1 t1 w1 t2 k2 so
        have f12 := PM_x t2.1
        have L2 := Fx_Lay t2.1 L1
        have sr : Sr h2 n mc D bs := Sr_of z1 t1 f12 t2 m30 (by rw [s3, Gx_I t1.1 z (by omega) (by unfold PS; omega)]) (by rw [Gx_I t1.1 z (by omega) (by unfold PS; omega)]; exact a5) (by rw [Fx_I t2.1 (by unfold PMs; omega), Gx_I t1.1 z (by omega) (by unfold PS; omega)]; exact a1) (by rw [Fx_I t2.1 (by unfold PMs; omega), Gx_I t1.1 z (by omega) (by unfold PS; omega)]; exact v34) (by rw [Gx_I t1.1 z (by omega) (by unfold PS; omega)]; exact v0) lw.2.1.2.1 lw.1.1 so (fun q => ⟨w1 q, k2 q⟩)
        obtain ⟨iv, gr⟩ := Inv_S i1 i2 i3 i4 i5 i6 i7 i8 i9 i10' i11 (PS_x t1.1) f12 t1.2.1 t2.2.1 t2.2.2.2.2.1 sr t1.2.2.2.2.2.2.2.1
        refine ⟨nI Z.1, h1, h2, ?_, ?_, iv, gr, L1⟩
        · rw [preC, show Search_seek_4 N N (some 17) (nI k) 0 h = some (nI Z.1, h1) from e1, cl_s]
        · rw [preM h1 L1 (by rw [Gx_I t1.1 z (by omega) (by unfold PS; omega)]; exact a1) (by rw [Gx_I t1.1 z (by omega) (by unfold PS; omega)]; exact v34), if_pos (by rw [e35]; rfl), dM L1]
          unfold M_go
          rw [show M_go_2 N N (some 35) (nI k) 0 h1 = some ((), h2) from e2, cl_s]
          unfold M_goOn_43
          rw [gi_s (o35 L2), t2.2.2.2.1]
      · refine Op_id I (hI h 17 17) ?_ ?_
        · rw [preC]
          obtain ⟨K, rfl⟩ : ∃ K, N = K + 1 := ⟨N - 1, by omega⟩
          rw [Search_seek_4]
          rw [if_neg (by decide), gi_s (o17 L), if_neg o2]
          unfold Search_seek_98
          rw [gi_s (o17 L), cl_s]
        · rw [preM h L a1 v34, a2, if_neg o2]
          unfold M_goOn_43
          rw [gi_s (o35 L), a2]
    · refine Op_id I (-2) ?_ ?_
      · unfold C_goOn
        rw [gr_s (o0 L), r0_8 L, ist, if_neg ne1, cl_s, if_neg i10, if_neg c0, if_pos c1, gr_s (o0 L), r0_8 L, gi_s (o17 L), if_neg v0]
      · unfold M_goOn
        rw [gi_s (o35 L), a1, if_neg i10, if_neg c0, if_pos c1, gi_s (o35 L), ← a3, if_neg v0]
  · refine Op_id I (-1) ?_ ?_
    · unfold C_goOn
      rw [gr_s (o0 L), r0_8 L, ist, if_neg ne1, cl_s, if_neg i10, if_neg c0, if_neg c1]
    · unfold M_goOn
      rw [gi_s (o35 L), a1, if_neg i10, if_neg c0, if_neg c1]
