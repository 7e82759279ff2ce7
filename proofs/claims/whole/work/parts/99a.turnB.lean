/-! PURE: the search, by the class: a turn with a row -/
theorem fcn_c {n pat : Nat} {w w' : Nat → Nat} : ∀ j, (∀ i, 1 ≤ i → i ≤ j → w i = w' i) → fcn n pat w j = fcn n pat w' j
  | 0, _ => rfl
  | j + 1, h => by rw [fcn, fcn, fcn_c j (fun i h1 h2 => h i h1 (by omega)), h (j + 1) (by omega) (by omega)]
theorem turnB {N n mc : Nat} {D : Nat → Md} {bs : Nat → Nat} {cc : Nat} {ch : Nat → Nat} {len wd pat dp : Nat} {tk fr : Nat → Nat} {sz : Nat} {w : Nat → Nat} {ga : Nat} {kn : Nat → Nat → Nat} {re : Option Nat → Int32 → Int32 → Hp → Option (Int32 × Hp)} {left : Nat} {y : Int32} {h : Hp} (hN : 3000 < N) (hn : n ≤ 12) (L : Lay h) (C : Cs h n mc D bs) (S : Sl h mc bs) (b : LW n mc D cc ch len wd pat dp tk fr sz w true ga kn) (c : LC h n D bs cc ch len wd pat dp tk fr sz w true ga kn) (e17 : hI h 17 17 = nI 2) :
    ∃ h', Search_seek_32 N re (some 17) (nI (left + 1)) y h = Search_seek_92 N re (some 17) (nI left) y h' ∧ TR h h' n mc D bs cc ch len wd pat (stB n D ch len wd pat dp tk fr sz w ga kn).1 (stB n D ch len wd pat dp tk fr sz w ga kn).2 1 [] := by
  have z := L.1
  have m30 := C.2.1
  have c90 := LW_90 b m30
  have hw : ∀ m, m < mc → Wm n m D := fun m hm => (C.2.2.1 m hm).2.2
  obtain ⟨⟨b1, b2, b3⟩, ⟨c1, c2, c3, c4, c5⟩, b4, b5, b6, b7, b8, b9, b10, b11, b12, b13⟩ := b
  obtain ⟨d1, d2, ⟨d3, d4, d5⟩, ⟨d6, d7, d8⟩, d9, d10, d11, d12, d13, d14, d15⟩ := c
  obtain ⟨i1, i2, i3, i4⟩ := b12 rfl
  obtain ⟨j1, j2⟩ := d15 rfl
  have dl : dp < 12 := by omega
  have f1 := b6 dp (Nat.le_refl _)
  have tl : tk dp - 1 < cc := by omega
  have rok := RWd (d := dp) hw b2 tl
  obtain ⟨cl0, a1, a2, a3⟩ := d13 dp (tk dp - 1) dl tl i2
  rw [a1] at j1
  have c91 := c90 _ tl
  obtain ⟨⟨s1, s2⟩, ⟨s3, s4⟩, s5, s6, s7⟩ := S _ (show 90 * dp + ch (tk dp - 1) < 1080 by omega) cl0 a1
  have okc : ok h [0] cl0 = true := ok_K (by omega) s3
  have okd : ok h [13] (cl0 + 1) = true := ok_K (by omega) s4
  obtain ⟨R, eR⟩ : ∃ R, R = LRd D ch dp (tk dp - 1) := ⟨_, rfl⟩
  rw [← eR] at i4 rok a2 a3
  have r100 := rok.2.1
  have chk := rok.2.2 ga i4
  have rp := b9 (sz - 1) (by omega)
  have rr : Rw n (chg (w (sz - 1)) (R.2.2 ga)) := chg_rw rp chk
  have g0 : hI h 26 0 = 0 := by rw [d11 0 (by omega)]; rfl
  obtain ⟨row, erow⟩ : ∃ row, row = chg (w (sz - 1)) (R.2.2 ga) := ⟨_, rfl⟩
  have rr' := rr
  rw [← erow] at rr'
  have r64 := rw64 hn rr'
  have d64 := rw64 hn (rd_rw hn)
  have Fle := fcn_le n pat w (sz - 1)
  have f1le : fit1 pat row ≤ 1 := by unfold fit1; split <;> omega
  obtain ⟨F, eF⟩ : ∃ F, F = fcn n pat w (sz - 1) + fit1 pat row := ⟨_, rfl⟩
  obtain ⟨g, eg⟩ : ∃ g, g = sI (sI h 17 16 (nI (ga + 1))) 17 18 (hI h 17 18 + 1) := ⟨_, rfl⟩
  have xg : Fi (fun a k => a = 17 ∧ (k = 16 ∨ k = 18)) h g := by rw [eg]; exact Fx_t (Fx_sI _ _ (by omega)) (Fx_sI _ _ (by omega))
  have g16 : hI g 17 16 = nI (ga + 1) := by rw [eg, sI_ne (by omega), sI_at]
  have g18 : hI g 17 18 = hI h 17 18 + 1 := by rw [eg, sI_at]
  have Lg := Fx_Lay xg L
  have zg := Lg.1
  have pre : Search_ringRow N (some 17) (some cl0) h = if ga + 1 < R.2.1 then Search_ringRow_155 N (some 17) (nI sz) (lN row) (nI F) 0 0 g else if dp + 1 = len then (if row = rd n ∧ wd ≤ F then some ((), sI g 17 17 1) else Search_ringRow_155 N (some 17) (nI sz) (lN row) (nI F) 1 1 g) else Search_ringRow_155 N (some 17) (nI sz) (lN row) (nI F) 1 0 g := by
    have l1 := lay_s 17 16 (nI (ga + 1)) L
    have okg : ok g [0] cl0 = true := by rw [Fx_ok xg]; exact okc
    have e78 : ∀ u : Nat, u = fit1 pat row → Search_ringRow_78 N (some 17) (some cl0) (nI sz) (lN row) (nI (fcn n pat w (sz - 1))) (nI u) g = if ga + 1 < R.2.1 then Search_ringRow_155 N (some 17) (nI sz) (lN row) (nI F) 0 0 g else if dp + 1 = len then (if row = rd n ∧ wd ≤ F then some ((), sI g 17 17 1) else Search_ringRow_155 N (some 17) (nI sz) (lN row) (nI F) 1 1 g) else Search_ringRow_155 N (some 17) (nI sz) (lN row) (nI F) 1 0 g := by
      intro u hu
      have g1 : hI g cl0 1 = nI R.2.1 := by rw [Fx_I xg (by omega)]; exact a2
      unfold Search_ringRow_78
      rw [nI_add, hu, ← eF, nmE, gi_s (o17 Lg), g16, gi_s okg, g1]
      by_cases q : ga + 1 < R.2.1
      · rw [if_pos ((nI_ltI (by omega) (by omega)).mpr q), if_pos q]
        unfold Search_ringRow_97 Search_ringRow_121 Search_ringRow_122
        rw [if_pos rfl, if_pos rfl]
      · rw [if_neg (fun v => q ((nI_ltI (by omega) (by omega)).mp v)), if_neg q]
        unfold Search_ringRow_97
        rw [if_neg i10, gi_s (o17 Lg), Fx_I xg (show ¬ (17 = 17 ∧ (14 = 16 ∨ 14 = 18)) by omega), d5, gi_s (o17 Lg), Fx_I xg (show ¬ (17 = 17 ∧ (3 = 16 ∨ 3 = 18)) by omega), d3, nI_m1 c1]
        by_cases v : dp + 1 = len
        · rw [if_pos (by congr 1; omega), if_pos v]
          unfold Search_ringRow_122
          rw [if_neg i10, gl_s (o17 Lg), Fi_L xg, d8]
          by_cases r0 : row = rd n
          · rw [if_pos ((lg_eq _ _).mpr (by rw [r0])), gi_s (o17 Lg), Fx_I xg (show ¬ (17 = 17 ∧ (4 = 16 ∨ 4 = 18)) by omega), d4]
            by_cases w0 : wd ≤ F
            · rw [if_neg (fun t => absurd ((nI_ltI (by omega) (by omega)).mp t) (by omega)), if_pos ⟨r0, w0⟩, pi_s (o17 Lg)]
            · rw [if_pos ((nI_ltI (by omega) (by omega)).mpr (by omega)), if_neg (fun t => w0 t.2)]
          · rw [if_neg (fun t => r0 (lN_inj r64 d64 ((lg_eq _ _).mp t))), if_neg (fun t => r0 t.1)]
        · rw [if_neg (fun t => v (by have := (nI_eq (by omega) (by omega)).mp t; omega)), if_neg v]
          unfold Search_ringRow_121 Search_ringRow_122
          rw [if_pos rfl]
    unfold Search_ringRow
    rw [gr_s (o17 L), r17_10 L, gi_s (o22 L), d10.1, gr_s (o17 L), r17_10 L, nI_m1 (by omega), ds_1 (o22 L), codeAt_s (RO_22 L) d10 (by omega), cl_s, gr_s okc, s5, gi_s (o17 L), j2, li_s okd (by rw [s4]; show ga < 100; omega) (by rw [s4]; decide), a3 ga i4, Rows_changed_s (by omega) (ch_lt hn chk) (lN_lt12 hn rp.1), cl_s, gi_s (o17 L), j2, aN_1, pi_s (o17 L), gi_s (o17 l1), sI_ne (by omega), pi_s (o17 l1), ← eg, gr_s (o17 Lg), r17_11 Lg, li_s (o26 Lg) (by rw [k26 Lg]; show sz - 1 < 1201; omega) (by rw [k26 Lg]; decide), Fx_I xg (by omega), d11 (sz - 1) (by omega), gl_s (o17 Lg), Fi_L xg, d7, gl_s (o17 Lg), Fi_L xg, d6, ← erow]
    by_cases q : row &&& tld pat 12 = pat
    · rw [if_pos ((fit_i hn (lN_lt12 hn rr'.1) c5.1).mpr q)]
      exact e78 1 (by unfold fit1; rw [if_pos q])
    · rw [if_neg (fun t => q ((fit_i hn (lN_lt12 hn rr'.1) c5.1).mp t))]
      exact e78 0 (by unfold fit1; rw [if_neg q])
  clear eg
  have pre0 : ∀ h', Search_ringRow N (some 17) (some cl0) h = some ((), h') → Search_seek_32 N re (some 17) (nI (left + 1)) y h = Search_seek_92 N re (some 17) (nI left) y h' := fun h' e => by
    unfold Search_seek_32
    rw [gr_s (o17 L), j1, if_neg (by simp), bl_m1, nmE, gr_s (o17 L), j1, ds5 L, e, cl_s]
  have Cg : Cs g n mc D bs := Cs_g C z (Gx_F xg) (by omega) (fun _ _ _ q => q)
  have Sg : Sl g mc bs := Sl_g S z (Gx_F xg) (fun _ _ _ q => q)
  have Kg : LK g D cc ch kn := LK_g ⟨d12, d13⟩ S c90 z (Gx_F xg) (fun a k q => by omega) (fun _ _ q => q.elim)
  have Hg : Hs g 22 23 24 25 1201 sz (fun j => lN (w j)) := Hs_f d10 xg (by omega) (by omega) (by omega) (fun _ q => q)
  have i1' : hI h 17 18 + nI 1 = hI h 17 18 + 1 := rfl
  have sle : sz ≤ 1200 := by omega
  /- the item is left -/
  have leave : ∃ h', Search_ringRow_171 N (some 17) g = some ((), h') ∧ TR h h' n mc D bs cc ch len wd pat 2 (dp, tk, fr, fr dp, w, false, 0, kn) 1 [] := by
    obtain ⟨h', e1, f2, u15, H2, w1, w2, w3⟩ := leave_C (N := N) (f := fr dp) (sz := sz) hN Lg (by rw [Fx_I xg (by omega)]; exact d5) dl (by rw [Fx_I xg (by omega)]; exact (d9 dp (Nat.le_refl _)).2) (by omega) Hg
    have eI : ∀ a k, a < 64 → ¬ (a = 17 ∧ (k = 16 ∨ k = 18)) → ¬ (a = 22 ∧ k = 3 ∨ a = 23 ∨ a = 25) → hI h' a k = hI h a k := fun a k ha n1 n2 => by rw [Gx_I f2 zg ha n2, Fx_I xg n1]
    have eL : ∀ a k, a < 64 → hL h' a k = hL h a k := fun a k ha => by rw [Gx_L f2 zg ha (fun q => q), Fi_L xg]
    have eRr : ∀ a k, a < 64 → ¬ (a = 17 ∧ k = 15) → hR h' a k = hR h a k := fun a k ha nq => by rw [Gx_R f2 zg ha nq, Fx_R xg]
    have K6 : LK h' D cc ch kn := LK_g Kg Sg c90 zg f2 (fun a k q => by omega) (fun a k q => by omega)
    refine ⟨h', ?_, Gx_t (Gx_m (Gx_X xg) (fun a k _ q => by unfold PS; omega) (fun _ _ _ q => q.elim) (fun _ _ _ q => q)) (Gx_m f2 (fun a k _ q => by unfold PS; omega) (fun _ _ _ q => q.elim) (fun a k _ q => Or.inl q)), ?_, ?_, ?_, Sl_g Sg zg f2 (by omega), ?_, ⟨_, _, H2⟩, GS_t (GS_F xg) (GS_s w3 w1 w2), fun _ => ?_, fun u => absurd u (by decide)⟩
    · unfold Search_ringRow_171
      rw [e1, cl_s]
    · exact funext fun k => by rw [eI _ _ (by omega) (by omega) (by omega)]; rfl
    · rw [i1', Gx_I f2 zg (by omega) (by omega)]; exact g18
    · rw [eI _ _ (by omega) (by omega) (by omega)]; exact e17
    · rw [eI _ _ (by omega) (by omega) (by omega)]; exact g0
    · refine ⟨?_, fun j hj => ⟨?_, ?_⟩, ⟨?_, ?_, ?_⟩, ⟨?_, ?_, ?_⟩, fun d hd => ⟨?_, ?_⟩, H2, fun j hj => ?_, K6.1, K6.2, fun _ => u15, fun e => (by cases e)⟩
      · rw [eI _ _ (by omega) (by omega) (by omega)]; exact d1
      · rw [eI _ _ (by omega) (by omega) (by omega)]; exact (d2 j hj).1
      · rw [eRr _ _ (by omega) (by omega)]; exact (d2 j hj).2
      · rw [eI _ _ (by omega) (by omega) (by omega)]; exact d3
      · rw [eI _ _ (by omega) (by omega) (by omega)]; exact d4
      · rw [eI _ _ (by omega) (by omega) (by omega)]; exact d5
      · rw [eL _ _ (by omega)]; exact d6
      · rw [eL _ _ (by omega)]; exact d7
      · rw [eL _ _ (by omega)]; exact d8
      · rw [eI _ _ (by omega) (by omega) (by omega)]; exact (d9 d hd).1
      · rw [eI _ _ (by omega) (by omega) (by omega)]; exact (d9 d hd).2
      · have hj' : j < fr dp := hj
        rw [eI _ _ (by omega) (by omega) (by omega)]; exact d11 j (by omega)
  /- the row is a new one -/
  have w155 : ∀ b : Bool, (b = true → dp + 1 < len ∧ ga + 1 = R.2.1) → ∃ h', Search_ringRow_155 N (some 17) (nI sz) (lN row) (nI F) (qI b) 0 g = some ((), h') ∧ TR h h' n mc D bs cc ch len wd pat 2 (if thr w row sz = true then (dp, tk, fr, fr dp, w, false, 0, kn) else if b = true then (dp + 1, va_up tk (dp + 1) 0, va_up fr (dp + 1) (sz + 1), sz + 1, va_up w sz row, false, 0, kn) else (dp, tk, fr, sz + 1, va_up w sz row, true, ga + 1, kn)) 1 [] := by
    intro b hb
    unfold Search_ringRow_155
    rw [if_pos rfl, gr_s (o17 Lg), r17_10 Lg, ds_1 (o22 Lg)]
    rcases indexOf_s (N := N) (lN row) (RO_22 Lg) Hg (by omega) with ⟨n1, n2⟩ | ⟨k, n1, n2, n3⟩
    · have nt : ¬ thr w row sz = true := fun t => by
        obtain ⟨j, hj, e⟩ := (thr_t sz).mp t
        exact n1 j hj (by rw [e])
      have l2 := lay_s 26 sz (nI F) Lg
      have x2 : Fi (fun a k => a = 26 ∧ k = sz) g (sI g 26 sz (nI F)) := Fx_sI _ _ ⟨rfl, rfl⟩
      obtain ⟨h3, e3, x3, H3, -⟩ := add_s (N := N) (lN row) (RO_22 l2) (Hs_f Hg x2 (by omega) (by omega) (by omega) (fun _ q => q)) (by omega)
      have v26 : hI (sI g 26 sz (nI F)) 26 sz = nI F := sI_at ..
      rw [n2, cl_s, if_pos (by decide), gr_s (o17 Lg), r17_11 Lg, si_s (o26 Lg) (by rw [k26 Lg]; show sz < 1201; omega) (by rw [k26 Lg]; decide), gr_s (o17 l2), r17_10 l2, ds_1 (o22 l2), e3, cl_s, if_neg nt]
      have L3 := Fx_Lay x3 l2
      have z3 := L3.1
      have x23 : Fx (fun a k => a = 17 ∧ (k = 16 ∨ k = 18) ∨ a = 26 ∧ k = sz ∨ a = 22 ∧ k = 3 ∨ a = 23 ∨ a = 25) (fun a k => a = 24 ∧ k = sz) h h3 := Fx_t (Fx_m xg (fun _ _ q => Or.inl q) (fun _ _ q => q.elim)) (Fx_t (Fx_m x2 (fun _ _ q => Or.inr (Or.inl q)) (fun _ _ q => q.elim)) (Fx_m x3 (fun a k q => by unfold PR at q; omega) (fun _ _ q => q)))
      have y26 : hI h3 26 sz = nI F := by rw [Fx_I x3 (by unfold PR; omega)]; exact v26
      have y18 : hI h3 17 18 = hI h 17 18 + 1 := by rw [Fx_I x3 (by unfold PR; omega), sI_ne (by omega)]; exact g18
      have y16 : hI h3 17 16 = nI (ga + 1) := by rw [Fx_I x3 (by unfold PR; omega), sI_ne (by omega)]; exact g16
      have H4 : Hs h3 22 23 24 25 1201 (sz + 1) (fun j => lN (va_up w sz row j)) := Hs_congr H3 (fun j _ => by
        rw [up_at, up_at]
        by_cases q : j = sz
        · rw [if_pos q, if_pos q]
        · rw [if_neg q, if_neg q])
      have K3 : LK h3 D cc ch kn := LK_g ⟨d12, d13⟩ S c90 z (Gx_F x23) (fun a k q => by omega) (fun _ _ q => q.elim)
      have S3 : Sl h3 mc bs := Sl_g S z (Gx_F x23) (fun _ _ _ q => q)
      have fe : ∀ j, j < sz → fcn n pat (va_up w sz row) j = fcn n pat w j := fun j hj => fcn_c j (fun i h1 h2 => by rw [up_at, if_neg (by omega)])
      have fc : ∀ j, j < sz + 1 → hI h3 26 j = nI (fcn n pat (va_up w sz row) j) := fun j hj => by
        by_cases q : j = sz
        · rw [q, y26, eF]
          obtain ⟨s', es⟩ : ∃ s', sz = s' + 1 := ⟨sz - 1, by omega⟩
          have fs := fe s' (by omega)
          rw [es] at fs ⊢
          rw [fcn, up_at, if_pos rfl, Nat.add_sub_cancel, fs]
          rfl
        · rw [Fx_I x23 (by omega), d11 j (by omega), fe j (by omega)]
      have lonL : ∀ a k, a < 64 → a ≠ 24 → hL h3 a k = hL h a k := fun a k _ q => Fx_L x23 (by omega)
      cases b with
      | false =>
        rw [if_pos (show qI false = 0 from rfl), if_neg (by decide)]
        refine ⟨h3, rfl, Gx_m (Gx_X x23) (fun a k _ q => by unfold PS; omega) (fun a k _ q => q.1) (fun _ _ _ q => q), ?_, ?_, ?_, S3, ?_, ⟨_, _, H4⟩, GS_F x23, fun _ => ?_, fun u => absurd u (by decide)⟩
        · exact funext fun k => by rw [Fx_I x23 (by omega)]; rfl
        · rw [i1']; exact y18
        · rw [Fx_I x23 (by omega)]; exact e17
        · rw [Fx_I x23 (by omega)]; exact g0
        · refine ⟨?_, fun j hj => ⟨?_, ?_⟩, ⟨?_, ?_, ?_⟩, ⟨?_, ?_, ?_⟩, fun d hd => ⟨?_, ?_⟩, H4, fc, K3.1, K3.2, fun e => (by cases e), fun _ => ⟨?_, y16⟩⟩
          · rw [Fx_I x23 (by omega)]; exact d1
          · rw [Fx_I x23 (by omega)]; exact (d2 j hj).1
          · rw [Fx_R x23]; exact (d2 j hj).2
          · rw [Fx_I x23 (by omega)]; exact d3
          · rw [Fx_I x23 (by omega)]; exact d4
          · rw [Fx_I x23 (by omega)]; exact d5
          · rw [lonL _ _ (by omega) (by omega)]; exact d6
          · rw [lonL _ _ (by omega) (by omega)]; exact d7
          · rw [lonL _ _ (by omega) (by omega)]; exact d8
          · rw [Fx_I x23 (by omega)]; exact (d9 d hd).1
          · rw [Fx_I x23 (by omega)]; exact (d9 d hd).2
          · show hR h3 17 15 = hR h3 20 (90 * dp + ch (tk dp - 1))
            rw [Fx_R x23, j1, a1]
      | true =>
        obtain ⟨hb1, hb2⟩ := hb rfl
        rw [if_neg (show ¬ qI true = 0 by decide), if_pos rfl]
        have l4 := lay_s 17 14 (nI (dp + 1)) L3
        have l5 := lay_s 27 (dp + 1) (-1) l4
        have l6 := lay_s 28 (dp + 1) (nI (sz + 1)) l5
        have e14 : hI h3 17 14 = nI dp := by rw [Fx_I x23 (by omega)]; exact d5
        obtain ⟨h6, eh6⟩ : ∃ h6, h6 = sI (sI (sI h3 17 14 (nI (dp + 1))) 27 (dp + 1) (-1)) 28 (dp + 1) (nI (sz + 1)) := ⟨_, rfl⟩
        have x6 : Fi (fun a k => a = 17 ∧ k = 14 ∨ (a = 27 ∨ a = 28) ∧ k = dp + 1) h3 h6 := by rw [eh6]; exact Fx_t (Fx_t (Fx_sI _ _ (by omega)) (Fx_sI _ _ (by omega))) (Fx_sI _ _ (by omega))
        have u14 : hI h6 17 14 = nI (dp + 1) := by rw [eh6, sI_ne (by omega), sI_ne (by omega), sI_at]
        have u27 : hI h6 27 (dp + 1) = -1 := by rw [eh6, sI_ne (by omega), sI_at]
        have u28 : hI h6 28 (dp + 1) = nI (sz + 1) := by rw [eh6, sI_at]
        have L6 := Fx_Lay x6 L3
        have z6 := L6.1
        have eop : (gi [5] 14 (some 17) h3 fun x8 => pi [5] 14 (some 17) (x8 + (1 : Int32)) h3 fun h9 => cl (ds [(5, Search_openPlace N (some 17) h9)] (some 17) h9) fun _ h10 => some ((), h10)) = some ((), sR h6 17 15 none) := by
          rw [gi_s (o17 L3), e14, aN_1, pi_s (o17 L3), ds5 l4]
          unfold Search_openPlace
          rw [gr_s (o17 l4), r17_12 l4, gi_s (o17 l4), sI_at, si_s (o27 l4) (by rw [k27 l4]; show dp + 1 < 12; omega) (by rw [k27 l4]; decide), gr_s (o17 l5), r17_13 l5, gi_s (o17 l5), sI_ne (by omega), sI_at, gr_s (o17 l5), r17_10 l5, gi_s (o22 l5), sI_ne (by omega), sI_ne (by omega), H4.1, si_s (o28 l5) (by rw [k28 l5]; show dp + 1 < 12; omega) (by rw [k28 l5]; decide), pr_s (o17 l6), cl_s, eh6]
        clear eh6
        have f7 : Gx nF nF (fun a k => a = 17 ∧ k = 15) h6 (sR h6 17 15 none) := Gx_sR h6 _ ⟨rfl, rfl⟩
        have f67 : Gx (fun a k => a = 17 ∧ k = 14 ∨ (a = 27 ∨ a = 28) ∧ k = dp + 1) nF (fun a k => a = 17 ∧ k = 15) h3 (sR h6 17 15 none) := Gx_t (Gx_X x6) (Gx_m f7 (fun _ _ _ q => q.elim) (fun _ _ _ q => q) (fun _ _ _ q => q))
        have r15 : hR (sR h6 17 15 none) 17 15 = none := sR_at ..
        have r20 : hR (sR h6 17 15 none) 20 = hR h3 20 := by
          rw [← Fx_R x6]
          exact funext fun i => sR_ne (by omega)
        have zz : hz (sR h6 17 15 none) = hz h3 := by rw [hz_sR]; exact Fx_z x6
        have ss : hs (sR h6 17 15 none) = hs h3 := by rw [hs_sR]; exact Fx_s x6
        have t14 : hI (sR h6 17 15 none) 17 14 = nI (dp + 1) := by rw [hI_sR]; exact u14
        have t27 : hI (sR h6 17 15 none) 27 (dp + 1) = -1 := by rw [hI_sR]; exact u27
        have t28 : hI (sR h6 17 15 none) 28 (dp + 1) = nI (sz + 1) := by rw [hI_sR]; exact u28
        generalize sR h6 17 15 none = h7 at eop f67 r15 r20 zz ss t14 t27 t28
        have eI : ∀ a k, a < 64 → ¬ (a = 17 ∧ k = 14 ∨ (a = 27 ∨ a = 28) ∧ k = dp + 1) → hI h7 a k = hI h3 a k := fun a k ha q => Gx_I f67 z3 ha q
        have eL : ∀ a k, a < 64 → hL h7 a k = hL h3 a k := fun a k ha => Gx_L f67 z3 ha (fun q => q)
        have eRr : ∀ a k, a < 64 → ¬ (a = 17 ∧ k = 15) → hR h7 a k = hR h3 a k := fun a k ha q => Gx_R f67 z3 ha q
        have K7 : LK h7 D cc ch kn := LK_g K3 S3 c90 z3 f67 (fun a k q => by omega) (fun a k q => by omega)
        have H7 : Hs h7 22 23 24 25 1201 (sz + 1) (fun j => lN (va_up w sz row j)) := Hs_g H4 z3 f67 (by omega) (by omega) (by omega) (by omega) (fun _ q => q)
        refine ⟨h7, eop, Gx_t (Gx_m (Gx_X x23) (fun a k _ q => by unfold PS; omega) (fun a k _ q => q.1) (fun _ _ _ q => q)) (Gx_m f67 (fun a k _ q => by unfold PS; omega) (fun _ _ _ q => q.elim) (fun a k _ q => Or.inl q)), ?_, ?_, ?_, Sl_g S3 z3 f67 (by omega), ?_, ⟨_, _, H7⟩, GS_t (GS_F x23) (GS_s r20 zz ss), fun _ => ?_, fun u => absurd u (by decide)⟩
        · exact funext fun k => by rw [eI _ _ (by omega) (by omega), Fx_I x23 (by omega)]; rfl
        · rw [i1', eI _ _ (by omega) (by omega)]; exact y18
        · rw [eI _ _ (by omega) (by omega), Fx_I x23 (by omega)]; exact e17
        · rw [eI _ _ (by omega) (by omega), Fx_I x23 (by omega)]; exact g0
        · refine ⟨?_, fun j hj => ⟨?_, ?_⟩, ⟨?_, ?_, t14⟩, ⟨?_, ?_, ?_⟩, fun d hd => ⟨?_, ?_⟩, H7, fun j hj => ?_, K7.1, K7.2, fun _ => r15, fun e => (by cases e)⟩
          · rw [eI _ _ (by omega) (by omega), Fx_I x23 (by omega)]; exact d1
          · rw [eI _ _ (by omega) (by omega), Fx_I x23 (by omega)]; exact (d2 j hj).1
          · rw [eRr _ _ (by omega) (by omega), Fx_R x23]; exact (d2 j hj).2
          · rw [eI _ _ (by omega) (by omega), Fx_I x23 (by omega)]; exact d3
          · rw [eI _ _ (by omega) (by omega), Fx_I x23 (by omega)]; exact d4
          · rw [eL _ _ (by omega), lonL _ _ (by omega) (by omega)]; exact d6
          · rw [eL _ _ (by omega), lonL _ _ (by omega) (by omega)]; exact d7
          · rw [eL _ _ (by omega), lonL _ _ (by omega) (by omega)]; exact d8
          · have hd' : d ≤ dp + 1 := hd
            show hI h7 27 d = nI (va_up tk (dp + 1) 0 d) - 1
            rw [up_at]
            by_cases q : d = dp + 1
            · rw [if_pos q, q, t27]; rfl
            · rw [if_neg q, eI _ _ (by omega) (by omega), Fx_I x23 (by omega)]; exact (d9 d (by omega)).1
          · have hd' : d ≤ dp + 1 := hd
            show hI h7 28 d = nI (va_up fr (dp + 1) (sz + 1) d)
            rw [up_at]
            by_cases q : d = dp + 1
            · rw [if_pos q, q, t28]
            · rw [if_neg q, eI _ _ (by omega) (by omega), Fx_I x23 (by omega)]; exact (d9 d (by omega)).2
          · rw [eI _ _ (by omega) (by omega)]; exact fc j hj
    · have kt : thr w row sz = true := (thr_t sz).mpr ⟨k, n1, lN_inj (rw64 hn (b9 k n1)) r64 n2⟩
      rw [n3, cl_s, if_neg (nI_pos (by omega)), if_pos kt]
      exact leave
  unfold stB
  rw [← eR, ← erow, ← eF]
  by_cases q : ga + 1 = R.2.1 ∧ dp + 1 = len
  · rw [if_pos q]
    have p1 : Search_ringRow N (some 17) (some cl0) h = if row = rd n ∧ wd ≤ F then some ((), sI g 17 17 1) else Search_ringRow_155 N (some 17) (nI sz) (lN row) (nI F) 1 1 g := by rw [pre, if_neg (by omega), if_pos q.2]
    by_cases u : row = rd n ∧ wd ≤ F
    · rw [if_pos u] at p1 ⊢
      have x5 : Fi (fun a k => a = 17 ∧ (k = 16 ∨ k = 17 ∨ k = 18)) h (sI g 17 17 1) := Fx_t (Fx_m xg (fun a k q => by omega) (fun _ _ q => q)) (Fx_sI _ _ (by omega))
      refine ⟨_, pre0 _ p1, Gx_m (Gx_X x5) (fun a k _ q => by unfold PS; omega) (fun _ _ _ q => q.elim) (fun _ _ _ q => q), ?_, ?_, ?_, Sl_g S z (Gx_F x5) (fun _ _ _ q => q), ?_, ⟨sz, fun j => lN (w j), Hs_f d10 x5 (by omega) (by omega) (by omega) (fun _ q => q)⟩, GS_F x5, fun v => absurd (show (1 : Nat) = 2 from v) (by decide), fun _ => ⟨?_, fun i hi => ?_⟩⟩
      · rw [Fx_row x5 (by omega)]; rfl
      · rw [i1', sI_ne (by omega)]; exact g18
      · rw [sI_at]; rfl
      · rw [Fx_I x5 (by omega)]; exact g0
      · rw [Fx_I x5 (by omega)]; exact d3
      · show 1 ≤ tk i ∧ tk i ≤ cc ∧ hI (sI g 17 17 1) 27 i = nI (tk i - 1) ∧ hI (sI g 17 17 1) 18 (tk i - 1) = nI (ch (tk i - 1))
        have ti : 1 ≤ tk i ∧ tk i ≤ cc := by
          by_cases e : i = dp
          · rw [e]; exact ⟨i1, b5⟩
          · exact b4 i (by omega)
        refine ⟨ti.1, ti.2, ?_, ?_⟩
        · rw [Fx_I x5 (by omega), (d9 i (by omega)).1, nI_m1 ti.1]
        · rw [Fx_I x5 (by omega)]; exact (d2 (tk i - 1) (by omega)).1
    · rw [if_neg u] at p1 ⊢
      obtain ⟨h', e1, t1⟩ := leave
      refine ⟨h', pre0 h' ?_, t1⟩
      rw [p1]
      unfold Search_ringRow_155
      rw [if_neg i10]
      exact e1
  · rw [if_neg q]
    by_cases v : ga + 1 = R.2.1
    · obtain ⟨h', e1, t1⟩ := w155 true (fun _ => ⟨by omega, v⟩)
      refine ⟨h', pre0 h' ?_, ?_⟩
      · rw [pre, if_neg (by omega), if_neg (fun t => q ⟨v, t⟩)]
        exact e1
      · by_cases t : thr w row sz = true
        · rw [if_pos t] at t1 ⊢; exact t1
        · rw [if_neg t, if_pos rfl] at t1
          rw [if_neg t, if_pos v]; exact t1
    · obtain ⟨h', e1, t1⟩ := w155 false (fun t => (by cases t))
      refine ⟨h', pre0 h' ?_, ?_⟩
      · rw [pre, if_pos (by omega)]
        exact e1
      · by_cases t : thr w row sz = true
        · rw [if_pos t] at t1 ⊢; exact t1
        · rw [if_neg t, if_neg (by decide)] at t1
          rw [if_neg t, if_neg v]; exact t1
