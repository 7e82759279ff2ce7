/-! PURE: falseness -/
def isn (f : Nat → Nat) (v M x : Nat) : Bool := (List.range M).any (fun j => decide (rng f v j = x))
theorem isn_t {f : Nat → Nat} {v M x : Nat} : isn f v M x = true ↔ ∃ j, j < M ∧ rng f v j = x := by
  unfold isn
  simp [List.any_eq_true]
def shc (f : Nat → Nat) (v u M : Nat) : Nat → Nat
  | 0 => 0
  | k + 1 => shc f v u M k + if isn f v M (rng f u k) = true then 1 else 0
theorem shc_le (f : Nat → Nat) (v u M : Nat) : ∀ k, shc f v u M k ≤ k
  | 0 => Nat.le_refl 0
  | k + 1 => by have := shc_le f v u M k; rw [shc]; split <;> omega
theorem lN_x {n M u v j k : Nat} {f : Nat → Nat} (hn : n ≤ 12) (hv : Rw n v) (hu : Rw n u) (hf : ∀ k, k < M → Ch n (f k)) (hj : j ≤ M) (hk : k ≤ M) : lN (rng f v j) = lN (rng f u k) ↔ rng f v j = rng f u k := by
  have a := lN_lt12 hn (rng_rw hv hf j hj).1
  have b := lN_lt12 hn (rng_rw hu hf k hk).1
  exact lN_eqI (by omega) (by omega)
theorem sh_loop2 {N n y yc u v : Nat} {R : Nat × Nat × (Nat → Nat)} {h : Hp} (hN : 200 < N) (hn : n ≤ 12) (L : Lay h) (l1 : ok h [0] y = true) (l2 : ok h [13] yc = true) (l3 : hK h yc = (13, 100)) (l4 : hR h y 0 = some yc) (l5 : hI h y 1 = nI R.2.1) (l6 : ∀ k, k < R.2.1 → hI h yc k = nI (R.2.2 k)) (w : RW n R) (hv : Rw n v) (hu : Rw n u) (H : Hs h 31 32 33 34 100 R.2.1 (fun j => lN (rng R.2.2 v j))) : ∀ (r f k : Nat), k + r = R.2.1 → r < f → C_sharedRows_67 N f (some 0) (some y) (lN (rng R.2.2 u k)) (nI (shc R.2.2 v u R.2.1 k)) (nI k) h = some (nI (shc R.2.2 v u R.2.1 R.2.1), h)
  | 0, f + 1, k, hk, hf => by
    have := w.2.1
    rw [C_sharedRows_67, gi_s l1, l5, if_pos ((nI_leI (by omega) (by omega)).mpr (by omega)), show k = R.2.1 by omega]
  | r + 1, f + 1, k, hk, hf => by
    have w2 := w.2.1
    have ch := w.2.2 k (by omega)
    have ih := sh_loop2 hN hn L l1 l2 l3 l4 l5 l6 w hv hu H r f (k + 1) (by omega) (by omega)
    have e91 : ∀ z, C_sharedRows_91 N (C_sharedRows_67 N f) (some 0) (some y) (lN (rng R.2.2 u k)) z (nI k) h = C_sharedRows_67 N f (some 0) (some y) (lN (rng R.2.2 u (k + 1))) z (nI (k + 1)) h := by
      intro z
      unfold C_sharedRows_91
      rw [gr_s l1, l4, li_s l2 (by rw [l3]; show k < 100; omega) (by rw [l3]; decide), l6 k (by omega), Rows_changed_s (by omega) (ch_lt hn ch) (lN_lt12 hn (rng_rw hu w.2.2 k (by omega)).1), cl_s, nmE, nI_1]
      rfl
    rw [C_sharedRows_67, gi_s l1, l5, if_neg (fun q => by have := (nI_leI (by omega) (by omega)).mp q; omega), gr_s (o0 L), r0_10 L, ds_1 (o31 L)]
    rw [shc] at ih
    rcases indexOf_s (N := N) (lN (rng R.2.2 u k)) (RO_31 L) H (by omega) with ⟨q1, q2⟩ | ⟨j, q0, q1, q2⟩
    · rw [q2, cl_s, if_pos (by decide), e91]
      have : ¬ isn R.2.2 v R.2.1 (rng R.2.2 u k) = true := by
        intro c
        obtain ⟨j, hj, e⟩ := isn_t.mp c
        exact q1 j hj (by rw [e])
      rw [if_neg this] at ih
      exact ih
    · rw [q2, cl_s, if_neg (nI_pos (by omega)), nmE, nI_1, e91]
      have : isn R.2.2 v R.2.1 (rng R.2.2 u k) = true := isn_t.mpr ⟨j, q0, (lN_x hn hv hu w.2.2 (by omega) (by omega)).mp q1⟩
      rw [if_pos this] at ih
      exact ih
def PO (a k : Nat) : Prop := a = 31 ∧ k = 3 ∨ a = 32 ∨ a = 34
theorem sh_loop1 {N n y yc v : Nat} {R : Nat × Nat × (Nat → Nat)} (hN : 200 < N) (hn : n ≤ 12) (y64 : 64 ≤ y) (yc64 : 64 ≤ yc) (w : RW n R) (hv : Rw n v) : ∀ (r f k : Nat) (h : Hp), k + r = R.2.1 → r < f → Lay h → ok h [0] y = true → ok h [13] yc = true → hK h yc = (13, 100) → hR h y 0 = some yc → hI h y 1 = nI R.2.1 → (∀ k, k < R.2.1 → hI h yc k = nI (R.2.2 k)) → hI h 0 4 = nI n → Hs h 31 32 33 34 100 k (fun j => lN (rng R.2.2 v j)) →
    ∃ h', C_sharedRows_14 N f (some 0) (some y) (lN (rng R.2.2 v k)) (nI k) h = some (nI (shc R.2.2 v (rd n) R.2.1 R.2.1), h') ∧ Fx PO (fun a k => a = 33) h h' ∧ Hs h' 31 32 33 34 100 R.2.1 (fun j => lN (rng R.2.2 v j))
  | 0, f + 1, k, h, hk, hf, L, l1, l2, l3, l4, l5, l6, b, H => by
    have w2 := w.2.1
    have ek : k = R.2.1 := by omega
    subst ek
    have := sh_loop2 hN hn L l1 l2 l3 l4 l5 l6 w hv (rd_rw hn) H R.2.1 N 0 (by omega) (by omega)
    refine ⟨h, ?_, Fx_r _ _ _, H⟩
    rw [C_sharedRows_14, gi_s l1, l5, if_pos ((nI_leI (by omega) (by omega)).mpr (by omega)), gi_s (o0 L), b, Rows_rounds_s hn, cl_s]
    exact this
  | r + 1, f + 1, k, h, hk, hf, L, l1, l2, l3, l4, l5, l6, b, H => by
    have w2 := w.2.1
    have ch := w.2.2 k (by omega)
    obtain ⟨h1, a1, a2, a3, -⟩ := add_s (N := N) (lN (rng R.2.2 v k)) (RO_31 L) H (by omega)
    have x0 : Fx PO (fun a k => a = 33) h h1 := Fx_m a2 (fun a k c => c) (fun a k c => c.1)
    have L1 := Fx_Lay x0 L
    have oy : ok h1 [0] y = true := by rw [Fx_ok x0]; exact l1
    have oyc : ok h1 [13] yc = true := by rw [Fx_ok x0]; exact l2
    have ky : hK h1 yc = (13, 100) := by rw [Fx_K x0]; exact l3
    have ry : hR h1 y 0 = some yc := by rw [Fx_R x0]; exact l4
    have cy : ∀ k, k < R.2.1 → hI h1 yc k = nI (R.2.2 k) := fun k hk => by rw [Fx_I x0 (by unfold PO; omega)]; exact l6 k hk
    obtain ⟨h', b1, b2, b3⟩ := sh_loop1 hN hn y64 yc64 w hv r f (k + 1) h1 (by omega) (by omega) L1 oy oyc ky ry (by rw [Fx_I x0 (by unfold PO; omega)]; exact l5) cy (by rw [Fx_I x0 (by unfold PO; omega)]; exact b) (Hs_congr a3 (fun j hj => by
      rw [up_at]
      by_cases q : j = k
      · rw [if_pos q, q]
      · rw [if_neg q]))
    refine ⟨h', ?_, Fx_t x0 b2, b3⟩
    rw [C_sharedRows_14, gi_s l1, l5, if_neg (fun q => by have := (nI_leI (by omega) (by omega)).mp q; omega), gr_s (o0 L), r0_10 L, ds_1 (o31 L), a1, cl_s, gr_s oy, ry, li_s oyc (by rw [ky]; show k < 100; omega) (by rw [ky]; decide), cy k (by omega), Rows_changed_s (by omega) (ch_lt hn ch) (lN_lt12 hn (rng_rw hv w.2.2 k (by omega)).1), cl_s, nmE, nI_1]
    exact b1
theorem M_fal_in {N n u v : Nat} {R : Nat × Nat × (Nat → Nat)} {h : Hp} {re : Option Nat → Int64 → Int32 → Int32 → Hp → Option (Int32 × Hp)} {z k : Nat} (hn : n ≤ 12) (L : Lay h) (l5 : hI h 35 14 = nI R.2.1) (w : RW n R) (hv : Rw n v) (hu : Rw n u) (H : ∀ j, j < R.2.1 → hL h 63 j = lN (rng R.2.2 v j)) (hk : k < R.2.1) : ∀ (r f j : Nat) (b : Bool), j + r = R.2.1 → r < f → (b = true → ∃ i, i < R.2.1 ∧ rng R.2.2 v i = rng R.2.2 u k) → (b = false → ∀ i, i < j → rng R.2.2 v i ≠ rng R.2.2 u k) → M_falseness_130 N re f (some 35) (lN (rng R.2.2 u k)) (nI z) (nI k) (qI b) (nI j) h = M_falseness_182 N re (some 35) (lN (rng R.2.2 u k)) (nI k) (nI z) (if isn R.2.2 v R.2.1 (rng R.2.2 u k) = true then 1 else 0) h
  | 0, f + 1, j, b, hj, hf, b1, b2 => by
    have w2 := w.2.1
    rw [M_falseness_130, gi_s (o35 L), l5, if_pos ((nI_leI (by omega) (by omega)).mpr (by omega))]
    unfold M_falseness_170
    cases b
    · rw [if_pos (show qI false = 0 from rfl), if_neg (fun c => by
        obtain ⟨i, hi, e⟩ := isn_t.mp c
        exact b2 rfl i (by omega) e)]
    · rw [if_neg (show ¬ qI true = 0 by decide), if_pos (isn_t.mpr (b1 rfl))]
  | r + 1, f + 1, j, b, hj, hf, b1, b2 => by
    have w2 := w.2.1
    rw [M_falseness_130, gi_s (o35 L), l5, if_neg (fun q => by have := (nI_leI (by omega) (by omega)).mp q; omega)]
    cases b
    · rw [if_pos (show qI false = 0 from rfl), gr_s (o35 L), r35_58 L, ll_s (o63 L) (by rw [k63 L]; show j < 100; omega) (by rw [k63 L]; decide), H j (by omega)]
      unfold M_falseness_162
      by_cases c : rng R.2.2 v j = rng R.2.2 u k
      · rw [if_pos ((lg_eq _ _).mpr (by rw [c])), nmE, nI_1]
        exact M_fal_in hn L l5 w hv hu H hk r f (j + 1) true (by omega) (by omega) (fun _ => ⟨j, by omega, c⟩) (fun q => by cases q)
      · rw [if_neg (fun q => c ((lN_x hn hv hu w.2.2 (by omega) (by omega)).mp ((lg_eq _ _).mp q))), nmE, nI_1]
        exact M_fal_in hn L l5 w hv hu H hk r f (j + 1) false (by omega) (by omega) (fun q => by cases q) (fun _ i hi e => by
          by_cases q : i = j
          · subst q; exact c e
          · exact b2 rfl i (by omega) e)
    · rw [if_neg (show ¬ qI true = 0 by decide)]
      unfold M_falseness_170
      rw [if_neg (show ¬ qI true = 0 by decide), if_pos (isn_t.mpr (b1 rfl))]
theorem M_fal_out {N n u v : Nat} {R : Nat × Nat × (Nat → Nat)} {h : Hp} (hN : 200 < N) (hn : n ≤ 12) (L : Lay h) (l5 : hI h 35 14 = nI R.2.1) (l6 : ∀ k, k < R.2.1 → hI h 45 k = nI (R.2.2 k)) (w : RW n R) (hv : Rw n v) (hu : Rw n u) (H : ∀ j, j < R.2.1 → hL h 63 j = lN (rng R.2.2 v j)) : ∀ (r f k : Nat), k + r = R.2.1 → r < f → M_falseness_115 N f (some 35) (lN (rng R.2.2 u k)) (nI (shc R.2.2 v u R.2.1 k)) (nI k) h = some (nI (shc R.2.2 v u R.2.1 R.2.1), h)
  | 0, f + 1, k, hk, hf => by
    have w2 := w.2.1
    rw [M_falseness_115, gi_s (o35 L), l5, if_pos ((nI_leI (by omega) (by omega)).mpr (by omega)), show k = R.2.1 by omega]
  | r + 1, f + 1, k, hk, hf => by
    have w2 := w.2.1
    have ch := w.2.2 k (by omega)
    have ih := M_fal_out hN hn L l5 l6 w hv hu H r f (k + 1) (by omega) (by omega)
    have := M_fal_in (N := N) (re := M_falseness_115 N f) (z := shc R.2.2 v u R.2.1 k) hn L l5 w hv hu H (k := k) (by omega) R.2.1 N 0 false (by omega) (by omega) (fun q => by cases q) (fun _ i hi => by omega)
    rw [M_falseness_115, gi_s (o35 L), l5, if_neg (fun q => by have := (nI_leI (by omega) (by omega)).mp q; omega), show M_falseness_130 N (M_falseness_115 N f) N (some 35) (lN (rng R.2.2 u k)) (nI (shc R.2.2 v u R.2.1 k)) (nI k) 0 0 h = _ from this]
    unfold M_falseness_182
    rw [nmE, gr_s (o35 L), r35_13 L, li_s (o45 L) (by rw [k45 L]; show k < 100; omega) (by rw [k45 L]; decide), l6 k (by omega), M_done_s (by omega) (ch_lt hn ch) (lN_lt12 hn (rng_rw hu w.2.2 k (by omega)).1), cl_s, nmE, nI_1]
    rw [shc] at ih
    by_cases c : isn R.2.2 v R.2.1 (rng R.2.2 u k) = true
    · rw [if_pos c] at ih ⊢
      rw [nI_1]; exact ih
    · rw [if_neg c] at ih ⊢
      rw [show nI (shc R.2.2 v u R.2.1 k) + 0 = nI (shc R.2.2 v u R.2.1 k + 0) from nI_add _ 0]; exact ih
theorem M_fal_1 {N n v : Nat} {R : Nat × Nat × (Nat → Nat)} (hN : 200 < N) (hn : n ≤ 12) (w : RW n R) (hv : Rw n v) : ∀ (r f k : Nat) (h : Hp), k + r = R.2.1 → r < f → Lay h → Mn h n → hI h 35 14 = nI R.2.1 → (∀ k, k < R.2.1 → hI h 45 k = nI (R.2.2 k)) → (∀ j, j < k → hL h 63 j = lN (rng R.2.2 v j)) → ∃ h', M_falseness_65 N f (some 35) (lN (rng R.2.2 v k)) (nI k) h = some (nI (shc R.2.2 v (rd n) R.2.1 R.2.1), h') ∧ Fx nF (fun a k => a = 63) h h'
  | 0, f + 1, k, h, hk, hf, L, mn, l5, l6, H => by
    have w2 := w.2.1
    have := M_fal_out hN hn L l5 l6 w hv (rd_rw hn) (fun j hj => H j (by omega)) R.2.1 N 0 (by omega) (by omega)
    refine ⟨h, ?_, Fx_r _ _ _⟩
    rw [M_falseness_65, gi_s (o35 L), l5, if_pos ((nI_leI (by omega) (by omega)).mpr (by omega)), dM L, M_rounds_s (by omega) mn, cl_s]
    exact this
  | r + 1, f + 1, k, h, hk, hf, L, mn, l5, l6, H => by
    have w2 := w.2.1
    have ch := w.2.2 k (by omega)
    have x0 : Fx nF (fun a k => a = 63) h (sL h 63 k (lN (rng R.2.2 v k))) := Fx_sL h _ rfl
    obtain ⟨h', a1, a2⟩ := M_fal_1 hN hn w hv r f (k + 1) (sL h 63 k (lN (rng R.2.2 v k))) (by omega) (by omega) (Fx_Lay x0 L) ⟨mn.1, mn.2⟩ l5 l6 (fun j hj => by
      by_cases q : j = k
      · subst q; exact sL_at ..
      · rw [sL_ne (fun _ => q)]; exact H j (by omega))
    refine ⟨h', ?_, Fx_t x0 a2⟩
    have L1 := Fx_Lay x0 L
    rw [M_falseness_65, gi_s (o35 L), l5, if_neg (fun q => by have := (nI_leI (by omega) (by omega)).mp q; omega), gr_s (o35 L), r35_58 L, sl_s (o63 L) (by rw [k63 L]; show k < 100; omega) (by rw [k63 L]; decide), gr_s (o35 L1), r35_13 L1, li_s (o45 L1) (by rw [k45 L1]; show k < 100; omega) (by rw [k45 L1]; decide), hI_sL, l6 k (by omega), M_done_s (by omega) (ch_lt hn ch) (lN_lt12 hn (rng_rw hv w.2.2 k (by omega)).1), cl_s, nmE, nI_1]
    exact a1
theorem op_falseness {N : Nat} {x : Int32} {p : Int64} {h : Hp} (hN : 200 < N) (I : Inv h) : Op (C_falseness N (some 0) x p) (M_falseness N (some 35) x p) h := by
  obtain ⟨n, mc, D, bs, ic, im, ik, i1, i2, i3, i4, i5, i6, i7, i8, i9, i10', i11, i12⟩ := id I
  have L := i1.1
  have hn := i1.2.2.2
  rcases meth_cs x mc with ⟨m, hm, e⟩ | hx
  · subst e
    rcases isRow_2 (N := N) p (by omega) hn with ⟨v, e, hv, g, g'⟩ | ⟨g, g'⟩
    · subst e
      have hw : ∀ m, m < mc → Wm n m D := fun m hm => (i6.2.2.1 m hm).2.2
      have rok := LR_ok (i := 0) hw hm
      have w2 := rok.2.1
      obtain ⟨y, yc, h1, e1, f1, t1, ⟨l1, l2, l3, l4, l5, l6, l7, l8⟩, y64, yc64⟩ := Dl_s (N := N) (i := 0) L i6 hm (by omega)
      have L1 := Fx_Lay f1 L
      have f1' : Fi P1 h h1 := Fx_m f1 (fun a k c => by unfold P4 at c; unfold P1; omega) (fun _ _ c => c)
      have b4 : hI h1 0 4 = nI n := by rw [Fx_I f1' (by unfold P1; omega)]; exact n0 i1
      have preC : C_falseness N (some 0) (nI m) (lN v) h = (gi [0] 2 (some y) h1 fun x8 =>
  if x8 = 0 then (cl (ds [(11, C_sharedRows N (some 0) (some y) (lN v) h1)] (some 0) h1) fun x10 h9 =>
  cl (ds [(11, C_finds N (some 0) 0 x10 h9)] (some 0) h9) fun x12 h11 =>
  some (x12, h11)) else (gi [0] 2 (some y) h1 fun x13 =>
  cl (ds [(11, C_finds N (some 0) x13 0 h1)] (some 0) h1) fun x15 h14 =>
  some (x15, h14))) := by
        unfold C_falseness
        rw [methodAt_y L i6 hm, cl_s, if_neg (by simp), gi_s (o0 L), n0 i1, g, cl_s, if_neg i10]
        rw [show (0 : Int32) = nI 0 from rfl, e1, cl_s]
      have pre : ∀ h2, Lay h2 → Ms h2 n mc D → Mn h2 n → M_falseness N (some 35) (nI m) (lN v) h2 = M_falseness_27 N (some 35) (nI m) (lN v) (some 35) 0 h2 := fun h2 La Ma mn => by
        unfold M_falseness
        rw [isMethod_y La Ma hm, cl_s, if_neg i10, dM La, g' _ mn, cl_s, if_neg i10]
      by_cases r0 : (LR D m 0).1 = 0
      · obtain ⟨sz, w, H31⟩ := Ot_g i11 L.1 (Gx_F f1') (by unfold P1; omega) (fun _ _ _ c => c)
        have hsz := H31.2.1
        obtain ⟨ha, k1, k2, k3⟩ := keepFirst_s (N := N) 0 (by omega) (RO_31 L1) H31 (by omega)
        have x1 : Fx PO (fun a k => a = 33) h1 ha := Fx_m k2 (fun a k c => c) (fun a k c => c.elim)
        have Lha := Fx_Lay x1 L1
        rw [show min sz 0 = 0 by omega] at k3
        obtain ⟨hb, c1, c2, c3⟩ := sh_loop1 (N := N) (n := n) (y := y) (yc := yc) (v := v) (R := LR D m 0) hN hn y64 yc64 rok hv (LR D m 0).2.1 N 0 ha (by omega) (by omega) Lha (by rw [Fx_ok x1]; exact l1) (by rw [Fx_ok x1]; exact l2) (by rw [Fx_K x1]; exact l3) (by rw [Fx_R x1]; exact l4) (by rw [Fx_I x1 (by unfold PO; omega)]; exact l6) (fun k hk => by rw [Fx_I x1 (by unfold PO; omega)]; exact l8 k hk) (by rw [Fx_I x1 (by unfold PO; omega)]; exact b4) (Hs_congr k3 (fun j hj => by omega))
        have x2 : Fx PO (fun a k => a = 33) h1 hb := Fx_t x1 c2
        have Lb' := Fx_Lay x2 L1
        have xa : Fx (fun a k => P1 a k ∨ PO a k) (fun a k => a = 33) h (sI hb 0 6 0) := Fx_t (Fx_t (Fx_m f1' (fun _ _ c => Or.inl c) (fun _ _ c => c.elim)) (Fx_m x2 (fun _ _ c => Or.inr c) (fun _ _ c => c))) (Fx_sI _ _ (by unfold P1; omega))
        have La : Lay (sI hb 0 6 0) := Lb'
        have Ma : Ms (sI hb 0 6 0) n mc D := Ms_g i5 L.1 (Gx_F xa) (by unfold P1 PO; omega)
        have mna : Mn (sI hb 0 6 0) n := ⟨o35 La, by rw [Fx_I xa (by unfold P1 PO; omega)]; exact i1.2.1.2, i1.2.2⟩
        have Lb : Lay (sI (sI hb 0 6 0) 35 3 0) := Lb'
        obtain ⟨x3, h3, e3, mr⟩ := M_leadOf_s (N := N) (i := 0) (q := true) (by omega) Lb (by rw [sI_ne (by omega), Fx_I xa (by unfold P1 PO; omega)]; exact i2.2) (Ms_g Ma La.1 (Gx_sI (P := fun a k => a = 35 ∧ k = 3) (Q := nF) (R := nF) _ _ ⟨rfl, rfl⟩) (by omega)) hm (by omega)
        have L3 : Lay h3 := Fx_Lay mr.1 Lb
        obtain ⟨g1, g2, g3, g4, -⟩ := mr
        rw [if_pos r0] at g3
        have L4 : Lay (sI h3 35 3 0) := L3
        obtain ⟨h5, d1, d2⟩ := M_fal_1 (N := N) hN hn rok hv (LR D m 0).2.1 N 0 (sI h3 35 3 0) (by omega) (by omega) L4 (Mn_3 (Mn_P (Mn_3 mna 0) g1) 0) (by rw [sI_ne (by omega)]; exact (g4 r0).1) (fun k hk => by rw [sI_ne (by omega)]; exact (g4 r0).2 k hk) (fun j hj => by omega)
        have xb : Fx P2 (fun a k => a = 63) (sI hb 0 6 0) h5 := Fx_t (Fx_t (Fx_t (Fx_sI _ _ (by unfold P2; omega)) (Fx_m g1 (fun a k c => by unfold PM at c; unfold P2; omega) (fun _ _ c => c.elim))) (Fx_sI _ _ (by unfold P2; omega))) (Fx_m d2 (fun _ _ c => c.elim) (fun _ _ c => c))
        have xc : Fx (fun a k => P1 a k ∨ PO a k ∨ P2 a k) (fun a k => a = 33 ∨ a = 63) h h5 := Fx_t (Fx_m xa (fun a k c => by rcases c with c | c; exact Or.inl c; exact Or.inr (Or.inl c)) (fun _ _ c => Or.inl c)) (Fx_m xb (fun _ _ c => Or.inr (Or.inr c)) (fun _ _ c => Or.inr c))
        have nFr : ∀ a, hI h5 a = hI (sI h3 35 3 0) a := fun a => Fx_row d2 (fun _ c => c)
        refine ⟨nI (shc (LR D m 0).2.2 v (rd n) (LR D m 0).2.1 (LR D m 0).2.1), sI hb 0 6 0, h5, ?_, ?_, ?_, Gr_F xc, La⟩
        · rw [preC, gi_s l1, l5, r0, if_pos cN_0, ds_1 (o0 L1)]
          unfold C_sharedRows
          rw [gr_s (o0 L1), r0_10 L1, ds_1 (o31 L1), show Rows_keepFirst N (some 31) 0 h1 = _ from k1, cl_s, show C_sharedRows_14 N N (some 0) (some y) (lN v) 0 ha = _ from c1, cl_s, C_finds_s Lb', cl_s]
        · rw [pre _ La Ma mna]
          unfold M_falseness_27 M_falseness_51
          rw [M_finds_0 La, cl_s, if_pos rfl, dM Lb, show M_leadOf N (some 35) (nI m) 0 _ = _ from e3, cl_s, g3, if_neg i10, M_finds_0 L3, cl_s, if_pos rfl]
          exact d1
        · refine Inv_x I (Gx_F xc) (fun a k _ c => by unfold P1 PO P2 at c; omega) (fun a k _ c => c) ⟨?_, ?_⟩ ?_ ⟨_, _, Hs_f (Hs_f c3 (Fx_sI (P := fun a k => a = 0) (Q := nF) hb 0 rfl) (by omega) (by omega) (by omega) (fun _ c => c)) xb (by unfold P2; omega) (by unfold P2; omega) (by unfold P2; omega) (by omega)⟩
          · have e4 : hI h5 4 = hI h1 4 := by
              rw [Fx_row xb (by unfold P2; omega), sI_row' (by omega), Fx_row x2 (by unfold PO; omega)]
            have e37 : hI (sI hb 0 6 0) 37 = hI h 37 := Fx_row xa (by unfold P1 PO; omega)
            rw [e4, t1, nFr, sI_row' (by omega), g2, sI_row' (by omega), e37, ← i2.1]
            rfl
          · rw [Fx_I xc (by unfold P1 PO P2; omega)]; exact i2.2
          · unfold Fdn
            rw [nFr 35, sI_at, Fx_I xb (by unfold P2; omega), sI_at]
      · have r8 := rok.1
        have rn := nI_ne0' r0 (by omega)
        obtain ⟨La, Lb, hq, Ma, Mb⟩ := act_M L f1' i2 i5 (nI (LR D m 0).1)
        obtain ⟨x2, h3, e3, mr⟩ := M_leadOf_s (N := N) (i := 0) (by omega) Lb hq Mb hm (by omega)
        have L3 : Lay h3 := Fx_Lay mr.1 Lb
        refine act_fin I f1' t1 (nI (LR D m 0).1) 0 ?_ mr ?_
        · rw [preC, gi_s l1, l5, if_neg rn, gi_s l1, l5, C_finds_s L1, cl_s]
        obtain ⟨g1, -, g3, -, g5⟩ := mr
        rw [if_neg r0] at g3
        rw [pre _ La Ma (Mn_1 (Mn_of i1) (Fx_t f1' (Fx_sI _ _ (by unfold P1; omega))))]
        unfold M_falseness_27 M_falseness_51
        rw [M_finds_0 La, cl_s, if_pos rfl, dM Lb, show M_leadOf N (some 35) (nI m) 0 _ = _ from e3, cl_s, g3, if_pos rfl, gi_s (o35 L3), g5 r0, M_finds_1 L3 rn, cl_s, if_neg i10]
    · refine Op_F I 0 8 ?_ ?_
      · unfold C_falseness
        rw [methodAt_y L i6 hm, cl_s, if_neg (by simp), gi_s (o0 L), n0 i1, g, cl_s, if_pos rfl, C_finds_s L, cl_s]
      · unfold M_falseness M_falseness_27
        rw [isMethod_y (LF L 8) (Ms_6 L i5 8) hm, cl_s, if_neg i10, dM (LF L 8), g' _ (Mn_6 i1 8), cl_s, if_pos rfl, M_finds_1 (LF L 8) i80, cl_s, if_neg i10]
        rfl
  · refine Op_F I 0 4 ?_ ?_
    · unfold C_falseness
      rw [methodAt_n L i6 hx, cl_s, if_pos rfl, C_finds_s L, cl_s]
    · unfold M_falseness M_falseness_27
      rw [isMethod_n (LF L 4) (Ms_6 L i5 4) hx, cl_s, if_pos rfl, M_finds_1 (LF L 4) i40, cl_s, if_neg i10]
      rfl
