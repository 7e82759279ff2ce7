/-! PURE: a search begins, by the class -/
def alw (D : Nat → Md) (i : Nat) : Bool := (aw (D (i / 3))).testBit (i % 3)
/-- the items that are allowed, in order -/
def enm (D : Nat → Md) : Nat → Nat × (Nat → Nat)
  | 0 => (0, fun _ => 0)
  | i + 1 => if alw D i = true then ((enm D i).1 + 1, va_up (enm D i).2 (enm D i).1 i) else enm D i
theorem enm_ok (D : Nat → Md) : ∀ i, (enm D i).1 ≤ i ∧ (∀ j, j < (enm D i).1 → (enm D i).2 j < i) ∧ ∀ a b, a < b → b < (enm D i).1 → (enm D i).2 a < (enm D i).2 b
  | 0 => ⟨Nat.le_refl _, fun j hj => absurd (show j < 0 from hj) (by omega), fun a b _ hb => absurd (show b < 0 from hb) (by omega)⟩
  | i + 1 => by
    obtain ⟨h1, h2, h3⟩ := enm_ok D i
    rw [enm]
    by_cases q : alw D i = true
    · rw [if_pos q]
      refine ⟨by show (enm D i).1 + 1 ≤ i + 1; omega, fun j hj => ?_, fun a b ha hb => ?_⟩
      · have hj' : j < (enm D i).1 + 1 := hj
        show va_up (enm D i).2 (enm D i).1 i j < i + 1
        rw [up_at]
        by_cases u : j = (enm D i).1
        · rw [if_pos u]; omega
        · rw [if_neg u]; have := h2 j (by omega); omega
      · have hb' : b < (enm D i).1 + 1 := hb
        show va_up (enm D i).2 (enm D i).1 i a < va_up (enm D i).2 (enm D i).1 i b
        rw [up_at, up_at, if_neg (by omega)]
        by_cases u : b = (enm D i).1
        · rw [if_pos u]; exact h2 a (by omega)
        · rw [if_neg u]; exact h3 a b ha (by omega)
    · rw [if_neg q]
      exact ⟨by omega, fun j hj => by have := h2 j hj; omega, h3⟩
theorem enm_inj (D : Nat → Md) (i : Nat) : ∀ a b, a < (enm D i).1 → b < (enm D i).1 → (enm D i).2 a = (enm D i).2 b → a = b := fun a b ha hb e => by
  obtain ⟨-, -, h3⟩ := enm_ok D i
  by_cases u : a < b
  · have := h3 a b u hb; omega
  · by_cases v : b < a
    · have := h3 b a v ha; omega
    · omega
def S0 (n : Nat) : SS := (0, fun _ => 0, fun _ => 1, 1, fun _ => rd n, false, 0, fun _ _ => 0)
theorem LW_0 {n mc : Nat} {D : Nat → Md} {len wd pat : Nat} (hn : n ≤ 12) (m30 : mc ≤ 30) (l1 : 1 ≤ len) (l2 : len ≤ 12) (w31 : wd < 2 ^ 31) (hp : Pt n pat) : LWs n mc D (enm D (3 * mc)).1 (enm D (3 * mc)).2 len wd pat (S0 n) := by
  obtain ⟨h1, h2, h3⟩ := enm_ok D (3 * mc)
  exact ⟨⟨by omega, h2, enm_inj D _⟩, ⟨l1, l2, by show 0 < len; omega, w31, hp⟩, fun d hd => absurd (show d < 0 from hd) (by omega), Nat.zero_le _, fun d hd => ⟨Nat.le_refl 1, by show 1 ≤ 1 + 100 * d; omega⟩, fun _ _ => Nat.le_refl 1, fun _ _ _ _ => Nat.le_refl 1, fun _ _ => rd_rw hn, rfl, fun _ => rfl, fun e => (by cases e), fun d j _ _ => ⟨Nat.zero_le 2, fun e => absurd (show (0 : Nat) = 1 from e) (by decide), fun e => absurd (show (0 : Nat) = 2 from e) (by decide)⟩⟩
theorem al_s {β : Type} {a : Nat} {h : Hp} {f : Int32 → Option β} (o : ok h [13, 14, 15, 16, 17, 18] a = true) : al (some a) h f = f (nI (hK h a).2) := by
  simp only [al]; rw [if_pos o]; rfl
theorem fill0_l {N : Nat} : ∀ (r g i : Nat) (h : Hp), i + r = 1080 → r < g → Lay h → (∀ k, k < i → hI h 21 k = 0) → ∃ h', Jk_fill_5 N g (some 21) 0 (nI i) (nI 1080) h = some ((), h') ∧ Fi (fun a k => a = 21) h h' ∧ ∀ k, k < 1080 → hI h' 21 k = 0
  | r, 0, _, _, _, hg, _, _ => absurd hg (by omega)
  | 0, g + 1, i, h, hi, _, L, hc => by
    simp only [Jk_fill_5]
    rw [if_pos ((nI_leI (by omega) (by omega)).mpr (by omega))]
    exact ⟨h, rfl, Fx_r _ _ _, fun k hk => hc k (by omega)⟩
  | r + 1, g + 1, i, h, hi, hg, L, hc => by
    simp only [Jk_fill_5]
    rw [if_neg (fun u => absurd ((nI_leI (by omega) (by omega)).mp u) (by omega)), si_s (o21 L) (by rw [k21 L]; show i < 1080; omega) (by rw [k21 L]; decide), nmE, show nI i + 1 = nI (i + 1) from aN_1 i]
    obtain ⟨h', a1, a2, a3⟩ := fill0_l (N := N) r g (i + 1) (sI h 21 i 0) (by omega) (by omega) L (fun k hk => by
      by_cases q : k = i
      · rw [q, sI_at]
      · rw [sI_ne (by omega)]; exact hc k (by omega))
    exact ⟨h', a1, Fx_t (Fx_sI _ _ rfl) a2, a3⟩
def PBg (a k : Nat) : Prop := a = 17 ∨ a = 21 ∨ a = 22 ∧ k = 3 ∨ a = 23 ∨ a = 25 ∨ a = 27 ∨ a = 28
/-- what holds when a search has begun, but for its items -/
def BG (h : Hp) (n len wd pat : Nat) : Prop := (hI h 17 2 = nI 0 ∧ hI h 17 3 = nI len ∧ hI h 17 4 = nI wd ∧ hI h 17 14 = nI 0) ∧ (hL h 17 5 = lN pat ∧ hL h 17 6 = lN (tld pat 12) ∧ hL h 17 7 = lN (rd n)) ∧ (hI h 27 0 = nI 0 - 1 ∧ hI h 28 0 = nI 1) ∧ Hs h 22 23 24 25 1201 1 (fun _ => lN (rd n)) ∧ (∀ k, k < 1080 → hI h 21 k = 0) ∧ hR h 17 15 = none ∧ (hI h 17 17 = nI 2 ∧ hI h 17 18 = 0 ∧ hI h 17 19 = 0)
theorem begin_C2 {N n len wd pat sz : Nat} {w : Nat → Int64} {h : Hp} (hN : 3000 < N) (hn : n ≤ 12) (hp : Pt n pat) (L : Lay h) (H : Hs h 22 23 24 25 1201 sz w) : ∃ h', ds [(5, Search_begin N (some 17) (nI n) (nI len) (nI wd) (lN pat) h)] (some 17) h = some ((), h') ∧ Gx PBg (fun a k => a = 17 ∨ a = 24) (fun a k => a = 17 ∧ k = 15) h h' ∧ BG h' n len wd pat ∧ (hz h' = hz h ∧ hs h' = hs h ∧ hR h' 20 = hR h 20) := by
  have s1 := H.2.1
  have l1 : Lay (sI h 17 3 (nI len)) := L
  have l2 : Lay (sI (sI h 17 3 (nI len)) 17 4 (nI wd)) := L
  have l3 : Lay (sL (sI (sI h 17 3 (nI len)) 17 4 (nI wd)) 17 5 (lN pat)) := L
  have l4 : Lay (sL (sL (sI (sI h 17 3 (nI len)) 17 4 (nI wd)) 17 5 (lN pat)) 17 6 (lN (tld pat 12))) := L
  have l5 : Lay (sL (sL (sL (sI (sI h 17 3 (nI len)) 17 4 (nI wd)) 17 5 (lN pat)) 17 6 (lN (tld pat 12))) 17 7 (lN (rd n))) := L
  obtain ⟨g1, eg1⟩ : ∃ g1, g1 = sI (sL (sL (sL (sI (sI h 17 3 (nI len)) 17 4 (nI wd)) 17 5 (lN pat)) 17 6 (lN (tld pat 12))) 17 7 (lN (rd n))) 17 2 0 := ⟨_, rfl⟩
  have x1 : Fx (fun a k => a = 17) (fun a k => a = 17) h g1 := by rw [eg1]; exact Fx_t (Fx_t (Fx_t (Fx_t (Fx_t (Fx_sI _ _ rfl) (Fx_sI _ _ rfl)) (Fx_sL _ _ rfl)) (Fx_sL _ _ rfl)) (Fx_sL _ _ rfl)) (Fx_sI _ _ rfl)
  have u2 : hI g1 17 2 = nI 0 := by rw [eg1, sI_at]; rfl
  have u3 : hI g1 17 3 = nI len := by rw [eg1, sI_ne (by omega), hI_sL, hI_sL, hI_sL, sI_ne (by omega), sI_at]
  have u4 : hI g1 17 4 = nI wd := by rw [eg1, sI_ne (by omega), hI_sL, hI_sL, hI_sL, sI_at]
  have u5 : hL g1 17 5 = lN pat := by rw [eg1, hL_sI, sL_ne (by omega), sL_ne (by omega), sL_at]
  have u6 : hL g1 17 6 = lN (tld pat 12) := by rw [eg1, hL_sI, sL_ne (by omega), sL_at]
  have u7 : hL g1 17 7 = lN (rd n) := by rw [eg1, hL_sI, sL_at]
  have Lg1 := Fx_Lay x1 L
  have p63 : pat < 2 ^ 63 := by have := lN_lt12 hn hp.1; omega
  obtain ⟨g2, e2, x2, v21⟩ := fill0_l (N := N) 1080 N 0 g1 (by omega) (by omega) Lg1 (fun k hk => absurd hk (by omega))
  have Lg2 := Fx_Lay x2 Lg1
  have H2 : Hs g2 22 23 24 25 1201 sz w := Hs_f (Hs_f H x1 (by omega) (by omega) (by omega) (by omega)) x2 (by omega) (by omega) (by omega) (fun _ q => q)
  obtain ⟨g3, e3, x3, H3⟩ := keepFirst_s (N := N) 0 (by omega) (RO_22 Lg2) H2 (by omega)
  have Lg3 := Fx_Lay x3 Lg2
  rw [Nat.min_eq_right (Nat.zero_le sz)] at H3
  have g37 : hL g3 17 7 = lN (rd n) := by rw [Fi_L x3, Fi_L x2]; exact u7
  obtain ⟨g4, e4, x4, H4, -⟩ := add_s (N := N) (lN (rd n)) (RO_22 Lg3) H3 (by omega)
  have Lg4 := Fx_Lay x4 Lg3
  have H5 : Hs g4 22 23 24 25 1201 1 (fun _ => lN (rd n)) := Hs_congr H4 (fun j hj => by rw [up_at, if_pos (by omega)])
  have l6 := lay_s 17 14 0 Lg4
  have l7 := lay_s 27 0 (-1) l6
  have l8 := lay_s 28 0 (nI 1) l7
  obtain ⟨g5, eg5⟩ : ∃ g5, g5 = sR (sI (sI (sI g4 17 14 0) 27 0 (-1)) 28 0 (nI 1)) 17 15 none := ⟨_, rfl⟩
  have f5 : Gx (fun a k => a = 17 ∨ a = 27 ∨ a = 28) nF (fun a k => a = 17 ∧ k = 15) g4 g5 := by rw [eg5]; exact Gx_t (Gx_t (Gx_t (Gx_sI _ _ (by omega)) (Gx_sI _ _ (by omega))) (Gx_sI _ _ (by omega))) (Gx_sR _ _ ⟨rfl, rfl⟩)
  have Lg5 : Lay g5 := Gx_Lay f5 Lg4 (fun a k c u => by unfold Rc at c; omega)
  have l9 := lay_s 17 17 2 Lg5
  have l10 := lay_s 17 18 0 l9
  obtain ⟨g6, eg6⟩ : ∃ g6, g6 = sI (sI (sI g5 17 17 2) 17 18 0) 17 19 0 := ⟨_, rfl⟩
  have x6 : Fi (fun a k => a = 17 ∧ (k = 17 ∨ k = 18 ∨ k = 19)) g5 g6 := by rw [eg6]; exact Fx_t (Fx_t (Fx_sI _ _ (by omega)) (Fx_sI _ _ (by omega))) (Fx_sI _ _ (by omega))
  have w15 : hR g5 17 15 = none := by rw [eg5, sR_at]
  have w14 : hI g5 17 14 = nI 0 := by rw [eg5, hI_sR, sI_ne (by omega), sI_ne (by omega), sI_at]; rfl
  have w27 : hI g5 27 0 = nI 0 - 1 := by rw [eg5, hI_sR, sI_ne (by omega), sI_at]; rfl
  have w28 : hI g5 28 0 = nI 1 := by rw [eg5, hI_sR, sI_at]
  have wo : ∀ a k, ¬ (a = 17 ∧ k = 14) → ¬ (a = 27 ∧ k = 0) → ¬ (a = 28 ∧ k = 0) → hI g5 a k = hI g4 a k := fun a k n1 n2 n3 => by rw [eg5, hI_sR, sI_ne (by omega), sI_ne (by omega), sI_ne (by omega)]
  have wL : hL g5 = hL g4 := by rw [eg5]; rfl
  have wR : hR g5 20 = hR g4 20 := by
    rw [eg5]
    exact funext fun i => sR_ne (by omega)
  have wz : hz g5 = hz g4 ∧ hs g5 = hs g4 := by rw [eg5]; exact ⟨rfl, rfl⟩
  have x14 : Fx (fun a k => a = 17 ∨ a = 21 ∨ a = 22 ∧ k = 3 ∨ a = 23 ∨ a = 25) (fun a k => a = 17 ∨ a = 24) h g4 := Fx_t (Fx_m x1 (fun a k q => by omega) (fun a k q => Or.inl q)) (Fx_t (Fx_m x2 (fun a k q => by omega) (fun _ _ q => q.elim)) (Fx_t (Fx_m x3 (fun a k q => by unfold PR at q; omega) (fun _ _ q => q.elim)) (Fx_m x4 (fun a k q => by unfold PR at q; omega) (fun a k q => Or.inr q.1))))
  have x24 : Fx (fun a k => a = 21 ∨ a = 22 ∧ k = 3 ∨ a = 23 ∨ a = 25) (fun a k => a = 24) g1 g4 := Fx_t (Fx_m x2 (fun a k q => by omega) (fun _ _ q => q.elim)) (Fx_t (Fx_m x3 (fun a k q => by unfold PR at q; omega) (fun _ _ q => q.elim)) (Fx_m x4 (fun a k q => by unfold PR at q; omega) (fun a k q => q.1)))
  refine ⟨g6, ?_, ?_, ⟨⟨?_, ?_, ?_, ?_⟩, ⟨?_, ?_, ?_⟩, ⟨?_, ?_⟩, ?_, fun k hk => ?_, ?_, ?_, ?_, ?_⟩, ?_, ?_, ?_⟩
  · rw [ds5 L]
    unfold Search_begin
    rw [pi_s (o17 L), pi_s (o17 l1), pl_s (o17 l2), Rows_toldDigits_s (by omega) p63, cl_s, pl_s (o17 l3), Rows_rounds_s hn, cl_s, pl_s (o17 l4), pi_s (o17 l5), ← eg1, gr_s (o17 Lg1), r17_9 Lg1]
    unfold Jk_fill
    rw [al_s (by have := o21 Lg1; simp only [ok, k21 Lg1] at this ⊢; simpa using this), k21 Lg1, show Jk_fill_5 N N (some 21) 0 0 (nI (13, 1080).2) g1 = some ((), g2) from e2, cl_s, gr_s (o17 Lg2), r17_10 Lg2, ds_1 (o22 Lg2), show Rows_keepFirst N (some 22) 0 g2 = some ((), g3) from e3, cl_s, gr_s (o17 Lg3), r17_10 Lg3, gl_s (o17 Lg3), g37, ds_1 (o22 Lg3), e4, cl_s, pi_s (o17 Lg4), ds5 l6]
    unfold Search_openPlace
    rw [gr_s (o17 l6), r17_12 l6, gi_s (o17 l6), sI_at, show ∀ f : Hp → Option (Unit × Hp), si (some 27) 0 (-1) (sI g4 17 14 0) f = f (sI (sI g4 17 14 0) 27 0 (-1)) from fun f => si_s (j := 0) (o27 l6) (by rw [k27 l6]; decide) (by rw [k27 l6]; decide), gr_s (o17 l7), r17_13 l7, gi_s (o17 l7), sI_ne (by omega), sI_at, gr_s (o17 l7), r17_10 l7, gi_s (o22 l7), sI_ne (by omega), sI_ne (by omega), H5.1, show ∀ f : Hp → Option (Unit × Hp), si (some 28) 0 (nI 1) (sI (sI g4 17 14 0) 27 0 (-1)) f = f (sI (sI (sI g4 17 14 0) 27 0 (-1)) 28 0 (nI 1)) from fun f => si_s (j := 0) (o28 l7) (by rw [k28 l7]; decide) (by rw [k28 l7]; decide), pr_s (o17 l8), cl_s, ← eg5, pi_s (o17 Lg5), pi_s (o17 l9), pz_s (o17 l10) (Or.inl rfl), eg6]
  · exact Gx_t (Gx_m (Gx_X x14) (fun a k _ q => by unfold PBg; omega) (fun _ _ _ q => q) (fun _ _ _ q => q)) (Gx_t (Gx_m f5 (fun a k _ q => by unfold PBg; omega) (fun _ _ _ q => q.elim) (fun _ _ _ q => q)) (Gx_m (Gx_X x6) (fun a k _ q => by unfold PBg; omega) (fun _ _ _ q => q.elim) (fun _ _ _ q => q)))
  · rw [Fx_I x6 (by omega), wo _ _ (by omega) (by omega) (by omega), Fx_I x24 (by omega)]; exact u2
  · rw [Fx_I x6 (by omega), wo _ _ (by omega) (by omega) (by omega), Fx_I x24 (by omega)]; exact u3
  · rw [Fx_I x6 (by omega), wo _ _ (by omega) (by omega) (by omega), Fx_I x24 (by omega)]; exact u4
  · rw [Fx_I x6 (by omega)]; exact w14
  · rw [Fi_L x6, wL, Fx_L x24 (by omega)]; exact u5
  · rw [Fi_L x6, wL, Fx_L x24 (by omega)]; exact u6
  · rw [Fi_L x6, wL, Fx_L x24 (by omega)]; exact u7
  · rw [Fx_I x6 (by omega)]; exact w27
  · rw [Fx_I x6 (by omega)]; exact w28
  · obtain ⟨a1, a2, a3, a4, a5⟩ := H5
    exact ⟨by rw [Fx_I x6 (by omega), wo _ _ (by omega) (by omega) (by omega)]; exact a1, a2, fun j hj => by rw [Fi_L x6, wL]; exact a3 j hj, fun s hs => by rw [Fx_I x6 (by omega), wo _ _ (by omega) (by omega) (by omega)]; exact a4 s hs, fun j hj => by rw [Fx_I x6 (by omega), wo _ _ (by omega) (by omega) (by omega)]; exact a5 j hj⟩
  · rw [Fx_I x6 (by omega), wo _ _ (by omega) (by omega) (by omega), Fx_I x4 (by unfold PR; omega), Fx_I x3 (by unfold PR; omega)]; exact v21 k hk
  · rw [Fx_R x6]; exact w15
  · rw [eg6, sI_ne (by omega), sI_ne (by omega), sI_at]; rfl
  · rw [eg6, sI_ne (by omega), sI_at]
  · rw [eg6, sI_at]
  · rw [Fx_z x6, wz.1, Fx_z x14]
  · rw [Fx_s x6, wz.2, Fx_s x14]
  · rw [Fx_R x6, wR, Fx_R x14]
/-- the items are offered -/
theorem offer_l {N n mc : Nat} {D : Nat → Md} {bs : Nat → Nat} {x : Int32} (hN : 3000 < N) : ∀ (r g i : Nat) (h : Hp), i + r = 3 * mc → r < g → Lay h → Cs h n mc D bs → hI h 17 2 = nI (enm D i).1 → (∀ j, j < (enm D i).1 → hI h 18 j = nI ((enm D i).2 j) ∧ hR h 19 j = some (bs ((enm D i).2 j / 3))) → ∃ h', C_search_60 N g (some 0) x (nI i) h = (cl (Search_seek_4 N N (some 17) x 0 h') fun x4 h3 => some (x4, h3)) ∧ Gx (fun a k => a = 17 ∧ k = 2 ∨ a = 18) nF (fun a k => a = 19) h h' ∧ hI h' 17 2 = nI (enm D (3 * mc)).1 ∧ (∀ j, j < (enm D (3 * mc)).1 → hI h' 18 j = nI ((enm D (3 * mc)).2 j) ∧ hR h' 19 j = some (bs ((enm D (3 * mc)).2 j / 3))) ∧ (hz h' = hz h ∧ hs h' = hs h ∧ hR h' 20 = hR h 20)
  | r, 0, _, _, _, hg, _, _, _, _ => absurd hg (by omega)
  | 0, g + 1, i, h, hi, _, L, C, e2, hc => by
    have m30 := C.2.1
    simp only [C_search_60]
    rw [gi_s (o0 L), C.1, show nI mc * (3 : Int32) = nI (mc * 3) from pk_mul mc 3, if_pos ((nI_leI (by omega) (by omega)).mpr (by omega)), gr_s (o0 L), r0_8 L, ds5 L]
    have ei : i = 3 * mc := by omega
    rw [ei] at e2 hc
    exact ⟨h, rfl, Gx_r _ _ _ _, e2, hc, rfl, rfl, rfl⟩
  | r + 1, g + 1, i, h, hi, hg, L, C, e2, hc => by
    have m30 := C.2.1
    have im : i / 3 < mc := by omega
    obtain ⟨-, cm, wm⟩ := C.2.2.1 (i / 3) im
    have okb := CM_ok cm kc_in
    have aw8 := wm.2.2.2.2.2.1
    obtain ⟨o1, o2, o3⟩ := enm_ok D i
    rw [C_search_60]
    have bt : (nI (aw (D (i / 3))) >>> (nI (i % 3) &&& 31)) &&& 1 = if alw D i = true then 1 else 0 := bit_s (by omega) (by omega)
    rw [gi_s (o0 L), C.1, show nI mc * (3 : Int32) = nI (mc * 3) from pk_mul mc 3, if_neg (fun u => absurd ((nI_leI (by omega) (by omega)).mp u) (by omega)), nz3, show nI i / (3 : Int32) = nI (i / 3) from pk_div (d := 3) (by omega) (by decide) (by decide), methodAt_y L C im, cl_s, if_neg (by simp), gi_s okb, cm.2.2.2.1.2, nz3, show nI i - nI (i / 3) * (3 : Int32) = nI (i % 3) by rw [← nI_mod3 (by omega), show nI i / (3 : Int32) = nI (i / 3) from pk_div (d := 3) (by omega) (by decide) (by decide)], bt]
    by_cases q : alw D i = true
    · have l1 := lay_s 18 (enm D i).1 (nI i) L
      rw [if_pos q, if_neg i10, gr_s (o0 L), r0_8 L, ds5 L]
      unfold Search_offer
      have f2 : Gx (fun a k => a = 17 ∧ k = 2 ∨ a = 18) nF (fun a k => a = 19) h (sI (sR (sI h 18 (enm D i).1 (nI i)) 19 (enm D i).1 (some (bs (i / 3)))) 17 2 (nI ((enm D i).1 + 1))) := Gx_t (Gx_t (Gx_sI _ _ (by omega)) (Gx_sR _ _ rfl)) (Gx_sI _ _ (by omega))
      have l2 : Lay (sR (sI h 18 (enm D i).1 (nI i)) 19 (enm D i).1 (some (bs (i / 3)))) := Gx_Lay (Gx_sR (P := nF) (Q := nF) (R := fun a k => a = 19) _ _ rfl) l1 (fun a k c u => by unfold Rc at c; omega)
      have L2' := Gx_Lay f2 L (fun a k c u => by unfold Rc at c; omega)
      rw [gi_s (o17 L), e2, if_neg (fun u => absurd ((Nle_90 (by omega)).mp u) (by omega)), gr_s (o17 L), r17_0 L, gi_s (o17 L), e2, si_s (o18 L) (by rw [k18 L]; show (enm D i).1 < 90; omega) (by rw [k18 L]; decide), gr_s (o17 l1), r17_1 l1, gi_s (o17 l1), sI_ne (by omega), e2, sr_s (o19 l1) (by rw [k19 l1]; show (enm D i).1 < 90; omega) (by rw [k19 l1]; decide) (fun b' q => by cases q; rw [ok_sI]; exact okb), gi_s (o17 l2), hI_sR, sI_ne (by omega), e2, aN_1, pi_s (o17 l2), cl_s]
      unfold C_search_112
      rw [nmE, show nI i + 1 = nI (i + 1) from aN_1 i]
      have en : enm D (i + 1) = ((enm D i).1 + 1, va_up (enm D i).2 (enm D i).1 i) := by rw [enm, if_pos q]
      obtain ⟨h', a1, a2, a3, a4, a5, a6, a7⟩ := offer_l (N := N) (x := x) hN r g (i + 1) (sI (sR (sI h 18 (enm D i).1 (nI i)) 19 (enm D i).1 (some (bs (i / 3)))) 17 2 (nI ((enm D i).1 + 1))) (by omega) (by omega) L2' (Cs_G C L.1 f2 (fun a k u => ⟨by omega, fun v => by omega⟩) (fun a k u => by omega)) (by rw [en, sI_at]) (fun j hj => by
        rw [en] at hj ⊢
        have hj' : j < (enm D i).1 + 1 := hj
        show hI (sI (sR (sI h 18 (enm D i).1 (nI i)) 19 (enm D i).1 (some (bs (i / 3)))) 17 2 (nI ((enm D i).1 + 1))) 18 j = nI (va_up (enm D i).2 (enm D i).1 i j) ∧ hR (sI (sR (sI h 18 (enm D i).1 (nI i)) 19 (enm D i).1 (some (bs (i / 3)))) 17 2 (nI ((enm D i).1 + 1))) 19 j = some (bs (va_up (enm D i).2 (enm D i).1 i j / 3))
        rw [up_at, sI_ne (by omega), hI_sR, hR_sI]
        by_cases u : j = (enm D i).1
        · rw [if_pos u, u, sI_at, sR_at]; exact ⟨rfl, rfl⟩
        · rw [if_neg u, sI_ne (by omega), sR_ne (by omega)]; exact hc j (by omega))
      refine ⟨h', a1, Gx_t f2 a2, a3, a4, by rw [a5]; rfl, by rw [a6]; rfl, ?_⟩
      rw [a7, hR_sI]
      exact funext fun k => sR_ne (by omega)
    · rw [if_neg q, if_pos rfl]
      unfold C_search_112
      rw [nmE, show nI i + 1 = nI (i + 1) from aN_1 i]
      have en : enm D (i + 1) = enm D i := by rw [enm, if_neg q]
      exact offer_l (N := N) (x := x) hN r g (i + 1) h (by omega) (by omega) L C (by rw [en]; exact e2) (by rw [en]; exact hc)
