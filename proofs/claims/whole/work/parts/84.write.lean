/-! PURE: notation: the class writes a lead -/
def lF (fb tc : Nat) (T : Nat → Nat) (k : Nat) : Nat := if fb = 0 ∨ k < fb then T k else if k < 2 * fb - 1 then T (2 * fb - 2 - k) else if k < fb + tc - 1 then T (k - (fb - 1)) else T (2 * tc + fb - 3 - k)
def PWo (o oc : Nat) (a k : Nat) : Prop := a = o ∧ k = 1 ∨ a = oc
def WT (h : Hp) (tc fb : Nat) (T : Nat → Nat) (o oc : Nat) : Prop := Lay h ∧ LO h o oc ∧ (64 ≤ o ∧ 64 ≤ oc) ∧ (hI h 1 3 = nI tc ∧ hI h 1 4 = nI fb) ∧ (∀ j, j < tc → hI h 3 j = nI (T j)) ∧ tc ≤ 300 ∧ fb ≤ tc
def WL (h : Hp) (o oc sz : Nat) (F : Nat → Nat) : Prop := hI h o 1 = nI sz ∧ ∀ k, k < sz → hI h oc k = nI (F k)
theorem WT_f {h h' : Hp} {tc fb : Nat} {T : Nat → Nat} {o oc : Nat} (w : WT h tc fb T o oc) (f : Fi (PWo o oc) h h') : WT h' tc fb T o oc := by
  obtain ⟨w1, w2, w3, ⟨w4, w5⟩, w6, w7⟩ := w
  refine ⟨Fx_Lay f w1, LO_f w2 f, w3, ⟨?_, ?_⟩, fun j hj => ?_, w7⟩
  · rw [Fx_I f (by unfold PWo; omega)]; exact w4
  · rw [Fx_I f (by unfold PWo; omega)]; exact w5
  · rw [Fx_I f (by unfold PWo; omega)]; exact w6 j hj
theorem lead_step {N tc fb o oc sz v : Nat} {T F : Nat → Nat} {h : Hp} (w : WT h tc fb T o oc) (l : WL h o oc sz F) (hs : sz < 100) (e : F sz = v) : ∃ h', ds [(0, Lead_add N (some o) (nI v) h)] (some o) h = some ((), h') ∧ Fi (PWo o oc) h h' ∧ WL h' o oc (sz + 1) F := by
  obtain ⟨w1, ⟨l1, l2, l3, l4, l5⟩, w3, -⟩ := w
  have o13 : ok h [13] oc = true := ok_K l3 l2
  have oo : ok (sI h oc sz (nI v)) [0] o = true := by rw [ok_sI]; exact l1
  refine ⟨sI (sI h oc sz (nI v)) o 1 (nI (sz + 1)), ?_, Fx_t (Fx_sI _ _ (Or.inr rfl)) (Fx_sI _ _ (Or.inl ⟨rfl, rfl⟩)), sI_at .., fun k hk => ?_⟩
  · rw [ds_1 l1]
    unfold Lead_add
    rw [gi_s l1, l.1, if_neg (fun u => absurd ((Nle_100 (by omega)).mp u) (by omega)), gr_s l1, l4, gi_s l1, l.1, si_s o13 (by rw [l2]; exact hs) (by rw [l2]; decide), gi_s oo, sI_ne (fun u => absurd u l5), l.1, aN_1, pi_s oo]
  · rw [sI_ne (fun u => absurd u.symm l5)]
    by_cases q : k = sz
    · rw [q, sI_at, e]
    · rw [sI_ne (by omega)]; exact l.2 k (by omega)
theorem m2 (y : Nat) : nI (y + 1) - (2 : Int32) = nI y + (-1) := by
  rw [← aN_1, Int32.sub_eq_add_neg, Int32.add_assoc]; rfl
theorem write_12 {N tc fb o oc : Nat} {T F : Nat → Nat} (hF : ∀ j, j < fb → F j = T j) (h100 : fb ≤ 100) : ∀ (r g i : Nat) (h : Hp), i + r = fb → r < g → WT h tc fb T o oc → WL h o oc i F → ∃ h', Tape_write_12 N g (some 1) (some o) (nI i) h = Tape_write_43 N N (some 1) (some o) (nI fb - 2) h' ∧ Fi (PWo o oc) h h' ∧ WL h' o oc fb F
  | r, 0, _, _, _, hg, _, _ => absurd hg (by omega)
  | 0, g + 1, i, h, hi, _, w, l => by
    have L := w.1
    simp only [Tape_write_12]
    rw [gi_s (o1 L), w.2.2.2.1.2, if_pos ((nI_leI (by omega) (by omega)).mpr (by omega)), gi_s (o1 L), w.2.2.2.1.2, nmE]
    exact ⟨h, rfl, Fx_r _ _ _, by rw [show fb = i by omega]; exact l⟩
  | r + 1, g + 1, i, h, hi, hg, w, l => by
    have L := w.1
    have wt := w.2.2.2.2.2
    simp only [Tape_write_12]
    obtain ⟨h1, e1, x1, l1⟩ := lead_step (N := N) w l (by omega) (hF i (by omega))
    obtain ⟨h2, e2, x2, l2⟩ := write_12 hF h100 r g (i + 1) h1 (by omega) (by omega) (WT_f w x1) l1
    rw [gi_s (o1 L), w.2.2.2.1.2, if_neg (fun u => absurd ((nI_leI (by omega) (by omega)).mp u) (by omega)), gr_s (o1 L), r1_2 L, li_s (o3 L) (by rw [k3 L]; show i < 300; omega) (by rw [k3 L]; decide), w.2.2.2.2.1 i (by omega), e1, cl_s, nmE, show nI i + 1 = nI (i + 1) from aN_1 i]
    exact ⟨h2, e2, Fx_t x1 x2, l2⟩
theorem write_43 {N tc fb o oc : Nat} {T F : Nat → Nat} : ∀ (r g sz : Nat) (h : Hp), r < g → r ≤ tc → sz + r ≤ 100 → (∀ j, j < r → F (sz + (r - 1 - j)) = T j) → WT h tc fb T o oc → WL h o oc sz F → ∃ h', Tape_write_43 N g (some 1) (some o) (nI r + (-1)) h = Tape_write_68 N N (some 1) (some o) (nI fb) h' ∧ Fi (PWo o oc) h h' ∧ WL h' o oc (sz + r) F
  | r, 0, _, _, hg, _, _, _, _, _ => absurd hg (by omega)
  | 0, g + 1, sz, h, _, _, _, _, w, l => by
    have L := w.1
    simp only [Tape_write_43]
    rw [if_pos (show nI 0 + (-1 : Int32) < 0 by decide), gi_s (o1 L), w.2.2.2.1.2]
    exact ⟨h, rfl, Fx_r _ _ _, l⟩
  | r + 1, g + 1, sz, h, hg, ht, hs, hF, w, l => by
    have L := w.1
    have wt := w.2.2.2.2.2
    simp only [Tape_write_43]
    obtain ⟨h1, e1, x1, l1⟩ := lead_step (N := N) w l (by omega) (show F sz = T r by have := hF r (by omega); rw [show sz + (r + 1 - 1 - r) = sz by omega] at this; exact this)
    obtain ⟨h2, e2, x2, l2⟩ := write_43 r g (sz + 1) h1 (by omega) (by omega) (by omega) (fun j hj => by have := hF j (by omega); rw [show sz + (r + 1 - 1 - j) = sz + 1 + (r - 1 - j) by omega] at this; exact this) (WT_f w x1) l1
    rw [bl_m1, if_neg (nI_pos (by omega)), gr_s (o1 L), r1_2 L, li_s (o3 L) (by rw [k3 L]; show r < 300; omega) (by rw [k3 L]; decide), w.2.2.2.2.1 r (by omega), e1, cl_s, nmE]
    exact ⟨h2, e2, Fx_t x1 x2, by rw [show sz + (r + 1) = sz + 1 + r by omega]; exact l2⟩
theorem write_68 {N tc fb o oc : Nat} {T F : Nat → Nat} : ∀ (r g i sz : Nat) (h : Hp), i + r = tc → r < g → sz + r ≤ 100 → (∀ j, i ≤ j → j < tc → F (sz + (j - i)) = T j) → WT h tc fb T o oc → WL h o oc sz F → ∃ h', Tape_write_68 N g (some 1) (some o) (nI i) h = Tape_write_99 N N (some 1) (some o) (nI tc - 2) h' ∧ Fi (PWo o oc) h h' ∧ WL h' o oc (sz + r) F
  | r, 0, _, _, _, _, hg, _, _, _, _ => absurd hg (by omega)
  | 0, g + 1, i, sz, h, hi, _, _, _, w, l => by
    have L := w.1
    have wt := w.2.2.2.2.2
    simp only [Tape_write_68]
    rw [gi_s (o1 L), w.2.2.2.1.1, if_pos ((nI_leI (by omega) (by omega)).mpr (by omega)), gi_s (o1 L), w.2.2.2.1.1, nmE]
    exact ⟨h, rfl, Fx_r _ _ _, l⟩
  | r + 1, g + 1, i, sz, h, hi, hg, hs, hF, w, l => by
    have L := w.1
    have wt := w.2.2.2.2.2
    simp only [Tape_write_68]
    obtain ⟨h1, e1, x1, l1⟩ := lead_step (N := N) w l (by omega) (show F sz = T i by have := hF i (by omega) (by omega); rw [show sz + (i - i) = sz by omega] at this; exact this)
    obtain ⟨h2, e2, x2, l2⟩ := write_68 r g (i + 1) (sz + 1) h1 (by omega) (by omega) (by omega) (fun j h1 h2 => by have := hF j (by omega) h2; rw [show sz + (j - i) = sz + 1 + (j - (i + 1)) by omega] at this; exact this) (WT_f w x1) l1
    rw [gi_s (o1 L), w.2.2.2.1.1, if_neg (fun u => absurd ((nI_leI (by omega) (by omega)).mp u) (by omega)), gr_s (o1 L), r1_2 L, li_s (o3 L) (by rw [k3 L]; show i < 300; omega) (by rw [k3 L]; decide), w.2.2.2.2.1 i (by omega), e1, cl_s, nmE, show nI i + 1 = nI (i + 1) from aN_1 i]
    exact ⟨h2, e2, Fx_t x1 x2, by rw [show sz + (r + 1) = sz + 1 + r by omega]; exact l2⟩
theorem write_99 {N tc fb o oc : Nat} {T F : Nat → Nat} (f1 : 1 ≤ fb) : ∀ (r g sz : Nat) (h : Hp), r < g → fb + r ≤ tc → sz + r ≤ 100 → (∀ j, j < r → F (sz + (r - 1 - j)) = T (fb + j)) → WT h tc fb T o oc → WL h o oc sz F → ∃ h', Tape_write_99 N g (some 1) (some o) (nI (fb + r) + (-1)) h = some ((), h') ∧ Fi (PWo o oc) h h' ∧ WL h' o oc (sz + r) F
  | r, 0, _, _, hg, _, _, _, _, _ => absurd hg (by omega)
  | 0, g + 1, sz, h, _, _, _, _, w, l => by
    have L := w.1
    have wt := w.2.2.2.2.2
    simp only [Tape_write_99]
    rw [gi_s (o1 L), w.2.2.2.1.2, if_neg (fun u => absurd ((leN_0 (by omega)).mp u) (by omega)), gi_s (o1 L), w.2.2.2.1.2, show fb + 0 = fb - 1 + 1 by omega, bl_m1, if_pos ((nI_ltI (by omega) (by omega)).mpr (by omega))]
    exact ⟨h, rfl, Fx_r _ _ _, l⟩
  | r + 1, g + 1, sz, h, hg, ht, hs, hF, w, l => by
    have L := w.1
    have wt := w.2.2.2.2.2
    simp only [Tape_write_99]
    obtain ⟨h1, e1, x1, l1⟩ := lead_step (N := N) w l (by omega) (show F sz = T (fb + r) by have := hF r (by omega); rw [show sz + (r + 1 - 1 - r) = sz by omega] at this; exact this)
    obtain ⟨h2, e2, x2, l2⟩ := write_99 f1 r g (sz + 1) h1 (by omega) (by omega) (by omega) (fun j hj => by have := hF j (by omega); rw [show sz + (r + 1 - 1 - j) = sz + 1 + (r - 1 - j) by omega] at this; exact this) (WT_f w x1) l1
    rw [gi_s (o1 L), w.2.2.2.1.2, if_neg (fun u => absurd ((leN_0 (by omega)).mp u) (by omega)), gi_s (o1 L), w.2.2.2.1.2, show fb + (r + 1) = fb + r + 1 by omega, bl_m1, if_neg (fun u => absurd ((nI_ltI (by omega) (by omega)).mp u) (by omega)), gr_s (o1 L), r1_2 L, li_s (o3 L) (by rw [k3 L]; show fb + r < 300; omega) (by rw [k3 L]; decide), w.2.2.2.2.1 (fb + r) (by omega), e1, cl_s, nmE]
    exact ⟨h2, e2, Fx_t x1 x2, by rw [show sz + (r + 1) = sz + 1 + r by omega]; exact l2⟩
theorem write_s {N tc fb o oc : Nat} {T : Nat → Nat} {h : Hp} (hN : 1000 < N) (w : WT h tc fb T o oc) (ft : fb < tc) (h100 : tot fb tc ≤ 100) : ∃ h', ds [(8, Tape_write N (some 1) (some o) h)] (some 1) h = some ((), h') ∧ Fi (fun a k => a = o ∧ (k = 1 ∨ k = 2) ∨ a = oc) h h' ∧ hI h' o 2 = 0 ∧ WL h' o oc (tot fb tc) (lF fb tc T) := by
  have L := w.1
  obtain ⟨l1, l2, l3, l4, l5⟩ := w.2.1
  have wt := w.2.2.2.2.2
  have o64 := w.2.2.1
  have L1 : Lay (sI h o 2 0) := L
  have w1 : WT (sI (sI h o 2 0) o 1 0) tc fb T o oc := by
    obtain ⟨w1, w2, w3, ⟨w4, w5⟩, w6, w7⟩ := w
    refine ⟨L, ⟨l1, l2, l3, l4, l5⟩, w3, ⟨?_, ?_⟩, fun j hj => ?_, w7⟩
    · rw [sI_ne (by omega), sI_ne (by omega)]; exact w4
    · rw [sI_ne (by omega), sI_ne (by omega)]; exact w5
    · rw [sI_ne (by omega), sI_ne (by omega)]; exact w6 j hj
  have q1 : WL (sI (sI h o 2 0) o 1 0) o oc 0 (lF fb tc T) := ⟨by rw [sI_at]; rfl, fun k hk => absurd hk (by omega)⟩
  have x0 : Fi (fun a k => a = o ∧ (k = 1 ∨ k = 2) ∨ a = oc) h (sI (sI h o 2 0) o 1 0) := Fx_t (Fx_sI _ _ (by omega)) (Fx_sI _ _ (by omega))
  have z2 : hI (sI (sI h o 2 0) o 1 0) o 2 = 0 := by rw [sI_ne (by omega), sI_at]
  rw [ds8 L]
  unfold Tape_write
  rw [pi_s l1, pi_s (show ok (sI h o 2 0) [0] o = true from l1)]
  generalize sI (sI h o 2 0) o 1 0 = g at w1 q1 x0 z2 ⊢
  have mo : ∀ g', Fi (PWo o oc) g g' → Fi (fun a k => a = o ∧ (k = 1 ∨ k = 2) ∨ a = oc) h g' ∧ hI g' o 2 = 0 := fun g' f => ⟨Fx_t x0 (Fx_m f (fun a k c => by unfold PWo at c; omega) (fun _ _ c => c)), by rw [Fx_I f (by unfold PWo; omega)]; exact z2⟩
  unfold tot at h100 ⊢
  by_cases f0 : fb = 0
  · subst f0
    rw [if_pos rfl] at h100 ⊢
    have hF : ∀ k, lF 0 tc T k = T k := fun k => by unfold lF; rw [if_pos (Or.inl rfl)]
    obtain ⟨g1, e1, x1, q2⟩ := write_12 (N := N) (fun j _ => hF j) (by omega) 0 N 0 g (by omega) (by omega) w1 q1
    have w2 := WT_f w1 x1
    rw [show (0 : Int32) = nI 0 from rfl, e1]
    obtain ⟨M, rfl⟩ : ∃ M, N = M + 1 := ⟨N - 1, by omega⟩
    simp only [Tape_write_43]
    rw [if_pos (show nI 0 - (2 : Int32) < 0 by decide), gi_s (o1 w2.1), w2.2.2.2.1.2]
    obtain ⟨g2, e2, x2, q3⟩ := write_68 (N := M + 1) (tc := tc) tc (M + 1) 0 0 g1 (by omega) (by omega) (by omega) (fun j _ _ => by rw [hF]; congr 1; omega) w2 q2
    have w3 := WT_f w2 x2
    rw [e2]
    simp only [Tape_write_99]
    rw [gi_s (o1 w3.1), w3.2.2.2.1.2, if_pos (show nI 0 ≤ 0 by decide)]
    obtain ⟨y1, y2⟩ := mo g2 (Fx_t x1 x2)
    refine ⟨g2, rfl, y1, y2, ?_⟩
    rw [Nat.zero_add] at q3
    exact q3
  · rw [if_neg f0] at h100 ⊢
    obtain ⟨g1, e1, x1, q2⟩ := write_12 (N := N) (tc := tc) (fb := fb) (T := T) (F := lF fb tc T) (fun j hj => by unfold lF; rw [if_pos (Or.inr hj)]) (by omega) fb N 0 g (by omega) (by omega) w1 q1
    have w2 := WT_f w1 x1
    obtain ⟨f, rfl⟩ : ∃ f, fb = f + 1 := ⟨fb - 1, by omega⟩
    obtain ⟨g2, e2, x2, q3⟩ := write_43 (N := N) (tc := tc) (fb := f + 1) (T := T) (F := lF (f + 1) tc T) f N (f + 1) g1 (by omega) (by omega) (by omega) (fun j hj => by
      unfold lF
      rw [if_neg (by omega), if_pos (by omega)]
      congr 1; omega) w2 q2
    have w3 := WT_f w2 x2
    obtain ⟨g3, e3, x3, q4⟩ := write_68 (N := N) (tc := tc) (fb := f + 1) (T := T) (F := lF (f + 1) tc T) (tc - (f + 1)) N (f + 1) (f + 1 + f) g2 (by omega) (by omega) (by omega) (fun j h1 h2 => by
      unfold lF
      rw [if_neg (by omega), if_neg (by omega), if_pos (by omega)]
      congr 1; omega) w3 q3
    have w4 := WT_f w3 x3
    obtain ⟨g4, e4, x4, q5⟩ := write_99 (N := N) (tc := tc) (fb := f + 1) (T := T) (F := lF (f + 1) tc T) (by omega) (tc - (f + 1) - 1) N (f + 1 + f + (tc - (f + 1))) g3 (by omega) (by omega) (by omega) (fun j hj => by
      unfold lF
      rw [if_neg (by omega), if_neg (by omega), if_neg (by omega)]
      congr 1; omega) w4 q4
    obtain ⟨y1, y2⟩ := mo g4 (Fx_t (Fx_t (Fx_t x1 x2) x3) x4)
    refine ⟨g4, ?_, y1, y2, ?_⟩
    · rw [show (0 : Int32) = nI 0 from rfl, e1, m2, e2, e3]
      rw [show f + 1 + (tc - (f + 1) - 1) = tc - 1 by omega] at e4
      rw [show nI tc - (2 : Int32) = nI (tc - 1) + (-1) by rw [← m2, show tc - 1 + 1 = tc by omega]]
      exact e4
    · rw [show 2 * tc - 2 = f + 1 + f + (tc - (f + 1)) + (tc - (f + 1) - 1) by omega]; exact q5
