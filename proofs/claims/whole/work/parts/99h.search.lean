/-! PURE: search, on both sides -/
theorem cand_93 {N n mc m : Nat} {D : Nat → Md} {x : Int32} {re : Option Nat → Int32 → Int32 → Hp → Option (Int32 × Hp)} (hm : m < mc) : ∀ (r g c : Nat) (h : Hp), c + r = 3 → r < g → Lay h → Ms h n mc D → hI h 35 41 = nI (enm D (3 * m + c)).1 → (∀ j, j < (enm D (3 * m + c)).1 → hI h 54 j = nI ((enm D (3 * m + c)).2 j)) → ∃ h', M_search_93 N re g (some 35) x (nI m) (nI c) h = re (some 35) x (nI (m + 1)) h' ∧ Fi (fun a k => a = 35 ∧ k = 41 ∨ a = 54) h h' ∧ hI h' 35 41 = nI (enm D (3 * (m + 1))).1 ∧ ∀ j, j < (enm D (3 * (m + 1))).1 → hI h' 54 j = nI ((enm D (3 * (m + 1))).2 j)
  | r, 0, _, _, _, hg, _, _, _, _ => absurd hg (by omega)
  | 0, g + 1, c, h, hc, _, L, M, e1, e2 => by
    have m30 := M.2.1
    simp only [M_search_93]
    rw [if_pos ((Nle_3 (by omega)).mpr (by omega)), nmE, show nI m + 1 = nI (m + 1) from aN_1 m]
    rw [show 3 * m + c = 3 * (m + 1) by omega] at e1 e2
    exact ⟨h, rfl, Fx_r _ _ _, e1, e2⟩
  | r + 1, g + 1, c, h, hc, hg, L, M, e1, e2 => by
    have m30 := M.2.1
    obtain ⟨mm, wm⟩ := M.2.2 m hm
    have aw8 := wm.2.2.2.2.2.1
    obtain ⟨o1, o2, o3⟩ := enm_ok D (3 * m + c)
    rw [M_search_93]
    have i3 : (3 * m + c) / 3 = m := by omega
    have r3 : (3 * m + c) % 3 = c := by omega
    have bt : (nI (aw (D m)) >>> (nI c &&& 31)) &&& 1 = if alw D (3 * m + c) = true then 1 else 0 := by
      unfold alw
      rw [i3, r3]
      exact bit_s (by omega) (by omega)
    rw [if_neg (fun u => absurd ((Nle_3 (by omega)).mp u) (by omega)), gr_s (o35 L), r35_32 L, li_s (o53 L) (by rw [k53 L]; show m < 30; omega) (by rw [k53 L]; decide), mm.2.2.2.2.2.2.2, bt]
    have e01 : ¬ (0 : Int32) = 1 := by decide
    by_cases q : alw D (3 * m + c) = true
    · have l1 := lay_s 54 (enm D (3 * m + c)).1 (nI (3 * m + c)) L
      rw [if_pos q, if_pos rfl, gr_s (o35 L), r35_40 L, gi_s (o35 L), e1, mN_3, nI_add, si_s (o54 L) (by rw [k54 L]; show (enm D (3 * m + c)).1 < 90; omega) (by rw [k54 L]; decide), gi_s (o35 l1), sI_ne (by omega), e1, aN_1, pi_s (o35 l1)]
      unfold M_search_141
      rw [nmE, show nI c + 1 = nI (c + 1) from aN_1 c]
      have en : enm D (3 * m + (c + 1)) = ((enm D (3 * m + c)).1 + 1, va_up (enm D (3 * m + c)).2 (enm D (3 * m + c)).1 (3 * m + c)) := by rw [show 3 * m + (c + 1) = 3 * m + c + 1 by omega, enm, if_pos q]
      have x2 : Fi (fun a k => a = 35 ∧ k = 41 ∨ a = 54) h (sI (sI h 54 (enm D (3 * m + c)).1 (nI (3 * m + c))) 35 41 (nI ((enm D (3 * m + c)).1 + 1))) := Fx_t (Fx_sI _ _ (by omega)) (Fx_sI _ _ (by omega))
      obtain ⟨h', a1, a2, a3⟩ := cand_93 (N := N) (x := x) (re := re) hm r g (c + 1) (sI (sI h 54 (enm D (3 * m + c)).1 (nI (3 * m + c))) 35 41 (nI ((enm D (3 * m + c)).1 + 1))) (by omega) (by omega) L (Ms_g M L.1 (Gx_F x2) (by omega)) (by rw [en, sI_at]) (fun j hj => by
        rw [en] at hj ⊢
        have hj' : j < (enm D (3 * m + c)).1 + 1 := hj
        show _ = nI (va_up (enm D (3 * m + c)).2 (enm D (3 * m + c)).1 (3 * m + c) j)
        rw [up_at, sI_ne (by omega)]
        by_cases u : j = (enm D (3 * m + c)).1
        · rw [if_pos u, u, sI_at]
        · rw [if_neg u, sI_ne (by omega)]; exact e2 j (by omega))
      exact ⟨h', a1, Fx_t x2 a2, a3⟩
    · rw [if_neg q, if_neg e01]
      unfold M_search_141
      rw [nmE, show nI c + 1 = nI (c + 1) from aN_1 c]
      have en : enm D (3 * m + (c + 1)) = enm D (3 * m + c) := by rw [show 3 * m + (c + 1) = 3 * m + c + 1 by omega, enm, if_neg q]
      exact cand_93 (N := N) (x := x) (re := re) hm r g (c + 1) h (by omega) (by omega) L M (by rw [en]; exact e1) (by rw [en]; exact e2)
theorem cand_81 {N n mc : Nat} {D : Nat → Md} {x : Int32} (hN : 3000 < N) : ∀ (r g m : Nat) (h : Hp), m + r = mc → r < g → Lay h → Ms h n mc D → hI h 35 41 = nI (enm D (3 * m)).1 → (∀ j, j < (enm D (3 * m)).1 → hI h 54 j = nI ((enm D (3 * m)).2 j)) → ∃ h', M_search_81 N g (some 35) x (nI m) h = M_search_156 N N (some 35) x (nI 0) h' ∧ Fi (fun a k => a = 35 ∧ k = 41 ∨ a = 54) h h' ∧ hI h' 35 41 = nI (enm D (3 * mc)).1 ∧ ∀ j, j < (enm D (3 * mc)).1 → hI h' 54 j = nI ((enm D (3 * mc)).2 j)
  | r, 0, _, _, _, hg, _, _, _, _ => absurd hg (by omega)
  | 0, g + 1, m, h, hm, _, L, M, e1, e2 => by
    have m30 := M.2.1
    simp only [M_search_81]
    rw [gi_s (o35 L), M.1, if_pos ((nI_leI (by omega) (by omega)).mpr (by omega))]
    rw [show m = mc by omega] at e1 e2
    exact ⟨h, rfl, Fx_r _ _ _, e1, e2⟩
  | r + 1, g + 1, m, h, hm, hg, L, M, e1, e2 => by
    have m30 := M.2.1
    rw [M_search_81]
    rw [gi_s (o35 L), M.1, if_neg (fun u => absurd ((nI_leI (by omega) (by omega)).mp u) (by omega))]
    obtain ⟨h1, a1, x1, a3, a4⟩ := cand_93 (N := N) (n := n) (mc := mc) (m := m) (D := D) (x := x) (re := M_search_81 N g) (by omega) 3 N 0 h (by omega) (by omega) L M e1 e2
    obtain ⟨h2, b1, x2, b3⟩ := cand_81 (N := N) (x := x) hN r g (m + 1) h1 (by omega) (by omega) (Fx_Lay x1 L) (Ms_g M L.1 (Gx_F x1) (by omega)) a3 a4
    exact ⟨h2, by rw [show (0 : Int32) = nI 0 from rfl, a1]; exact b1, Fx_t x1 x2, b3⟩
def endM (N : Nat) (x : Int32) (h : Hp) : Option (Int32 × Hp) := pi [12] 43 (some 35) 0 h fun h3 =>
  gr [12] 45 (some 35) h3 fun x4 =>
  si x4 0 (-1) h3 fun h5 =>
  gr [12] 46 (some 35) h5 fun x6 =>
  si x6 0 1 h5 fun h7 =>
  gr [12] 47 (some 35) h7 fun x8 =>
  cl (ds [(12, M_rounds N (some 35) h7)] (some 35) h7) fun x10 h9 =>
  sl x8 0 x10 h9 fun h11 =>
  pi [12] 48 (some 35) 1 h11 fun h12 =>
  pz [12] 44 (some 35) 0 h12 fun h13 =>
  pi [12] 35 (some 35) 2 h13 fun h14 =>
  cl (ds [(12, M_go N (some 35) x h14)] (some 35) h14) fun _ h15 =>
  gi [12] 35 (some 35) h15 fun x16 =>
  some (x16, h15)
theorem nar_0 : vp_nar .byte (0 : Int32) = 0 := (nb_nb 0).trans (by decide)
theorem fillM_l {N : Nat} {x : Int32} : ∀ (r g i : Nat) (h : Hp), i + r = 1080 → r < g → Lay h → (∀ k, k < i → hI h 55 k = 0) → ∃ h', M_search_156 N g (some 35) x (nI i) h = endM N x h' ∧ Fi (fun a k => a = 55) h h' ∧ ∀ k, k < 1080 → hI h' 55 k = 0
  | r, 0, _, _, _, hg, _, _ => absurd hg (by omega)
  | 0, g + 1, i, h, hi, _, L, hc => by
    simp only [M_search_156]
    rw [gr_s (o35 L), r35_42 L, al_s (by have := o55 L; simp only [ok, k55 L] at this ⊢; simpa using this), k55 L, if_pos (show nI (15, 1080).2 ≤ nI i from (nI_leI (by decide) (by omega)).mpr (by show 1080 ≤ i; omega))]
    exact ⟨h, rfl, Fx_r _ _ _, fun k hk => hc k (by omega)⟩
  | r + 1, g + 1, i, h, hi, hg, L, hc => by
    simp only [M_search_156]
    rw [gr_s (o35 L), r35_42 L, al_s (by have := o55 L; simp only [ok, k55 L] at this ⊢; simpa using this), k55 L, if_neg (show ¬ nI (15, 1080).2 ≤ nI i from fun u => absurd ((nI_leI (by decide) (by omega)).mp u) (by show ¬ 1080 ≤ i; omega)), gr_s (o35 L), r35_42 L, sb_s (o55 L) (by rw [k55 L]; show i < 1080; omega) (by rw [k55 L]; decide), nar_0, nmE, show nI i + 1 = nI (i + 1) from aN_1 i]
    obtain ⟨h', a1, a2, a3⟩ := fillM_l (N := N) (x := x) r g (i + 1) (sI h 55 i 0) (by omega) (by omega) L (fun k hk => by
      by_cases q : k = i
      · rw [q, sI_at]
      · rw [sI_ne (by omega)]; exact hc k (by omega))
    exact ⟨h', a1, Fx_t (Fx_sI _ _ rfl) a2, a3⟩
theorem end_M {N n : Nat} {x : Int32} {h : Hp} (hN : 3000 < N) (L : Lay h) (m : Mn h n) : ∃ h', endM N x h = (cl (M_go_2 N N (some 35) x 0 h') fun _ h15 => gi [12] 35 (some 35) h15 fun x16 => some (x16, h15)) ∧ Fx (fun a k => a = 35 ∧ (k = 35 ∨ k = 43 ∨ k = 44 ∨ k = 48) ∨ (a = 56 ∨ a = 57) ∧ k = 0) (fun a k => a = 58) h h' ∧ hI h' 35 43 = nI 0 ∧ hI h' 56 0 = nI 0 - 1 ∧ hI h' 57 0 = nI 1 ∧ hL h' 58 0 = lN (rd n) ∧ hI h' 35 44 = qI false ∧ hI h' 35 35 = nI 2 := by
  have l1 := lay_s 35 43 0 L
  have l2 := lay_s 56 0 (-1) l1
  have l3 := lay_s 57 0 1 l2
  have m3 : Mn (sI (sI (sI h 35 43 0) 56 0 (-1)) 57 0 1) n := ⟨o35 l3, by rw [sI_ne (by omega), sI_ne (by omega), sI_ne (by omega)]; exact m.2.1, m.2.2⟩
  have l4 : Lay (sL (sI (sI (sI h 35 43 0) 56 0 (-1)) 57 0 1) 58 0 (lN (rd n))) := l3
  have l5 := lay_s 35 48 1 l4
  have l6 := lay_s 35 44 0 l5
  have l7 := lay_s 35 35 2 l6
  refine ⟨sI (sI (sI (sL (sI (sI (sI h 35 43 0) 56 0 (-1)) 57 0 1) 58 0 (lN (rd n))) 35 48 1) 35 44 0) 35 35 2, ?_, Fx_t (Fx_t (Fx_t (Fx_t (Fx_t (Fx_t (Fx_sI _ _ (by omega)) (Fx_sI _ _ (by omega))) (Fx_sI _ _ (by omega))) (Fx_sL _ _ rfl)) (Fx_sI _ _ (by omega))) (Fx_sI _ _ (by omega))) (Fx_sI _ _ (by omega)), ?_, ?_, ?_, ?_, ?_, ?_⟩
  · unfold endM
    rw [pi_s (o35 L), gr_s (o35 l1), r35_45 l1, show ∀ f : Hp → Option (Int32 × Hp), si (some 56) 0 (-1) (sI h 35 43 0) f = f (sI (sI h 35 43 0) 56 0 (-1)) from fun f => si_s (j := 0) (o56 l1) (by rw [k56 l1]; decide) (by rw [k56 l1]; decide), gr_s (o35 l2), r35_46 l2, show ∀ f : Hp → Option (Int32 × Hp), si (some 57) 0 1 (sI (sI h 35 43 0) 56 0 (-1)) f = f (sI (sI (sI h 35 43 0) 56 0 (-1)) 57 0 1) from fun f => si_s (j := 0) (o57 l2) (by rw [k57 l2]; decide) (by rw [k57 l2]; decide), gr_s (o35 l3), r35_47 l3, dM l3, M_rounds_s (by omega) m3, cl_s, show ∀ f : Hp → Option (Int32 × Hp), sl (some 58) 0 (lN (rd n)) (sI (sI (sI h 35 43 0) 56 0 (-1)) 57 0 1) f = f (sL (sI (sI (sI h 35 43 0) 56 0 (-1)) 57 0 1) 58 0 (lN (rd n))) from fun f => sl_s (j := 0) (o58 l3) (by rw [k58 l3]; decide) (by rw [k58 l3]; decide), pi_s (o35 l4), pz_s (o35 l5) (Or.inl rfl), pi_s (o35 l6), dM l7]
    rfl
  · rw [sI_ne (by omega), sI_ne (by omega), sI_ne (by omega), hI_sL, sI_ne (by omega), sI_ne (by omega), sI_at]; rfl
  · rw [sI_ne (by omega), sI_ne (by omega), sI_ne (by omega), hI_sL, sI_ne (by omega), sI_at]; rfl
  · rw [sI_ne (by omega), sI_ne (by omega), sI_ne (by omega), hI_sL, sI_at]; rfl
  · rw [hL_sI, hL_sI, hL_sI, sL_at]
  · rw [sI_ne (by omega), sI_at]; rfl
  · rw [sI_at]; rfl
theorem search_M {N n mc len wd pat : Nat} {D : Nat → Md} {x : Int32} {h : Hp} (hN : 3000 < N) (L : Lay h) (m : Mn h n) (M : Ms h n mc D) (e16 : hI h 35 16 = 1) : ∃ h', (pi [12] 36 (some 35) (nI len) h fun h3 =>
  pi [12] 37 (some 35) (nI wd) h3 fun h4 =>
  pl [12] 38 (some 35) (lN pat) h4 fun h5 =>
  pz [12] 33 (some 35) 1 h5 fun h6 =>
  pz [12] 34 (some 35) 0 h6 fun h7 =>
  pi [12] 39 (some 35) 0 h7 fun h8 =>
  pi [12] 53 (some 35) 0 h8 fun h9 =>
  pi [12] 41 (some 35) 0 h9 fun h10 =>
  M_search_81 N N (some 35) x 0 h10) = (cl (M_go_2 N N (some 35) x 0 h') fun _ h15 => gi [12] 35 (some 35) h15 fun x16 => some (x16, h15)) ∧ Fx PMx QMx h h' ∧ hI h' 37 = hI h 37 ∧ MX h' n mc D ∧ LMs h' D (enm D (3 * mc)).1 (enm D (3 * mc)).2 len wd pat (S0 n) ∧ (hI h' 35 35 = nI 2 ∧ hI h' 35 33 = 1 ∧ hI h' 35 34 = 0 ∧ hI h' 35 39 = 0 ∧ hI h' 35 53 = 0) := by
  have l1 := lay_s 35 36 (nI len) L
  have l2 := lay_s 35 37 (nI wd) l1
  have l3 : Lay (sL (sI (sI h 35 36 (nI len)) 35 37 (nI wd)) 35 38 (lN pat)) := l2
  have l4 := lay_s 35 33 1 l3
  have l5 := lay_s 35 34 0 l4
  have l6 := lay_s 35 39 0 l5
  have l7 := lay_s 35 53 0 l6
  obtain ⟨g, eg⟩ : ∃ g, g = sI (sI (sI (sI (sI (sL (sI (sI h 35 36 (nI len)) 35 37 (nI wd)) 35 38 (lN pat)) 35 33 1) 35 34 0) 35 39 0) 35 53 0) 35 41 0 := ⟨_, rfl⟩
  have xg : Fx (fun a k => a = 35 ∧ (k = 36 ∨ k = 37 ∨ k = 33 ∨ k = 34 ∨ k = 39 ∨ k = 53 ∨ k = 41)) (fun a k => a = 35) h g := by rw [eg]; exact Fx_t (Fx_t (Fx_t (Fx_t (Fx_t (Fx_t (Fx_t (Fx_sI _ _ (by omega)) (Fx_sI _ _ (by omega))) (Fx_sL _ _ rfl)) (Fx_sI _ _ (by omega))) (Fx_sI _ _ (by omega))) (Fx_sI _ _ (by omega))) (Fx_sI _ _ (by omega))) (Fx_sI _ _ (by omega))
  have Lg := Fx_Lay xg L
  have v36 : hI g 35 36 = nI len := by rw [eg, sI_ne (by omega), sI_ne (by omega), sI_ne (by omega), sI_ne (by omega), sI_ne (by omega), hI_sL, sI_ne (by omega), sI_at]
  have v37 : hI g 35 37 = nI wd := by rw [eg, sI_ne (by omega), sI_ne (by omega), sI_ne (by omega), sI_ne (by omega), sI_ne (by omega), hI_sL, sI_at]
  have v38 : hL g 35 38 = lN pat := by rw [eg, hL_sI, hL_sI, hL_sI, hL_sI, hL_sI, sL_at]
  have v33 : hI g 35 33 = 1 := by rw [eg, sI_ne (by omega), sI_ne (by omega), sI_ne (by omega), sI_ne (by omega), sI_at]
  have v34 : hI g 35 34 = 0 := by rw [eg, sI_ne (by omega), sI_ne (by omega), sI_ne (by omega), sI_at]
  have v39 : hI g 35 39 = 0 := by rw [eg, sI_ne (by omega), sI_ne (by omega), sI_at]
  have v53 : hI g 35 53 = 0 := by rw [eg, sI_ne (by omega), sI_at]
  have v41 : hI g 35 41 = nI 0 := by rw [eg, sI_at]; rfl
  have Mg : Ms g n mc D := Ms_g M L.1 (Gx_F xg) (by omega)
  have pre : (pi [12] 36 (some 35) (nI len) h fun h3 =>
    pi [12] 37 (some 35) (nI wd) h3 fun h4 =>
    pl [12] 38 (some 35) (lN pat) h4 fun h5 =>
    pz [12] 33 (some 35) 1 h5 fun h6 =>
    pz [12] 34 (some 35) 0 h6 fun h7 =>
    pi [12] 39 (some 35) 0 h7 fun h8 =>
    pi [12] 53 (some 35) 0 h8 fun h9 =>
    pi [12] 41 (some 35) 0 h9 fun h10 =>
    M_search_81 N N (some 35) x 0 h10) = M_search_81 N N (some 35) x 0 g := by
    rw [pi_s (o35 L), pi_s (o35 l1), pl_s (o35 l2), pz_1 (o35 l3), pz_s (o35 l4) (Or.inl rfl), pi_s (o35 l5), pi_s (o35 l6), pi_s (o35 l7), ← eg]
  clear eg
  have m30 := M.2.1
  obtain ⟨g1, a1, x1, a3, a4⟩ := cand_81 (N := N) (n := n) (mc := mc) (D := D) (x := x) hN mc N 0 g (by omega) (by omega) Lg Mg v41 (fun j hj => absurd (show j < 0 from hj) (by omega))
  have L1 := Fx_Lay x1 Lg
  obtain ⟨g2, b1, x2, b3⟩ := fillM_l (N := N) (x := x) 1080 N 0 g1 (by omega) (by omega) L1 (fun k hk => absurd hk (by omega))
  have L2' := Fx_Lay x2 L1
  have xg2 : Fx (fun a k => a = 35 ∧ (k = 36 ∨ k = 37 ∨ k = 33 ∨ k = 34 ∨ k = 39 ∨ k = 53 ∨ k = 41) ∨ a = 54 ∨ a = 55) (fun a k => a = 35) h g2 := Fx_t (Fx_m xg (fun a k q => Or.inl q) (fun _ _ q => q)) (Fx_t (Fx_m x1 (fun a k q => by omega) (fun _ _ q => q.elim)) (Fx_m x2 (fun a k q => by omega) (fun _ _ q => q.elim)))
  have m2 : Mn g2 n := ⟨o35 L2', by rw [Fx_I xg2 (by omega)]; exact m.2.1, m.2.2⟩
  obtain ⟨g3, c1, x3, c3, c4, c5, c6, c7, c8⟩ := end_M (N := N) (x := x) hN L2' m2
  have L3 := Fx_Lay x3 L2'
  have q13 : Fx (fun a k => a = 35 ∧ (k = 41 ∨ k = 35 ∨ k = 43 ∨ k = 44 ∨ k = 48) ∨ 54 ≤ a ∧ a ≤ 57) (fun a k => a = 58) g g3 := Fx_t (Fx_m x1 (fun a k q => by omega) (fun _ _ q => q.elim)) (Fx_t (Fx_m x2 (fun a k q => by omega) (fun _ _ q => q.elim)) (Fx_m x3 (fun a k q => by omega) (fun _ _ q => q)))
  have q23 : Fx (fun a k => a = 55 ∨ a = 35 ∧ (k = 35 ∨ k = 43 ∨ k = 44 ∨ k = 48) ∨ (a = 56 ∨ a = 57) ∧ k = 0) (fun a k => a = 58) g1 g3 := Fx_t (Fx_m x2 (fun a k q => by omega) (fun _ _ q => q.elim)) (Fx_m x3 (fun a k q => by omega) (fun _ _ q => q))
  have xf : Fx PMx QMx h g3 := Fx_t (Fx_m xg2 (fun a k q => by unfold PMx; omega) (fun a k q => Or.inr q)) (Fx_m x3 (fun a k q => by unfold PMx; omega) (fun a k q => Or.inl q))
  refine ⟨g3, ?_, xf, ?_, ⟨L3, ⟨o35 L3, ?_, m.2.2⟩, ?_, ?_⟩, ⟨?_, fun j hj => ?_, ⟨?_, ?_, c3⟩, ?_, fun d hd => ⟨?_, ?_⟩, fun j hj => ?_, fun d j hd hj => ?_, c7, fun e => (by cases e)⟩, c8, ?_, ?_, ?_, ?_⟩
  · rw [pre, show M_search_81 N N (some 35) x 0 g = M_search_81 N N (some 35) x (nI 0) g from rfl, a1, b1, c1]
  · rw [Fx_row x3 (by omega), Fx_row xg2 (by omega)]
  · rw [Fx_I x3 (by omega)]; exact m2.2.1
  · exact Ms_g Mg Lg.1 (Gx_F q13) (by omega)
  · rw [Fx_I x3 (by omega), Fx_I xg2 (by omega)]; exact e16
  · rw [Fx_I q23 (by omega)]; exact a3
  · rw [Fx_I q23 (by omega)]; exact a4 j hj
  · rw [Fx_I q13 (by omega)]; exact v36
  · rw [Fx_I q13 (by omega)]; exact v37
  · rw [Fx_L q13 (by omega)]; exact v38
  · have hd' : d ≤ 0 := hd
    rw [show d = 0 by omega]; exact c4
  · have hd' : d ≤ 0 := hd
    rw [show d = 0 by omega]; exact c5
  · have hj' : j < 1 := hj
    rw [show j = 0 by omega]; exact c6
  · have o1 := (enm_ok D (3 * mc)).1
    rw [Fx_I x3 (by omega), b3 _ (by omega)]
    rfl
  · rw [Fx_I q13 (by omega)]; exact v33
  · rw [Fx_I q13 (by omega)]; exact v34
  · rw [Fx_I q13 (by omega)]; exact v39
  · rw [Fx_I q13 (by omega)]; exact v53
theorem op_search {N : Nat} {x y s : Int32} {p : Int64} {h : Hp} (hN : 3000000 < N) (I : Inv h) : Op (C_search N (some 0) x y p s) (M_search N (some 35) x y p s) h := by
  obtain ⟨n, mc, D, bs, ic, im, ik, i1, i2, i3, i4, i5, i6, i7, i8, i9, i10', i11, ⟨s1, ⟨s2, s3⟩, ⟨sz0, w0, s4⟩, s5⟩⟩ := id I
  have L := i1.1
  have z := L.1
  have m30 := i6.2.1
  have n12 := i1.2.2.2
  have mn : Mn h n := Mn_of i1
  by_cases x1 : x < 1
  · exact Op_id I (-1) (by unfold C_search; rw [if_pos x1]) (by unfold M_search; rw [if_pos x1])
  by_cases x2 : 12 < x
  · exact Op_id I (-1) (by unfold C_search; rw [if_neg x1, if_pos x2]) (by unfold M_search; rw [if_neg x1, if_pos x2])
  by_cases y0 : y < 0
  · exact Op_id I (-1) (by unfold C_search; rw [if_neg x1, if_neg x2, if_neg (Int32.not_le.mpr y0)]) (by unfold M_search; rw [if_neg x1, if_neg x2, if_pos y0])
  have y0' : 0 ≤ y := Int32.not_lt.mp y0
  have preC : C_search N (some 0) x y p s h = cl (Rows_isPattern N p (nI n) h) fun x3 h2 => if x3 = 0 then (some ((-1), h2)) else (if s < 0 then (some ((-1), h2)) else (if s ≤ 1000 then (gr [11] 8 (some 0) h2 fun x4 => gi [11] 4 (some 0) h2 fun x5 => cl (ds [(5, Search_begin N x4 x5 x y p h2)] x4 h2) fun _ h6 => C_search_60 N N (some 0) s 0 h6) else (some ((-1), h2)))) := by
    unfold C_search
    rw [if_neg x1, if_neg x2, if_pos y0', gi_s (o0 L), i1.2.1.1]
  have preM : ∀ h', Lay h' → M_search N (some 35) x y p s h' = cl (M_isPattern N (some 35) p h') fun x2 h1 => if x2 = 0 then (some ((-1), h1)) else (if s < 0 then (some ((-1), h1)) else (if s ≤ 1000 then (pi [12] 36 (some 35) x h1 fun h3 =>
    pi [12] 37 (some 35) y h3 fun h4 =>
    pl [12] 38 (some 35) p h4 fun h5 =>
    pz [12] 33 (some 35) 1 h5 fun h6 =>
    pz [12] 34 (some 35) 0 h6 fun h7 =>
    pi [12] 39 (some 35) 0 h7 fun h8 =>
    pi [12] 53 (some 35) 0 h8 fun h9 =>
    pi [12] 41 (some 35) 0 h9 fun h10 =>
    M_search_81 N N (some 35) s 0 h10) else (some ((-1), h1)))) := fun h' L' => by
    unfold M_search
    rw [if_neg x1, if_neg x2, if_neg y0, dM L']
  rcases isPattern_2 (N := N) (n := n) p (by omega) n12 with ⟨pat, ep, hp, pc, pm⟩ | ⟨pc, pm⟩
  · by_cases c0 : s < 0
    · exact Op_id I (-1) (by rw [preC, pc, cl_s, if_neg i10, if_pos c0]) (by rw [preM h L, pm h mn, cl_s, if_neg i10, if_pos c0])
    by_cases c1 : s ≤ 1000
    · obtain ⟨k, hk, rfl⟩ := i32_of c0
      have k1 : k ≤ 1000 := (leN_1000 hk).mp c1
      obtain ⟨len, hl, rfl⟩ := i32_of (x := x) (fun u => x1 (Int32.lt_trans u (by decide)))
      obtain ⟨wd, hwd, rfl⟩ := i32_of y0
      have l1 : 1 ≤ len := by
        by_cases q : len = 0
        · exact absurd ((ltN_1 hl).mpr (by omega)) x1
        · omega
      have l12 : len ≤ 12 := by
        by_cases q : len ≤ 12
        · exact q
        · exact absurd ((Nlt_12 hl).mpr (by omega)) x2
      subst ep
      obtain ⟨ha, e1, f1, ⟨⟨b1, b2, b3, b4⟩, ⟨b5, b6, b7⟩, ⟨b8, b9⟩, b10, b11, b12, ⟨b13, b14, b15⟩⟩, ⟨u1, u2, u3⟩⟩ := begin_C2 (N := N) (n := n) (len := len) (wd := wd) (pat := pat) (by omega) n12 hp L s4
      have La : Lay ha := Gx_Lay f1 L (fun a k c u => by unfold Rc at c; omega)
      have za := La.1
      have Ca : Cs ha n mc D bs := Cs_G i6 z f1 (fun a k u => ⟨by unfold PBg at u; omega, fun v => by unfold PBg at u; omega⟩) (fun a k u => by omega)
      have Sa : Sl ha mc bs := Sl_g s1 z f1 (by omega)
      obtain ⟨hb, e2, f2, d1, d2, v1, v2, v3⟩ := offer_l (N := N) (n := n) (mc := mc) (D := D) (bs := bs) (x := nI k) (by omega) (3 * mc) N 0 ha (by omega) (by omega) La Ca b1 (fun j hj => absurd (show j < 0 from hj) (by omega))
      have Lb : Lay hb := Gx_Lay f2 La (fun a k c u => by unfold Rc at c; omega)
      have zb := Lb.1
      have Cb : Cs hb n mc D bs := Cs_G Ca za f2 (fun a k u => ⟨by omega, fun v => by omega⟩) (fun a k u => by omega)
      have Sb : Sl hb mc bs := Sl_g Sa za f2 (by omega)
      have eI : ∀ a j, a < 64 → ¬ (a = 17 ∧ j = 2 ∨ a = 18) → hI hb a j = hI ha a j := fun a j h1 h2 => Gx_I f2 za h1 h2
      have o3 := enm_ok D (3 * mc)
      have lw := LW_0 (n := n) (mc := mc) (D := D) (len := len) (wd := wd) (pat := pat) n12 m30 l1 l12 hwd hp
      have lc : LCs hb n D bs (enm D (3 * mc)).1 (enm D (3 * mc)).2 len wd pat (S0 n) := by
        refine ⟨d1, d2, ⟨?_, ?_, ?_⟩, ⟨?_, ?_, ?_⟩, fun d hd => ⟨?_, ?_⟩, ?_, fun j hj => ?_, fun d j hd hj => ?_, fun d j hd hj hk => absurd (show (0 : Nat) = 1 from hk) (by decide), fun _ => ?_, fun e => (by cases e)⟩
        · rw [eI _ _ (by omega) (by omega)]; exact b2
        · rw [eI _ _ (by omega) (by omega)]; exact b3
        · rw [eI _ _ (by omega) (by omega)]; exact b4
        · rw [Gx_L f2 za (by omega) (fun q => q)]; exact b5
        · rw [Gx_L f2 za (by omega) (fun q => q)]; exact b6
        · rw [Gx_L f2 za (by omega) (fun q => q)]; exact b7
        · have hd' : d ≤ 0 := hd
          rw [show d = 0 by omega, eI _ _ (by omega) (by omega)]; exact b8
        · have hd' : d ≤ 0 := hd
          rw [show d = 0 by omega, eI _ _ (by omega) (by omega)]; exact b9
        · exact Hs_g b10 za f2 (by omega) (by omega) (by omega) (by omega) (fun _ q => q)
        · have hj' : j < 1 := hj
          rw [show j = 0 by omega, eI _ _ (by omega) (by omega), Gx_I f1 z (by omega) (by unfold PBg; omega)]; exact s2
        · have := o3.2.1 j hj
          rw [eI _ _ (by omega) (by omega), b11 _ (by omega)]; rfl
        · rw [Gx_R f2 za (by omega) (by omega)]; exact b12
      obtain ⟨h1, e3, t1, w1⟩ := seek_C (N := N) (mc := mc) (D := D) (bs := bs) (cc := (enm D (3 * mc)).1) (ch := (enm D (3 * mc)).2) (len := len) (wd := wd) (pat := pat) (by omega) n12 1000000 N k 0 (S0 n) hb (by omega) (by omega) hk Lb Cb Sb lw lc (by rw [eI _ _ (by omega) (by omega)]; exact b13)
      have L1 := Lay_S Lb t1.1
      have z1 := L1.1
      have fab : Gx (PSx mc bs) QSx RLx h hb := Gx_t (Gx_m f1 (fun a j _ q => by unfold PBg at q; unfold PSx PS; omega) (fun a j _ q => by unfold QSx; omega) (fun a j _ q => Or.inl (Or.inl q))) (Gx_m f2 (fun a j _ q => by unfold PSx; omega) (fun _ _ _ q => q.elim) (fun a j _ q => Or.inr q))
      have fh1 : Gx (PSx mc bs) QSx RLx h h1 := Gx_t fab (PS_x t1.1)
      have t4 : hI hb 4 = hI h 4 := funext fun j => by rw [eI _ _ (by omega) (by omega), Gx_I f1 z (by omega) (by unfold PBg; omega)]
      have mn1 : Mn h1 n := ⟨o35 L1, by rw [Gx_I fh1 z (by omega) (by unfold PSx PS; omega)]; exact i1.2.1.2, i1.2.2⟩
      have M1 : Ms h1 n mc D := Ms_g i5 z fh1 (fun a j q u => by unfold PSx PS at u; omega)
      obtain ⟨hm, e4, xm, m37, X, lm, ⟨n1, n2, n3, n4, n5⟩⟩ := search_M (N := N) (n := n) (mc := mc) (len := len) (wd := wd) (pat := pat) (D := D) (x := nI k) (by omega) L1 mn1 M1 (by rw [Gx_I fh1 z (by omega) (by unfold PSx PS; omega)]; exact i2.2)
      have muB : mu (enm D (3 * mc)).1 k (S0 n) < 1000000 := by
        show (enm D (3 * mc)).1 - 0 + 1 + 93 * k < 1000000
        have := o3.1
        omega
      obtain ⟨h2, e5, t2, k2⟩ := go_M (N := N) (n := n) (mc := mc) (by omega) 1000000 N k 0 k (S0 n) hm (by omega) hk muB (by omega) X lw lm n1
      have so := sk_o (n := n) (D := D) (cc := (enm D (3 * mc)).1) (ch := (enm D (3 * mc)).2) (len := len) (wd := wd) (pat := pat) 1000000 k (S0 n)
      generalize sk n D (enm D (3 * mc)).1 (enm D (3 * mc)).2 len wd pat 1000000 k (S0 n) = Z at e3 t1 w1 t2 k2 so
      have f12 : Fx PMx QMx h1 h2 := Fx_t xm (PM_x t2.1)
      have L2' := Fx_Lay f12 L1
      have sr : Sr h2 n mc D bs := Sr_of z1 t1 f12 t2 m30 (by rw [eI _ _ (by omega) (by omega), b14, n4]) n5 (by rw [Fx_I t2.1 (by unfold PMs; omega)]; exact n2) (by rw [Fx_I t2.1 (by unfold PMs; omega)]; exact n3) (by rw [Gx_I t1.1 zb (by omega) (by unfold PS; omega), eI _ _ (by omega) (by omega)]; exact b15) l12 (by have := o3.1; omega) so (fun q => ⟨w1 q, k2 q⟩)
      obtain ⟨iv, gr⟩ := Inv_S i1 i2 i3 i4 i5 i6 i7 i8 i9 i10' i11 fh1 f12 (by rw [t1.2.1, t4]) (by rw [t2.2.1, m37]) t2.2.2.2.2.1 sr (GS_t (GS_s (by rw [v3, u3]) (by rw [v1, u1]) (by rw [v2, u2])) t1.2.2.2.2.2.2.2.1)
      refine ⟨nI Z.1, h1, h2, ?_, ?_, iv, gr, L1⟩
      · rw [preC, pc, cl_s, if_neg i10, if_neg c0, if_pos c1, gr_s (o0 L), r0_8 L, gi_s (o0 L), i1.2.1.1, e1, cl_s, show C_search_60 N N (some 0) (nI k) 0 ha = C_search_60 N N (some 0) (nI k) (nI 0) ha from rfl, e2, show Search_seek_4 N N (some 17) (nI k) 0 hb = some (nI Z.1, h1) from e3, cl_s]
      · rw [preM h1 L1, pm h1 mn1, cl_s, if_neg i10, if_neg c0, if_pos c1, e4, show M_go_2 N N (some 35) (nI k) 0 hm = some ((), h2) from e5, cl_s, gi_s (o35 L2'), t2.2.2.2.1]
    · exact Op_id I (-1) (by rw [preC, pc, cl_s, if_neg i10, if_neg c0, if_neg c1]) (by rw [preM h L, pm h mn, cl_s, if_neg i10, if_neg c0, if_neg c1])
  · exact Op_id I (-1) (by rw [preC, pc, cl_s, if_pos rfl]) (by rw [preM h L, pm h mn, cl_s, if_pos rfl])
