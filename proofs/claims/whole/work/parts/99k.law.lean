/-! PURE: the law -/
def PLw (X : Option (Int32 × Hp)) : Prop := ∃ h', X = some (1, h') ∧ hz h' ≤ 600000 ∧ hs h' ≤ 7302250
theorem sw_c {x c : Int32} {A d : Option (Int32 × Hp)} {r : List (Int32 × Option (Int32 × Hp))} (a : PLw A) (b : PLw (sw x r d)) : PLw (sw x ((c, A) :: r) d) := by
  rw [sw]
  split
  · exact a
  · exact b
theorem sw_n {x : Int32} {d : Option (Int32 × Hp)} (a : PLw d) : PLw (sw x [] d) := a
theorem case_i {C M : Hp → Option (Int32 × Hp)} {K : Hp → Option (Int32 × Hp)} {h : Hp} (I : Inv h) (o : Op C M h) (hK : ∀ h2, Inv h2 → Gr h h2 → PLw (K h2)) : PLw (cl (ds [(11, C h)] (some 0) h) fun x h1 => cl (ds [(12, M h1)] (some 35) h1) fun y h2 => if x = y then K h2 else rz 0 h2) := by
  obtain ⟨r, h1, h2, e1, e2, I2, g, L1⟩ := o
  rw [ds_1 (o0 (Inv_Lay I)), e1, cl_s, dM L1, e2, cl_s, if_pos rfl]
  exact hK h2 I2 g
theorem case_l {C M : Hp → Option (Int64 × Hp)} {K : Hp → Option (Int32 × Hp)} {h : Hp} (I : Inv h) (o : Op C M h) (hK : ∀ h2, Inv h2 → Gr h h2 → PLw (K h2)) : PLw (cl (ds [(11, C h)] (some 0) h) fun x h1 => cl (ds [(12, M h1)] (some 35) h1) fun y h2 => if (lg_cmp x y) = 0 then K h2 else rz 0 h2) := by
  obtain ⟨r, h1, h2, e1, e2, I2, g, L1⟩ := o
  rw [ds_1 (o0 (Inv_Lay I)), e1, cl_s, dM L1, e2, cl_s, if_pos ((lg_eq _ _).mpr rfl)]
  exact hK h2 I2 g
theorem sld_s {β : Type} {xs : Nat → Int32} {L j : Nat} (hL : L ≤ 3072) (hj : j < L) (F : Int32 → Option β) : sld xs L (nI j) F = F (xs j) := by
  unfold sld
  rw [if_pos (ix_ok hj (by omega)), nI_clamp (by omega)]
theorem law_case {N : Nat} (hN : 3000000 < N) {xs : Nat → Int32} {L : Nat} (hL : L ≤ 3072) (f i : Nat) (h : Hp) (I : Inv h) (hi : i + 6 ≤ L) (hK : ∀ h2, Inv h2 → Gr h h2 → PLw (Law_law_1671 N xs L (Law_law_18 N xs L f) (some 0) (some 35) (nI i) h2)) : PLw (Law_law_18 N xs L (f + 1) (some 0) (some 35) (nI i) h) := by
  have s1 : ∀ {β : Type} (F : Int32 → Option β), sld xs L (nI i + 1) F = F (xs (i + 1)) := fun F => by rw [aN_1]; exact sld_s hL (by omega) F
  have s2 : ∀ {β : Type} (F : Int32 → Option β), sld xs L (nI i + 2) F = F (xs (i + 2)) := fun F => by rw [show nI i + (2 : Int32) = nI (i + 2) from nI_add i 2]; exact sld_s hL (by omega) F
  have s3 : ∀ {β : Type} (F : Int32 → Option β), sld xs L (nI i + 3) F = F (xs (i + 3)) := fun F => by rw [show nI i + (3 : Int32) = nI (i + 3) from nI_add i 3]; exact sld_s hL (by omega) F
  have s4 : ∀ {β : Type} (F : Int32 → Option β), sld xs L (nI i + 4) F = F (xs (i + 4)) := fun F => by rw [show nI i + (4 : Int32) = nI (i + 4) from nI_add i 4]; exact sld_s hL (by omega) F
  have s5 : ∀ {β : Type} (F : Int32 → Option β), sld xs L (nI i + 5) F = F (xs (i + 5)) := fun F => by rw [show nI i + (5 : Int32) = nI (i + 5) from nI_add i 5]; exact sld_s hL (by omega) F
  have c0 : ¬ (Int32.ofNat L - (6 : Int32)) < nI i := by
    show ¬ (nI L - (6 : Int32)) < nI i
    rw [sN_6 (by omega)]
    exact fun q => by have := (nI_ltI (by omega) (by omega)).mp q; omega
  rw [Law_law_18, nmE, if_neg c0, sld_s hL (by omega)]
  refine sw_c ?_ ?_
  · simp only [s1, s2, s3, s4, s5]
    exact case_i I (op_feed (by omega) I) hK
  refine sw_c ?_ ?_
  · simp only [s1, s2, s3, s4, s5]
    exact case_i I (op_end I) hK
  refine sw_c ?_ ?_
  · simp only [s1, s2, s3, s4, s5]
    exact case_i I (op_bells (by omega) I) hK
  refine sw_c ?_ ?_
  · simp only [s1, s2, s3, s4, s5]
    exact case_i I (op_method I) hK
  refine sw_c ?_ ?_
  · simp only [s1, s2, s3, s4, s5]
    exact case_i I (op_notation (by omega) I) hK
  refine sw_c ?_ ?_
  · simp only [s1, s2, s3, s4, s5]
    exact case_i I (op_cut I) hK
  refine sw_c ?_ ?_
  · simp only [s1, s2, s3, s4, s5]
    exact case_i I (op_called I) hK
  refine sw_c ?_ ?_
  · simp only [s1, s2, s3, s4, s5]
    exact case_i I (op_part I) hK
  refine sw_c ?_ ?_
  · simp only [s1, s2, s3, s4, s5]
    exact case_i I (op_lead (by omega) I) hK
  refine sw_c ?_ ?_
  · simp only [s1, s2, s3, s4, s5]
    exact case_i I (op_judge (by omega) I) hK
  refine sw_c ?_ ?_
  · simp only [s1, s2, s3, s4, s5]
    exact case_l I (op_leadHead (by omega) I) hK
  refine sw_c ?_ ?_
  · simp only [s1, s2, s3, s4, s5]
    exact case_i I (op_course (by omega) I) hK
  refine sw_c ?_ ?_
  · simp only [s1, s2, s3, s4, s5]
    exact case_i I (op_falseness (by omega) I) hK
  refine sw_c ?_ ?_
  · simp only [s1, s2, s3, s4, s5]
    exact case_i I (op_trace I) hK
  refine sw_c ?_ ?_
  · simp only [s1, s2, s3, s4, s5]
    exact case_l I (op_change (by omega) I) hK
  refine sw_c ?_ ?_
  · simp only [s1, s2, s3, s4, s5]
    exact case_i I (op_number (by omega) I) hK
  refine sw_c ?_ ?_
  · simp only [s1, s2, s3, s4, s5]
    exact case_l I (op_ofNumber (by omega) I) hK
  refine sw_c ?_ ?_
  · simp only [s1, s2, s3, s4, s5]
    exact case_l I (op_product (by omega) I) hK
  refine sw_c ?_ ?_
  · simp only [s1, s2, s3, s4, s5]
    exact case_l I (op_inverse (by omega) I) hK
  refine sw_c ?_ ?_
  · simp only [s1, s2, s3, s4, s5]
    exact case_i I (op_order (by omega) I) hK
  refine sw_c ?_ ?_
  · simp only [s1, s2, s3, s4, s5]
    exact case_i I (op_touch I) hK
  refine sw_c ?_ ?_
  · exact case_i I (op_clear (by omega) I) hK
  refine sw_c ?_ ?_
  · exact case_i I (op_ring (by omega) I) hK
  refine sw_c ?_ ?_
  · simp only [s1, s2, s3, s4, s5]
    exact case_i I (op_on (by omega) I) hK
  refine sw_c ?_ ?_
  · simp only [s1, s2, s3, s4, s5]
    exact case_l I (op_at I) hK
  refine sw_c ?_ ?_
  · exact case_i I (op_round I) hK
  refine sw_c ?_ ?_
  · exact case_i I (op_falseAt (by omega) I) hK
  refine sw_c ?_ ?_
  · exact case_i I (op_proof (by omega) I) hK
  refine sw_c ?_ ?_
  · simp only [s1, s2, s3, s4, s5]
    exact case_i I (op_proofAt I) hK
  refine sw_c ?_ ?_
  · simp only [s1, s2, s3, s4, s5]
    exact case_i I (op_forge I) hK
  refine sw_c ?_ ?_
  · exact case_i I (op_check (by omega) I) hK
  refine sw_c ?_ ?_
  · simp only [s1, s2]
    unfold Law_law_1286 Law_law_1308
    simp only [s1, s2]
    by_cases c : xs (i + 2) = 0
    · simp only [c, reduceIte]
      exact case_i I (op_ringer (by omega) (Or.inl rfl) I) hK
    · simp only [c, reduceIte]
      exact case_i I (op_ringer (by omega) (Or.inr rfl) I) hK
  refine sw_c ?_ ?_
  · simp only [s1, s2, s3, s4, s5]
    exact case_l I (op_heard (by omega) I) hK
  refine sw_c ?_ ?_
  · simp only [s1, s2, s3, s4, s5]
    exact case_i I (op_fits (by omega) I) hK
  refine sw_c ?_ ?_
  · simp only [s1, s2, s3, s4, s5]
    exact case_i I (op_music (by omega) I) hK
  refine sw_c ?_ ?_
  · simp only [s1, s2, s3, s4, s5]
    exact case_i I (op_allow (by omega) I) hK
  refine sw_c ?_ ?_
  · simp only [s1, s2, s3, s4, s5]
    exact case_i I (op_search (by omega) I) hK
  refine sw_c ?_ ?_
  · simp only [s1, s2, s3, s4, s5]
    exact case_i I (op_goOn (by omega) I) hK
  refine sw_c ?_ ?_
  · simp only [s1, s2, s3, s4, s5]
    exact case_i I (op_found I) hK
  refine sw_c ?_ ?_
  · simp only [s1, s2, s3, s4, s5]
    exact case_i I (op_count I) hK
  exact sw_n (hK h I (by unfold Gr; omega))
theorem law_loop {N : Nat} (hN : 3000000 < N) {xs : Nat → Int32} {L : Nat} (hL : L ≤ 3072) (h6 : 6 ≤ L) : ∀ (r f i : Nat) (h : Hp), r < f → Inv h → i ≤ 4000 → L ≤ i + 6 * r + 5 → hz h + 2 * nn h + 12 * r ≤ 600000 → hs h + 103 * nn h + 200 * r ≤ 7302250 → PLw (Law_law_18 N xs L f (some 0) (some 35) (nI i) h) := by
  intro r
  induction r with
  | zero =>
    intro f i h hf I hi hr z1 z2
    obtain ⟨f, rfl⟩ : ∃ f', f = f' + 1 := ⟨f - 1, by omega⟩
    rw [Law_law_18, nmE, if_pos (by
      show (nI L - (6 : Int32)) < nI i
      rw [sN_6 h6]
      exact (nI_ltI (by omega) (by omega)).mpr (by omega)), rz_1]
    exact ⟨h, rfl, by omega, by omega⟩
  | succ r ih =>
    intro f i h hf I hi hr z1 z2
    obtain ⟨f, rfl⟩ : ∃ f', f = f' + 1 := ⟨f - 1, by omega⟩
    by_cases c : i + 6 ≤ L
    · refine law_case hN hL f i h I c (fun h2 I2 g => ?_)
      unfold Law_law_1671
      rw [nmE, show nI i + (6 : Int32) = nI (i + 6) from nI_add i 6]
      obtain ⟨g1, g2⟩ := g
      exact ih f (i + 6) h2 (by omega) I2 (by omega) (by omega) (by omega) (by omega)
    · rw [Law_law_18, nmE, if_pos (by
        show (nI L - (6 : Int32)) < nI i
        rw [sN_6 h6]
        exact (nI_ltI (by omega) (by omega)).mpr (by omega)), rz_1]
      exact ⟨h, rfl, by omega, by omega⟩
theorem law_pure {N : Nat} (hN : 3000000 < N) (xs : Nat → Int32) {L : Nat} (hL : L ≤ 3072) : ∃ h', Law_law N xs L hp0 = some (1, h') ∧ hz h' ≤ 600000 ∧ hs h' ≤ 7302250 := by
  obtain ⟨h, e, I, z, s, n⟩ := start_s (N := N) (by omega)
  rw [e]
  by_cases h6 : 6 ≤ L
  · exact law_loop hN hL h6 512 N 0 h (by omega) I (by omega) (by omega) (by omega) (by omega)
  · obtain ⟨f, rfl⟩ : ∃ f', N = f' + 1 := ⟨N - 1, by omega⟩
    have c : (Int32.ofNat L - (6 : Int32)) < 0 := by
      rcases (by omega : L = 0 ∨ L = 1 ∨ L = 2 ∨ L = 3 ∨ L = 4 ∨ L = 5) with e | e | e | e | e | e <;> (rw [e]; decide)
    rw [Law_law_18, nmE, if_pos c, rz_1]
    exact ⟨h, rfl, by omega, by omega⟩
