/-! PURE: calls that change the finding alone, or nothing -/
theorem Mn_of {h : Hp} {n : Nat} (b : Bs h n) : Mn h n := ⟨o35 b.1, b.2.1.2, b.2.2⟩
theorem Mn_6 {h : Hp} {n : Nat} (b : Bs h n) (c : Int32) : Mn (sI h 0 6 c) n := ⟨o35 b.1, by rw [sI_ne (by omega)]; exact b.2.1.2, b.2.2⟩
theorem Mn_F {h : Hp} {n : Nat} (b : Bs h n) (c : Int32) : Mn (F2 h c) n := ⟨o35 b.1, by unfold F2; rw [sI_ne (by omega), sI_ne (by omega)]; exact b.2.1.2, b.2.2⟩
theorem Mn_G {h : Hp} {n : Nat} (b : Bs h n) (c : Int32) : Mn (sI (sI h 0 6 c) 35 3 c) n := Mn_F b c
theorem C_finds_s {N : Nat} {c v : Int32} {h : Hp} (L : Lay h) : ds [(11, C_finds N (some 0) c v h)] (some 0) h = some (v, sI h 0 6 c) := by
  unfold C_finds
  simp only [ds_1, pi_s, o0, L]
theorem C_findsRow_s {N : Nat} {v : Int64} {h : Hp} (L : Lay h) : ds [(11, C_findsRow N (some 0) v h)] (some 0) h = some (v, sI h 0 6 0) := by
  unfold C_findsRow
  simp only [ds_1, pi_s, o0, L]
theorem M_finds_0 {N : Nat} {h : Hp} (L : Lay h) : ds [(12, M_finds N (some 35) 0 h)] (some 35) h = some (0, sI h 35 3 0) := by
  unfold M_finds
  simp only [ds_1, pi_s, o35, L, if_true, rz_0]
theorem M_finds_1 {N : Nat} {c : Int32} {h : Hp} (L : Lay h) (hc : ¬ c = 0) : ds [(12, M_finds N (some 35) c h)] (some 35) h = some (1, sI h 35 3 c) := by
  unfold M_finds
  simp only [ds_1, pi_s, o35, L, if_neg hc, rz_1]
theorem Op_F {α : Type} {C M : Hp → Option (α × Hp)} {h : Hp} (I : Inv h) (r : α) (c : Int32) (e : C h = some (r, sI h 0 6 c)) (e2 : M (sI h 0 6 c) = some (r, F2 h c)) : Op C M h := ⟨r, _, _, e, e2, Inv_F I c, F2_g h c, show Lay (sI h 0 6 c) from (show Lay h from Inv_Lay I)⟩
theorem Op_id {α : Type} {C M : Hp → Option (α × Hp)} {h : Hp} (I : Inv h) (r : α) (e : C h = some (r, h)) (e2 : M h = some (r, h)) : Op C M h := ⟨r, _, _, e, e2, I, by unfold Gr; omega, Inv_Lay I⟩
theorem isRow_2 {N n : Nat} (x : Int64) (hN : 100 < N) (hn : n ≤ 12) : (∃ v, x = lN v ∧ Rw n v ∧ (∀ h, Rows_isRow N x (nI n) h = some (1, h)) ∧ ∀ h, Mn h n → M_isRow N (some 35) x h = some (1, h)) ∨ ((∀ h, Rows_isRow N x (nI n) h = some (0, h)) ∧ ∀ h, Mn h n → M_isRow N (some 35) x h = some (0, h)) := by
  by_cases c : ∃ v, x = lN v ∧ Rw n v
  · obtain ⟨v, e, hv⟩ := c
    have vl : v < 2 ^ 63 := Nat.lt_of_lt_of_le (lN_lt12 hn hv.1) (by decide)
    refine Or.inl ⟨v, e, hv, fun h => ?_, fun h m => ?_⟩
    · rcases Rows_isRow_s (x := x) (h := h) (N := N) (by omega) hn with ⟨-, g⟩ | ⟨g, -⟩
      · exact g
      · exact absurd hv (g v vl e)
    · rcases M_isRow_s (x := x) (h := h) (N := N) (by omega) m with ⟨-, g⟩ | ⟨g, -⟩
      · exact g
      · exact absurd hv (g v vl e)
  · refine Or.inr ⟨fun h => ?_, fun h m => ?_⟩
    · rcases Rows_isRow_s (x := x) (h := h) (N := N) (by omega) hn with ⟨g, -⟩ | ⟨-, g⟩
      · exact absurd g c
      · exact g
    · rcases M_isRow_s (x := x) (h := h) (N := N) (by omega) m with ⟨g, -⟩ | ⟨-, g⟩
      · exact absurd g c
      · exact g
theorem isPattern_2 {N n : Nat} (x : Int64) (hN : 100 < N) (hn : n ≤ 12) : (∃ v, x = lN v ∧ Pt n v ∧ (∀ h, Rows_isPattern N x (nI n) h = some (1, h)) ∧ ∀ h, Mn h n → M_isPattern N (some 35) x h = some (1, h)) ∨ ((∀ h, Rows_isPattern N x (nI n) h = some (0, h)) ∧ ∀ h, Mn h n → M_isPattern N (some 35) x h = some (0, h)) := by
  by_cases c : ∃ v, x = lN v ∧ Pt n v
  · obtain ⟨v, e, hv⟩ := c
    have vl : v < 2 ^ 63 := Nat.lt_of_lt_of_le (lN_lt12 hn hv.1) (by decide)
    refine Or.inl ⟨v, e, hv, fun h => ?_, fun h m => ?_⟩
    · rcases Rows_isPattern_s (x := x) (h := h) (N := N) (by omega) hn with ⟨-, g⟩ | ⟨g, -⟩
      · exact g
      · exact absurd hv (g v vl e)
    · rcases M_isPattern_s (x := x) (h := h) (N := N) (by omega) m with ⟨-, g⟩ | ⟨g, -⟩
      · exact g
      · exact absurd hv (g v vl e)
  · refine Or.inr ⟨fun h => ?_, fun h m => ?_⟩
    · rcases Rows_isPattern_s (x := x) (h := h) (N := N) (by omega) hn with ⟨g, -⟩ | ⟨-, g⟩
      · exact absurd g c
      · exact g
    · rcases M_isPattern_s (x := x) (h := h) (N := N) (by omega) m with ⟨g, -⟩ | ⟨-, g⟩
      · exact absurd g c
      · exact g
theorem ch_lt {n c : Nat} (hn : n ≤ 12) (hc : Ch n c) : c < 2 ^ 11 := Nat.lt_of_lt_of_le hc.1 (Nat.pow_le_pow_right (by decide) (by omega))
theorem isChange_2 {N n : Nat} (x : Int32) (h4 : 4 ≤ n) (hn : n ≤ 12) : (∃ v, x = nI v ∧ Ch n v ∧ (∀ h, Rows_isChange N x (nI n) h = some (1, h)) ∧ ∀ h, Mn h n → M_isChange N (some 35) x h = some (1, h)) ∨ ((∀ h, Rows_isChange N x (nI n) h = some (0, h)) ∧ ∀ h, Mn h n → M_isChange N (some 35) x h = some (0, h)) := by
  by_cases c : ∃ v, x = nI v ∧ Ch n v
  · obtain ⟨v, e, hv⟩ := c
    have vl : v < 2 ^ 31 := Nat.lt_of_lt_of_le (ch_lt hn hv) (by decide)
    refine Or.inl ⟨v, e, hv, fun h => ?_, fun h m => ?_⟩
    · rcases Rows_isChange_s (x := x) (h := h) (N := N) (n := n) (by omega) hn with ⟨-, g⟩ | ⟨g, -⟩
      · exact g
      · exact absurd hv (g v vl e)
    · rcases M_isChange_s (x := x) (h := h) (N := N) m with ⟨-, g⟩ | ⟨g, -⟩
      · exact g
      · exact absurd hv (g v vl e)
  · refine Or.inr ⟨fun h => ?_, fun h m => ?_⟩
    · rcases Rows_isChange_s (x := x) (h := h) (N := N) (n := n) (by omega) hn with ⟨g, -⟩ | ⟨-, g⟩
      · exact absurd g c
      · exact g
    · rcases M_isChange_s (x := x) (h := h) (N := N) m with ⟨g, -⟩ | ⟨-, g⟩
      · exact absurd g c
      · exact g
theorem LF {h : Hp} (L : Lay h) (c : Int32) : Lay (sI h 0 6 c) := L
theorem L2 {h : Hp} (L : Lay h) (c : Int32) : Lay (sI (sI h 0 6 c) 35 3 c) := L
theorem dM {β : Type} {F : Option β} {h : Hp} (L : Lay h) : ds [(12, F)] (some 35) h = F := ds_1 (o35 L)
theorem lN_inj {a b : Nat} (ha : a < 2 ^ 64) (hb : b < 2 ^ 64) (e : lN a = lN b) : a = b := by rw [← lN_nat ha, ← lN_nat hb, e]
theorem lN_eqI {a b : Nat} (ha : a < 2 ^ 64) (hb : b < 2 ^ 64) : lN a = lN b ↔ a = b := ⟨lN_inj ha hb, fun e => by rw [e]⟩
theorem i10 : ¬ (1 : Int32) = 0 := by decide
theorem i80 : ¬ (8 : Int32) = 0 := by decide
theorem i20 : ¬ (2 : Int32) = 0 := by decide
theorem i40 : ¬ (4 : Int32) = 0 := by decide
theorem n0 {h : Hp} {n : Nat} (b : Bs h n) : hI h 0 4 = nI n := b.2.1.1
theorem op_change {N : Nat} {x : Int64} {c : Int32} {h : Hp} (hN : 100 < N) (I : Inv h) : Op (C_change N (some 0) x c) (M_change N (some 35) x c) h := by
  obtain ⟨n, mc, D, bs, ic, im, ik, B, -⟩ := id I
  have L := B.1
  rcases isRow_2 x hN B.2.2.2 with ⟨v, e, hv, g, g'⟩ | ⟨g, g'⟩
  · rcases isChange_2 (N := N) c B.2.2.1 B.2.2.2 with ⟨k, ek, hk, q, q'⟩ | ⟨q, q'⟩
    · have vl := lN_lt12 B.2.2.2 hv.1
      have kl := ch_lt B.2.2.2 hk
      refine Op_F I (lN (chg v k)) 0 ?_ ?_
      · unfold C_change
        rw [gi_s (o0 L), n0 B, g, cl_s, if_neg i10, gi_s (o0 L), n0 B, q, cl_s, if_neg i10, e, ek, Rows_changed_s (by omega) kl vl, cl_s, C_findsRow_s L, cl_s]
      · unfold M_change M_change_23
        rw [dM (LF L _), g' _ (Mn_6 B 0), cl_s, if_neg i10, dM (LF L _), q' _ (Mn_6 B 0), cl_s, if_neg i10, M_finds_0 (LF L 0), cl_s, if_pos rfl, e, ek, M_done_s (by omega) kl vl, cl_s]
        rfl
    · refine Op_F I 0 8 ?_ ?_
      · unfold C_change C_change_22
        rw [gi_s (o0 L), n0 B, g, cl_s, if_neg i10, gi_s (o0 L), n0 B, q, cl_s, if_pos rfl, C_finds_s L, cl_s]
        rfl
      · unfold M_change M_change_21 M_change_23
        rw [dM (LF L _), g' _ (Mn_6 B 8), cl_s, if_neg i10, dM (LF L _), q' _ (Mn_6 B 8), cl_s, if_pos rfl, M_finds_1 (LF L 8) i80, cl_s, if_neg i10]
        rfl
  · refine Op_F I 0 8 ?_ ?_
    · unfold C_change C_change_22
      rw [gi_s (o0 L), n0 B, g, cl_s, if_pos rfl, C_finds_s L, cl_s]
      rfl
    · unfold M_change M_change_21 M_change_23
      rw [dM (LF L _), g' _ (Mn_6 B 8), cl_s, if_pos rfl, M_finds_1 (LF L 8) i80, cl_s, if_neg i10]
      rfl
theorem op_number {N : Nat} {x : Int64} {h : Hp} (hN : 100 < N) (I : Inv h) : Op (C_number N (some 0) x) (M_number N (some 35) x) h := by
  obtain ⟨n, mc, D, bs, ic, im, ik, B, -⟩ := id I
  have L := B.1
  rcases isRow_2 x hN B.2.2.2 with ⟨v, e, hv, g, g'⟩ | ⟨g, g'⟩
  · refine Op_F I (nI (num n v n)) 0 ?_ ?_
    · unfold C_number
      rw [gi_s (o0 L), n0 B, g, cl_s, if_neg i10, gi_s (o0 L), n0 B, e, Rows_numberOf_s (by omega) B.2.2.2 hv, cl_s, C_finds_s L, cl_s]
    · unfold M_number M_number_15
      rw [dM (LF L _), g' _ (Mn_6 B 0), cl_s, if_neg i10, M_finds_0 (LF L 0), cl_s, if_pos rfl, dM (L2 L _), e, M_numberOf_s (by omega) (Mn_G B 0) hv, cl_s]
      rfl
  · refine Op_F I (-1) 8 ?_ ?_
    · unfold C_number
      rw [gi_s (o0 L), n0 B, g, cl_s, if_pos rfl, C_finds_s L, cl_s]
    · unfold M_number M_number_15
      rw [dM (LF L _), g' _ (Mn_6 B 8), cl_s, if_pos rfl, M_finds_1 (LF L 8) i80, cl_s, if_neg i10]
      rfl
theorem op_product {N : Nat} {x y : Int64} {h : Hp} (hN : 100 < N) (I : Inv h) : Op (C_product N (some 0) x y) (M_product N (some 35) x y) h := by
  obtain ⟨n, mc, D, bs, ic, im, ik, B, -⟩ := id I
  have L := B.1
  rcases isRow_2 x hN B.2.2.2 with ⟨v, e, hv, g, g'⟩ | ⟨g, g'⟩
  · rcases isRow_2 y hN B.2.2.2 with ⟨k, ek, hk, q, q'⟩ | ⟨q, q'⟩
    · have vl := lN_lt12 B.2.2.2 hv.1
      refine Op_F I (lN (tm n v k)) 0 ?_ ?_
      · unfold C_product
        rw [gi_s (o0 L), n0 B, g, cl_s, if_neg i10, gi_s (o0 L), n0 B, q, cl_s, if_neg i10, gi_s (o0 L), n0 B, e, ek, Rows_times_s (by omega) B.2.2.2 vl hk, cl_s, C_findsRow_s L, cl_s]
      · unfold M_product M_product_23
        rw [dM (LF L _), g' _ (Mn_6 B 0), cl_s, if_neg i10, dM (LF L _), q' _ (Mn_6 B 0), cl_s, if_neg i10, M_finds_0 (LF L 0), cl_s, if_pos rfl, dM (L2 L _), e, ek, M_times_s (by omega) (Mn_G B 0) vl hk, cl_s]
        rfl
    · refine Op_F I 0 8 ?_ ?_
      · unfold C_product C_product_22
        rw [gi_s (o0 L), n0 B, g, cl_s, if_neg i10, gi_s (o0 L), n0 B, q, cl_s, if_pos rfl, C_finds_s L, cl_s]
        rfl
      · unfold M_product M_product_21 M_product_23
        rw [dM (LF L _), g' _ (Mn_6 B 8), cl_s, if_neg i10, dM (LF L _), q' _ (Mn_6 B 8), cl_s, if_pos rfl, M_finds_1 (LF L 8) i80, cl_s, if_neg i10]
        rfl
  · refine Op_F I 0 8 ?_ ?_
    · unfold C_product C_product_22
      rw [gi_s (o0 L), n0 B, g, cl_s, if_pos rfl, C_finds_s L, cl_s]
      rfl
    · unfold M_product M_product_21 M_product_23
      rw [dM (LF L _), g' _ (Mn_6 B 8), cl_s, if_pos rfl, M_finds_1 (LF L 8) i80, cl_s, if_neg i10]
      rfl
theorem op_inverse {N : Nat} {x : Int64} {h : Hp} (hN : 100 < N) (I : Inv h) : Op (C_inverse N (some 0) x) (M_inverse N (some 35) x) h := by
  obtain ⟨n, mc, D, bs, ic, im, ik, B, -⟩ := id I
  have L := B.1
  rcases isRow_2 x hN B.2.2.2 with ⟨v, e, hv, g, g'⟩ | ⟨g, g'⟩
  · refine Op_F I (lN (ivs v n)) 0 ?_ ?_
    · unfold C_inverse
      rw [gi_s (o0 L), n0 B, g, cl_s, if_neg i10, gi_s (o0 L), n0 B, e, Rows_inverseOf_s (by omega) B.2.2.2 hv, cl_s, C_findsRow_s L, cl_s]
    · unfold M_inverse M_inverse_15
      rw [dM (LF L _), g' _ (Mn_6 B 0), cl_s, if_neg i10, M_finds_0 (LF L 0), cl_s, if_pos rfl, e]
      have := M_inv_loop (N := N) (Mn_G B 0) hv n N 0 (by omega) (by have := B.2.2.2; omega)
      exact this
  · refine Op_F I 0 8 ?_ ?_
    · unfold C_inverse
      rw [gi_s (o0 L), n0 B, g, cl_s, if_pos rfl, C_finds_s L, cl_s]
      rfl
    · unfold M_inverse M_inverse_15
      rw [dM (LF L _), g' _ (Mn_6 B 8), cl_s, if_pos rfl, M_finds_1 (LF L 8) i80, cl_s, if_neg i10]
      rfl
theorem op_order {N : Nat} {x : Int64} {h : Hp} (hN : 100 < N) (I : Inv h) : Op (C_order N (some 0) x) (M_order N (some 35) x) h := by
  obtain ⟨n, mc, D, bs, ic, im, ik, B, -⟩ := id I
  have L := B.1
  rcases isRow_2 x hN B.2.2.2 with ⟨v, e, hv, g, g'⟩ | ⟨g, g'⟩
  · obtain ⟨K, hK⟩ := od_ex B.2.2.2 hv
    refine Op_F I (nI (K + 1)) 0 ?_ ?_
    · unfold C_order
      rw [gi_s (o0 L), n0 B, g, cl_s, if_neg i10, gi_s (o0 L), n0 B, e, Rows_orderOf_s hN B.2.2.2 hv hK, cl_s, C_finds_s L, cl_s]
    · unfold M_order M_order_15
      rw [dM (LF L _), g' _ (Mn_6 B 0), cl_s, if_neg i10, M_finds_0 (LF L 0), cl_s, if_pos rfl, dM (L2 L _), e, M_orderOf_s hN (Mn_G B 0) hv hK, cl_s]
      rfl
  · refine Op_F I 0 8 ?_ ?_
    · unfold C_order
      rw [gi_s (o0 L), n0 B, g, cl_s, if_pos rfl, C_finds_s L, cl_s]
    · unfold M_order M_order_15
      rw [dM (LF L _), g' _ (Mn_6 B 8), cl_s, if_pos rfl, M_finds_1 (LF L 8) i80, cl_s, if_neg i10]
      rfl
theorem op_ofNumber {N : Nat} {x : Int32} {h : Hp} (hN : 100 < N) (I : Inv h) : Op (C_ofNumber N (some 0) x) (M_ofNumber N (some 35) x) h := by
  obtain ⟨n, mc, D, bs, ic, im, ik, B, -⟩ := id I
  have L := B.1
  by_cases x0 : x < 0
  · refine Op_F I 0 2 ?_ ?_
    · unfold C_ofNumber Rows_rowOf
      rw [gi_s (o0 L), if_neg (by rw [Int32.le_iff_toInt_le]; rw [Int32.lt_iff_toInt_lt] at x0; omega), cl_s, if_pos ((lg_eq _ _).mpr rfl), C_finds_s L, cl_s]
      rfl
    · unfold M_ofNumber M_ofNumber_17 M_ofNumber_18
      rw [if_pos x0, M_finds_1 (LF L 2) i20, cl_s, if_neg i10]
      rfl
  · obtain ⟨m, hm, e⟩ := i32_of x0
    subst e
    have fl := fc_le n B.2.2.2
    by_cases hf : m / fc n = 0
    · have hlt : m < fc n := by
        rcases Nat.lt_or_ge m (fc n) with q | q
        · exact q
        · have := Nat.div_pos q (fc_pos n); omega
      have ne := rof_ne (n := n) (m := m) B.2.2.2 (by have := B.2.2.1; omega)
      have lt := (rof_ok (n := n) (m := m) B.2.2.2 n (Nat.le_refl n)).2.2
      refine Op_F I (lN (rof n m n).2) 0 ?_ ?_
      · unfold C_ofNumber
        rw [gi_s (o0 L), n0 B, Rows_rowOf_s (by omega) B.2.2.2 hm, if_pos hf, cl_s, if_neg (fun q => ne ((lN_eq0 (Nat.lt_of_lt_of_le (lN_lt12 B.2.2.2 lt) (by decide))).mp ((lg_eq _ _).mp q))), C_findsRow_s L, cl_s]
      · unfold M_ofNumber M_ofNumber_18
        rw [if_neg x0, dM (LF L _), M_all_s (by omega) (Mn_6 B 0), cl_s, if_neg (fun q => by have := (nI_leI (by omega) (by omega)).mp q; omega), M_finds_0 (LF L 0), cl_s, if_pos rfl, dM (L2 L _), M_rowOf_s (by omega) (Mn_G B 0) hlt, cl_s]
        rfl
    · have hge : fc n ≤ m := by
        rcases Nat.lt_or_ge m (fc n) with q | q
        · exact absurd (Nat.div_eq_of_lt q) hf
        · exact q
      refine Op_F I 0 2 ?_ ?_
      · unfold C_ofNumber
        rw [gi_s (o0 L), n0 B, Rows_rowOf_s (by omega) B.2.2.2 hm, if_neg hf, cl_s, if_pos ((lg_eq _ _).mpr rfl), C_finds_s L, cl_s]
        rfl
      · unfold M_ofNumber M_ofNumber_17 M_ofNumber_18
        rw [if_neg x0, dM (LF L _), M_all_s (by omega) (Mn_6 B 2), cl_s, if_pos ((nI_leI (by omega) (by omega)).mpr hge), M_finds_1 (LF L 2) i20, cl_s, if_neg i10]
        rfl
theorem op_fits {N : Nat} {x y : Int64} {h : Hp} (hN : 100 < N) (I : Inv h) : Op (C_fits N (some 0) x y) (M_fits N (some 35) x y) h := by
  obtain ⟨n, mc, D, bs, ic, im, ik, B, -⟩ := id I
  have L := B.1
  rcases isRow_2 x hN B.2.2.2 with ⟨v, e, hv, g, g'⟩ | ⟨g, g'⟩
  · rcases isPattern_2 y hN B.2.2.2 with ⟨k, ek, hk, q, q'⟩ | ⟨q, q'⟩
    · have vl := lN_lt12 B.2.2.2 hv.1
      have kl := lN_lt12 B.2.2.2 hk.1
      have v62 : v < 2 ^ 62 := Nat.lt_of_lt_of_le vl (by decide)
      have k62 : k < 2 ^ 62 := Nat.lt_of_lt_of_le kl (by decide)
      have fa := fit_and B.2.2.2 vl hk.1
      have tl := tld_lt k 12
      have ea : (lN v &&& lN (tld k 12) = lN k) ↔ Ft n v k := by
        rw [wb_and (by omega) (by omega), ← fa]
        constructor
        · intro q
          exact lN_inj (Nat.lt_of_le_of_lt (Nat.and_le_left) (by omega)) (by omega) q
        · intro q; rw [q]
      have C : C_fits N (some 0) x y h = if lN v &&& lN (tld k 12) = lN k then some (1, h) else some (0, h) := by
        unfold C_fits
        rw [gi_s (o0 L), n0 B, g, cl_s, if_neg i10, gi_s (o0 L), n0 B, q, cl_s, if_neg i10, e, ek, Rows_toldDigits_s (by omega) (by omega), cl_s]
        simp only [lg_eq, rz_1, rz_0]
      rcases M_isFitting_s (N := N) (h := h) (by omega) (Mn_of B) v62 k62 with ⟨f, m⟩ | ⟨f, m⟩
      · refine Op_id I 1 (by rw [C, if_pos (ea.mpr f)]) ?_
        unfold M_fits
        rw [ds_1 (o35 L), g' _ (Mn_of B), cl_s, if_neg i10, ds_1 (o35 L), q' _ (Mn_of B), cl_s, if_neg i10, ds_1 (o35 L), e, ek, m, cl_s, if_neg i10, rz_1]
      · refine Op_id I 0 (by rw [C, if_neg (fun q => f (ea.mp q))]) ?_
        unfold M_fits
        rw [ds_1 (o35 L), g' _ (Mn_of B), cl_s, if_neg i10, ds_1 (o35 L), q' _ (Mn_of B), cl_s, if_neg i10, ds_1 (o35 L), e, ek, m, cl_s, if_pos rfl, rz_0]
    · refine Op_id I 0 ?_ ?_
      · unfold C_fits
        rw [gi_s (o0 L), n0 B, g, cl_s, if_neg i10, gi_s (o0 L), n0 B, q, cl_s, if_pos rfl, rz_0]
      · unfold M_fits
        rw [ds_1 (o35 L), g' _ (Mn_of B), cl_s, if_neg i10, ds_1 (o35 L), q' _ (Mn_of B), cl_s, if_pos rfl, rz_0]
  · refine Op_id I 0 ?_ ?_
    · unfold C_fits
      rw [gi_s (o0 L), n0 B, g, cl_s, if_pos rfl, rz_0]
    · unfold M_fits
      rw [ds_1 (o35 L), g' _ (Mn_of B), cl_s, if_pos rfl, rz_0]
