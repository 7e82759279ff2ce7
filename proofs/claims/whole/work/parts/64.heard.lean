/-! PURE: bells heard; music; ringers -/
/-- the first i digits of v whose bells are rung, closed up; and how many -/
def cup (v r : Nat) : Nat → Nat × Nat
  | 0 => (0, 0)
  | i + 1 => if dg v i ≠ 0 ∧ r.testBit (dg v i - 1) = true then ((cup v r i).1 + dg v i * 16 ^ (cup v r i).2, (cup v r i).2 + 1) else cup v r i
theorem cup_ok (v r : Nat) : ∀ i, (cup v r i).1 < 16 ^ (cup v r i).2 ∧ (cup v r i).2 ≤ i
  | 0 => by simp [cup]
  | i + 1 => by
    obtain ⟨h1, h2⟩ := cup_ok v r i
    have d := dg_lt v i
    rw [cup]
    split
    · refine ⟨?_, by dsimp only; omega⟩
      dsimp only
      rw [Nat.pow_succ]
      have : dg v i * 16 ^ (cup v r i).2 ≤ 15 * 16 ^ (cup v r i).2 := Nat.mul_le_mul_right _ (by omega)
      omega
    · exact ⟨h1, by omega⟩
theorem cup_z (r : Nat) : ∀ i, cup 0 r i = (0, 0)
  | 0 => rfl
  | i + 1 => by
    rw [cup, if_neg (by rintro ⟨h, -⟩; exact h (by simp [dg])), cup_z r i]
theorem cup_n {v r n : Nat} (hv : v < 16 ^ n) : ∀ k, cup v r (n + k) = cup v r n
  | 0 => rfl
  | k + 1 => by
    rw [show n + (k + 1) = n + k + 1 by omega, cup, if_neg (by rintro ⟨h, -⟩; exact h (dg_big hv (by omega))), cup_n hv k]
theorem i12_le {i : Nat} (hi : i < 2 ^ 31) : (12 : Int32) ≤ nI i ↔ 12 ≤ i := Nle_12 hi
theorem lg_le0 {d : Nat} (hd : d < 2 ^ 63) : lg_cmp (lN d) 0 ≤ 0 ↔ d = 0 := by
  constructor
  · intro q
    rcases Nat.eq_zero_or_pos d with e | e
    · exact e
    · exfalso
      have h1 : ¬ lg_cmp (lN d) 0 < 0 := fun c => by
        have := Int64.lt_iff_toInt_lt.mp ((lg_lt _ _).mp c)
        rw [pf_lI hd, show (0 : Int64).toInt = 0 from rfl] at this
        omega
      have h2 : ¬ lg_cmp (lN d) 0 = 0 := fun c => by
        have := (lN_eq0 hd).mp ((lg_eq _ _).mp c)
        omega
      rw [Int32.lt_iff_toInt_lt] at h1
      rw [Int32.le_iff_toInt_le] at q
      exact h2 (Int32.toInt_inj.mp (by omega))
  · intro e
    subst e
    decide
theorem closed_loop {N v r : Nat} {h : Hp} (hv : v < 16 ^ 12) (hr : r < 2 ^ 12) : ∀ (k f i : Nat), i + k = 12 → k < f → Rows_closedUp_8 N f (lN v) (nI r) (lN (cup v r i).1) (nI (4 * (cup v r i).2)) (nI i) h = some (lN (cup v r 12).1, h)
  | 0, f + 1, i, hi, hf => by
    have : i = 12 := by omega
    subst this
    rw [Rows_closedUp_8, if_pos ((Nle_12 (by omega)).mpr (by omega))]
  | k + 1, f + 1, i, hi, hf => by
    have dl := dg_lt v i
    have v63 : v < 2 ^ 63 := Nat.lt_of_lt_of_le hv (by decide)
    obtain ⟨c1, c2⟩ := cup_ok v r i
    have ih := closed_loop (N := N) (h := h) hv hr k f (i + 1) (by omega) (by omega)
    rw [Rows_closedUp_8, if_neg (fun q => by have := (Nle_12 (by omega)).mp q; omega), Rows_digit_s v63 (by omega), cl_s, nmE, dg_l]
    rw [cup] at ih
    by_cases d0 : dg v i = 0
    · rw [if_pos ((lg_le0 (by omega)).mpr d0)]
      rw [if_neg (by rintro ⟨h, -⟩; exact h d0)] at ih
      unfold Rows_closedUp_54
      rw [nmE, nI_1]
      exact ih
    · rw [if_neg (fun q => d0 ((lg_le0 (by omega)).mp q))]
      rw [show Int64.toInt32 (lN (dg v i)) = nI (dg v i) from by
        have : ∀ d, d < 16 → Int64.toInt32 (lN d) = nI d := by decide
        exact this _ dl]
      rw [nI_m1 (by omega), bit_s (by omega) (by omega)]
      by_cases b : r.testBit (dg v i - 1) = true
      · rw [if_pos b, if_neg i10]
        rw [if_pos ⟨d0, b⟩] at ih
        have e : lN (cup v r i).1 ||| (lN (dg v i) <<< (Int32.toInt64 (nI (4 * (cup v r i).2)) &&& 63)) = lN ((cup v r i).1 + dg v i * 16 ^ (cup v r i).2) := by
          have p1 : 16 ^ (cup v r i).2 ≤ 16 ^ 11 := Nat.pow_le_pow_right (by decide) (by omega)
          have p2 : dg v i * 16 ^ (cup v r i).2 ≤ 15 * 16 ^ 11 := Nat.mul_le_mul (by omega) p1
          rw [wb_shl _ (by omega), ← p16, wb_or (by omega) (by omega), or_add (dg_big c1 (by omega)) dl]
        rw [nmE, e, nmE, show nI (4 * (cup v r i).2) + 4 = nI (4 * ((cup v r i).2 + 1)) from (nI_add _ 4).trans (congrArg nI (by omega))]
        unfold Rows_closedUp_54
        rw [nmE, nI_1]
        exact ih
      · rw [if_neg b, if_pos rfl]
        rw [if_neg (by rintro ⟨-, q⟩; exact b q)] at ih
        unfold Rows_closedUp_54
        rw [nmE, nI_1]
        exact ih
theorem heard_loop {N n rc m r : Nat} {rw : Nat → Nat} {h : Hp} (L : Lay h) (hM : Mn h n) (hr : ∀ b, 1 ≤ b → b ≤ n → hI h 52 b = if r.testBit (b - 1) = true then 0 else 1) (h1 : hI h 35 21 = nI rc) (h2 : rc ≤ 2001) (h3 : m < rc) (h4 : hL h 48 m = lN (rw m)) (hv : Rw n (rw m)) : ∀ (k f i : Nat), i + k = n → k < f → M_heard_8 N f (some 35) (nI m) (lN (cup (rw m) r i).1) (nI (cup (rw m) r i).2) (nI (i + 1)) h = some (lN (cup (rw m) r n).1, h)
  | 0, f + 1, i, hi, hf => by
    have : i = n := by omega
    subst this
    have := hM.2.2
    rw [M_heard_8, gi_s hM.1, hM.2.1, if_pos ((nI_ltI (by omega) (by omega)).mpr (by omega))]
  | k + 1, f + 1, i, hi, hf => by
    have hn := hM.2.2
    have vl := lN_lt12 hn.2 hv.1
    have v62 : rw m < 2 ^ 62 := Nat.lt_of_lt_of_le vl (by decide)
    have dl := dg_lt (rw m) i
    obtain ⟨d1, d2⟩ := hv.2.1 i (by omega)
    obtain ⟨c1, c2⟩ := cup_ok (rw m) r i
    have ih := heard_loop (N := N) L hM hr h1 h2 h3 h4 hv k f (i + 1) (by omega) (by omega)
    rw [cup] at ih
    rw [M_heard_8, gi_s hM.1, hM.2.1, if_neg (fun q => by have := (nI_ltI (by omega) (by omega)).mp q; omega), if_neg (nI_pos (by omega)), gi_s hM.1, h1, if_neg (fun q => by have := (nI_leI (by omega) (by omega)).mp q; omega), gr_s hM.1, r35_20 L, ll_s (o48 L) (by rw [k48 L]; show m < 2001; omega) (by rw [k48 L]; decide), h4, M_bell_s v62 (by omega) (by omega), cl_s, gr_s hM.1, r35_31 L, show i + 1 - 1 = i from rfl, li_s (o52 L) (by rw [k52 L]; show _ < 13; omega) (by rw [k52 L]; decide), hr _ d1 d2]
    by_cases b : r.testBit (dg (rw m) i - 1) = true
    · rw [if_pos b, if_pos rfl]
      rw [if_pos ⟨by omega, b⟩] at ih
      have e : lN (cup (rw m) r i).1 + (Int32.toInt64 (nI (dg (rw m) i)) <<< (Int32.toInt64 ((4 : Int32) * nI (cup (rw m) r i).2) &&& 63)) = lN ((cup (rw m) r i).1 + dg (rw m) i * 16 ^ (cup (rw m) r i).2) := by
        rw [dg_l, nI_4, wb_shl _ (by omega), ← p16, lN_add]
      rw [nmE, e, nmE, nI_1]
      unfold M_heard_66
      rw [nmE, nI_1]
      exact ih
    · rw [if_neg b, if_neg i10]
      rw [if_neg (by rintro ⟨-, q⟩; exact b q)] at ih
      unfold M_heard_66
      rw [nmE, nI_1]
      exact ih
theorem heard_no {N n rc : Nat} {x : Int32} {h : Hp} (L : Lay h) (hM : Mn h n) (hN : 0 < N) (h1 : hI h 35 21 = nI rc) (hx : x < 0 ∨ nI rc ≤ x) : M_heard N (some 35) x h = some (0, h) := by
  have hn := hM.2.2
  unfold M_heard
  obtain ⟨f, e⟩ : ∃ f, N = f + 1 := ⟨N - 1, by omega⟩
  have key : ∀ g, M_heard_8 N (g + 1) (some 35) x 0 0 1 h = some (0, h) := by
    intro g
    rw [M_heard_8, gi_s hM.1, hM.2.1, if_neg (show ¬ nI n < 1 from fun q => by have := (ltN_1 (by omega)).mp q; omega)]
    by_cases c : x < 0
    · rw [if_pos c]
    · rw [if_neg c, gi_s hM.1, h1, if_pos (hx.resolve_left c)]
  have := key (N - 1)
  rw [show N - 1 + 1 = N by omega] at this
  exact this
theorem op_heard {N : Nat} {x : Int32} {h : Hp} (hN : 100 < N) (I : Inv h) : Op (C_heard N (some 0) x) (M_heard N (some 35) x) h := by
  obtain ⟨n, mc, D, bs, ic, im, ik, B, -, -, -, -, -, ⟨r, r1, r2, r3⟩, -, ⟨rc, rw, st, cm, ni, cn, ca, cf, W, C, M⟩, -⟩ := id I
  have L := B.1
  have h2 := W.1.2
  have hn := B.2.2
  have rl : r < 2 ^ 12 := Nat.lt_of_lt_of_le r1 (Nat.pow_le_pow_right (by decide) (by omega))
  have cC : ∀ v, v < 16 ^ 12 → (cl (some (lN v, h)) fun x4 h3 => gi [11] 5 (some 0) h3 fun x5 => cl (Rows_closedUp N x4 x5 h3) fun x7 h6 => some (x7, h6)) = some (lN (cup v r 12).1, h) := by
    intro v hv
    have := closed_loop (N := N) (h := h) hv rl 12 N 0 (by omega) (by omega)
    rw [cl_s, gi_s (o0 L), r2]
    unfold Rows_closedUp
    rw [show Rows_closedUp_8 N N (lN v) (nI r) 0 0 0 h = some (lN (cup v r 12).1, h) from this, cl_s]
  have out : (∀ i, i < rc → x ≠ nI i) → C_heard N (some 0) x h = some (0, h) := by
    intro hx
    unfold C_heard
    simp only [gr_s, o0, o6, r0_7, r6_5, ds_1, o9, L]
    rw [codeAt_0 (RO_9 L) C.1 hx]
    have := cC 0 (by decide)
    rw [cup_z] at this
    exact this
  rcases i32_cs x with c | ⟨m, hm, e⟩
  · exact Op_id I 0 (out (fun i hi e => i32_neg c (by omega) e)) (heard_no L (Mn_of B) (by omega) M.2.1 (Or.inl c))
  · subst e
    by_cases hr : m < rc
    · have hv := W.2.1 m hr
      refine Op_id I (lN (cup (rw m) r n).1) ?_ ?_
      · unfold C_heard
        simp only [gr_s, o0, o6, r0_7, r6_5, ds_1, o9, L]
        rw [codeAt_s (RO_9 L) C.1 hr]
        have := cC (rw m) (lN_lt12 hn.2 hv.1)
        rw [show (12 : Nat) = n + (12 - n) by omega, cup_n hv.1] at this
        exact this
      · exact heard_loop (N := N) L (Mn_of B) r3 M.2.1 h2 hr (M.1 m hr) hv n N 0 (by omega) (by omega)
    · exact Op_id I 0 (out (fun i hi e => by have := (nI_eqk i hm (by omega)).mp e; omega)) (heard_no L (Mn_of B) (by omega) M.2.1 (Or.inr ((nI_leI (by omega) hm).mpr (by omega))))
/-! music -/
theorem fit_i {n v w : Nat} (hn : n ≤ 12) (hv : v < 16 ^ 12) (hw : w < 16 ^ n) : (lg_cmp (lN v &&& lN (tld w 12)) (lN w) = 0) ↔ v &&& tld w 12 = w := by
  have wl := lN_lt12 hn hw
  have tl := tld_lt w 12
  rw [lg_eq, wb_and (by omega) (by omega), lN_eqI (Nat.lt_of_le_of_lt Nat.and_le_left (by omega)) (by omega)]
theorem fcn_le (n pat : Nat) (w : Nat → Nat) : ∀ j, fcn n pat w j ≤ j
  | 0 => Nat.le_refl 0
  | j + 1 => by have := fcn_le n pat w j; rw [fcn]; split <;> omega
theorem cf_loop {N n rc pat : Nat} {rw : Nat → Nat} {h : Hp} (hn : n ≤ 12) (L : Lay h) (H : Hs h 9 10 11 12 2001 rc (fun j => lN (rw j))) (hw : ∀ j, j < rc → Rw n (rw j)) (hp : pat < 16 ^ n) : ∀ (k f j : Nat), j + 1 + k = rc → k < f → Rows_countFitting_11 N f (some 9) (lN pat) (lN (tld pat 12)) (nI (fcn n pat rw j)) (nI (j + 1)) h = some (nI (fcn n pat rw (rc - 1)), h)
  | 0, f + 1, j, hj, hf => by
    have h2 := H.2.1
    rw [Rows_countFitting_11, gi_s (o9 L), H.1, if_pos ((nI_leI (by omega) (by omega)).mpr (by omega)), show rc - 1 = j by omega]
  | k + 1, f + 1, j, hj, hf => by
    have h2 := H.2.1
    have ih := cf_loop (N := N) hn L H hw hp k f (j + 1) (by omega) (by omega)
    rw [Rows_countFitting_11, gi_s (o9 L), H.1, if_neg (fun q => by have := (nI_leI (by omega) (by omega)).mp q; omega), gr_s (o9 L), r9_0 L, ll_s (o11 L) (by rw [k11 L]; show _ < 2001; omega) (by rw [k11 L]; decide), H.2.2.1 (j + 1) (by omega)]
    simp only [fit_i hn (lN_lt12 hn (hw (j + 1) (by omega)).1) hp]
    rw [fcn] at ih
    by_cases c : rw (j + 1) &&& tld pat 12 = pat
    · rw [if_pos c]
      rw [if_pos c] at ih
      unfold Rows_countFitting_37
      rw [nmE, nI_1, nmE, nI_1]
      exact ih
    · rw [if_neg c]
      rw [if_neg c] at ih
      unfold Rows_countFitting_37
      rw [nmE, nI_1]
      exact ih
theorem mu_loop {N n rc pat : Nat} {rw : Nat → Nat} {h : Hp} (hN : 100 < N) (hM : Mn h n) (L : Lay h) (h1 : hI h 35 21 = nI rc) (h2 : rc ≤ 2001) (h4 : ∀ j, j < rc → hL h 48 j = lN (rw j)) (hw : ∀ j, j < rc → Rw n (rw j)) (hp : pat < 16 ^ n) : ∀ (k f j : Nat), j + 1 + k = rc → k < f → M_music_15 N f (some 35) (lN pat) (nI (fcn n pat rw j)) (nI (j + 1)) h = some (nI (fcn n pat rw (rc - 1)), h)
  | 0, f + 1, j, hj, hf => by
    rw [M_music_15, gi_s (o35 L), h1, if_pos ((nI_leI (by omega) (by omega)).mpr (by omega)), show rc - 1 = j by omega]
  | k + 1, f + 1, j, hj, hf => by
    have hn := hM.2.2.2
    have ih := mu_loop (N := N) hN hM L h1 h2 h4 hw hp k f (j + 1) (by omega) (by omega)
    have vl := lN_lt12 hn (hw (j + 1) (by omega)).1
    have pl := lN_lt12 hn hp
    rw [M_music_15, gi_s (o35 L), h1, if_neg (fun q => by have := (nI_leI (by omega) (by omega)).mp q; omega), gr_s (o35 L), r35_20 L, ll_s (o48 L) (by rw [k48 L]; show _ < 2001; omega) (by rw [k48 L]; decide), h4 (j + 1) (by omega), dM L]
    rw [fcn] at ih
    unfold M_music_45
    rcases M_isFitting_s (N := N) (h := h) (by omega) hM (v := rw (j + 1)) (w := pat) (Nat.lt_of_lt_of_le vl (by decide)) (Nat.lt_of_lt_of_le pl (by decide)) with ⟨f', m⟩ | ⟨f', m⟩
    · rw [m, cl_s, if_neg i10, nmE, nmE, nI_1, nI_1]
      rw [if_pos ((fit_and hn vl hp).mpr f')] at ih
      exact ih
    · rw [m, cl_s, if_pos rfl, nmE, nmE, nI_1]
      rw [if_neg (fun q => f' ((fit_and hn vl hp).mp q))] at ih
      rw [show nI (fcn n pat rw j) + 0 = nI (fcn n pat rw j + 0) from nI_add _ 0]
      exact ih
theorem op_music {N : Nat} {x : Int64} {h : Hp} (hN : 3000 < N) (I : Inv h) : Op (C_music N (some 0) x) (M_music N (some 35) x) h := by
  obtain ⟨n, mc, D, bs, ic, im, ik, B, -, -, -, -, -, -, -, ⟨rc, rw, st, cm, ni, cn, ca, cf, W, C, M⟩, -⟩ := id I
  have L := B.1
  have h2 := W.1
  rcases isPattern_2 (N := N) x (by omega) B.2.2.2 with ⟨k, ek, hk, q, q'⟩ | ⟨q, q'⟩
  · have kl := lN_lt12 B.2.2.2 hk.1
    refine Op_id I (nI (fcn n k rw (rc - 1))) ?_ ?_
    · unfold C_music Rows_countFitting
      rw [gi_s (o0 L), n0 B, q, cl_s, if_neg i10, gr_s (o0 L), r0_7 L, gr_s (o6 L), r6_5 L, ds_1 (o9 L), ek, Rows_toldDigits_s (by omega) (by omega), cl_s]
      have := cf_loop (N := N) B.2.2.2 L C.1 W.2.1 hk.1 (rc - 1) N 0 (by omega) (by omega)
      rw [show Rows_countFitting_11 N N (some 9) (lN k) (lN (tld k 12)) 0 1 h = some (nI (fcn n k rw (rc - 1)), h) from this, cl_s]
    · unfold M_music
      rw [dM L, q' _ (Mn_of B), cl_s, if_neg i10, ek]
      exact mu_loop (N := N) (by omega) (Mn_of B) L M.2.1 h2.2 M.1 W.2.1 hk.1 (rc - 1) N 0 (by omega) (by omega)
  · refine Op_id I (-1) ?_ ?_
    · unfold C_music
      rw [gi_s (o0 L), n0 B, q, cl_s, if_pos rfl]
    · unfold M_music
      rw [dM L, q' _ (Mn_of B), cl_s, if_pos rfl]
