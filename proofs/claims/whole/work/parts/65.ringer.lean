/-! PURE: ringers; what was found; proofs told and forged -/
def bcn (r : Nat) : Nat → Nat
  | 0 => 0
  | i + 1 => bcn r i + if r.testBit i = true then 1 else 0
theorem bcn_le (r : Nat) : ∀ i, bcn r i ≤ i
  | 0 => Nat.le_refl 0
  | i + 1 => by have := bcn_le r i; rw [bcn]; split <;> omega
theorem bcn_f (r : Nat) : ∀ i, ((List.range i).filter (fun x => r.testBit x)).length = bcn r i
  | 0 => rfl
  | i + 1 => by
    rw [List.range_succ, List.filter_append, List.length_append, bcn_f r i, bcn]
    by_cases c : r.testBit i = true <;> simp [c]
theorem bcn_n {r n : Nat} (h : r < 2 ^ n) : ∀ k, bcn r (n + k) = bcn r n
  | 0 => rfl
  | k + 1 => by
    have : r.testBit (n + k) = false := Nat.testBit_lt_two_pow (Nat.lt_of_lt_of_le h (Nat.pow_le_pow_right (by decide) (by omega)))
    rw [show n + (k + 1) = n + k + 1 by omega, bcn, this, bcn_n h k]; rfl
theorem pc_n {r n : Nat} (hn : n ≤ 12) (h : r < 2 ^ n) : pc r = bcn r n := by
  unfold pc
  rw [bcn_f, show 13 = n + (13 - n) by omega, bcn_n h]
theorem rg_loop {N n r : Nat} {h : Hp} (L : Lay h) (hM : Mn h n) (hr : ∀ b, 1 ≤ b → b ≤ n → hI h 52 b = if r.testBit (b - 1) = true then 0 else 1) : ∀ (k f i : Nat), i + k = n → k < f → M_ringer_35 N f (some 35) (nI (bcn r i)) (nI (i + 1)) h = some (nI (bcn r n), h)
  | 0, f + 1, i, hi, hf => by
    have := hM.2.2
    have : i = n := by omega
    subst this
    rw [M_ringer_35, gi_s hM.1, hM.2.1, if_pos ((nI_ltI (by omega) (by omega)).mpr (by omega))]
  | k + 1, f + 1, i, hi, hf => by
    have hn := hM.2.2
    have ih := rg_loop (N := N) L hM hr k f (i + 1) (by omega) (by omega)
    rw [bcn] at ih
    rw [M_ringer_35, gi_s hM.1, hM.2.1, if_neg (fun q => by have := (nI_ltI (by omega) (by omega)).mp q; omega), gr_s hM.1, r35_31 L, li_s (o52 L) (by rw [k52 L]; show _ < 13; omega) (by rw [k52 L]; decide), hr (i + 1) (by omega) (by omega), show i + 1 - 1 = i from rfl]
    unfold M_ringer_60
    by_cases b : r.testBit i = true
    · rw [if_pos b, if_pos rfl, nmE, nmE, nI_1, nI_1]
      rw [if_pos b] at ih
      exact ih
    · rw [if_neg b, if_neg i10, nmE, nmE, nI_1, show nI (bcn r i) + 0 = nI (bcn r i + 0) from nI_add _ 0]
      rw [if_neg b] at ih
      exact ih
theorem op_ringer {N : Nat} {x y : Int32} {h : Hp} (hN : 100 < N) (hy : y = 0 ∨ y = 1) (I : Inv h) : Op (C_ringer N (some 0) x y) (M_ringer N (some 35) x y) h := by
  obtain ⟨n, mc, D, bs, ic, im, ik, i1, i2, i3, i4, i5, i6, ⟨r, r1, r2, r3⟩, i8, i9, i10', i11, i12⟩ := id I
  have L := i1.1
  have hn := i1.2.2
  have no : (x < 1 ∨ nI n < x) → Op (C_ringer N (some 0) x y) (M_ringer N (some 35) x y) h := by
    intro c
    by_cases c1 : x < 1
    · refine Op_id I (-1) ?_ ?_
      · unfold C_ringer; rw [if_pos c1]
      · unfold M_ringer; rw [if_pos c1]
    · have c2 : ¬ x ≤ nI n := by
        have := c.resolve_left c1
        rw [Int32.lt_iff_toInt_lt] at this
        rw [Int32.le_iff_toInt_le]; omega
      refine Op_id I (-1) ?_ ?_
      · unfold C_ringer; rw [if_neg c1, gi_s (o0 L), n0 i1, if_neg c2]
      · unfold M_ringer; rw [if_neg c1, gi_s (o35 L), i1.2.1.2, if_neg c2]
  rcases i32_cs x with c | ⟨b, hb, e⟩
  · exact no (Or.inl (i32_n c 1 (by omega)).1)
  subst e
  by_cases b1 : b < 1
  · exact no (Or.inl ((ltN_1 hb).mpr b1))
  by_cases bn : n < b
  · exact no (Or.inr ((nI_ltI (by omega) hb).mpr bn))
  have c1 : ¬ nI b < 1 := fun q => b1 ((ltN_1 hb).mp q)
  have c2 : nI b ≤ nI n := (nI_leI hb (by omega)).mpr (by omega)
  have p1 : (1 : Int32) <<< ((nI b - 1) &&& 31) = nI (2 ^ (b - 1)) := by rw [nI_m1 (by omega), nI_shl1 (by omega)]
  have tp : ∀ x, (2 ^ (b - 1)).testBit x = decide (b - 1 = x) := fun x => Nat.testBit_two_pow
  have pl : 2 ^ (b - 1) < 2 ^ n := Nat.pow_lt_pow_right (by decide) (by omega)
  have n12' : 2 ^ n ≤ 2 ^ 12 := Nat.pow_le_pow_right (by decide) (by omega)
  have key : ∀ (s : Nat) (v : Int32), s < 2 ^ n → (∀ x, s.testBit x = if b - 1 = x then decide (y ≠ 0) else r.testBit x) → (v = if y = 0 then 1 else 0) →
      C_ringer N (some 0) (nI b) y h = C_ringer_43 N (some 0) (some 0) (nI s) h → M_ringer N (some 35) (nI b) y (sI h 0 5 (nI s)) = M_ringer_29 N (some 35) (some 52) (nI b) v (sI h 0 5 (nI s)) → Op (C_ringer N (some 0) (nI b) y) (M_ringer N (some 35) (nI b) y) h := by
    intro s v hs ht hv eC eM
    have vn : vp_nar .boolean v = v := by rcases hy with e | e <;> subst e <;> subst hv <;> rfl
    have x0 : Fi (fun a k => a = 0 ∧ k = 5 ∨ a = 52 ∧ k = b) h (sI (sI h 0 5 (nI s)) 52 b v) := Fx_t (Fx_sI h _ (by omega)) (Fx_sI _ _ (by omega))
    have rr : ∀ c, 1 ≤ c → c ≤ n → hI (sI (sI h 0 5 (nI s)) 52 b v) 52 c = if s.testBit (c - 1) = true then 0 else 1 := by
      intro c h1 h2
      rw [ht]
      by_cases cb : c = b
      · subst cb
        rw [sI_at, if_pos rfl, hv]
        rcases hy with e | e <;> subst e <;> rfl
      · rw [sI_ne (fun _ => cb), sI_ne (by omega), if_neg (show ¬ b - 1 = c - 1 by omega), r3 c h1 h2]
    refine ⟨nI (bcn s n), sI h 0 5 (nI s), sI (sI h 0 5 (nI s)) 52 b v, ?_, ?_, ?_, Gr_F x0, show Lay (sI h 0 5 (nI s)) from (show Lay h from Inv_Lay I)⟩
    · rw [eC]
      unfold C_ringer_43
      rw [pi_s (o0 L), gi_s (show ok (sI h 0 5 (nI s)) [11] 0 = true from o0 L), sI_at, bitCount_s (by omega), cl_s, pc_n hn.2 hs]
    · rw [eM]
      unfold M_ringer_29
      rw [sz_s (show ok (sI h 0 5 (nI s)) [16] 52 = true from o52 L) (by rw [show hK (sI h 0 5 (nI s)) 52 = hK h 52 from rfl, k52 L]; show b < 13; omega) (by rw [show hK (sI h 0 5 (nI s)) 52 = hK h 52 from rfl, k52 L]; decide), vn]
      exact rg_loop (N := N) (r := s) (show Lay (sI (sI h 0 5 (nI s)) 52 b v) from L) ⟨o35 L, by rw [sI_ne (by omega), sI_ne (by omega)]; exact i1.2.1.2, hn⟩ rr n N 0 (by omega) (by omega)
    · have f := Gx_F x0
      have z := L.1
      have r' : ∀ (X : Nat → Nat → Prop) a k, X a k → ¬ nF a k := fun _ _ _ _ c => c
      refine ⟨n, mc, D, bs, ic, im, ik, Bs_g i1 f ?_ (r' _), Tr_g i2 z f ?_, Fdn_g i3 z f ?_, Tp_g i4 z f ?_, Ms_g i5 z f ?_, Cs_g i6 z f ?_ (r' _), ⟨s, hs, ?_, rr⟩, It_g i8 z f ?_ (r' _), Tc_g i9 z f ?_ (r' _), Pf_g i10' z f ?_, Ot_g i11 z f ?_ (r' _), Sr_g i12 i6.2.1 z f ?_ (r' _) (r' _)⟩ <;> first | (intro a k c d; omega) | skip
      rw [sI_ne (by omega), sI_at]
  rcases hy with e | e
  · subst e
    refine key (r ^^^ (r &&& 2 ^ (b - 1))) 1 (Nat.xor_lt_two_pow r1 (Nat.lt_of_le_of_lt Nat.and_le_left r1)) (fun x => ?_) rfl ?_ ?_
    · rw [Nat.testBit_xor, Nat.testBit_and, tp]
      by_cases q : b - 1 = x <;> simp [q]
    · unfold C_ringer
      rw [if_neg c1, gi_s (o0 L), n0 i1, if_pos c2, nmE, p1, if_pos rfl, gi_s (o0 L), r2, nI_andnot]
      intro x _
      rw [Nat.testBit_xor, Nat.testBit_and]
      cases r.testBit x <;> simp
    · unfold M_ringer
      rw [if_neg c1, gi_s (show ok (sI h 0 5 _) [12] 35 = true from o35 L), sI_ne (by omega), i1.2.1.2, if_pos c2, gr_s (show ok (sI h 0 5 _) [12] 35 = true from o35 L), hR_sI, r35_31 L, if_pos rfl]
  · subst e
    refine key (r ||| 2 ^ (b - 1)) 0 (Nat.or_lt_two_pow r1 pl) (fun x => ?_) rfl ?_ ?_
    · rw [Nat.testBit_or, tp]
      by_cases q : b - 1 = x <;> simp [q]
    · unfold C_ringer
      rw [if_neg c1, gi_s (o0 L), n0 i1, if_pos c2, nmE, p1, if_neg i10, gi_s (o0 L), r2, nI_or]
    · unfold M_ringer
      rw [if_neg c1, gi_s (show ok (sI h 0 5 _) [12] 35 = true from o35 L), sI_ne (by omega), i1.2.1.2, if_pos c2, gr_s (show ok (sI h 0 5 _) [12] 35 = true from o35 L), hR_sI, r35_31 L, if_neg i10]
theorem op_found {N : Nat} {x : Int32} {h : Hp} (I : Inv h) : Op (C_found N (some 0) x) (M_found N (some 35) x) h := by
  obtain ⟨n, mc, D, bs, ic, im, ik, B, -, -, -, -, -, -, -, -, -, -, -, -, -, S⟩ := id I
  have L := B.1
  have no : ¬ hI h 17 17 = 1 → hI h 35 53 = 0 → Op (C_found N (some 0) x) (M_found N (some 35) x) h := by
    intro a b
    refine Op_id I (-1) ?_ ?_
    · unfold C_found Search_itemFound Search_itemFound_20
      rw [gr_s (o0 L), r0_8 L, ds_1 (o17 L), gi_s (o17 L), if_neg a, cl_s]
    · unfold M_found
      by_cases c : x < 0
      · rw [if_pos c]
      · rw [if_neg c, gi_s (o35 L), b, if_pos (by rw [Int32.le_iff_toInt_le]; rw [Int32.lt_iff_toInt_lt] at c; omega)]
  rcases S with ⟨s1, s2, s3⟩ | ⟨s1, s2, s3, ⟨s4, s5⟩ | ⟨s4, len, l1, l2, l3, l4⟩ | ⟨s4, s5, -⟩⟩
  · exact no (by rw [s1]; decide) s3
  · exact no (by rw [s4]; decide) s5
  · rcases i32_cs x with c | ⟨m, hm, e⟩
    · refine Op_id I (-1) ?_ ?_
      · unfold C_found Search_itemFound Search_itemFound_20
        rw [gr_s (o0 L), r0_8 L, ds_1 (o17 L), gi_s (o17 L), if_pos s4, if_pos c, cl_s]
      · unfold M_found
        rw [if_pos c]
    · subst e
      by_cases ml : m < len
      · obtain ⟨t, t1, t2, t3⟩ := l4 m ml
        refine Op_id I (hI h 60 m) ?_ ?_
        · unfold C_found Search_itemFound
          rw [gr_s (o0 L), r0_8 L, ds_1 (o17 L), gi_s (o17 L), if_pos s4, if_neg (nI_pos hm), gi_s (o17 L), l2, if_pos ((nI_ltI hm (by omega)).mpr ml), gr_s (o17 L), r17_0 L, gr_s (o17 L), r17_12 L, li_s (o27 L) (by rw [k27 L]; show m < 12; omega) (by rw [k27 L]; decide), t2, li_s (o18 L) (by rw [k18 L]; exact t1) (by rw [k18 L]; decide), t3, cl_s]
        · unfold M_found
          rw [if_neg (nI_pos hm), gi_s (o35 L), l3, if_neg (fun q => by have := (nI_leI (by omega) hm).mp q; omega), gr_s (o35 L), r35_52 L, li_s (o60 L) (by rw [k60 L]; show m < 12; omega) (by rw [k60 L]; decide)]
      · refine Op_id I (-1) ?_ ?_
        · unfold C_found Search_itemFound Search_itemFound_20
          rw [gr_s (o0 L), r0_8 L, ds_1 (o17 L), gi_s (o17 L), if_pos s4, if_neg (nI_pos hm), gi_s (o17 L), l2, if_neg (fun q => ml ((nI_ltI hm (by omega)).mp q)), cl_s]
        · unfold M_found
          rw [if_neg (nI_pos hm), gi_s (o35 L), l3, if_pos ((nI_leI (by omega) hm).mpr (by omega))]
  · exact no (by rw [s4]; decide) s5
theorem pf_lt {p m : Nat} (hp : p ≤ 2001) (hm : m < 2 ^ 31) : (nI m < (if p = 0 then -1 else nI p)) ↔ m < p := by
  by_cases c : p = 0
  · subst c
    rw [if_pos rfl]
    constructor
    · intro q
      have := Int32.lt_iff_toInt_lt.mp q
      rw [nI_toInt hm, show (-1 : Int32).toInt = -1 from rfl] at this
      omega
    · intro q; omega
  · rw [if_neg c]; exact nI_ltI hm (by omega)
theorem pf_le {p m : Nat} (hp : p ≤ 2001) (hm : m < 2 ^ 31) : ((if p = 0 then -1 else nI p) ≤ nI m) ↔ p ≤ m := by
  have := pf_lt hp hm
  rw [Int32.lt_iff_toInt_lt] at this
  rw [Int32.le_iff_toInt_le]
  omega
theorem op_proofAt {N : Nat} {x : Int32} {h : Hp} (I : Inv h) : Op (C_proofAt N (some 0) x) (M_proofAt N (some 35) x) h := by
  obtain ⟨n, mc, D, bs, ic, im, ik, B, -, -, -, -, -, -, -, -, ⟨p, p0, p1, p2, p3⟩, -⟩ := id I
  have L := B.1
  rcases i32_cs x with c | ⟨m, hm, e⟩
  · refine Op_id I (-1) ?_ ?_
    · unfold C_proofAt; rw [if_pos c]
    · unfold M_proofAt; rw [if_pos c]
  subst e
  by_cases ml : m < p
  · refine Op_id I (hI h 50 m) ?_ ?_
    · unfold C_proofAt
      rw [if_neg (nI_pos hm), gr_s (o0 L), r0_7 L, gi_s (o6 L), p1, if_pos ((nI_ltI hm (by omega)).mpr ml), gr_s (o0 L), r0_7 L, gr_s (o6 L), r6_14 L, li_s (o16 L) (by rw [k16 L]; show m < 2001; omega) (by rw [k16 L]; decide), p3 m ml]
    · unfold M_proofAt
      rw [if_neg (nI_pos hm), gi_s (o35 L), p2, if_neg (fun q => by have := (pf_le p0 hm).mp q; omega), gr_s (o35 L), r35_28 L, li_s (o50 L) (by rw [k50 L]; show m < 2001; omega) (by rw [k50 L]; decide)]
  · refine Op_id I (-1) ?_ ?_
    · unfold C_proofAt
      rw [if_neg (nI_pos hm), gr_s (o0 L), r0_7 L, gi_s (o6 L), p1, if_neg (fun q => ml ((nI_ltI hm (by omega)).mp q))]
    · unfold M_proofAt
      rw [if_neg (nI_pos hm), gi_s (o35 L), p2, if_pos ((pf_le p0 hm).mpr (by omega))]
theorem op_forge {N : Nat} {x y : Int32} {h : Hp} (I : Inv h) : Op (C_forge N (some 0) x y) (M_forge N (some 35) x y) h := by
  obtain ⟨n, mc, D, bs, ic, im, ik, i1, i2, i3, i4, i5, i6, i7, i8, i9, ⟨p, p0, p1, p2, p3⟩, i11, i12⟩ := id I
  have L := i1.1
  rcases i32_cs x with c | ⟨m, hm, e⟩
  · refine Op_id I (-1) ?_ ?_
    · unfold C_forge; rw [if_pos c]
    · unfold M_forge; rw [if_pos c]
  subst e
  by_cases ml : m < p
  · have x0 : Fi (fun a k => a = 16 ∧ k = m ∨ a = 50 ∧ k = m) h (sI (sI h 16 m y) 50 m y) := Fx_t (Fx_sI h _ (by omega)) (Fx_sI _ _ (by omega))
    refine ⟨hI h 50 m, sI h 16 m y, sI (sI h 16 m y) 50 m y, ?_, ?_, ?_, Gr_F x0, show Lay (sI h 16 m y) from (show Lay h from Inv_Lay I)⟩
    · unfold C_forge
      rw [if_neg (nI_pos hm), gr_s (o0 L), r0_7 L, gi_s (o6 L), p1, if_pos ((nI_ltI hm (by omega)).mpr ml), gr_s (o0 L), r0_7 L, gr_s (o6 L), r6_14 L, li_s (o16 L) (by rw [k16 L]; show m < 2001; omega) (by rw [k16 L]; decide), p3 m ml, gr_s (o0 L), r0_7 L, gr_s (o6 L), r6_14 L, si_s (o16 L) (by rw [k16 L]; show m < 2001; omega) (by rw [k16 L]; decide)]
    · have L1 : Lay (sI h 16 m y) := L
      unfold M_forge
      rw [if_neg (nI_pos hm), gi_s (o35 L1), sI_ne (by omega), p2, if_pos ((pf_lt p0 hm).mpr ml), gr_s (o35 L1), r35_28 L1, li_s (o50 L1) (by rw [k50 L1]; show m < 2001; omega) (by rw [k50 L1]; decide), sI_ne (by omega), gr_s (o35 L1), r35_28 L1, si_s (o50 L1) (by rw [k50 L1]; show m < 2001; omega) (by rw [k50 L1]; decide)]
    · have f := Gx_F x0
      have z := L.1
      have r' : ∀ (X : Nat → Nat → Prop) a k, X a k → ¬ nF a k := fun _ _ _ _ c => c
      refine ⟨n, mc, D, bs, ic, im, ik, Bs_g i1 f ?_ (r' _), Tr_g i2 z f ?_, Fdn_g i3 z f ?_, Tp_g i4 z f ?_, Ms_g i5 z f ?_, Cs_g i6 z f ?_ (r' _), Rg_g i7 z f ?_, It_g i8 z f ?_ (r' _), Tc_g i9 z f ?_ (r' _), ⟨p, p0, ?_, ?_, fun j hj => ?_⟩, Ot_g i11 z f ?_ (r' _), Sr_g i12 i6.2.1 z f ?_ (r' _) (r' _)⟩ <;> first | (intro a k c d; omega) | skip
      · rw [Fx_I x0 (by omega)]; exact p1
      · rw [Fx_I x0 (by omega)]; exact p2
      · by_cases jm : j = m
        · subst jm
          rw [sI_at, sI_ne (by omega), sI_at]
        · rw [Fx_I x0 (by omega), Fx_I x0 (by omega)]; exact p3 j hj
  · refine Op_id I (-1) ?_ ?_
    · unfold C_forge
      rw [if_neg (nI_pos hm), gr_s (o0 L), r0_7 L, gi_s (o6 L), p1, if_neg (fun q => ml ((nI_ltI hm (by omega)).mp q))]
    · unfold M_forge
      rw [if_neg (nI_pos hm), gi_s (o35 L), p2, if_neg (fun q => ml ((pf_lt p0 hm).mp q))]
