/-! PURE: calls that read the ringing, the counts, the trace -/
theorem RO_9 {h : Hp} (L : Lay h) : RO h 9 10 11 12 2001 := ⟨o9 L, ⟨r9_0 L, r9_1 L, r9_2 L⟩, ⟨k11 L, k12 L, k10 L⟩, by have := L.1; omega, by omega, by omega⟩
theorem RO_22 {h : Hp} (L : Lay h) : RO h 22 23 24 25 1201 := ⟨o22 L, ⟨r22_0 L, r22_1 L, r22_2 L⟩, ⟨k24 L, k25 L, k23 L⟩, by have := L.1; omega, by omega, by omega⟩
theorem RO_31 {h : Hp} (L : Lay h) : RO h 31 32 33 34 100 := ⟨o31 L, ⟨r31_0 L, r31_1 L, r31_2 L⟩, ⟨k33 L, k34 L, k32 L⟩, by have := L.1; omega, by omega, by omega⟩
theorem i32_cs (x : Int32) : x < 0 ∨ ∃ m, m < 2 ^ 31 ∧ x = nI m := by
  by_cases c : x < 0
  · exact Or.inl c
  · exact Or.inr (i32_of c)
theorem i32_n {x : Int32} (c : x < 0) (k : Nat) (hk : k < 2 ^ 31) : x < nI k ∧ ¬ nI k ≤ x ∧ ¬ nI k < x ∧ x ≤ nI k := by
  have := Int32.lt_iff_toInt_lt.mp c
  have e := nI_toInt (n := k) hk
  have z : (0 : Int32).toInt = 0 := rfl
  rw [Int32.lt_iff_toInt_lt, Int32.le_iff_toInt_le, Int32.lt_iff_toInt_lt, Int32.le_iff_toInt_le, e]
  omega
theorem at_ok {h : Hp} {n rc : Nat} {rw : Nat → Nat} {st : Bool} {cm : Option Nat} {ni cn ca : Nat} {cf : Nat → Nat} {N i : Nat} (L : Lay h) (C : TC h n rc rw st cm ni cn ca cf) (hi : i < rc) : C_at N (some 0) (nI i) h = some (lN (rw i), h) := by
  unfold C_at
  simp only [gr_s, o0, o6, r0_7, r6_5, ds_1, o9, L]
  rw [codeAt_s (RO_9 L) C.1 hi, cl_s]
theorem at_no {h : Hp} {n rc : Nat} {rw : Nat → Nat} {st : Bool} {cm : Option Nat} {ni cn ca : Nat} {cf : Nat → Nat} {N : Nat} {x : Int32} (L : Lay h) (C : TC h n rc rw st cm ni cn ca cf) (hx : ∀ i, i < rc → x ≠ nI i) : C_at N (some 0) x h = some (0, h) := by
  unfold C_at
  simp only [gr_s, o0, o6, r0_7, r6_5, ds_1, o9, L]
  rw [codeAt_0 (RO_9 L) C.1 hx, cl_s]
theorem op_at {N : Nat} {x : Int32} {h : Hp} (I : Inv h) : Op (C_at N (some 0) x) (M_at N (some 35) x) h := by
  obtain ⟨n, mc, D, bs, ic, im, ik, B, -, -, -, -, -, -, -, ⟨rc, rw, st, cm, ni, cn, ca, cf, W, C, M⟩, -⟩ := id I
  have L := B.1
  have h2 := W.1.2
  rcases i32_cs x with c | ⟨m, hm, e⟩
  · refine Op_id I 0 (at_no L C (fun i hi e => i32_neg c (by omega) e)) ?_
    unfold M_at
    rw [if_pos c]
  · subst e
    have c0 : ¬ nI m < 0 := nI_pos hm
    by_cases hr : m < rc
    · refine Op_id I (lN (rw m)) (at_ok L C hr) ?_
      unfold M_at
      rw [if_neg c0, gi_s (o35 L), M.2.1, if_neg (fun q => by have := (nI_leI (by omega) hm).mp q; omega), gr_s (o35 L), r35_20 L, ll_s (o48 L) (by rw [k48 L]; show m < 2001; omega) (by rw [k48 L]; decide), M.1 m hr]
    · refine Op_id I 0 (at_no L C (fun i hi e => by have := (nI_eqk i hm (by omega)).mp e; omega)) ?_
      unfold M_at
      rw [if_neg c0, gi_s (o35 L), M.2.1, if_pos ((nI_leI (by omega) hm).mpr (by omega))]
theorem op_round {N : Nat} {h : Hp} (I : Inv h) : Op (C_round N (some 0)) (M_round N (some 35)) h := by
  obtain ⟨n, mc, D, bs, ic, im, ik, B, -, -, -, -, -, -, -, ⟨rc, rw, st, cm, ni, cn, ca, cf, W, C, M⟩, -⟩ := id I
  have L := B.1
  refine Op_id I (oI cm) ?_ ?_
  · unfold C_round
    simp only [gr_s, gi_s, o0, o6, r0_7, L, C.2.2.2.1]
  · unfold M_round
    simp only [gi_s, o35, L, M.2.2.2.1]
theorem op_count {N : Nat} {x : Int32} {h : Hp} (I : Inv h) : Op (C_count N (some 0) x) (M_count_4 N (some 35) x) h := by
  obtain ⟨n, mc, D, bs, ic, im, ik, B, T, F, ⟨t, t0, t1, t2, t3⟩, Mm, Cc, -, ⟨-, -, ItC, ItM⟩, -, ⟨p, p0, p1, p2, p3⟩, -, -, ⟨-, s2⟩, -⟩ := id I
  have L := B.1
  unfold Fdn at F
  have q : jmax (if p = 0 then -1 else nI p) 0 = nI p := by
    by_cases c : p = 0
    · subst c; rfl
    · rw [if_neg c]; unfold jmax; rw [if_neg (nI_pos (by omega))]
  have eC : C_count N (some 0) x h = sw x [(0, some (nI n, h)), (1, some (nI mc, h)), (2, some (nI ic, h)), (3, some (nI t, h)), (4, some (nI p, h)), (5, some (hI h 17 18, h)), (6, some (hI h 0 6, h))] (some (-1, h)) := by
    unfold C_count
    simp only [gr_s, gi_s, o0, o1, o6, o17, r0_7, r0_0, r0_8, L, B.2.1.1, Cc.1, ItC.1, t1, p1]
  have eM : M_count_4 N (some 35) x h = sw x [(0, some (nI n, h)), (1, some (nI mc, h)), (2, some (nI ic, h)), (3, some (nI t, h)), (4, some (nI p, h)), (5, some (hI h 17 18, h)), (6, some (hI h 0 6, h))] (some (-1, h)) := by
    unfold M_count_4
    simp only [gr_s, gi_s, o35, L, B.2.1.2, Mm.1, ItM.1, t2, p2, q, s2, F]
  have e : ∃ r, sw x [(0, some (nI n, h)), (1, some (nI mc, h)), (2, some (nI ic, h)), (3, some (nI t, h)), (4, some (nI p, h)), (5, some (hI h 17 18, h)), (6, some (hI h 0 6, h))] (some (-1, h)) = some (r, h) := by
    simp only [sw]
    (repeat' split) <;> exact ⟨_, rfl⟩
  obtain ⟨r, e⟩ := e
  exact Op_id I r (by rw [eC, e]) (by rw [eM, e])
theorem op_trace {N : Nat} {x y : Int32} {h : Hp} (I : Inv h) : Op (C_trace N (some 0) x y) (M_trace N (some 35) x y) h := by
  obtain ⟨n, mc, D, bs, ic, im, ik, B, T, -⟩ := id I
  have L := B.1
  rcases i32_cs x with c | ⟨a, ha, e⟩
  · refine Op_id I (-1) ?_ ?_
    · unfold C_trace; rw [if_pos c]
    · unfold M_trace; rw [if_pos c]
  subst e
  by_cases a6 : 6 ≤ a
  · refine Op_id I (-1) ?_ ?_
    · unfold C_trace; rw [if_neg (nI_pos ha), if_pos ((Nle_6 ha).mpr a6)]
    · unfold M_trace; rw [if_neg (nI_pos ha), if_pos ((Nle_6 ha).mpr a6)]
  have a7 : ¬ (6 : Int32) ≤ nI a := fun q => a6 ((Nle_6 ha).mp q)
  rcases i32_cs y with c | ⟨b, hb, e⟩
  · refine Op_id I (-1) ?_ ?_
    · unfold C_trace; rw [if_neg (nI_pos ha), if_neg a7, if_pos c]
    · unfold M_trace; rw [if_neg (nI_pos ha), if_neg a7, if_pos c]
  subst e
  by_cases b6 : 3 ≤ b
  · refine Op_id I (-1) ?_ ?_
    · unfold C_trace; rw [if_neg (nI_pos ha), if_neg a7, if_neg (nI_pos hb), if_pos ((Nle_3 hb).mpr b6)]
    · unfold M_trace; rw [if_neg (nI_pos ha), if_neg a7, if_neg (nI_pos hb), if_neg (fun q => by have := (leN_2 hb).mp q; omega)]
  have hi : 3 * a + b < 18 := by omega
  have eC : C_trace N (some 0) (nI a) (nI b) h = cl (C_hasOwnBody N (nI a) (nI b) h) fun x2 h1 => if x2 = 0 then (some ((-1), h1)) else (gr [11] 1 (some 0) h1 fun x3 =>
  li 13 x3 ((nI a * (3 : Int32)) + nI b) h1 fun x4 =>
  some (x4, h1)) := by
    unfold C_trace; rw [if_neg (nI_pos ha), if_neg a7, if_neg (nI_pos hb), if_neg (fun q => b6 ((Nle_3 hb).mp q))]
  have vC : (gr [11] 1 (some 0) h fun x3 => li 13 x3 ((nI a * (3 : Int32)) + nI b) h fun x4 => some (x4, h)) = some (hI h 4 (3 * a + b), h) := by
    rw [gr_s (o0 L), r0_1 L, Int32.mul_comm, mN_3, nI_add, li_s (o4 L) (by rw [k4 L]; exact hi) (by rw [k4 L]; decide)]
  have vM : M_trace_62 N (some 35) (nI a) (nI b) 1 h = some (hI h 4 (3 * a + b), h) := by
    unfold M_trace_62
    rw [if_neg i10, gr_s (o35 L), r35_4 L, mN_3, nI_add, li_s (o37 L) (by rw [k37 L]; exact hi) (by rw [k37 L]; decide), T.1]
  have vM0 : M_trace_62 N (some 35) (nI a) (nI b) 0 h = some (-1, h) := by
    unfold M_trace_62
    rw [if_pos rfl]
  have eM : M_trace N (some 35) (nI a) (nI b) h = (if nI b = 0 then (if nI a = 0 then some (hI h 4 (3 * a + b), h) else (if nI a = 4 then some (hI h 4 (3 * a + b), h) else (if nI a = 5 then some (hI h 4 (3 * a + b), h) else some (-1, h)))) else (if nI b = 2 then some (hI h 4 (3 * a + b), h) else (if nI a = 2 then some (-1, h) else some (hI h 4 (3 * a + b), h)))) := by
    unfold M_trace M_trace_39 M_trace_57; rw [if_neg (nI_pos ha), if_neg a7, if_neg (nI_pos hb), if_pos ((leN_2 hb).mpr (by omega)), vM, vM0]
  have hb3 : b = 0 ∨ b = 1 ∨ b = 2 := by omega
  have ha6 : a = 0 ∨ a = 1 ∨ a = 2 ∨ a = 3 ∨ a = 4 ∨ a = 5 := by omega
  generalize hI h 4 (3 * a + b) = v at vC eM
  have oC : ∀ o : Bool, C_hasOwnBody N (nI a) (nI b) h = some (qI o, h) → C_trace N (some 0) (nI a) (nI b) h = some (if o = true then v else -1, h) := by
    intro o e
    rw [eC, e, cl_s]
    cases o
    · rw [if_pos (show qI false = 0 from rfl)]; rfl
    · rw [if_neg (show ¬ qI true = 0 by decide), vC]; rfl
  rcases hb3 with rfl | rfl | rfl <;> rcases ha6 with rfl | rfl | rfl | rfl | rfl | rfl
  · exact Op_id I v (oC true (by rfl)) (by rw [eM]; rfl)
  · exact Op_id I (-1) (oC false (by rfl)) (by rw [eM]; rfl)
  · exact Op_id I (-1) (oC false (by rfl)) (by rw [eM]; rfl)
  · exact Op_id I (-1) (oC false (by rfl)) (by rw [eM]; rfl)
  · exact Op_id I v (oC true (by rfl)) (by rw [eM]; rfl)
  · exact Op_id I v (oC true (by rfl)) (by rw [eM]; rfl)
  · exact Op_id I v (oC true (by rfl)) (by rw [eM]; rfl)
  · exact Op_id I v (oC true (by rfl)) (by rw [eM]; rfl)
  · exact Op_id I (-1) (oC false (by rfl)) (by rw [eM]; rfl)
  · exact Op_id I v (oC true (by rfl)) (by rw [eM]; rfl)
  · exact Op_id I v (oC true (by rfl)) (by rw [eM]; rfl)
  · exact Op_id I v (oC true (by rfl)) (by rw [eM]; rfl)
  all_goals exact Op_id I v (oC true (by rfl)) (by rw [eM]; rfl)
/-! feeding and ending -/
def nb (y : Int32) : Int32 := Int8.toInt32 (Int32.toInt8 y)
theorem nb_nb (y : Int32) : vp_nar .byte (nb y) = nb y := by
  show Int8.toInt32 (Int32.toInt8 (nb y)) = nb y
  unfold nb
  rw [Int8.toInt8_toInt32]
theorem b255 (y : Int32) : ∃ b, b < 256 ∧ y &&& 255 = nI b ∧ nb y = Int8.toInt32 (Int32.toInt8 (nI b)) := by
  obtain ⟨m, hm, e⟩ := wb_of32 y
  refine ⟨m % 256, Nat.mod_lt _ (by decide), ?_, ?_⟩
  · rw [e]
    have := nI_and m 255
    rw [show nI 255 = 255 from rfl] at this
    rw [this]
    exact congrArg nI (Nat.and_two_pow_sub_one_eq_mod m 8)
  · unfold nb
    rw [e]
    have : Int32.toInt8 (nI m) = Int32.toInt8 (nI (m % 256)) := by
      apply Int8.toBitVec_inj.mp
      show (BitVec.ofNat 32 m).signExtend 8 = (BitVec.ofNat 32 (m % 256)).signExtend 8
      apply BitVec.eq_of_getLsbD_eq
      intro i hi
      rw [BitVec.getLsbD_signExtend, BitVec.getLsbD_signExtend, BitVec.getLsbD_ofNat, BitVec.getLsbD_ofNat, show (256 : Nat) = 2 ^ 8 from rfl, Nat.testBit_mod_two_pow]
      simp [hi, show i < 32 by omega]
    rw [this]
theorem op_end {N : Nat} {x : Int32} {h : Hp} (I : Inv h) : Op (C_end N (some 0) x) (M_end N (some 35) x) h := by
  obtain ⟨n, mc, D, bs, ic, im, ik, i1, i2, i3, ⟨t, t0, t1, t2, t3⟩, i5, i6, i7, i8, i9, i10', i11, i12⟩ := id I
  have L := i1.1
  rcases i32_cs x with c | ⟨a, ha, e⟩
  · refine Op_id I (-1) ?_ ?_
    · unfold C_end; rw [if_pos c]
    · unfold M_end; rw [if_pos c]
  subst e
  by_cases at' : a ≤ t
  · refine ⟨nI a, sI h 1 1 (nI a), sI (sI h 1 1 (nI a)) 35 1 (nI a), ?_, ?_, ?_, ?_, show Lay (sI h 1 1 (nI a)) from (show Lay h from Inv_Lay I)⟩
    · unfold C_end
      rw [if_neg (nI_pos ha), gr_s (o0 L), r0_0 L, gi_s (o1 L), t1, if_pos ((nI_leI ha (by omega)).mpr at'), gr_s (o0 L), r0_0 L, pi_s (o1 L)]
    · unfold M_end
      rw [if_neg (nI_pos ha), gi_s (show ok (sI h 1 1 (nI a)) [12] 35 = true from o35 L), sI_ne (by omega), t2, if_pos ((nI_leI ha (by omega)).mpr at')]
      simp only [pi_s, gi_s, ok_sI, o35, L, sI_at]
    · have x0 : Fi (fun a k => a = 1 ∧ k = 1 ∨ a = 35 ∧ k = 1) h (sI (sI h 1 1 (nI a)) 35 1 (nI a)) := Fx_t (Fx_sI h _ (by omega)) (Fx_sI _ _ (by omega))
      have f := Gx_F x0
      have z := L.1
      have r : ∀ (X : Nat → Nat → Prop) a k, X a k → ¬ nF a k := fun _ _ _ _ c => c
      refine ⟨n, mc, D, bs, ic, im, ik, Bs_g i1 f ?_ (r _), Tr_g i2 z f ?_, Fdn_g i3 z f ?_, ⟨a, by omega, ?_, ?_, fun k hk => ?_⟩, Ms_g i5 z f ?_, Cs_g i6 z f ?_ (r _), Rg_g i7 z f ?_, It_g i8 z f ?_ (r _), Tc_g i9 z f ?_ (r _), Pf_g i10' z f ?_, Ot_g i11 z f ?_ (r _), Sr_g i12 i6.2.1 z f ?_ (r _) (r _)⟩ <;> first | (intro a k c d; omega) | skip
      · rw [sI_ne (by omega), sI_at]
      · rw [sI_at]
      · rw [sI_ne (by omega), sI_ne (by omega), sI_ne (by omega), sI_ne (by omega)]
        exact t3 k (by omega)
    · exact Gr_F (Fx_t (Fx_sI h (P := fun _ _ => True) (Q := nF) _ trivial) (Fx_sI _ _ trivial))
  · refine Op_id I (-1) ?_ ?_
    · unfold C_end
      rw [if_neg (nI_pos ha), gr_s (o0 L), r0_0 L, gi_s (o1 L), t1, if_neg (fun q => at' ((nI_leI ha (by omega)).mp q))]
    · unfold M_end
      rw [if_neg (nI_pos ha), gi_s (o35 L), t2, if_neg (fun q => at' ((nI_leI ha (by omega)).mp q))]
