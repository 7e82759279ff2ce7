/-! PURE: the search, by the model: an item begins -/
theorem nar_1 : vp_nar .byte (Int8.toInt32 (Int32.toInt8 1)) = nI 1 := (nb_nb 1).trans (by decide)
theorem nar_2 : vp_nar .byte (Int8.toInt32 (Int32.toInt8 2)) = nI 2 := (nb_nb 2).trans (by decide)
theorem copy_125 {N M : Nat} {F : Nat → Nat} (hM : M ≤ 100) : ∀ (r g i : Nat) (h : Hp), i + r = M → r < g → Lay h → hI h 35 14 = nI M → (∀ k, k < M → hI h 45 k = nI (F k)) → (∀ k, k < i → hI h 59 k = nI (F k)) → ∃ h', M_begins_125 N g (some 35) (nI i) h = some (1, h') ∧ Fi (fun a k => a = 35 ∧ (k = 50 ∨ k = 51) ∨ a = 59) h h' ∧ hI h' 35 50 = nI M ∧ hI h' 35 51 = nI 0 ∧ ∀ k, k < M → hI h' 59 k = nI (F k)
  | r, 0, _, _, _, hg, _, _, _, _ => absurd hg (by omega)
  | 0, g + 1, i, h, hi, _, L, e, hw, hc => by
    simp only [M_begins_125]
    have L1 := lay_s 35 50 (nI M) L
    rw [gi_s (o35 L), e, if_pos ((nI_leI (by omega) (by omega)).mpr (by omega)), gi_s (o35 L), e, pi_s (o35 L), pi_s (o35 L1), rz_1]
    refine ⟨_, rfl, Fx_t (Fx_sI _ _ (by omega)) (Fx_sI _ _ (by omega)), by rw [sI_ne (by omega), sI_at], by rw [sI_at]; rfl, fun k hk => ?_⟩
    rw [sI_ne (by omega), sI_ne (by omega)]
    exact hc k (by omega)
  | r + 1, g + 1, i, h, hi, hg, L, e, hw, hc => by
    simp only [M_begins_125]
    rw [gi_s (o35 L), e, if_neg (fun u => absurd ((nI_leI (by omega) (by omega)).mp u) (by omega)), gr_s (o35 L), r35_49 L, gr_s (o35 L), r35_13 L, li_s (o45 L) (by rw [k45 L]; show i < 100; omega) (by rw [k45 L]; decide), hw i (by omega), si_s (o59 L) (by rw [k59 L]; show i < 100; omega) (by rw [k59 L]; decide), nmE, show nI i + 1 = nI (i + 1) from aN_1 i]
    obtain ⟨h', a1, a2, a3⟩ := copy_125 (N := N) (F := F) hM r g (i + 1) (sI h 59 i (nI (F i))) (by omega) (by omega) L (by rw [sI_ne (by omega)]; exact e) (fun k hk => by rw [sI_ne (by omega)]; exact hw k hk) (fun k hk => by
      by_cases q : k = i
      · rw [q, sI_at]
      · rw [sI_ne (by omega)]; exact hc k (by omega))
    exact ⟨h', a1, Fx_t (Fx_sI _ _ (by omega)) a2, a3⟩
def PMb (idx : Nat) (a k : Nat) : Prop := a = 35 ∧ (k = 14 ∨ k = 15 ∨ k = 16 ∨ k = 50 ∨ k = 51) ∨ a = 37 ∨ a = 45 ∨ a = 55 ∧ k = idx ∨ a = 59
theorem begins_M {N n mc dp j : Nat} {D : Nat → Md} {cc : Nat} {ch : Nat → Nat} {kv : Nat} {h : Hp} (hN : 3000 < N) (L : Lay h) (M : Ms h n mc D) (e16 : hI h 35 16 = 1) (hcc : ∀ j, j < cc → ch j < 3 * mc) (c90 : cc ≤ 90) (hj : j < cc) (dl : dp < 12) (e43 : hI h 35 43 = nI dp) (e56 : hI h 56 dp = nI j) (e54 : hI h 54 j = nI (ch j)) (e55 : hI h 55 (90 * dp + j) = nI kv) (k2 : kv ≤ 2) (k1 : kv = 1 → (LRd D ch dp j).1 = 0 ∧ 0 < (LRd D ch dp j).2.1) :
    ∃ h', ds [(12, M_begins N (some 35) h)] (some 35) h = some (qI (decide ((if kv = 0 then kn1 (LRd D ch dp j) else kv) = 1)), h') ∧ Fi (PMb (90 * dp + j)) h h' ∧ hI h' 37 = bm (hI h 37) (if kv = 0 then CT D (ch j / 3) dp (ch j % 3) else []) ∧ hI h' 35 16 = 1 ∧ hI h' 55 (90 * dp + j) = nI (if kv = 0 then kn1 (LRd D ch dp j) else kv) ∧ ((if kv = 0 then kn1 (LRd D ch dp j) else kv) = 1 → hI h' 35 50 = nI (LRd D ch dp j).2.1 ∧ hI h' 35 51 = nI 0 ∧ ∀ k, k < (LRd D ch dp j).2.1 → hI h' 59 k = nI ((LRd D ch dp j).2.2 k)) := by
  have m30 := M.2.1
  have hm : ch j / 3 < mc := by have := hcc j hj; omega
  have c91 : ch j < 90 := by have := hcc j hj; omega
  have wm : ∀ m, m < mc → Wm n m D := fun m hm => (M.2.2 m hm).2
  have rok : RW n (LRd D ch dp j) := CR_ok wm hm
  have i1080 : 90 * dp + j < 1080 := by omega
  have ix : ((nI dp * (30 : Int32)) * (3 : Int32)) + nI j = nI (90 * dp + j) := by
    rw [show (30 : Int32) = nI 30 from rfl, show (3 : Int32) = nI 3 from rfl, pk_mul, pk_mul, nI_add]
    congr 1; omega
  have rdk : ∀ {β : Type} (f : Int32 → Option β), (gr [12] 42 (some 35) h fun x11 => li 15 x11 (nI (90 * dp + j)) h f) = f (nI kv) := fun f => by
    rw [gr_s (o35 L), r35_42 L, li_s (o55 L) (by rw [k55 L]; exact i1080) (by rw [k55 L]; decide), e55]
  have pre : ds [(12, M_begins N (some 35) h)] (some 35) h = if nI kv = 2 then rz 0 h else (if nI kv = 0 then (M_begins_62 N (some 35) (nI (ch j)) (nI (90 * dp + j)) (some 35) 1 h) else (M_begins_62 N (some 35) (nI (ch j)) (nI (90 * dp + j)) (some 35) 0 h)) := by
    rw [dM L]
    unfold M_begins
    rw [gr_s (o35 L), r35_40 L, gr_s (o35 L), r35_45 L, gi_s (o35 L), e43, li_s (o56 L) (by rw [k56 L]; exact dl) (by rw [k56 L]; decide), e56, li_s (o54 L) (by rw [k54 L]; show j < 90; omega) (by rw [k54 L]; decide), e54, gi_s (o35 L), e43, gr_s (o35 L), r35_45 L, gi_s (o35 L), e43, li_s (o56 L) (by rw [k56 L]; exact dl) (by rw [k56 L]; decide), e56, ix, nmE, rdk, rdk]
  obtain ⟨R, eR⟩ : ∃ R, R = LRd D ch dp j := ⟨_, rfl⟩
  have eR' : R = CR D (ch j / 3) dp (ch j % 3) := eR
  rw [← eR] at rok k1 ⊢
  have r100 := rok.2.1
  have r8 := rok.1
  obtain ⟨q1, q2, q3, q4⟩ := kn1_le R
  /- the lead is made -/
  have go : ∀ b : Bool, ∃ h', M_begins_62 N (some 35) (nI (ch j)) (nI (90 * dp + j)) (some 35) (qI b) h = some (qI (decide (kn1 R = 1)), h') ∧ Fi (PMb (90 * dp + j)) h h' ∧ hI h' 37 = bq b (hI h 37) (CT D (ch j / 3) dp (ch j % 3)) ∧ hI h' 35 16 = 1 ∧ hI h' 55 (90 * dp + j) = nI (kn1 R) ∧ (kn1 R = 1 → hI h' 35 50 = nI R.2.1 ∧ hI h' 35 51 = nI 0 ∧ ∀ k, k < R.2.1 → hI h' 59 k = nI (R.2.2 k)) := by
    intro b
    have l1 := lay_s 35 16 (qI b) L
    have x1 : Fi (fun a k => a = 35 ∧ k = 16) h (sI h 35 16 (qI b)) := Fx_sI _ _ ⟨rfl, rfl⟩
    obtain ⟨x, h2, e2, f2, t2, ex, a1, a2⟩ := M_calledOf_s (N := N) (i := dp) (c := ch j % 3) (q := b) (by omega) l1 (sI_at ..) (Ms_g M L.1 (Gx_F x1) (by omega)) hm (by omega) (by omega)
    rw [← eR'] at ex a1 a2
    have L2 := Fx_Lay f2 l1
    have l3 := lay_s 35 16 1 L2
    have pre1 : M_begins_62 N (some 35) (nI (ch j)) (nI (90 * dp + j)) (some 35) (qI b) h = if x = 0 then (M_begins_93 N (some 35) (nI (90 * dp + j)) h2) else (gi [12] 14 (some 35) h2 fun x5 => if x5 ≤ 0 then (M_begins_93 N (some 35) (nI (90 * dp + j)) h2) else (M_begins_94 N (some 35) (nI (90 * dp + j)) 1 h2)) := by
      unfold M_begins_62
      rw [pz_s (o35 L) (by cases b <;> simp [qI]), nz3, gi_s (o35 l1), sI_ne (by omega), e43, nz3, nI_mod3 (by omega), show nI (ch j) / (3 : Int32) = nI (ch j / 3) from pk_div (d := 3) (by omega) (by decide) (by decide), dM l1, e2, cl_s]
    have x2 : Fi (fun a k => a = 35 ∧ (k = 14 ∨ k = 15 ∨ k = 16) ∨ a = 37 ∨ a = 45) h (sI h2 35 16 1) := Fx_t (Fx_m x1 (fun a k q => by omega) (fun _ _ q => q)) (Fx_t (Fx_m f2 (fun a k q => by unfold PM at q; omega) (fun _ _ q => q)) (Fx_sI _ _ (by omega)))
    have y37 : hI (sI h2 35 16 1) 37 = bq b (hI h 37) (CT D (ch j / 3) dp (ch j % 3)) := by rw [sI_row' (by omega), t2, sI_row' (by omega)]
    have y16 : hI (sI h2 35 16 1) 35 16 = 1 := sI_at ..
    have y14 : R.1 = 0 → hI (sI h2 35 16 1) 35 14 = nI R.2.1 ∧ ∀ k, k < R.2.1 → hI (sI h2 35 16 1) 45 k = nI (R.2.2 k) := fun q => ⟨by rw [sI_ne (by omega)]; exact (a1 q).1, fun k hk => by rw [sI_ne (by omega)]; exact (a1 q).2 k hk⟩
    have e94 : ∀ (u v : Int32) (vv : Nat), vp_nar .byte (Int8.toInt32 (Int32.toInt8 v)) = nI vv → M_begins_114 N (some 35) u (some 55) (nI (90 * dp + j)) v (sI h2 35 16 1) = if u = 0 then rz 0 (sI (sI h2 35 16 1) 55 (90 * dp + j) (nI vv)) else M_begins_125 N N (some 35) 0 (sI (sI h2 35 16 1) 55 (90 * dp + j) (nI vv)) := fun u v vv ev => by
      unfold M_begins_114
      rw [sb_s (o55 l3) (by rw [k55 l3]; exact i1080) (by rw [k55 l3]; decide), ev]
    have no : kn1 R ≠ 1 → ∃ h', M_begins_93 N (some 35) (nI (90 * dp + j)) h2 = some (qI (decide (kn1 R = 1)), h') ∧ Fi (PMb (90 * dp + j)) h h' ∧ hI h' 37 = bq b (hI h 37) (CT D (ch j / 3) dp (ch j % 3)) ∧ hI h' 35 16 = 1 ∧ hI h' 55 (90 * dp + j) = nI (kn1 R) ∧ (kn1 R = 1 → hI h' 35 50 = nI R.2.1 ∧ hI h' 35 51 = nI 0 ∧ ∀ k, k < R.2.1 → hI h' 59 k = nI (R.2.2 k)) := fun q => by
      have k2' : kn1 R = 2 := by omega
      refine ⟨sI (sI h2 35 16 1) 55 (90 * dp + j) (nI 2), ?_, Fx_t (Fx_m x2 (fun a k q => by unfold PMb; omega) (fun _ _ q => q)) (Fx_sI _ _ (by unfold PMb; omega)), by rw [sI_row' (by omega)]; exact y37, by rw [sI_ne (by omega)]; exact y16, by rw [sI_at, k2'], fun u => absurd u q⟩
      unfold M_begins_93 M_begins_94
      rw [pz_1 (o35 L2), gr_s (o35 l3), r35_42 l3, if_pos rfl, e94 0 2 2 nar_2, if_pos rfl, rz_0, decide_eq_false q]
      rfl
    rw [pre1]
    by_cases r0 : R.1 = 0
    · rw [if_pos r0] at ex
      rw [ex, if_neg i10, gi_s (o35 L2), (a1 r0).1]
      by_cases r1 : 0 < R.2.1
      · have k1' : kn1 R = 1 := by unfold kn1; rw [if_pos ⟨r0, r1⟩]
        have l4 := lay_s 55 (90 * dp + j) (nI 1) l3
        have x3 : Fi (fun a k => a = 55 ∧ k = 90 * dp + j) (sI h2 35 16 1) (sI (sI h2 35 16 1) 55 (90 * dp + j) (nI 1)) := Fx_sI _ _ ⟨rfl, rfl⟩
        have y55 : hI (sI (sI h2 35 16 1) 55 (90 * dp + j) (nI 1)) 55 (90 * dp + j) = nI 1 := sI_at ..
        obtain ⟨h5, b1, b2, b3, b4, b5⟩ := copy_125 (N := N) (F := R.2.2) r100 R.2.1 N 0 (sI (sI h2 35 16 1) 55 (90 * dp + j) (nI 1)) (by omega) (by omega) l4 (by rw [Fx_I x3 (by omega)]; exact (y14 r0).1) (fun k hk => by rw [Fx_I x3 (by omega)]; exact (y14 r0).2 k hk) (fun k hk => absurd hk (by omega))
        refine ⟨h5, ?_, Fx_t (Fx_m x2 (fun a k q => by unfold PMb; omega) (fun _ _ q => q)) (Fx_t (Fx_m x3 (fun a k q => by unfold PMb; omega) (fun _ _ q => q)) (Fx_m b2 (fun a k q => by unfold PMb; omega) (fun _ _ q => q))), ?_, ?_, ?_, fun _ => ⟨b3, b4, b5⟩⟩
        · rw [if_neg (fun u => absurd ((leN_0 (by omega)).mp u) (by omega))]
          unfold M_begins_94
          rw [pz_1 (o35 L2), gr_s (o35 l3), r35_42 l3, if_neg i10, e94 1 1 1 nar_1, if_neg i10, decide_eq_true k1']
          exact b1
        · rw [Fx_row b2 (by omega), Fx_row x3 (by omega)]; exact y37
        · rw [Fx_I b2 (by omega), Fx_I x3 (by omega)]; exact y16
        · rw [Fx_I b2 (by omega), y55, k1']
      · rw [if_pos ((leN_0 (by omega)).mpr (by omega))]
        exact no (by unfold kn1; rw [if_neg (fun u => r1 u.2)]; omega)
    · rw [if_neg r0] at ex
      rw [ex, if_pos rfl]
      exact no (by unfold kn1; rw [if_neg (fun u => r0 u.1)]; omega)
  rw [pre]
  by_cases kv2 : kv = 2
  · rw [if_pos ((eN_2 (by omega)).mpr kv2), if_neg (by omega), if_neg (by omega)]
    refine ⟨h, ?_, Fx_r _ _ _, rfl, e16, e55, fun u => absurd u (by omega)⟩
    rw [rz_0, decide_eq_false (by omega)]
    rfl
  · rw [if_neg (fun u => kv2 ((eN_2 (by omega)).mp u))]
    by_cases kv0 : kv = 0
    · rw [if_pos ((eN_0 (by omega)).mpr kv0), if_pos kv0, if_pos kv0]
      exact go true
    · rw [if_neg (fun u => kv0 ((eN_0 (by omega)).mp u)), if_neg kv0, if_neg kv0]
      have kv1 : kv = 1 := by omega
      have k1' : kn1 R = 1 := by unfold kn1; rw [if_pos (k1 kv1)]
      obtain ⟨h', a1, a2, a3, a4, a5, a6⟩ := go false
      rw [kv1]
      rw [k1'] at a1 a5
      exact ⟨h', a1, a2, a3, a4, a5, fun _ => a6 k1'⟩
