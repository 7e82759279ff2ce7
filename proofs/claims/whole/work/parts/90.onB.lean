/-! PURE: ringing: items begin; the class's loop -/
theorem begin_C {N n ic mc rc : Nat} {D : Nat → Md} {bs im ik : Nat → Nat} {rw : Nat → Nat} {cm : Option Nat} {ni cn ca : Nat} {cf : Nat → Nat} {h : Hp} (L : Lay h) (C : Cs h n mc D bs) (it : ItC h mc bs ic im ik) (iv : ∀ j, j < ic → im j < mc ∧ ik j ≤ 2) (i100 : ic ≤ 100) (c : TC h n rc rw false cm ni cn ca cf) (hi : ni < ic) : ∃ h', ds [(9, Touch_beginItem N (some 6) h)] (some 6) h = some (nI (CR D (im ni) ni (ik ni)).1, h') ∧ Fx PgO QgO h h' ∧ hI h' 4 = bm (hI h 4) (CT D (im ni) ni (ik ni)) ∧ TCs h' n (rgB (CR D (im ni) ni (ik ni)) rc rw cm ni cn ca cf) := by
  obtain ⟨H, ⟨t3, t4⟩, t9, t10, tf, ⟨q, q0, q1, q2⟩, t7⟩ := c
  obtain ⟨s1, s2, s3, s4⟩ := t7 rfl
  obtain ⟨m1, m2⟩ := iv ni hi
  have wm : ∀ m, m < mc → Wm n m D := fun m hm => (C.2.2.1 m hm).2.2
  have rok := CR_ok (i := ni) (c := ik ni) wm m1
  obtain ⟨x, h1, e1, ⟨⟨f1, p1, p2⟩, t1⟩⟩ := Dc_s (N := N) L C (Wr_13 L C) m1 (show ni < 2 ^ 31 by omega) m2
  obtain ⟨R, eR⟩ : ∃ R, R = CR D (im ni) ni (ik ni) := ⟨_, rfl⟩
  rw [← eR] at p1 p2 rok ⊢
  have L1 := Fx_Lay f1 L
  have a8 : hI h1 6 8 = nI ni := by rw [Fx_I f1 (by unfold PC; omega)]; exact s1
  have l2 : Lay (sI h1 6 7 0) := L1
  have l3 : Lay (sI (sI h1 6 7 0) 6 8 (nI (ni + 1))) := L1
  have pre : ds [(9, Touch_beginItem N (some 6) h)] (some 6) h = if nI R.1 = 0 then (Touch_beginItem_65 N (nI R.1) (some 6) 0 (sI (sI h1 6 7 0) 6 8 (nI (ni + 1)))) else (Touch_beginItem_65 N (nI R.1) (some 6) 1 (sI (sI h1 6 7 0) 6 8 (nI (ni + 1)))) := by
    rw [ds9 L]
    unfold Touch_beginItem
    rw [gr_s (o6 L), r6_0 L, gi_s (o6 L), s1, lr_s (o7 L) (by rw [k7 L]; show ni < 100; omega) (by rw [k7 L]; decide), (it.2 ni hi).1, if_neg (by simp), gi_s (o6 L), s1, gr_s (o6 L), r6_1 L, gi_s (o6 L), s1, li_s (o8 L) (by rw [k8 L]; show ni < 100; omega) (by rw [k8 L]; decide), (it.2 ni hi).2, gr_s (o6 L), r6_6 L, e1, cl_s, p1]
    unfold Touch_beginItem_39
    rw [pi_s (o6 L1), gi_s (o6 l2), sI_ne (by omega), a8, aN_1, pi_s (o6 l2)]
  have fin : ∀ b : Bool, ∃ h', Touch_beginItem_65 N (nI R.1) (some 6) (qI b) (sI (sI h1 6 7 0) 6 8 (nI (ni + 1))) = some (nI R.1, h') ∧ Fi (fun a k => a = 6 ∧ (k = 7 ∨ k = 8 ∨ k = 9)) h1 h' ∧ hI h' 6 7 = 0 ∧ hI h' 6 8 = nI (ni + 1) ∧ hI h' 6 9 = qI b := fun b => by
    unfold Touch_beginItem_65
    rw [pz_s (o6 l3) (by cases b <;> simp [qI])]
    exact ⟨_, rfl, Fx_t (Fx_t (Fx_sI _ _ (by omega)) (Fx_sI _ _ (by omega))) (Fx_sI _ _ (by omega)), by rw [sI_ne (by omega), sI_ne (by omega), sI_at], by rw [sI_ne (by omega), sI_at], sI_at ..⟩
  have w : ∀ (b : Bool) (h' : Hp), Fi (fun a k => a = 6 ∧ (k = 7 ∨ k = 8 ∨ k = 9)) h1 h' → hI h' 6 9 = qI b → Fx PgO QgO h h' ∧ hI h' 4 = bm (hI h 4) (CT D (im ni) ni (ik ni)) ∧ Hs h' 9 10 11 12 2001 rc (fun j => lN (rw j)) ∧ (hI h' 6 3 = nI n ∧ hL h' 6 4 = lN (rd n)) ∧ hI h' 6 10 = oI cm ∧ Ff (hI h' 6 11) rw (mnt rc cm) ∧ (∃ q, q ≤ rc ∧ hI h' 6 13 = nI q ∧ (q = rc → ∃ v, Srt (fun j => num n (rw j) n) v (mnt rc cm) ∧ ∀ j, j < mnt rc cm → hI h' 15 j = nI (v j))) := by
    intro b h' x1 x2
    have ei : ∀ a k, ¬ (a = 6 ∧ (k = 7 ∨ k = 8 ∨ k = 9)) → ¬ PC 13 14 a k → hI h' a k = hI h a k := fun a k u v => by rw [Fx_I x1 u, Fx_I f1 v]
    refine ⟨Fx_t (Fx_m f1 (fun a k c => by unfold PC at c; unfold PgO; omega) (fun _ _ c => c.elim)) (Fx_m x1 (fun a k c => by unfold PgO; omega) (fun _ _ c => c.elim)), by rw [Fx_row x1 (by omega)]; exact t1, Hs_f (Hs_f H f1 (by unfold PC; omega) (by unfold PC; omega) (by unfold PC; omega) (fun _ c => c)) x1 (by omega) (by omega) (by omega) (fun _ c => c), ⟨?_, ?_⟩, ?_, ?_, ⟨q, q0, ?_, fun e => ?_⟩⟩
    · rw [ei _ _ (by omega) (by unfold PC; omega)]; exact t3
    · rw [Fi_L x1, Fi_L f1]; exact t4
    · rw [ei _ _ (by omega) (by unfold PC; omega)]; exact t10
    · rw [ei _ _ (by omega) (by unfold PC; omega)]; exact tf
    · rw [ei _ _ (by omega) (by unfold PC; omega)]; exact q1
    · obtain ⟨v, v1, v2⟩ := q2 e
      exact ⟨v, v1, fun j hj => by rw [ei _ _ (by omega) (by unfold PC; omega)]; exact v2 j hj⟩
  rw [pre]
  unfold rgB
  by_cases r0 : R.1 = 0
  · rw [if_pos ((eN_0 (by omega)).mpr r0), if_pos r0]
    obtain ⟨h', a1, a2, a3, a4, a5⟩ := fin false
    obtain ⟨b1, b2, b3, b4, b5, b6, b7⟩ := w false h' a2 a5
    refine ⟨h', a1, b1, b2, b3, b4, a5, b5, b6, b7, fun _ => ⟨a4, ?_, a3, fun k hk => ?_⟩⟩
    · rw [Fx_I a2 (by omega)]; exact (p2 r0).1
    · rw [Fx_I a2 (by omega)]; exact (p2 r0).2 k hk
  · rw [if_neg (fun u => r0 ((eN_0 (by have := rok.1; omega)).mp u)), if_neg r0]
    obtain ⟨h', a1, a2, a3, a4, a5⟩ := fin true
    obtain ⟨b1, b2, b3, b4, b5, b6, b7⟩ := w true h' a2 a5
    exact ⟨h', a1, b1, b2, b3, b4, a5, b5, b6, b7, fun e => (by cases e)⟩
/-- the ringing as such: so many turns, rows left to ring, the finding -/
def rgn (n ic : Nat) (D : Nat → Md) (im ik : Nat → Nat) : Nat → Nat → Nat → RS → RS × Nat × List Nat
  | 0, _, am, S => (S, am, [])
  | f + 1, left, am, S => if left = 0 ∨ S.2.2.1 = true then (S, am, []) else
    if S.2.2.2.2.2.2.1 < S.2.2.2.2.2.1 then rgn n ic D im ik f (left - 1) am (rgR n S.1 S.2.1 S.2.2.2.2.1 S.2.2.2.2.2.1 S.2.2.2.2.2.2.1 S.2.2.2.2.2.2.2) else
    if S.2.2.2.2.1 < ic then
      ((rgn n ic D im ik f left (CR D (im S.2.2.2.2.1) S.2.2.2.2.1 (ik S.2.2.2.2.1)).1 (rgB (CR D (im S.2.2.2.2.1) S.2.2.2.2.1 (ik S.2.2.2.2.1)) S.1 S.2.1 S.2.2.2.1 S.2.2.2.2.1 S.2.2.2.2.2.1 S.2.2.2.2.2.2.1 S.2.2.2.2.2.2.2)).1,
       (rgn n ic D im ik f left (CR D (im S.2.2.2.2.1) S.2.2.2.2.1 (ik S.2.2.2.2.1)).1 (rgB (CR D (im S.2.2.2.2.1) S.2.2.2.2.1 (ik S.2.2.2.2.1)) S.1 S.2.1 S.2.2.2.1 S.2.2.2.2.1 S.2.2.2.2.2.1 S.2.2.2.2.2.2.1 S.2.2.2.2.2.2.2)).2.1,
       CT D (im S.2.2.2.2.1) S.2.2.2.2.1 (ik S.2.2.2.2.1) ++ (rgn n ic D im ik f left (CR D (im S.2.2.2.2.1) S.2.2.2.2.1 (ik S.2.2.2.2.1)).1 (rgB (CR D (im S.2.2.2.2.1) S.2.2.2.2.1 (ik S.2.2.2.2.1)) S.1 S.2.1 S.2.2.2.1 S.2.2.2.2.1 S.2.2.2.2.2.1 S.2.2.2.2.2.2.1 S.2.2.2.2.2.2.2)).2.2)
    else (S, am, [])
theorem rgn_0 {n ic : Nat} {D : Nat → Md} {im ik : Nat → Nat} {f left am : Nat} {S : RS} (h : left = 0 ∨ S.2.2.1 = true) : rgn n ic D im ik f left am S = (S, am, []) := by
  cases f with
  | zero => rfl
  | succ f => rw [rgn, if_pos h]
theorem rgn_r {n ic : Nat} {D : Nat → Md} {im ik : Nat → Nat} {f left am rc : Nat} {rw : Nat → Nat} {cm : Option Nat} {ni cn ca : Nat} {cf : Nat → Nat} (hl : left ≠ 0) (h : ca < cn) : rgn n ic D im ik (f + 1) left am (rc, rw, false, cm, ni, cn, ca, cf) = rgn n ic D im ik f (left - 1) am (rgR n rc rw ni cn ca cf) := by
  rw [rgn, if_neg (by rintro (u | u); exact hl u; cases u), if_pos h]
theorem rgn_b {n ic : Nat} {D : Nat → Md} {im ik : Nat → Nat} {f left am rc : Nat} {rw : Nat → Nat} {cm : Option Nat} {ni cn ca : Nat} {cf : Nat → Nat} (hl : left ≠ 0) (h : ¬ ca < cn) (hi : ni < ic) : rgn n ic D im ik (f + 1) left am (rc, rw, false, cm, ni, cn, ca, cf) = ((rgn n ic D im ik f left (CR D (im ni) ni (ik ni)).1 (rgB (CR D (im ni) ni (ik ni)) rc rw cm ni cn ca cf)).1, (rgn n ic D im ik f left (CR D (im ni) ni (ik ni)).1 (rgB (CR D (im ni) ni (ik ni)) rc rw cm ni cn ca cf)).2.1, CT D (im ni) ni (ik ni) ++ (rgn n ic D im ik f left (CR D (im ni) ni (ik ni)).1 (rgB (CR D (im ni) ni (ik ni)) rc rw cm ni cn ca cf)).2.2) := by
  rw [rgn, if_neg (by rintro (u | u); exact hl u; cases u), if_neg h, if_pos hi]
theorem rgn_e {n ic : Nat} {D : Nat → Md} {im ik : Nat → Nat} {f left am rc : Nat} {rw : Nat → Nat} {cm : Option Nat} {ni cn ca : Nat} {cf : Nat → Nat} (hl : left ≠ 0) (h : ¬ ca < cn) (hi : ¬ ni < ic) : rgn n ic D im ik f left am (rc, rw, false, cm, ni, cn, ca, cf) = ((rc, rw, false, cm, ni, cn, ca, cf), am, []) := by
  cases f with
  | zero => rfl
  | succ f => rw [rgn, if_neg (by rintro (u | u); exact hl u; cases u), if_neg h, if_neg hi]
theorem ringOn_C {N n ic mc k : Nat} {D : Nat → Md} {bs im ik : Nat → Nat} (hN : 3000 < N) (hn : n ≤ 12) (iv : ∀ j, j < ic → im j < mc ∧ ik j ≤ 2) (i100 : ic ≤ 100) (hk : k ≤ 1000) : ∀ (f g left am turn : Nat) (S : RS) (h : Hp), turn + f = k + 100 → f < g → left ≤ k → Lay h → Cs h n mc D bs → ItC h mc bs ic im ik → TWs n ic S → TCs h n S → ∃ h', Touch_ringOn_7 N g (some 6) (nI k) (nI am) (nI left) (nI turn) h = some (nI (rgn n ic D im ik f left am S).2.1, h') ∧ Fx PgO QgO h h' ∧ hI h' 4 = bm (hI h 4) (rgn n ic D im ik f left am S).2.2 ∧ TWs n ic (rgn n ic D im ik f left am S).1 ∧ TCs h' n (rgn n ic D im ik f left am S).1
  | f, 0, _, _, _, _, _, _, hg, _, _, _, _, _, _ => absurd hg (by omega)
  | 0, g + 1, left, am, turn, S, h, ht, _, _, L, C, it, w, c => by
    simp only [Touch_ringOn_7]
    rw [show nI k + (100 : Int32) = nI (k + 100) from nI_add k 100, if_pos ((nI_leI (by omega) (by omega)).mpr (by omega))]
    exact ⟨h, rfl, Fx_r _ _ _, rfl, w, c⟩
  | f + 1, g + 1, left, am, turn, S, h, ht, hg, hl, L, C, it, w, c => by
    rw [Touch_ringOn_7]
    rw [show nI k + (100 : Int32) = nI (k + 100) from nI_add k 100, if_neg (fun u => absurd ((nI_leI (by omega) (by omega)).mp u) (by omega))]
    by_cases l0 : left = 0
    · rw [rgn_0 (Or.inl l0), if_pos ((leN_0 (by omega)).mpr (by omega))]
      exact ⟨h, rfl, Fx_r _ _ _, rfl, w, c⟩
    rw [if_neg (fun u => absurd ((leN_0 (by omega)).mp u) (by omega))]
    obtain ⟨rc, rw', st, cm, ni, cn, ca, cf⟩ := S
    have c9 : hI h 6 9 = qI st := c.2.2.1
    cases st with
    | true =>
      rw [rgn_0 (Or.inr rfl), gi_s (o6 L), c9, if_neg (show ¬ qI true = 0 by decide)]
      exact ⟨h, rfl, Fx_r _ _ _, rfl, w, c⟩
    | false =>
      obtain ⟨s1, s2, s3, s4⟩ := c.2.2.2.2.2.2 rfl
      obtain ⟨v1, v2, v3, v4⟩ := w.2.2.2.2.2.2 rfl
      dsimp only at s1 s2 s3 s4 v1 v2 v3 v4
      rw [gi_s (o6 L), c9, if_pos (show qI false = 0 from rfl), gi_s (o6 L), s3, gr_s (o6 L), r6_6 L, gi_s (o13 L), s2]
      by_cases hc : ca < cn
      · rw [if_neg (fun u => absurd ((nI_leI (by omega) (by omega)).mp u) (by omega)), rgn_r l0 hc]
        obtain ⟨h1, e1, x1, t1, c1⟩ := ringRow_C (N := N) hN hn L w c hc
        have L1 := Fx_Lay x1 L
        obtain ⟨h2, e2, x2, t2, w2, c2⟩ := ringOn_C hN hn iv i100 hk f g (left - 1) am (turn + 1) _ h1 (by omega) (by omega) (by omega) L1 (Cs_g C L.1 (Gx_F x1) (fun a k q u => by unfold PgO at u; omega) (fun _ _ _ q => q)) (ItC_g it L.1 (Gx_F x1) (fun a k q u => by unfold PgO at u; omega) (fun _ _ _ q => q)) (TW_row w hc) c1
        refine ⟨h2, ?_, Fx_t x1 x2, by rw [t2, t1], w2, c2⟩
        rw [e1, cl_s, nmE]
        unfold Touch_ringOn_67
        rw [nmE, aN_1, show nI left + (-1) = nI (left - 1) by rw [show left = left - 1 + 1 by omega, bl_m1]; rfl]
        exact e2
      · rw [if_pos ((nI_leI (by omega) (by omega)).mpr (by omega)), gi_s (o6 L), s1, gi_s (o6 L), it.1]
        by_cases hi : ni < ic
        · rw [if_neg (fun u => absurd ((nI_leI (by omega) (by omega)).mp u) (by omega)), rgn_b l0 hc hi]
          obtain ⟨h1, e1, x1, t1, c1⟩ := begin_C (N := N) L C it iv i100 c hi
          have L1 := Fx_Lay x1 L
          have wm : ∀ m, m < mc → Wm n m D := fun m hm => (C.2.2.1 m hm).2.2
          have rok := CR_ok (i := ni) (c := ik ni) wm (iv ni hi).1
          obtain ⟨h2, e2, x2, t2, w2, c2⟩ := ringOn_C hN hn iv i100 hk f g left (CR D (im ni) ni (ik ni)).1 (turn + 1) _ h1 (by omega) (by omega) hl L1 (Cs_g C L.1 (Gx_F x1) (fun a k q u => by unfold PgO at u; omega) (fun _ _ _ q => q)) (ItC_g it L.1 (Gx_F x1) (fun a k q u => by unfold PgO at u; omega) (fun _ _ _ q => q)) (TW_beg w hi rok) c1
          refine ⟨h2, ?_, Fx_t x1 x2, by rw [t2, t1, bm_app], w2, c2⟩
          rw [e1, cl_s]
          unfold Touch_ringOn_67
          rw [nmE, aN_1]
          exact e2
        · rw [if_pos ((nI_leI (by omega) (by omega)).mpr (by omega)), rgn_e l0 hc hi]
          exact ⟨h, rfl, Fx_r _ _ _, rfl, w, c⟩
