/-! PURE: ringing, by the class -/
abbrev RS : Type := Nat × (Nat → Nat) × Bool × Option Nat × Nat × Nat × Nat × (Nat → Nat)
def rgR (n rc : Nat) (rw : Nat → Nat) (ni cn ca : Nat) (cf : Nat → Nat) : RS :=
  (rc + 1, va_up rw rc (chg (rw (rc - 1)) (cf ca)), decide (chg (rw (rc - 1)) (cf ca) = rd n) || decide (2000 ≤ rc), if chg (rw (rc - 1)) (cf ca) = rd n then some rc else none, ni, cn, ca + 1, cf)
def rgB (R : Nat × Nat × (Nat → Nat)) (rc : Nat) (rw : Nat → Nat) (cm : Option Nat) (ni cn ca : Nat) (cf : Nat → Nat) : RS :=
  if R.1 = 0 then (rc, rw, false, cm, ni + 1, R.2.1, 0, R.2.2) else (rc, rw, true, cm, ni + 1, cn, ca, cf)
def TWs (n ic : Nat) (S : RS) : Prop := TW n ic S.1 S.2.1 S.2.2.1 S.2.2.2.1 S.2.2.2.2.1 S.2.2.2.2.2.1 S.2.2.2.2.2.2.1 S.2.2.2.2.2.2.2
def TCs (h : Hp) (n : Nat) (S : RS) : Prop := TC h n S.1 S.2.1 S.2.2.1 S.2.2.2.1 S.2.2.2.2.1 S.2.2.2.2.2.1 S.2.2.2.2.2.2.1 S.2.2.2.2.2.2.2
def TMs (h : Hp) (S : RS) : Prop := TM h S.1 S.2.1 S.2.2.1 S.2.2.2.1 S.2.2.2.2.1 S.2.2.2.2.2.1 S.2.2.2.2.2.2.1 S.2.2.2.2.2.2.2
theorem cm_no {n ic rc : Nat} {rw : Nat → Nat} {cm : Option Nat} {ni cn ca : Nat} {cf : Nat → Nat} (w : TW n ic rc rw false cm ni cn ca cf) : cm = none := by
  rcases cm with _ | c
  · rfl
  · have := (w.2.2.2.1 c rfl).2.2.2
    cases this
theorem rc_le {n ic rc : Nat} {rw : Nat → Nat} {cm : Option Nat} {ni cn ca : Nat} {cf : Nat → Nat} (w : TW n ic rc rw false cm ni cn ca cf) : 1 ≤ rc ∧ rc ≤ 2000 := by
  obtain ⟨⟨w1, w2⟩, -, -, -, -, w6, -⟩ := w
  refine ⟨w1, ?_⟩
  by_cases q : rc = 2001
  · have := w6 q
    cases this
  · omega
theorem TW_row {n ic rc : Nat} {rw : Nat → Nat} {cm : Option Nat} {ni cn ca : Nat} {cf : Nat → Nat} (w : TW n ic rc rw false cm ni cn ca cf) (hc : ca < cn) : TWs n ic (rgR n rc rw ni cn ca cf) := by
  have c0 := cm_no w
  obtain ⟨r1, r2⟩ := rc_le w
  obtain ⟨-, w2, w3, w4, w5, w6, w7⟩ := w
  obtain ⟨v1, v2, v3, v4⟩ := w7 rfl
  have rr : Rw n (chg (rw (rc - 1)) (cf ca)) := chg_rw (w2 _ (by omega)) (v4 _ hc)
  unfold TWs rgR
  dsimp only
  generalize chg (rw (rc - 1)) (cf ca) = row at rr ⊢
  refine ⟨⟨by omega, by omega⟩, fun j hj => ?_, ?_, fun c e => ?_, fun j h1 h2 e => ?_, fun e => ?_, fun e => ⟨v1, by omega, v3, v4⟩⟩
  · rw [up_at]
    by_cases q : j = rc
    · rw [if_pos q]; exact rr
    · rw [if_neg q]; exact w2 j (by omega)
  · rw [up_at, if_neg (by omega)]; exact w3
  · by_cases q : row = rd n
    · rw [if_pos q] at e
      cases e
      refine ⟨r1, rfl, by rw [up_at, if_pos rfl]; exact q, ?_⟩
      rw [decide_eq_true q]; rfl
    · rw [if_neg q] at e; cases e
  · rw [up_at] at e
    by_cases q : j = rc
    · rw [if_pos q] at e
      rw [if_pos e, q]
    · rw [if_neg q] at e
      have := w5 j h1 (by omega) e
      rw [c0] at this; cases this
  · rw [decide_eq_true (show 2000 ≤ rc by omega), Bool.or_true]
theorem TW_beg {n ic rc : Nat} {rw : Nat → Nat} {cm : Option Nat} {ni cn ca : Nat} {cf : Nat → Nat} {R : Nat × Nat × (Nat → Nat)} (w : TW n ic rc rw false cm ni cn ca cf) (hi : ni < ic) (r : RW n R) : TWs n ic (rgB R rc rw cm ni cn ca cf) := by
  have c0 := cm_no w
  obtain ⟨w1, w2, w3, w4, w5, w6, w7⟩ := w
  unfold TWs rgB
  by_cases q : R.1 = 0
  · rw [if_pos q]
    exact ⟨w1, w2, w3, w4, w5, w6, fun _ => ⟨by show ni + 1 ≤ ic; omega, Nat.zero_le _, r.2.1, r.2.2⟩⟩
  · rw [if_neg q]
    refine ⟨w1, w2, w3, fun c e => ?_, w5, fun _ => rfl, fun e => (by cases e)⟩
    have e' : cm = some c := e
    rw [c0] at e'; cases e'
theorem Ff_congr {x : Int32} {rw rw' : Nat → Nat} {m : Nat} (f : Ff x rw m) (e : ∀ j, j < m → rw' j = rw j) : Ff x rw' m := by
  rcases f with ⟨a, b⟩ | ⟨j, i, h1, h2, h3, h4, h5⟩
  · exact Or.inl ⟨a, fun i j h1 h2 => by rw [e i (by omega), e j h2]; exact b i j h1 h2⟩
  · exact Or.inr ⟨j, i, h1, h2, by rw [e i (by omega), e j h2]; exact h3, h4, fun i' j' k1 k2 => by rw [e i' (by omega), e j' (by omega)]; exact h5 i' j' k1 k2⟩
theorem Ff_pos {x : Int32} {rw : Nat → Nat} {m : Nat} (f : Ff x rw m) (h0 : 0 ≤ x) : Ff x rw (m + 1) := by
  rcases f with ⟨a, b⟩ | ⟨j, i, h1, h2, h3⟩
  · rw [a] at h0; exact absurd h0 (by decide)
  · exact Or.inr ⟨j, i, h1, by omega, h3⟩
theorem Ff_neg {x : Int32} {rw : Nat → Nat} {m : Nat} (f : Ff x rw m) (hm : m ≤ 2001) (h0 : ¬ 0 ≤ x) : ∀ i j, i < j → j < m → rw i ≠ rw j := by
  rcases f with ⟨a, b⟩ | ⟨j, i, h1, h2, h3, h4, h5⟩
  · exact b
  · rw [h4] at h0
    exact absurd (nI_pos' (by omega)) h0
def PgO (a k : Nat) : Prop := a = 6 ∧ 7 ≤ k ∧ k ≤ 11 ∨ a = 9 ∧ k = 3 ∨ a = 10 ∨ a = 12 ∨ a = 13 ∧ (k = 1 ∨ k = 2) ∨ a = 14 ∨ a = 4
def QgO (a k : Nat) : Prop := a = 11
theorem ds9 {β : Type} {F : Option β} {h : Hp} (L : Lay h) : ds [(9, F)] (some 6) h = F := ds_1 (o6 L)
theorem ds4 {β : Type} {F : Option β} {h : Hp} (L : Lay h) : ds [(4, F)] (some 9) h = F := ds_1 (o9 L)
theorem rw64 {n v : Nat} (hn : n ≤ 12) (hv : Rw n v) : v < 2 ^ 64 := by
  have := lN_lt12 hn hv.1
  omega
theorem ring_99 {N n rc row : Nat} {rw : Nat → Nat} {h : Hp} (hn : n ≤ 12) (L : Lay h) (H : Hs h 9 10 11 12 2001 rc (fun j => lN (rw j))) (e4 : hL h 6 4 = lN (rd n)) (hr : rc ≤ 2000) (rr : Rw n row) : ∃ h', Touch_ringRow_99 N (some 6) (nI rc) (lN row) h = some ((), h') ∧ Fx (fun a k => a = 6 ∧ k = 9 ∨ a = 9 ∧ k = 3 ∨ a = 10 ∨ a = 12) QgO h h' ∧ Hs h' 9 10 11 12 2001 (rc + 1) (fun j => lN (va_up rw rc row j)) ∧ hI h' 6 9 = qI (decide (row = rd n) || decide (2000 ≤ rc)) := by
  obtain ⟨h1, e1, x1, H1, -⟩ := add_s (N := N) (lN row) (RO_9 L) H (by omega)
  have L1 := Fx_Lay x1 L
  have x1' : Fx (fun a k => a = 6 ∧ k = 9 ∨ a = 9 ∧ k = 3 ∨ a = 10 ∨ a = 12) QgO h h1 := Fx_m x1 (fun a k q => by unfold PR at q; omega) (fun a k q => q.1)
  have H2 : Hs h1 9 10 11 12 2001 (rc + 1) (fun j => lN (va_up rw rc row j)) := Hs_congr H1 (fun j _ => by
    rw [up_at, up_at]
    by_cases q : j = rc
    · rw [if_pos q, if_pos q]
    · rw [if_neg q, if_neg q])
  have f4 : hL h1 6 4 = lN (rd n) := by rw [Fx_L x1 (by omega)]; exact e4
  have fin : ∀ b : Bool, ∃ h', Touch_ringRow_129 N (some 6) (qI b) h1 = some ((), h') ∧ Fx (fun a k => a = 6 ∧ k = 9 ∨ a = 9 ∧ k = 3 ∨ a = 10 ∨ a = 12) QgO h h' ∧ Hs h' 9 10 11 12 2001 (rc + 1) (fun j => lN (va_up rw rc row j)) ∧ hI h' 6 9 = qI b := fun b => by
    have x2 : Fi (fun a k => a = 6 ∧ k = 9) h1 (sI h1 6 9 (qI b)) := Fx_sI _ _ ⟨rfl, rfl⟩
    refine ⟨sI h1 6 9 (qI b), ?_, Fx_t x1' (Fx_m x2 (fun a k q => Or.inl q) (fun _ _ q => q.elim)), Hs_f H2 x2 (by omega) (by omega) (by omega) (fun _ q => q), sI_at ..⟩
    unfold Touch_ringRow_129
    rw [pz_s (o6 L1) (by cases b <;> simp [qI])]
  have e0 : Touch_ringRow_99 N (some 6) (nI rc) (lN row) h = if lg_cmp (lN row) (lN (rd n)) = 0 then Touch_ringRow_124 N (some 6) h1 else if nI rc < 2000 then Touch_ringRow_129 N (some 6) 0 h1 else Touch_ringRow_124 N (some 6) h1 := by
    unfold Touch_ringRow_99
    rw [gr_s (o6 L), r6_5 L, ds4 L, e1, cl_s, gl_s (o6 L1), f4]
  rw [e0]
  have r64 := rw64 hn rr
  have d64 := rw64 hn (rd_rw hn)
  by_cases q : row = rd n
  · rw [if_pos ((lg_eq _ _).mpr (by rw [q])), decide_eq_true q, Bool.true_or]
    exact fin true
  · rw [if_neg (fun u => q (lN_inj r64 d64 ((lg_eq _ _).mp u))), decide_eq_false q, Bool.false_or]
    by_cases u : rc < 2000
    · rw [if_pos ((ltN_2000 (by omega)).mpr u), decide_eq_false (by omega)]
      exact fin false
    · rw [if_neg (fun v => u ((ltN_2000 (by omega)).mp v)), decide_eq_true (by omega)]
      exact fin true
theorem ringRow_C {N n ic rc : Nat} {rw : Nat → Nat} {cm : Option Nat} {ni cn ca : Nat} {cf : Nat → Nat} {h : Hp} (hN : 3000 < N) (hn : n ≤ 12) (L : Lay h) (w : TW n ic rc rw false cm ni cn ca cf) (c : TC h n rc rw false cm ni cn ca cf) (hc : ca < cn) : ∃ h', ds [(9, Touch_ringRow N (some 6) h)] (some 6) h = some ((), h') ∧ Fx PgO QgO h h' ∧ hI h' 4 = hI h 4 ∧ TCs h' n (rgR n rc rw ni cn ca cf) := by
  have c0 := cm_no w
  obtain ⟨r1, r2⟩ := rc_le w
  obtain ⟨-, w2, w3, w4, w5, w6, w7⟩ := w
  obtain ⟨v1, v2, v3, v4⟩ := w7 rfl
  obtain ⟨H, ⟨t3, t4⟩, t9, t10, tf, ⟨q, q0, q1, q2⟩, t7⟩ := c
  obtain ⟨s1, s2, s3, s4⟩ := t7 rfl
  have ch := v4 _ hc
  have rp := w2 (rc - 1) (by omega)
  have rr : Rw n (chg (rw (rc - 1)) (cf ca)) := chg_rw rp ch
  have ck2 := ch_lt hn ch
  obtain ⟨row, erow⟩ : ∃ row, row = chg (rw (rc - 1)) (cf ca) := ⟨_, rfl⟩
  rw [← erow] at rr
  have L1 : Lay (sI h 6 7 (nI (ca + 1))) := L
  have pre : ds [(9, Touch_ringRow N (some 6) h)] (some 6) h = if lg_cmp (lN row) (lN (rd n)) = 0 then (pi [9] 10 (some 6) (nI rc) (sI h 6 7 (nI (ca + 1))) fun h19 => Touch_ringRow_99 N (some 6) (nI rc) (lN row) h19) else (if 0 ≤ hI h 6 11 then (Touch_ringRow_99 N (some 6) (nI rc) (lN row) (sI h 6 7 (nI (ca + 1)))) else (cl (Rows_indexOf N (some 9) (lN row) (sI h 6 7 (nI (ca + 1)))) fun x18 h17 => if 0 ≤ x18 then (Touch_ringRow_96 N (some 6) (nI rc) (lN row) (some 6) ((nI rc * (10000 : Int32)) + x18) h17) else (Touch_ringRow_96 N (some 6) (nI rc) (lN row) (some 6) (-1) h17))) := by
    rw [ds9 L]
    unfold Touch_ringRow
    rw [gr_s (o6 L), r6_5 L, gi_s (o9 L), H.1, gr_s (o6 L), r6_5 L, nI_m1 r1, ds4 L, codeAt_s (RO_9 L) H (by omega), cl_s, gr_s (o6 L), r6_6 L, gr_s (o13 L), r13_0 L, gi_s (o6 L), s3, li_s (o14 L) (by rw [k14 L]; show ca < 100; omega) (by rw [k14 L]; decide), s4 ca hc, Rows_changed_s (by omega) ck2 (lN_lt12 hn rp.1), cl_s, gi_s (o6 L), s3, aN_1, pi_s (o6 L), gl_s (o6 L1), hL_sI, t4, ← erow, gi_s (o6 L1), sI_ne (by omega), gr_s (o6 L1), r6_5 L1, ds4 L1]
  have H1 : Hs (sI h 6 7 (nI (ca + 1))) 9 10 11 12 2001 rc (fun j => lN (rw j)) := Hs_f H (Fx_sI (P := fun a k => a = 6 ∧ k = 7) (Q := nF) h _ ⟨rfl, rfl⟩) (by omega) (by omega) (by omega) (fun _ q => q)
  have x1 : Fx PgO QgO h (sI h 6 7 (nI (ca + 1))) := Fx_sI _ _ (by unfold PgO; omega)
  have t4' : hL (sI h 6 7 (nI (ca + 1))) 6 4 = lN (rd n) := by rw [hL_sI]; exact t4
  have v7 : hI (sI h 6 7 (nI (ca + 1))) 6 7 = nI (ca + 1) := sI_at ..
  have x1s : Fi (fun a k => a = 6 ∧ k = 7) h (sI h 6 7 (nI (ca + 1))) := Fx_sI _ _ ⟨rfl, rfl⟩
  generalize sI h 6 7 (nI (ca + 1)) = g at pre L1 H1 x1 t4' v7 x1s
  have r64 := rw64 hn rr
  have d64 := rw64 hn (rd_rw hn)
  have tfc : Ff (hI h 6 11) rw rc := by rw [c0] at tf; exact tf
  /- the end, from a heap where the round and the first false row are set -/
  have fin : ∀ g' : Hp, Fi (fun a k => a = 6 ∧ (k = 10 ∨ k = 11)) g g' → hI g' 6 10 = oI (if row = rd n then some rc else none) → Ff (hI g' 6 11) (va_up rw rc row) (mnt (rc + 1) (if row = rd n then some rc else none)) → ∃ h', Touch_ringRow_99 N (some 6) (nI rc) (lN row) g' = some ((), h') ∧ Fx PgO QgO h h' ∧ hI h' 4 = hI h 4 ∧ TCs h' n (rgR n rc rw ni cn ca cf) := by
    intro g' y1 y2 y3
    have Lg := Fx_Lay y1 L1
    obtain ⟨h', e, x, H', u9⟩ := ring_99 (N := N) hn Lg (Hs_f H1 y1 (by omega) (by omega) (by omega) (fun _ q => q)) (by rw [Fi_L y1]; exact t4') r2 rr
    have xx : ∀ a k, ¬ (a = 6 ∧ (k = 7 ∨ k = 10 ∨ k = 11)) → ¬ (a = 6 ∧ k = 9 ∨ a = 9 ∧ k = 3 ∨ a = 10 ∨ a = 12) → hI h' a k = hI h a k := fun a k p1 p2 => by rw [Fx_I x p2, Fx_I y1 (by omega), Fx_I x1s (by omega)]
    refine ⟨h', e, Fx_t (Fx_t x1 (Fx_m y1 (fun a k q => by unfold PgO; omega) (fun _ _ q => q.elim))) (Fx_m x (fun a k q => by unfold PgO; omega) (fun _ _ q => q)), funext fun k => xx 4 k (by omega) (by omega), ?_⟩
    unfold TCs rgR
    rw [← erow]
    refine ⟨H', ⟨?_, ?_⟩, u9, ?_, ?_, ⟨q, by omega, ?_, fun e => absurd e (by omega)⟩, fun _ => ⟨?_, ?_, ?_, fun k hk => ?_⟩⟩
    · rw [xx _ _ (by omega) (by omega)]; exact t3
    · rw [Fx_L x (by unfold QgO; omega), Fi_L y1]; exact t4'
    · rw [Fx_I x (by omega)]; exact y2
    · rw [Fx_I x (by omega)]; exact y3
    · rw [xx _ _ (by omega) (by omega)]; exact q1
    · rw [xx _ _ (by omega) (by omega)]; exact s1
    · rw [xx _ _ (by omega) (by omega)]; exact s2
    · rw [Fx_I x (by omega), Fx_I y1 (by omega)]; exact v7
    · rw [xx _ _ (by omega) (by omega)]; exact s4 k hk
  have g10 : hI g 6 10 = -1 := by rw [Fx_I x1s (by omega), t10, c0]; rfl
  have g11 : hI g 6 11 = hI h 6 11 := Fx_I x1s (by omega)
  rw [pre]
  by_cases qr : row = rd n
  · rw [if_pos ((lg_eq _ _).mpr (by rw [qr])), pi_s (o6 L1)]
    refine fin _ (Fx_sI _ _ (by omega)) (by rw [sI_at, if_pos qr]; rfl) ?_
    rw [sI_ne (by omega), if_pos qr, g11]
    show Ff (hI h 6 11) (va_up rw rc row) rc
    exact Ff_congr tfc (fun j hj => by rw [up_at, if_neg (by omega)])
  · rw [if_neg (fun u => qr (lN_inj r64 d64 ((lg_eq _ _).mp u)))]
    have cong : ∀ j, j < rc → va_up rw rc row j = rw j := fun j hj => by rw [up_at, if_neg (by omega)]
    have top : va_up rw rc row rc = row := by rw [up_at, if_pos rfl]
    by_cases px : 0 ≤ hI h 6 11
    · rw [if_pos px]
      refine fin g (Fx_r _ _ _) (by rw [if_neg qr]; exact g10) ?_
      rw [if_neg qr, g11]
      exact Ff_pos (Ff_congr tfc cong) px
    · rw [if_neg px]
      have dis := Ff_neg tfc (by omega) px
      have w96 : ∀ y : Int32, Ff y (va_up rw rc row) (rc + 1) → ∃ h', Touch_ringRow_96 N (some 6) (nI rc) (lN row) (some 6) y g = some ((), h') ∧ Fx PgO QgO h h' ∧ hI h' 4 = hI h 4 ∧ TCs h' n (rgR n rc rw ni cn ca cf) := fun y hy => by
        unfold Touch_ringRow_96
        rw [pi_s (o6 L1)]
        refine fin _ (Fx_sI _ _ (by omega)) (by rw [sI_ne (by omega), if_neg qr]; exact g10) ?_
        rw [sI_at, if_neg qr]
        exact hy
      rcases indexOf_s (N := N) (lN row) (RO_9 L1) H1 (by omega) with ⟨a1, a2⟩ | ⟨k, a1, a2, a3⟩
      · rw [a2, cl_s, if_neg (by decide)]
        refine w96 _ (Or.inl ⟨rfl, fun i j h1 h2 => ?_⟩)
        by_cases ej : j = rc
        · rw [ej, top, cong i (by omega)]
          exact fun u => a1 i (by omega) (by rw [u])
        · rw [cong i (by omega), cong j (by omega)]
          exact dis i j h1 (by omega)
      · have kr : rw k = row := lN_inj (rw64 hn (w2 k a1)) r64 a2
        rw [a3, cl_s, if_pos (nI_pos' (by omega)), show nI rc * (10000 : Int32) + nI k = nI (10000 * rc + k) by rw [show (10000 : Int32) = nI 10000 from rfl, pk_mul, nI_add, Nat.mul_comm]]
        refine w96 _ (Or.inr ⟨rc, k, a1, by omega, by rw [top, cong k a1]; exact kr, rfl, fun i' j' h1 h2 => ?_⟩)
        rw [cong i' (by omega), cong j' (by omega)]
        exact dis i' j' h1 (by omega)
