/-! PURE: ringing, by the model -/
def PgM (a k : Nat) : Prop := a = 35 ∧ (k = 3 ∨ k = 14 ∨ k = 15 ∨ 21 ≤ k ∧ k ≤ 27) ∨ a = 37 ∨ a = 45 ∨ a = 49
def QgM (a k : Nat) : Prop := a = 48
theorem ringRow_M {N n ic rc : Nat} {rw : Nat → Nat} {cm : Option Nat} {ni cn ca : Nat} {cf : Nat → Nat} {h : Hp} (hN : 3000 < N) (L : Lay h) (m : Mn h n) (w : TW n ic rc rw false cm ni cn ca cf) (c : TM h rc rw false cm ni cn ca cf) (hc : ca < cn) : ∃ h', M_rings_129 N (some 35) h = some (1, h') ∧ Fx (fun a k => a = 35 ∧ 21 ≤ k ∧ k ≤ 27) QgM h h' ∧ TMs h' (rgR n rc rw ni cn ca cf) := by
  have c0 := cm_no w
  have hn := m.2.2.2
  obtain ⟨r1, r2⟩ := rc_le w
  obtain ⟨-, w2, w3, w4, w5, w6, w7⟩ := w
  obtain ⟨v1, v2, v3, v4⟩ := w7 rfl
  obtain ⟨t1, t2, t3, t4, t5⟩ := c
  obtain ⟨s1, s2, s3, s4⟩ := t5 rfl
  have ch := v4 _ hc
  have rp := w2 (rc - 1) (by omega)
  have rr : Rw n (chg (rw (rc - 1)) (cf ca)) := chg_rw rp ch
  have ck2 := ch_lt hn ch
  obtain ⟨row, erow⟩ : ∃ row, row = chg (rw (rc - 1)) (cf ca) := ⟨_, rfl⟩
  rw [← erow] at rr
  obtain ⟨g, eg⟩ : ∃ g, g = sI (sL h 48 rc (lN row)) 35 25 (nI (ca + 1)) := ⟨_, rfl⟩
  have La : Lay (sL h 48 rc (lN row)) := L
  have xg : Fx (fun a k => a = 35 ∧ k = 25) (fun a k => a = 48 ∧ k = rc) h g := by rw [eg]; exact Fx_t (Fx_sL _ _ ⟨rfl, rfl⟩) (Fx_sI _ _ ⟨rfl, rfl⟩)
  have Lg := Fx_Lay xg L
  have g25 : hI g 35 25 = nI (ca + 1) := by rw [eg, sI_at]
  have g48 : hL g 48 rc = lN row := by rw [eg, hL_sI, sL_at]
  have mg : Mn g n := ⟨o35 Lg, by rw [Fx_I xg (by omega)]; exact m.2.1, m.2.2⟩
  have pre : M_rings_129 N (some 35) h = if lg_cmp (lN row) (lN (rd n)) = 0 then (pi [12] 27 (some 35) (nI rc) g fun h21 => M_rings_205 N (some 35) h21) else M_rings_205 N (some 35) g := by
    have a21 : hI (sL h 48 rc (lN row)) 35 25 = nI ca := by rw [hI_sL]; exact s3
    have b21 : hI g 35 21 = nI rc := by rw [Fx_I xg (by omega)]; exact t2
    unfold M_rings_129
    rw [gi_s (o35 L), t3, if_pos (show qI false = 0 from rfl), gr_s (o35 L), r35_20 L, gi_s (o35 L), t2, gr_s (o35 L), r35_20 L, gi_s (o35 L), t2, nI_m1 r1, ll_s (o48 L) (by rw [k48 L]; show rc - 1 < 2001; omega) (by rw [k48 L]; decide), t1 (rc - 1) (by omega), gr_s (o35 L), r35_23 L, gi_s (o35 L), s3, li_s (o49 L) (by rw [k49 L]; show ca < 100; omega) (by rw [k49 L]; decide), s4 ca hc, M_done_s (by omega) ck2 (lN_lt12 hn rp.1), cl_s, sl_s (o48 L) (by rw [k48 L]; show rc < 2001; omega) (by rw [k48 L]; decide), ← erow, gi_s (o35 La), a21, aN_1, pi_s (o35 La), ← eg, gr_s (o35 Lg), r35_20 Lg, gi_s (o35 Lg), b21, ll_s (o48 Lg) (by rw [k48 Lg]; show rc < 2001; omega) (by rw [k48 Lg]; decide), g48, dM Lg, M_rounds_s (by omega) mg, cl_s, gi_s (o35 Lg), b21]
  clear eg
  have r64 := rw64 hn rr
  have d64 := rw64 hn (rd_rw hn)
  have fin : ∀ (g' : Hp) (b : Bool), Fi (fun a k => a = 35 ∧ k = 27) g g' → hI g' 35 27 = oI (if row = rd n then some rc else none) → b = (decide (row = rd n) || decide (2000 ≤ rc)) → ∃ h', M_rings_228 N (some 35) (some 35) (qI b) g' = some (1, h') ∧ Fx (fun a k => a = 35 ∧ 21 ≤ k ∧ k ≤ 27) QgM h h' ∧ TMs h' (rgR n rc rw ni cn ca cf) := by
    intro g' b y1 y2 y3
    have L1 := Fx_Lay y1 Lg
    have L2 : Lay (sI g' 35 26 (qI b)) := L1
    have e21 : hI g' 35 21 = nI rc := by rw [Fx_I y1 (by omega), Fx_I xg (by omega)]; exact t2
    unfold M_rings_228
    rw [pz_s (o35 L1) (by cases b <;> simp [qI]), gi_s (o35 L2), sI_ne (by omega), e21, aN_1, pi_s (o35 L2), rz_1]
    have x2 : Fi (fun a k => a = 35 ∧ (k = 21 ∨ k = 26)) g' (sI (sI g' 35 26 (qI b)) 35 21 (nI (rc + 1))) := Fx_t (Fx_sI _ _ (by omega)) (Fx_sI _ _ (by omega))
    refine ⟨_, rfl, Fx_t (Fx_m xg (fun a k q => by omega) (fun a k q => q.1)) (Fx_t (Fx_m y1 (fun a k q => by omega) (fun _ _ q => q.elim)) (Fx_m x2 (fun a k q => by omega) (fun _ _ q => q.elim))), ?_⟩
    unfold TMs rgR
    rw [← erow]
    refine ⟨fun j hj => ?_, sI_at .., ?_, ?_, fun _ => ⟨?_, ?_, ?_, fun k hk => ?_⟩⟩
    · have hj' : j < rc + 1 := hj
      rw [Fi_L x2, Fi_L y1]
      show hL g 48 j = lN (va_up rw rc row j)
      rw [up_at]
      by_cases q : j = rc
      · rw [if_pos q, q]; exact g48
      · rw [if_neg q, Fx_L xg (by omega)]; exact t1 j (by omega)
    · rw [sI_ne (by omega), sI_at, y3]
    · rw [Fx_I x2 (by omega)]; exact y2
    · rw [Fx_I x2 (by omega), Fx_I y1 (by omega), Fx_I xg (by omega)]; exact s1
    · rw [Fx_I x2 (by omega), Fx_I y1 (by omega), Fx_I xg (by omega)]; exact s2
    · rw [Fx_I x2 (by omega), Fx_I y1 (by omega)]; exact g25
    · rw [Fx_I x2 (by omega), Fx_I y1 (by omega), Fx_I xg (by omega)]; exact s4 k hk
  have g27 : hI g 35 27 = -1 := by rw [Fx_I xg (by omega), t4, c0]; rfl
  rw [pre]
  by_cases q : row = rd n
  · rw [if_pos ((lg_eq _ _).mpr (by rw [q])), pi_s (o35 Lg)]
    have L1 : Lay (sI g 35 27 (nI rc)) := Lg
    unfold M_rings_205
    rw [gi_s (o35 L1), sI_at, if_pos (nI_pos' (by omega))]
    exact fin _ true (Fx_sI _ _ ⟨rfl, rfl⟩) (by rw [sI_at, if_pos q]; rfl) (by rw [decide_eq_true q]; rfl)
  · rw [if_neg (fun u => q (lN_inj r64 d64 ((lg_eq _ _).mp u)))]
    unfold M_rings_205
    rw [gi_s (o35 Lg), g27, if_neg (by decide), gi_s (o35 Lg), Fx_I xg (show ¬ (35 = 35 ∧ 21 = 25) by omega), t2]
    by_cases u : rc = 2000
    · rw [if_pos ((eN_2000 (by omega)).mpr u)]
      exact fin g true (Fx_r _ _ _) (by rw [if_neg q]; exact g27) (by rw [decide_eq_true (show 2000 ≤ rc by omega), Bool.or_true])
    · rw [if_neg (fun v => u ((eN_2000 (by omega)).mp v))]
      exact fin g false (Fx_r _ _ _) (by rw [if_neg q]; exact g27) (by rw [decide_eq_false q, decide_eq_false (by omega)]; rfl)
theorem copy_77 {N M ni : Nat} {F : Nat → Nat} {re : Option Nat → Hp → Option (Int32 × Hp)} (hM : M ≤ 100) : ∀ (r g i : Nat) (h : Hp), i + r = M → r < g → Lay h → hI h 35 14 = nI M → hI h 35 22 = nI ni → (∀ k, k < M → hI h 45 k = nI (F k)) → (∀ k, k < i → hI h 49 k = nI (F k)) → ∃ h', M_rings_77 N re g (some 35) (nI i) h = re (some 35) h' ∧ Fi (fun a k => a = 35 ∧ (k = 22 ∨ k = 24 ∨ k = 25) ∨ a = 49) h h' ∧ hI h' 35 24 = nI M ∧ hI h' 35 25 = 0 ∧ hI h' 35 22 = nI (ni + 1) ∧ ∀ k, k < M → hI h' 49 k = nI (F k)
  | r, 0, _, _, _, hg, _, _, _, _, _ => absurd hg (by omega)
  | 0, g + 1, i, h, hi, _, L, e, e2, hw, hc => by
    simp only [M_rings_77]
    have L1 : Lay (sI h 35 24 (nI M)) := L
    have L2 : Lay (sI (sI h 35 24 (nI M)) 35 25 0) := L
    rw [gi_s (o35 L), e, if_pos ((nI_leI (by omega) (by omega)).mpr (by omega)), gi_s (o35 L), e, pi_s (o35 L), pi_s (o35 L1), gi_s (o35 L2), sI_ne (by omega), sI_ne (by omega), e2, aN_1, pi_s (o35 L2)]
    refine ⟨_, rfl, Fx_t (Fx_t (Fx_sI _ _ (by omega)) (Fx_sI _ _ (by omega))) (Fx_sI _ _ (by omega)), by rw [sI_ne (by omega), sI_ne (by omega), sI_at], by rw [sI_ne (by omega), sI_at], sI_at .., fun k hk => ?_⟩
    rw [sI_ne (by omega), sI_ne (by omega), sI_ne (by omega)]
    exact hc k (by omega)
  | r + 1, g + 1, i, h, hi, hg, L, e, e2, hw, hc => by
    simp only [M_rings_77]
    rw [gi_s (o35 L), e, if_neg (fun u => absurd ((nI_leI (by omega) (by omega)).mp u) (by omega)), gr_s (o35 L), r35_23 L, gr_s (o35 L), r35_13 L, li_s (o45 L) (by rw [k45 L]; show i < 100; omega) (by rw [k45 L]; decide), hw i (by omega), si_s (o49 L) (by rw [k49 L]; show i < 100; omega) (by rw [k49 L]; decide), nmE, show nI i + 1 = nI (i + 1) from aN_1 i]
    obtain ⟨h', a1, a2, a3⟩ := copy_77 (N := N) (re := re) (ni := ni) (F := F) hM r g (i + 1) (sI h 49 i (nI (F i))) (by omega) (by omega) L (by rw [sI_ne (by omega)]; exact e) (by rw [sI_ne (by omega)]; exact e2) (fun k hk => by rw [sI_ne (by omega)]; exact hw k hk) (fun k hk => by
      by_cases q : k = i
      · rw [q, sI_at]
      · rw [sI_ne (by omega)]; exact hc k (by omega))
    exact ⟨h', a1, Fx_t (Fx_sI _ _ (by omega)) a2, a3⟩
/-- what the model's ringing rests on -/
def MC (h : Hp) (n mc ic : Nat) (D : Nat → Md) (im ik : Nat → Nat) : Prop := Lay h ∧ Mn h n ∧ Ms h n mc D ∧ ItM h ic im ik ∧ hI h 35 16 = 1
theorem MC_f {h h' : Hp} {n mc ic : Nat} {D : Nat → Md} {im ik : Nat → Nat} (m : MC h n mc ic D im ik) (f : Fx PgM QgM h h') : MC h' n mc ic D im ik := by
  obtain ⟨m1, ⟨a1, a2, a3⟩, m3, m4, m5⟩ := m
  have z := m1.1
  refine ⟨Fx_Lay f m1, ⟨o35 (Fx_Lay f m1), by rw [Fx_I f (by unfold PgM; omega)]; exact a2, a3⟩, Ms_g m3 z (Gx_F f) (fun a k q u => by unfold PgM at u; omega), ItM_g m4 z (Gx_F f) (fun a k q u => by unfold PgM at u; omega), by rw [Fx_I f (by unfold PgM; omega)]; exact m5⟩
theorem beginI_M {N n ic mc rc g : Nat} {D : Nat → Md} {im ik : Nat → Nat} {rw : Nat → Nat} {cm : Option Nat} {ni cn ca : Nat} {cf : Nat → Nat} {h : Hp} (hN : 3000 < N) (X : MC h n mc ic D im ik) (iv : ∀ j, j < ic → im j < mc ∧ ik j ≤ 2) (i100 : ic ≤ 100) (c : TM h rc rw false cm ni cn ca cf) (hc : ca = cn) (h100 : cn ≤ 100) (hi : ni < ic) : ∃ h', Fx PgM QgM h h' ∧ hI h' 37 = bq true (hI h 37) (CT D (im ni) ni (ik ni)) ∧ TMs h' (rgB (CR D (im ni) ni (ik ni)) rc rw cm ni cn ca cf) ∧
    ((CR D (im ni) ni (ik ni)).1 = 0 ∧ M_rings_0 N (g + 1) (some 35) h = M_rings_0 N g (some 35) h' ∧ hI h' 35 3 = hI h 35 3 ∨ (CR D (im ni) ni (ik ni)).1 ≠ 0 ∧ M_rings_0 N (g + 1) (some 35) h = some (0, h') ∧ hI h' 35 3 = nI (CR D (im ni) ni (ik ni)).1) := by
  obtain ⟨L, m, M, it, e16⟩ := id X
  obtain ⟨t1, t2, t3, t4, t5⟩ := c
  obtain ⟨s1, s2, s3, s4⟩ := t5 rfl
  obtain ⟨m1, m2⟩ := iv ni hi
  have wm : ∀ m, m < mc → Wm n m D := fun m hm => (M.2.2 m hm).2
  have rok := CR_ok (i := ni) (c := ik ni) wm m1
  obtain ⟨x, h1, e1, f1, tr, ex, a1, a2⟩ := M_calledOf_s (N := N) (by omega) L (show hI h 35 16 = qI true from e16) M m1 (show ni < 2 ^ 31 by omega) m2
  obtain ⟨R, eR⟩ : ∃ R, R = CR D (im ni) ni (ik ni) := ⟨_, rfl⟩
  rw [← eR] at ex a1 a2 rok ⊢
  have L1 := Fx_Lay f1 L
  have f1' : Fx PgM QgM h h1 := Fx_m f1 (fun a k q => by unfold PM at q; unfold PgM; omega) (fun _ _ q => q.elim)
  have pre : M_rings_0 N (g + 1) (some 35) h = if x = 0 then (gi [12] 15 (some 35) h1 fun x15 => pi [12] 3 (some 35) x15 h1 fun h16 => pz [12] 26 (some 35) 1 h16 fun h17 => rz 0 h17) else (M_rings_77 N (M_rings_0 N g) N (some 35) 0 h1) := by
    rw [M_rings_0]
    rw [gi_s (o35 L), t3, if_pos (show qI false = 0 from rfl), gi_s (o35 L), s3, gi_s (o35 L), s2, if_pos (by rw [hc]), gi_s (o35 L), s1, gi_s (o35 L), it.1, if_neg (fun u => absurd ((nI_eq (by omega) (by omega)).mp u) (by omega)), gr_s (o35 L), r35_17 L, gi_s (o35 L), s1, li_s (o46 L) (by rw [k46 L]; show ni < 100; omega) (by rw [k46 L]; decide), (it.2 ni hi).1, gi_s (o35 L), s1, gr_s (o35 L), r35_18 L, gi_s (o35 L), s1, li_s (o47 L) (by rw [k47 L]; show ni < 100; omega) (by rw [k47 L]; decide), (it.2 ni hi).2, dM L, e1, cl_s]
  by_cases r0 : R.1 = 0
  · rw [if_pos r0] at ex
    obtain ⟨b1, b2⟩ := a1 r0
    obtain ⟨h2, c1, c2, c3, c4, c5, c6⟩ := copy_77 (N := N) (re := M_rings_0 N g) (ni := ni) (F := R.2.2) rok.2.1 R.2.1 N 0 h1 (by omega) (by have := rok.2.1; omega) L1 b1 (by rw [Fx_I f1 (by unfold PM; omega)]; exact s1) b2 (fun k hk => absurd hk (by omega))
    refine ⟨h2, Fx_t f1' (Fx_m c2 (fun a k q => by unfold PgM; omega) (fun _ _ q => q.elim)), by rw [Fx_row c2 (by omega)]; exact tr, ?_, Or.inl ⟨r0, ?_, ?_⟩⟩
    · unfold TMs rgB
      rw [if_pos r0]
      refine ⟨fun j hj => ?_, ?_, ?_, ?_, fun _ => ⟨c5, c3, c4, c6⟩⟩
      · rw [Fi_L c2, Fi_L f1]; exact t1 j hj
      · rw [Fx_I c2 (by omega), Fx_I f1 (by unfold PM; omega)]; exact t2
      · rw [Fx_I c2 (by omega), Fx_I f1 (by unfold PM; omega)]; exact t3
      · rw [Fx_I c2 (by omega), Fx_I f1 (by unfold PM; omega)]; exact t4
    · rw [pre, ex, if_neg i10]; exact c1
    · rw [Fx_I c2 (by omega), Fx_I f1 (by unfold PM; omega)]
  · rw [if_neg r0] at ex
    have l2 : Lay (sI h1 35 3 (nI R.1)) := L1
    have x2 : Fi (fun a k => a = 35 ∧ (k = 3 ∨ k = 26)) h1 (sI (sI h1 35 3 (nI R.1)) 35 26 1) := Fx_t (Fx_sI _ _ (by omega)) (Fx_sI _ _ (by omega))
    refine ⟨sI (sI h1 35 3 (nI R.1)) 35 26 1, Fx_t f1' (Fx_m x2 (fun a k q => by unfold PgM; omega) (fun _ _ q => q.elim)), by rw [Fx_row x2 (by omega)]; exact tr, ?_, Or.inr ⟨r0, ?_, by rw [sI_ne (by omega), sI_at]⟩⟩
    · unfold TMs rgB
      rw [if_neg r0]
      refine ⟨fun j hj => ?_, ?_, sI_at .., ?_, fun e => (by cases e)⟩
      · rw [Fi_L x2, Fi_L f1]; exact t1 j hj
      · rw [Fx_I x2 (by omega), Fx_I f1 (by unfold PM; omega)]; exact t2
      · rw [Fx_I x2 (by omega), Fx_I f1 (by unfold PM; omega)]; exact t4
    · rw [pre, ex, if_pos rfl, gi_s (o35 L1), a2 r0, pi_s (o35 L1), pz_1 (o35 l2), rz_0]
/-- the model's loop, from where a row more is wanted -/
def kOn (N k g l2 : Nat) (x2 : Int32) (h1 : Hp) : Option (Int32 × Hp) := if x2 = 0 then (M_on_43 N (some 35) h1) else (nm (nI l2 + 1) fun x3 => M_on_25 N g (some 35) (nI k) x3 h1)
def EOn (N n ic : Nat) (h : Hp) (D : Nat → Md) (im ik : Nat → Nat) (f left am : Nat) (S : RS) (P : Option (Int32 × Hp)) : Prop := ∃ h', P = some (nI ((rgn n ic D im ik f left am S).1.1 - 1), h') ∧ Fx PgM QgM h h' ∧ hI h' 37 = bq true (hI h 37) (rgn n ic D im ik f left am S).2.2 ∧ TMs h' (rgn n ic D im ik f left am S).1 ∧ hI h' 35 3 = nI (rgn n ic D im ik f left am S).2.1
theorem on_43 {N : Nat} {S : RS} {h : Hp} (L : Lay h) (c : TMs h S) (r : 1 ≤ S.1) : M_on_43 N (some 35) h = some (nI (S.1 - 1), h) := by
  unfold M_on_43
  rw [gi_s (o35 L), c.2.1, nI_m1 r]
theorem ringOn_M {N n ic mc k : Nat} {D : Nat → Md} {im ik : Nat → Nat} (hN : 3000 < N) (iv : ∀ j, j < ic → im j < mc ∧ ik j ≤ 2) (i100 : ic ≤ 100) (hk : k ≤ 1000) : ∀ (f g g' left l2 am : Nat) (S : RS) (h : Hp), 1 ≤ left → l2 + left = k → (S.2.2.1 = false → left + (ic - S.2.2.2.2.1) ≤ f ∧ am = 0) → ic - S.2.2.2.2.1 < g' → left ≤ g → MC h n mc ic D im ik → TWs n ic S → TMs h S → hI h 35 3 = nI am → EOn N n ic h D im ik f left am S (cl (M_rings_0 N g' (some 35) h) (kOn N k g l2)) := by
  intro f
  induction f with
  | zero =>
    intro g g' left l2 am S h l1 lk hf hg hl X w c e3
    obtain ⟨rc, rw', st, cm, ni, cn, ca, cf⟩ := S
    cases st with
    | false => have := (hf rfl).1; omega
    | true =>
      have L := X.1
      obtain ⟨g', rfl⟩ : ∃ q, g' = q + 1 := ⟨g' - 1, by omega⟩
      refine ⟨h, ?_, Fx_r _ _ _, rfl, c, e3⟩
      rw [M_rings_0]
      rw [gi_s (o35 L), c.2.2.1, if_neg (show ¬ qI true = 0 by decide)]
      unfold M_rings_129
      rw [gi_s (o35 L), c.2.2.1, if_neg (show ¬ qI true = 0 by decide), rz_0, cl_s]
      unfold kOn
      rw [if_pos rfl, on_43 L c w.1.1]
      rfl
  | succ f ih =>
    intro g g' left l2 am S h l1 lk hf hg hl X w c e3
    obtain ⟨rc, rw', st, cm, ni, cn, ca, cf⟩ := S
    obtain ⟨g', rfl⟩ : ∃ q, g' = q + 1 := ⟨g' - 1, by omega⟩
    have L := X.1
    cases st with
    | true =>
      unfold EOn
      rw [rgn_0 (Or.inr rfl)]
      refine ⟨h, ?_, Fx_r _ _ _, rfl, c, e3⟩
      rw [M_rings_0]
      rw [gi_s (o35 L), c.2.2.1, if_neg (show ¬ qI true = 0 by decide)]
      unfold M_rings_129
      rw [gi_s (o35 L), c.2.2.1, if_neg (show ¬ qI true = 0 by decide), rz_0, cl_s]
      unfold kOn
      rw [if_pos rfl, on_43 L c w.1.1]
    | false =>
      obtain ⟨hf1, hf2⟩ := hf rfl
      obtain ⟨s1, s2, s3, s4⟩ := c.2.2.2.2 rfl
      obtain ⟨v1, v2, v3, v4⟩ := w.2.2.2.2.2.2 rfl
      dsimp only at s1 s2 s3 s4 v1 v2 v3 v4 hf1 hg
      unfold EOn
      by_cases hc : ca < cn
      · rw [rgn_r (by omega) hc]
        obtain ⟨h1, e1, x1, c1⟩ := ringRow_M (N := N) hN L X.2.1 w c hc
        have x1' : Fx PgM QgM h h1 := Fx_m x1 (fun a k q => by unfold PgM; omega) (fun _ _ q => q)
        have X1 := MC_f X x1'
        have w1 := TW_row w hc
        have t37 : hI h1 37 = hI h 37 := Fx_row x1 (by omega)
        have e31 : hI h1 35 3 = nI am := by rw [Fx_I x1 (by omega)]; exact e3
        have pre : cl (M_rings_0 N (g' + 1) (some 35) h) (kOn N k g l2) = M_on_25 N g (some 35) (nI k) (nI (l2 + 1)) h1 := by
          rw [M_rings_0]
          rw [gi_s (o35 L), c.2.2.1, if_pos (show qI false = 0 from rfl), gi_s (o35 L), s3, gi_s (o35 L), s2, if_neg (fun u => absurd ((nI_eq (by omega) (by omega)).mp u) (by omega)), e1, cl_s]
          unfold kOn
          rw [if_neg i10, nmE, aN_1]
        rw [pre]
        obtain ⟨g, rfl⟩ : ∃ q, g = q + 1 := ⟨g - 1, by omega⟩
        rw [M_on_25]
        by_cases le : left = 1
        · rw [rgn_0 (Or.inl (by omega)), if_pos ((nI_leI (by omega) (by omega)).mpr (by omega))]
          exact ⟨h1, on_43 X1.1 c1 w1.1.1, x1', t37, c1, e31⟩
        · rw [if_neg (fun u => absurd ((nI_leI (by omega) (by omega)).mp u) (by omega)), dM X1.1]
          unfold M_rings
          obtain ⟨h2, a1, a2, a3, a4, a5⟩ := ih g N (left - 1) (l2 + 1) am (rgR n rc rw' ni cn ca cf) h1 (by omega) (by omega) (fun _ => ⟨by show left - 1 + (ic - ni) ≤ f; omega, hf2⟩) (by show ic - ni < N; omega) (by omega) X1 w1 c1 e31
          exact ⟨h2, a1, Fx_t x1' a2, by rw [a3, t37], a4, a5⟩
      · by_cases hi : ni < ic
        · rw [rgn_b (by omega) hc hi]
          obtain ⟨h1, x1, t1, c1, q⟩ := beginI_M (N := N) (g := g') hN X iv i100 c (show ca = cn by omega) v3 hi
          have X1 := MC_f X x1
          have wm : ∀ m, m < mc → Wm n m D := fun m hm => (X.2.2.1.2.2 m hm).2
          have rok := CR_ok (i := ni) (c := ik ni) wm (iv ni hi).1
          have w1 := TW_beg w hi rok
          rcases q with ⟨r0, e1, e31⟩ | ⟨r0, e1, e31⟩
          · rw [e1]
            have nb : (rgB (CR D (im ni) ni (ik ni)) rc rw' cm ni cn ca cf).2.2.2.2.1 = ni + 1 := by unfold rgB; rw [if_pos r0]
            obtain ⟨h2, a1, a2, a3, a4, a5⟩ := ih g g' left l2 (CR D (im ni) ni (ik ni)).1 (rgB (CR D (im ni) ni (ik ni)) rc rw' cm ni cn ca cf) h1 l1 lk (fun _ => ⟨by rw [nb]; omega, r0⟩) (by rw [nb]; omega) hl X1 w1 c1 (by rw [e31, e3, hf2, r0])
            exact ⟨h2, a1, Fx_t x1 a2, by rw [a3, t1, ← bq_app], a4, a5⟩
          · have sb : (rgB (CR D (im ni) ni (ik ni)) rc rw' cm ni cn ca cf).2.2.1 = true := by unfold rgB; rw [if_neg r0]
            rw [rgn_0 (Or.inr sb), e1, cl_s]
            unfold kOn
            rw [if_pos rfl]
            exact ⟨h1, on_43 X1.1 c1 w1.1.1, x1, by rw [List.append_nil]; exact t1, c1, e31⟩
        · rw [rgn_e (by omega) hc hi]
          refine ⟨h, ?_, Fx_r _ _ _, rfl, c, e3⟩
          rw [M_rings_0]
          rw [gi_s (o35 L), c.2.2.1, if_pos (show qI false = 0 from rfl), gi_s (o35 L), s3, gi_s (o35 L), s2, if_pos (by congr 1; omega), gi_s (o35 L), s1, gi_s (o35 L), X.2.2.2.1.1, if_pos (by congr 1; omega), rz_0, cl_s]
          unfold kOn
          rw [if_pos rfl, on_43 L c w.1.1]
