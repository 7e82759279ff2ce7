/-! PURE: notation: the model's blocks -/
theorem eN_120 {c : Nat} (hc : c < 2 ^ 31) : nI c = 120 ↔ c = 120 := nI_eqk 120 hc (by decide)
def gk (k0 fb : Nat) (G U : Nat → Nat) (k : Nat) : Nat := if k < k0 then G k else U (k - k0 + fb)
def BA (h : Hp) (k0 fb m : Nat) (G U : Nat → Nat) : Prop := hI h 35 55 = nI (k0 + (m - fb)) ∧ ∀ k, k < k0 + (m - fb) → hI h 61 k = nI (gk k0 fb G U k)
theorem BA_push {h h' : Hp} {k0 fb m v : Nat} {G U : Nat → Nat} (b : BA h k0 fb m G U) (hm : fb ≤ m) (e1 : hI h' 35 55 = nI (k0 + (m - fb) + 1)) (e2 : hI h' 61 (k0 + (m - fb)) = nI v) (e3 : ∀ k, k ≠ k0 + (m - fb) → hI h' 61 k = hI h 61 k) : BA h' k0 fb (m + 1) G (va_up U m v) := by
  refine ⟨by rw [e1]; congr 1; omega, fun k hk => ?_⟩
  unfold gk
  by_cases q : k = k0 + (m - fb)
  · rw [if_neg (by omega), up_at, if_pos (by omega), q, e2]
  · rw [e3 k q, b.2 k (by omega)]
    unfold gk
    by_cases u : k < k0
    · rw [if_pos u, if_pos u]
    · rw [if_neg u, if_neg u, up_at, if_neg (by omega)]
theorem BA_f {h h' : Hp} {k0 fb m : Nat} {G U : Nat → Nat} (b : BA h k0 fb m G U) {P Q : Nat → Nat → Prop} (f : Fx P Q h h') (p : ∀ a k, P a k → ¬ (a = 35 ∧ k = 55) ∧ a ≠ 61) : BA h' k0 fb m G U :=
  ⟨by rw [Fx_I f (fun c => (p _ _ c).1 ⟨rfl, rfl⟩)]; exact b.1, fun k hk => by rw [Fx_I f (fun c => (p _ _ c).2 rfl)]; exact b.2 k hk⟩
/-- the sign at a place -/
def sv (t : Nat) (B : Nat → Nat) (i : Nat) : Int32 := if i < t then nI (B i) else -1
/-- how reading of a block may end -/
def BE (h h' : Hp) (n t i r st tc fb lp oc k0 : Nat) (B T G : Nat → Nat) (P : Option (Int32 × Hp)) : Prop :=
  (P = some (0, h') ∧ Fi PMr h h' ∧ ∃ e, hI h' 35 56 = nI e ∧ rn n B r i (st, tc, fb, lp, oc, T) = .inl e) ∨
  (P = some (1, h') ∧ Fi PMr h h' ∧ ∃ (e st' tc' lp' oc' : Nat) (T' : Nat → Nat), e ≤ t ∧ hI h' 35 56 = nI e ∧ (e = t ∨ B e = 44) ∧ rn n B r i (st, tc, fb, lp, oc, T) = rn n B (t - e) e (st', tc', fb, lp', oc', T') ∧ (st' = 1 ∨ st' = 2) ∧ WS n e st' tc' fb lp' oc' T' ∧ BA h' k0 fb (ctc st' tc') G (cTf n st' tc' lp' oc' T') ∧ ∀ j, j < fb → T' j = T j)
theorem BE_pre {h h1 h' : Hp} {n t i r st tc fb lp oc k0 i1 r1 st1 tc1 lp1 oc1 : Nat} {B T T1 G : Nat → Nat} {P P1 : Option (Int32 × Hp)} (x : Fi PMr h h1) (eP : P = P1) (er : rn n B r i (st, tc, fb, lp, oc, T) = rn n B r1 i1 (st1, tc1, fb, lp1, oc1, T1)) (eT : ∀ j, j < fb → T1 j = T j) (b : BE h1 h' n t i1 r1 st1 tc1 fb lp1 oc1 k0 B T1 G P1) : BE h h' n t i r st tc fb lp oc k0 B T G P := by
  rw [eP]
  rcases b with ⟨b1, b2, e, b3, b4⟩ | ⟨b1, b2, e, st', tc', lp', oc', T', b3, b4, b5, b6, b7, b8, b9, b10⟩
  · exact Or.inl ⟨b1, Fx_t x b2, e, b3, by rw [er]; exact b4⟩
  · exact Or.inr ⟨b1, Fx_t x b2, e, st', tc', lp', oc', T', b3, b4, b5, by rw [er]; exact b6, b7, b8, b9, fun j hj => by rw [b10 j hj]; exact eT j hj⟩
/-- places have been read: the block goes on -/
theorem blk_pl {N n t i r st tc fb lp oc k0 g : Nat} {B T G : Nat → Nat} {h : Hp} (hN : 1000 < N) (hi : i + (r + 1) = t) (M : MT h n t B) (ei : hI h 35 56 = nI i) (w : WS n i st tc fb lp oc T) (ba : BA h k0 fb tc G T) (hk : k0 ≤ 2 * fb) (s2 : st ≠ 2) (hp : plc (B i) ≠ 0)
    (ih : ∀ (i r st tc lp oc : Nat) (T : Nat → Nat) (l2 l3 : Nat) (h : Hp), i + r = t → r < g → MT h n t B → hI h 35 56 = nI i → WS n i st tc fb lp oc T → BA h k0 fb (ctc st tc) G (cTf n st tc lp oc T) → (l3 = 0 ∧ l2 = 0 ∧ st = 0 ∨ l3 = 1 ∧ l2 = 0 ∧ st = 1 ∨ l3 = 1 ∧ l2 = 1 ∧ st = 2 ∧ (i = t ∨ plc (B i) = 0)) → ∃ h', BE h h' n t i r st tc fb lp oc k0 B T G (M_block_9 N g (some 35) (nI l2) (nI l3) h)) (hg : r < g) :
    ∃ h', BE h h' n t i (r + 1) st tc fb lp oc k0 B T G (M_block_115 N (M_block_9 N g) (some 35) (nI (B i)) h) := by
  obtain ⟨L, m, et, eb, t3, b3⟩ := id M
  have p12 := plc_le (B i)
  have cte : ctc st tc = tc := by unfold ctc; rw [if_neg s2]
  have w1 := w.1
  obtain ⟨h1, c⟩ := places_1 (N := N) hN hi M ei ba.1 (by omega) w s2 hp
  have pre : M_block_115 N (M_block_9 N g) (some 35) (nI (B i)) h = cl (ds [(12, M_places N (some 35) h)] (some 35) h) fun x4 h3 => if x4 = 0 then rz 0 h3 else M_block_184 N (M_block_9 N g) (some 35) 1 h3 := by
    unfold M_block_115
    have hb := b3 i (by omega)
    rw [if_neg (fun u => (plc_ne hp).2.2 ((eN_120 (by omega)).mp u)), placeOf_e, pl_b _ hb, cl_s, if_neg (fun u => absurd ((leN_0 (by omega)).mp u) (by omega))]
  rcases c with ⟨c1, c2, e, c3, c4⟩ | ⟨c1, c2, e, lp', oc', c3, c4, c5, c6, c7, c8, c9⟩
  · refine ⟨h1, Or.inl ⟨?_, c2, e, c3, c4⟩⟩
    rw [pre, c1, cl_s, if_pos rfl, rz_0]
  · have ct2 : ctc 2 tc = tc + 1 := rfl
    have x1 : Fi PMr h h1 := Fx_m c2 (fun a k q => by unfold PMr; omega) (fun _ _ q => q)
    obtain ⟨h', q⟩ := ih e (t - e) 2 tc lp' oc' T 1 1 h1 (by omega) (by omega) (MT_f M x1) c4 c9 (by
      rw [ct2]
      show BA h1 k0 fb (tc + 1) G (va_up T tc (prF 12 oc' (lp' + 1) n))
      exact BA_push ba w1.2.2 c7 c8 (fun k hk => Fx_I c2 (by omega))) (Or.inr (Or.inr ⟨rfl, rfl, rfl, c6⟩))
    refine ⟨h', BE_pre x1 ?_ c5 (fun _ _ => rfl) q⟩
    rw [pre, c1, cl_s, if_neg i10]
    rfl
theorem tk_none {n st tc fb lp oc b : Nat} {T : Nat → Nat} (hp : plc b = 0) (h1 : b = 44 → ¬ (st = 1 ∨ st = 2)) (h2 : b = 46 → st ≠ 2) (h3 : b = 120 → st = 3) : tk n st tc fb lp oc T b = none := by
  unfold tk
  by_cases b1 : b = 44
  · rw [if_pos b1, if_neg (fun u => h1 b1 u.2)]
  rw [if_neg b1]
  by_cases b2 : b = 46
  · rw [if_pos b2, if_neg (h2 b2)]
  rw [if_neg b2]
  by_cases b4 : b = 120
  · rw [if_pos b4, if_pos (h3 b4)]
  rw [if_neg b4, if_pos (Or.inl hp)]
theorem cTf_o {n st tc lp oc : Nat} {T : Nat → Nat} {j : Nat} (hj : j < tc) : cTf n st tc lp oc T j = T j := by
  unfold cTf
  by_cases q : st = 2
  · rw [if_pos q, up_at, if_neg (by omega)]
  · rw [if_neg q]
theorem sv_44 {t : Nat} {B : Nat → Nat} {i : Nat} (hi : i < t) (hb : B i < 256) : sv t B i ≠ -1 ∧ (sv t B i = 44 ↔ B i = 44) ∧ (sv t B i = 46 ↔ B i = 46) ∧ (sv t B i = 120 ↔ B i = 120) := by
  unfold sv
  rw [if_pos hi]
  refine ⟨fun u => ?_, nI_eqk 44 (by omega) (by decide), nI_eqk 46 (by omega) (by decide), nI_eqk 120 (by omega) (by decide)⟩
  have := nI_pos (n := B i) (by omega)
  rw [u] at this
  exact this (by decide)
theorem block_l {N n t fb k0 : Nat} {B G : Nat → Nat} (hN : 1000 < N) (hk : k0 ≤ 2 * fb) : ∀ (g i r st tc lp oc : Nat) (T : Nat → Nat) (l2 l3 : Nat) (h : Hp), i + r = t → r < g → MT h n t B → hI h 35 56 = nI i → WS n i st tc fb lp oc T → BA h k0 fb (ctc st tc) G (cTf n st tc lp oc T) → (l3 = 0 ∧ l2 = 0 ∧ st = 0 ∨ l3 = 1 ∧ l2 = 0 ∧ st = 1 ∨ l3 = 1 ∧ l2 = 1 ∧ st = 2 ∧ (i = t ∨ plc (B i) = 0)) → ∃ h', BE h h' n t i r st tc fb lp oc k0 B T G (M_block_9 N g (some 35) (nI l2) (nI l3) h)
  | 0, _, _, _, _, _, _, _, _, _, _, _, hg, _, _, _, _, _ => absurd hg (by omega)
  | g + 1, i, r, st, tc, lp, oc, T, l2, l3, h, hi, hg, M, ei, w, ba, hs => by
    obtain ⟨L, m, et, eb, t3, b3⟩ := id M
    have w1 := w.1
    have cl3 := ctc_le st tc
    have l23 : l2 ≤ 1 ∧ l3 ≤ 1 := by omega
    have pre : M_block_9 N (g + 1) (some 35) (nI l2) (nI l3) h = M_block_33 N (M_block_9 N g) (some 35) (nI l2) (nI l3) (sv t B i) h := by
      rw [M_block_9]
      unfold sv
      rw [gi_s (o35 L), ei, gi_s (o35 L), et]
      by_cases q : i < t
      · rw [if_neg (fun u => absurd ((nI_leI (by omega) (by omega)).mp u) (by omega)), gr_s (o35 L), r35_0 L, gi_s (o35 L), ei, li_s (o36 L) (by rw [k36 L]; show i < 300; omega) (by rw [k36 L]; decide), eb i q, if_pos q]
      · rw [if_pos ((nI_leI (by omega) (by omega)).mpr (by omega)), if_neg q]
    rw [pre]
    by_cases A : l3 = 1 ∧ (i = t ∨ B i = 44)
    · refine ⟨h, Or.inr ⟨?_, Fx_r _ _ _, i, st, tc, lp, oc, T, by omega, ei, A.2, by rw [show t - i = r by omega], by omega, w, ba, fun _ _ => rfl⟩⟩
      unfold M_block_33
      rw [if_neg (fun u => absurd ((eN_0 (by omega)).mp u) (by omega))]
      by_cases q : i < t
      · obtain ⟨v1, v2, v3, v4⟩ := sv_44 q (b3 i q)
        rw [if_neg v1, if_pos (v2.mpr (by omega)), rz_1]
      · unfold sv
        rw [if_neg q, if_pos rfl, rz_1]
    have e33 : M_block_33 N (M_block_9 N g) (some 35) (nI l2) (nI l3) (sv t B i) h = M_block_54 N (M_block_9 N g) (some 35) (nI l2) (nI l3) (sv t B i) h := by
      unfold M_block_33
      by_cases q : l3 = 0
      · rw [if_pos ((eN_0 (by omega)).mpr q)]
      · have it : i < t := by omega
        obtain ⟨v1, v2, v3, v4⟩ := sv_44 it (b3 i it)
        rw [if_neg (fun u => q ((eN_0 (by omega)).mp u)), if_neg v1, if_neg (fun u => by have := v2.mp u; omega)]
    rw [e33]
    by_cases it : i < t
    · obtain ⟨r, rfl⟩ : ∃ r', r = r' + 1 := ⟨r - 1, by omega⟩
      obtain ⟨v1, v2, v3, v4⟩ := sv_44 it (b3 i it)
      have hb := b3 i it
      by_cases dot : st = 2 ∧ B i = 46
      · -- a dot behind places
        obtain ⟨d1, d2⟩ := dot
        have e2 : tk n st tc fb lp oc T (B i) = some (3, ctc st tc, fb, lp, oc, cTf n st tc lp oc T) := by
          unfold tk
          rw [if_neg (by omega), if_pos d2, if_pos d1]
        have w' := tk_ws w e2
        have x1 : Fi PMr h (sI h 35 56 (nI (i + 1))) := Fx_sI _ _ (by unfold PMr; omega)
        have M1 := MT_f M x1
        have L1 := M1.1
        have ei1 : hI (sI h 35 56 (nI (i + 1))) 35 56 = nI (i + 1) := sI_at ..
        have ba1 : BA (sI h 35 56 (nI (i + 1))) k0 fb (ctc st tc) G (cTf n st tc lp oc T) := BA_f ba (P := fun a k => a = 35 ∧ k = 56) (Q := nF) (Fx_sI _ _ ⟨rfl, rfl⟩) (by omega)
        have e54 : M_block_54 N (M_block_9 N g) (some 35) (nI l2) (nI l3) (sv t B i) h = M_block_103 N (M_block_9 N g) (some 35) (sv t B (i + 1)) (sI h 35 56 (nI (i + 1))) := by
          unfold M_block_54
          rw [if_neg (fun u => absurd ((eN_0 (by omega)).mp u) (by omega)), if_neg (fun u => absurd ((eN_0 (by omega)).mp u) (by omega)), if_pos (v3.mpr d2), gi_s (o35 L), ei, aN_1, pi_s (o35 L), gi_s (o35 L1), ei1, gi_s (o35 L1), M1.2.2.1]
          by_cases q : i + 1 < t
          · rw [if_neg (fun u => absurd ((nI_leI (by omega) (by omega)).mp u) (by omega)), gr_s (o35 L1), r35_0 L1, gi_s (o35 L1), ei1, li_s (o36 L1) (by rw [k36 L1]; show i + 1 < 300; omega) (by rw [k36 L1]; decide), M1.2.2.2.1 (i + 1) q]
            unfold sv
            rw [if_pos q]
          · rw [if_pos ((nI_leI (by omega) (by omega)).mpr (by omega))]
            unfold sv
            rw [if_neg q]
        rw [e54]
        by_cases q : i + 1 < t ∧ plc (B (i + 1)) ≠ 0
        · obtain ⟨r, rfl⟩ : ∃ r', r = r' + 1 := ⟨r - 1, by omega⟩
          obtain ⟨h', c⟩ := blk_pl (N := N) (g := g) hN (show i + 1 + (r + 1) = t by omega) M1 ei1 w' ba1 hk (show 3 ≠ 2 by decide) q.2 (fun i r st tc lp oc T l2 l3 h => block_l hN hk g i r st tc lp oc T l2 l3 h) (by omega)
          refine ⟨h', BE_pre x1 ?_ (rn_s e2) (fun j hj => cTf_o (by omega)) c⟩
          unfold M_block_103 sv
          have p12 := plc_le (B (i + 1))
          rw [if_pos q.1, placeOf_e, pl_b _ (b3 _ q.1), cl_s, if_neg (fun u => q.2 ((eN_0 (by omega)).mp u))]
        · refine ⟨_, Or.inl ⟨?_, x1, i + 1, ei1, ?_⟩⟩
          · unfold M_block_103 sv
            by_cases u : i + 1 < t
            · rw [if_pos u, placeOf_e, pl_b _ (b3 _ u), cl_s, show plc (B (i + 1)) = 0 by omega, if_pos (show nI 0 = 0 from rfl), rz_0]
            · rw [if_neg u, placeOf_e, plI_m1, cl_s, if_pos rfl, rz_0]
          · rw [rn_s e2]
            by_cases u : i + 1 < t
            · obtain ⟨r, rfl⟩ : ∃ r', r = r' + 1 := ⟨r - 1, by omega⟩
              exact rn_n (tk_none (by omega) (fun _ => by decide) (fun _ => by decide) (fun _ => rfl))
            · rw [show r = 0 by omega]
              rfl
      · have e54 : M_block_54 N (M_block_9 N g) (some 35) (nI l2) (nI l3) (sv t B i) h = M_block_115 N (M_block_9 N g) (some 35) (nI (B i)) h := by
          unfold M_block_54
          have svb : sv t B i = nI (B i) := by unfold sv; rw [if_pos it]
          by_cases q : l3 = 0
          · rw [if_pos ((eN_0 (by omega)).mpr q), svb]
          rw [if_neg (fun u => q ((eN_0 (by omega)).mp u))]
          by_cases q2 : l2 = 0
          · rw [if_pos ((eN_0 (by omega)).mpr q2), svb]
          rw [if_neg (fun u => q2 ((eN_0 (by omega)).mp u)), if_neg (fun u => by have := v3.mp u; omega), svb]
        rw [e54]
        by_cases cr : B i = 120
        · -- a cross
          have s3 : st ≠ 3 := by omega
          have e2 : tk n st tc fb lp oc T (B i) = some (1, ctc st tc + 1, fb, lp, oc, va_up (cTf n st tc lp oc T) (ctc st tc) (prF 12 0 1 n)) := by
            unfold tk
            rw [if_neg (by omega), if_neg (by omega), if_pos cr, if_neg s3]
          have w' := tk_ws w e2
          have hx : k0 + (ctc st tc - fb) < 600 := by omega
          obtain ⟨x, ex⟩ : ∃ x, x = k0 + (ctc st tc - fb) := ⟨_, rfl⟩
          have ex55 : hI h 35 55 = nI x := by rw [ex]; exact ba.1
          obtain ⟨h1, eh1⟩ : ∃ h1, h1 = sI (sI (sI h 61 x (nI (prF 12 0 1 n))) 35 55 (nI (x + 1))) 35 56 (nI (i + 1)) := ⟨_, rfl⟩
          have x1 : Fi (fun a k => a = 35 ∧ (k = 55 ∨ k = 56) ∨ a = 61 ∧ k = x) h h1 := by
            rw [eh1]; exact Fx_t (Fx_t (Fx_sI _ _ (by omega)) (Fx_sI _ _ (by omega))) (Fx_sI _ _ (by omega))
          have x1' : Fi PMr h h1 := Fx_m x1 (fun a k q => by unfold PMr; omega) (fun _ _ q => q)
          have e55 : hI h1 35 55 = nI (x + 1) := by rw [eh1, sI_ne (by omega), sI_at]
          have e61 : hI h1 61 x = nI (prF 12 0 1 n) := by rw [eh1, sI_ne (by omega), sI_ne (by omega), sI_at]
          have e56 : hI h1 35 56 = nI (i + 1) := by rw [eh1, sI_at]
          have e115 : M_block_115 N (M_block_9 N g) (some 35) (nI (B i)) h = M_block_9 N g (some 35) (nI 0) (nI 1) h1 := by
            unfold M_block_115
            have La : Lay (sI h 61 x (nI (prF 12 0 1 n))) := L
            have Lb : Lay (sI (sI h 61 x (nI (prF 12 0 1 n))) 35 55 (nI (x + 1))) := L
            rw [if_pos ((eN_120 (by omega)).mpr cr), gr_s (o35 L), r35_54 L, gi_s (o35 L), ex55, mcross_s (by omega) L m, cl_s, si_s (o61 L) (by rw [k61 L]; show x < 600; omega) (by rw [k61 L]; decide), gi_s (o35 La), sI_ne (by omega), ex55, aN_1, pi_s (o35 La), gi_s (o35 Lb), sI_ne (by omega), sI_ne (by omega), ei, aN_1, pi_s (o35 Lb), eh1]
            rfl
          clear eh1
          obtain ⟨h', c⟩ := block_l hN hk g (i + 1) r 1 (ctc st tc + 1) lp oc (va_up (cTf n st tc lp oc T) (ctc st tc) (prF 12 0 1 n)) 0 1 h1 (by omega) (by omega) (MT_f M x1') e56 w' (by
            show BA h1 k0 fb (ctc st tc + 1) G (va_up (cTf n st tc lp oc T) (ctc st tc) (prF 12 0 1 n))
            rw [ex] at e55 e61
            exact BA_push ba (by omega) e55 e61 (fun k hk => Fx_I x1 (by omega))) (Or.inr (Or.inl ⟨rfl, rfl, rfl⟩))
          refine ⟨h', BE_pre x1' e115 (rn_s e2) (fun j hj => ?_) c⟩
          rw [up_at, if_neg (by omega), cTf_o (by omega)]
        · by_cases hp : plc (B i) = 0
          · refine ⟨h, Or.inl ⟨?_, Fx_r _ _ _, i, ei, rn_n (tk_none hp (fun u => ?_) (fun u v => dot ⟨v, u⟩) (fun u => absurd u cr))⟩⟩
            · unfold M_block_115
              rw [if_neg (fun u => cr ((eN_120 (by omega)).mp u)), placeOf_e, pl_b _ hb, cl_s, hp, if_pos (show nI 0 ≤ 0 by decide), rz_0]
            · omega
          · have s2 : st ≠ 2 := by omega
            have cte : ctc st tc = tc := by unfold ctc; rw [if_neg s2]
            have cfe : cTf n st tc lp oc T = T := by unfold cTf; rw [if_neg s2]
            rw [cte, cfe] at ba
            exact blk_pl (N := N) (g := g) hN hi M ei w ba hk s2 hp (fun i r st tc lp oc T l2 l3 h => block_l hN hk g i r st tc lp oc T l2 l3 h) (by omega)
    · have s0 : l3 = 0 ∧ l2 = 0 ∧ st = 0 := by omega
      refine ⟨h, Or.inl ⟨?_, Fx_r _ _ _, i, ei, ?_⟩⟩
      · unfold M_block_54 M_block_115
        have : sv t B i = -1 := by unfold sv; rw [if_neg it]
        rw [if_pos ((eN_0 (by omega)).mpr s0.1), this, if_neg (by decide), placeOf_e, plI_m1, cl_s, if_pos (by decide), rz_0]
      · rw [show r = 0 by omega]
        simp only [rn]
        rw [if_neg (by omega)]
