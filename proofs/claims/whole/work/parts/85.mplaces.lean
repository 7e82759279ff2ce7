/-! PURE: notation: the model's places -/
def PMr (a k : Nat) : Prop := a = 35 ∧ (k = 55 ∨ k = 56) ∨ a = 61
def MT (h : Hp) (n t : Nat) (B : Nat → Nat) : Prop := Lay h ∧ Mn h n ∧ hI h 35 1 = nI t ∧ (∀ k, k < t → hI h 36 k = nI (B k)) ∧ t ≤ 300 ∧ ∀ k, k < t → B k < 256
theorem MT_f {h h' : Hp} {n t : Nat} {B : Nat → Nat} (m : MT h n t B) (f : Fi PMr h h') : MT h' n t B := by
  obtain ⟨m1, ⟨a1, a2, a3⟩, m3, m4, m5⟩ := m
  refine ⟨Fx_Lay f m1, ⟨by rw [Fx_ok f]; exact a1, ?_, a3⟩, ?_, fun k hk => ?_, m5⟩
  · rw [Fx_I f (by unfold PMr; omega)]; exact a2
  · rw [Fx_I f (by unfold PMr; omega)]; exact m3
  · rw [Fx_I f (by unfold PMr; omega)]; exact m4 k hk
theorem mpl_92 {N : Nat} {re : Option Nat → Int32 → Int32 → Hp → Option (Int32 × Hp)} {p i : Nat} {h : Hp} (L : Lay h) (e : hI h 35 56 = nI i) (p1 : 1 ≤ p) (p2 : p ≤ 12) : ∀ (f g c a : Nat), p - 1 ≤ a + f → f < g → 1 ≤ a → a ≤ 14 → M_places_92 N re g (some 35) (nI c) (nI p) (nI a) h = re (some 35) (nI (prF f c a (p - 1))) (nI p) (sI h 35 56 (nI (i + 1)))
  | f, 0, _, _, _, hg, _, _ => absurd hg (by omega)
  | 0, g + 1, c, a, h1, _, _, h4 => by
    simp only [M_places_92, prF]
    rw [aN_1, if_pos ((nI_leI (by omega) (by omega)).mpr (by omega)), gi_s (o35 L), e, aN_1, pi_s (o35 L)]
  | f + 1, g + 1, c, a, h1, h2, h3, h4 => by
    simp only [M_places_92, prF]
    by_cases q : p - 1 ≤ a
    · rw [aN_1, if_pos ((nI_leI (by omega) (by omega)).mpr (by omega)), gi_s (o35 L), e, aN_1, pi_s (o35 L), if_pos q]
    · rw [aN_1, if_neg (fun u => absurd ((nI_leI (by omega) (by omega)).mp u) (by omega)), if_neg q, nmE, nmE, bit_or h3 (by omega), aN_2]
      exact mpl_92 L e p1 p2 f g _ _ (by omega) (by omega) (by omega) (by omega)
theorem mpl_134 {N n x : Nat} {h : Hp} (L : Lay h) (m : Mn h n) (e : hI h 35 55 = nI x) (hx : x < 600) : ∀ (f g c a : Nat), n ≤ a + f → f < g → 1 ≤ a → a ≤ 14 → M_places_134 N g (some 35) (nI c) (nI a) h = some (1, sI (sI h 61 x (nI (prF f c a n))) 35 55 (nI (x + 1)))
  | f, 0, _, _, _, hg, _, _ => absurd hg (by omega)
  | 0, g + 1, c, a, h1, _, _, h4 => by
    have n12 := m.2.2.2
    simp only [M_places_134, prF]
    have L1 : Lay (sI h 61 x (nI c)) := L
    rw [gi_s (o35 L), m.2.1, aN_1, if_pos ((nI_ltI (by omega) (by omega)).mpr (by omega)), gr_s (o35 L), r35_54 L, gi_s (o35 L), e, si_s (o61 L) (by rw [k61 L]; exact hx) (by rw [k61 L]; decide), gi_s (o35 L1), sI_ne (by omega), e, aN_1, pi_s (o35 L1), rz_1]
  | f + 1, g + 1, c, a, h1, h2, h3, h4 => by
    have n12 := m.2.2.2
    simp only [M_places_134, prF]
    by_cases q : n ≤ a
    · have L1 : Lay (sI h 61 x (nI c)) := L
      rw [gi_s (o35 L), m.2.1, aN_1, if_pos ((nI_ltI (by omega) (by omega)).mpr (by omega)), gr_s (o35 L), r35_54 L, gi_s (o35 L), e, si_s (o61 L) (by rw [k61 L]; exact hx) (by rw [k61 L]; decide), gi_s (o35 L1), sI_ne (by omega), e, aN_1, pi_s (o35 L1), rz_1, if_pos q]
    · rw [gi_s (o35 L), m.2.1, aN_1, if_neg (fun u => absurd ((nI_ltI (by omega) (by omega)).mp u) (by omega)), if_neg q, nmE, nmE, bit_or h3 (by omega), aN_2]
      exact mpl_134 L m e hx f g _ _ (by omega) (by omega) (by omega) (by omega)
theorem mcross_l {N n : Nat} {h : Hp} (L : Lay h) (m : Mn h n) : ∀ (f g c a : Nat), n ≤ a + f → f < g → 1 ≤ a → a ≤ 14 → M_cross_4 N g (some 35) (nI c) (nI a) h = some (nI (prF f c a n), h)
  | f, 0, _, _, _, hg, _, _ => absurd hg (by omega)
  | 0, g + 1, c, a, h1, _, _, h4 => by
    have n12 := m.2.2.2
    simp only [M_cross_4, prF]
    rw [gi_s (o35 L), m.2.1, aN_1, if_pos ((nI_ltI (by omega) (by omega)).mpr (by omega))]
  | f + 1, g + 1, c, a, h1, h2, h3, h4 => by
    have n12 := m.2.2.2
    simp only [M_cross_4, prF]
    by_cases q : n ≤ a
    · rw [gi_s (o35 L), m.2.1, aN_1, if_pos ((nI_ltI (by omega) (by omega)).mpr (by omega)), if_pos q]
    · rw [gi_s (o35 L), m.2.1, aN_1, if_neg (fun u => absurd ((nI_ltI (by omega) (by omega)).mp u) (by omega)), if_neg q, nmE, nmE, bit_or h3 (by omega), aN_2]
      exact mcross_l L m f g _ _ (by omega) (by omega) (by omega) (by omega)
theorem mcross_s {N n : Nat} {h : Hp} (hN : 100 < N) (L : Lay h) (m : Mn h n) : ds [(12, M_cross N (some 35) h)] (some 35) h = some (nI (prF 12 0 1 n), h) := by
  have n12 := m.2.2.2
  rw [dM L]
  unfold M_cross
  exact mcross_l L m 12 N 0 1 (by omega) (by omega) (by omega) (by omega)
theorem mp_130 {N n x lp oc : Nat} {h : Hp} (hN : 100 < N) (L : Lay h) (m : Mn h n) (e : hI h 35 55 = nI x) (hx : x < 600) (hl : lp ≤ 12) : M_places_130 N (some 35) (nI oc) (nI lp) h = some (1, sI (sI h 61 x (nI (prF 12 oc (lp + 1) n))) 35 55 (nI (x + 1))) := by
  have n12 := m.2.2.2
  unfold M_places_130
  rw [aN_1, nmE]
  exact mpl_134 L m e hx 12 N oc (lp + 1) (by omega) (by omega) (by omega) (by omega)
theorem mp_end {N n t i x lp oc g : Nat} {B : Nat → Nat} {h : Hp} (hN : 100 < N) (M : MT h n t B) (ei : hI h 35 56 = nI i) (hi : i ≤ t) (e : hI h 35 55 = nI x) (hx : x < 600) (hl : lp ≤ 12) (q : i = t ∨ plc (B i) = 0) : M_places_4 N (g + 1) (some 35) (nI oc) (nI lp) h = some (1, sI (sI h 61 x (nI (prF 12 oc (lp + 1) n))) 35 55 (nI (x + 1))) := by
  obtain ⟨L, m, et, eb, t3, b3⟩ := M
  simp only [M_places_4]
  rw [gi_s (o35 L), ei, gi_s (o35 L), et]
  by_cases u : i = t
  · rw [if_pos ((nI_leI (by omega) (by omega)).mpr (by omega)), mp_130 hN L m e hx hl]
  · rcases q with q | q
    · exact absurd q u
    rw [if_neg (fun u => absurd ((nI_leI (by omega) (by omega)).mp u) (by omega)), gr_s (o35 L), r35_0 L, gi_s (o35 L), ei, li_s (o36 L) (by rw [k36 L]; show i < 300; omega) (by rw [k36 L]; decide), eb i (by omega), placeOf_e, pl_b _ (b3 i (by omega)), cl_s, q, if_pos (show nI 0 ≤ 0 by decide), mp_130 hN L m e hx hl]
theorem nI_mod2 {m : Nat} (hm : m < 2 ^ 31) : nI m - nI m / 2 * 2 = nI (m % 2) := nI_mod (a := m) (b := 2) (by decide) hm (by decide)
/-- a place is looked at -/
theorem mp_at {N n t i lp oc g : Nat} {B : Nat → Nat} {h : Hp} (hN : 100 < N) (M : MT h n t B) (ei : hI h 35 56 = nI i) (hi : i < t) (hl : lp ≤ 12) (q : plc (B i) ≠ 0) : M_places_4 N (g + 1) (some 35) (nI oc) (nI lp) h = if plc (B i) ≤ lp ∨ n < plc (B i) ∨ (lp ≠ 0 ∧ (plc (B i) - lp) % 2 = 0) then some (0, h) else M_places_4 N g (some 35) (nI (prF 12 oc (if lp = 0 then (if plc (B i) % 2 = 0 then 2 else 1) else lp + 1) (plc (B i) - 1))) (nI (plc (B i))) (sI h 35 56 (nI (i + 1))) := by
  obtain ⟨L, m, et, eb, t3, b3⟩ := M
  have n12 := m.2.2.2
  have p12 := plc_le (B i)
  rw [M_places_4]
  rw [gi_s (o35 L), ei, gi_s (o35 L), et, if_neg (fun u => absurd ((nI_leI (by omega) (by omega)).mp u) (by omega)), gr_s (o35 L), r35_0 L, gi_s (o35 L), ei, li_s (o36 L) (by rw [k36 L]; show i < 300; omega) (by rw [k36 L]; decide), eb i hi, placeOf_e, pl_b _ (b3 i hi), cl_s, if_neg (fun u => absurd ((leN_0 (by omega)).mp u) (by omega)), gr_s (o35 L), r35_0 L, gi_s (o35 L), ei, li_s (o36 L) (by rw [k36 L]; show i < 300; omega) (by rw [k36 L]; decide), eb i hi, placeOf_e, pl_b _ (b3 i hi), cl_s]
  generalize plc (B i) = p at q p12 ⊢
  by_cases u1 : p ≤ lp
  · rw [if_pos ((nI_leI (by omega) (by omega)).mpr u1), if_pos (Or.inl u1), rz_0]
  rw [if_neg (fun u => u1 ((nI_leI (by omega) (by omega)).mp u)), gi_s (o35 L), m.2.1]
  by_cases u2 : n < p
  · rw [if_pos ((nI_ltI (by omega) (by omega)).mpr u2), if_pos (Or.inr (Or.inl u2)), rz_0]
  rw [if_neg (fun u => u2 ((nI_ltI (by omega) (by omega)).mp u))]
  have fin : ∀ a, 1 ≤ a → a ≤ 13 → M_places_90 N (M_places_4 N g) (some 35) (nI oc) (nI p) (nI a) h = M_places_4 N g (some 35) (nI (prF 12 oc a (p - 1))) (nI p) (sI h 35 56 (nI (i + 1))) := fun a a1 a2 => by
    unfold M_places_90
    exact mpl_92 L ei (by omega) p12 12 N oc a (by omega) (by omega) a1 (by omega)
  by_cases u3 : lp = 0
  · rw [if_pos ((leN_0 (by omega)).mpr (by omega)), if_neg (by omega), if_pos u3]
    unfold M_places_73
    rw [if_pos ((eN_0 (by omega)).mpr u3), nz2, nI_m1 (by omega), nI_mod2 (by omega), show (1 : Int32) + nI ((p - 1) % 2) = nI (1 + (p - 1) % 2) from nI_add 1 _, show 1 + (p - 1) % 2 = if p % 2 = 0 then 2 else 1 by split <;> omega]
    exact fin _ (by split <;> omega) (by split <;> omega)
  · rw [if_neg (fun u => absurd ((leN_0 (by omega)).mp u) (by omega)), nz2, pk_sub (by omega), nI_m1 (by omega), nI_mod2 (by omega), if_neg u3]
    by_cases u4 : (p - lp) % 2 = 0
    · rw [if_pos ((eN_1 (by omega)).mpr (by omega)), if_pos (by omega), rz_0]
    · rw [if_neg (fun u => absurd ((eN_1 (by omega)).mp u) (by omega)), if_neg (by omega)]
      unfold M_places_73
      rw [if_neg (fun u => u3 ((eN_0 (by omega)).mp u)), aN_1]
      exact fin _ (by omega) (by omega)
theorem plc_ne {b : Nat} (h : plc b ≠ 0) : b ≠ 44 ∧ b ≠ 46 ∧ b ≠ 120 := ⟨fun e => h (by rw [e]; rfl), fun e => h (by rw [e]; rfl), fun e => h (by rw [e]; rfl)⟩
theorem tk_pl {n st tc fb lp oc b : Nat} {T : Nat → Nat} (h : plc b ≠ 0) : tk n st tc fb lp oc T b = if n < plc b then none else if st = 2 then (if plc b ≤ lp ∨ (plc b - lp) % 2 = 0 then none else some (2, tc, fb, plc b, prF 12 oc (lp + 1) (plc b - 1), T)) else some (2, tc, fb, plc b, prF 12 0 (if plc b % 2 = 0 then 2 else 1) (plc b - 1), T) := by
  obtain ⟨h1, h2, h3⟩ := plc_ne h
  unfold tk
  rw [if_neg h1, if_neg h2, if_neg h3]
  by_cases q : n < plc b
  · rw [if_pos (Or.inr q), if_pos q]
  · rw [if_neg (by omega), if_neg q]
theorem rn_n {n i r st tc fb lp oc : Nat} {B T : Nat → Nat} (e : tk n st tc fb lp oc T (B i) = none) : rn n B (r + 1) i (st, tc, fb, lp, oc, T) = .inl i := by
  simp only [rn]; rw [e]
theorem rn_s {n i r st tc fb lp oc : Nat} {B T : Nat → Nat} {s : TS} (e : tk n st tc fb lp oc T (B i) = some s) : rn n B (r + 1) i (st, tc, fb, lp, oc, T) = rn n B r (i + 1) s := by
  simp only [rn]; rw [e]
/-- how reading of places may end -/
def PE (h h' : Hp) (n t lo i r st tc fb lp oc x : Nat) (B T : Nat → Nat) (P : Option (Int32 × Hp)) : Prop :=
  (P = some (0, h') ∧ Fi PMr h h' ∧ ∃ e, hI h' 35 56 = nI e ∧ rn n B r i (st, tc, fb, lp, oc, T) = .inl e) ∨
  (P = some (1, h') ∧ Fi (fun a k => a = 35 ∧ (k = 55 ∨ k = 56) ∨ a = 61 ∧ k = x) h h' ∧ ∃ e lp' oc', (lo ≤ e ∧ e ≤ t) ∧ hI h' 35 56 = nI e ∧ rn n B r i (st, tc, fb, lp, oc, T) = rn n B (t - e) e (2, tc, fb, lp', oc', T) ∧ (e = t ∨ plc (B e) = 0) ∧ hI h' 35 55 = nI (x + 1) ∧ hI h' 61 x = nI (prF 12 oc' (lp' + 1) n) ∧ WS n e 2 tc fb lp' oc' T)
theorem places_l {N n t : Nat} {B : Nat → Nat} (hN : 100 < N) : ∀ (g r i tc fb lp oc x : Nat) (T : Nat → Nat) (h : Hp), i + r = t → r < g → MT h n t B → hI h 35 56 = nI i → hI h 35 55 = nI x → x < 600 → WS n i 2 tc fb lp oc T → ∃ h', PE h h' n t i i r 2 tc fb lp oc x B T (M_places_4 N g (some 35) (nI oc) (nI lp) h)
  | 0, r, _, _, _, _, _, _, _, _, _, hg, _, _, _, _, _ => absurd hg (by omega)
  | g + 1, r, i, tc, fb, lp, oc, x, T, h, hi, hg, M, ei, ex, hx, w => by
    have n12 := M.2.1.2.2.2
    obtain ⟨a1, a2, a3, a4⟩ := w.2.1 rfl
    by_cases q : i = t ∨ plc (B i) = 0
    · refine ⟨_, Or.inr ⟨mp_end hN M ei (by omega) ex hx (by omega) q, Fx_t (Fx_sI _ _ (by omega)) (Fx_sI _ _ (by omega)), i, lp, oc, ⟨Nat.le_refl _, by omega⟩, ?_, ?_, q, sI_at .., ?_, w⟩⟩
      · rw [sI_ne (by omega), sI_ne (by omega)]; exact ei
      · rw [show t - i = r by omega]
      · rw [sI_ne (by omega), sI_at]
    · obtain ⟨r, rfl⟩ : ∃ r', r = r' + 1 := ⟨r - 1, by omega⟩
      have hp : plc (B i) ≠ 0 := fun u => q (Or.inr u)
      have e1 := mp_at (N := N) (g := g) (oc := oc) (lp := lp) hN M ei (by omega) (by omega) hp
      have e2 := tk_pl (n := n) (st := 2) (tc := tc) (fb := fb) (lp := lp) (oc := oc) (T := T) hp
      rw [if_pos rfl] at e2
      rw [if_neg (show ¬ lp = 0 by omega)] at e1
      by_cases u : plc (B i) ≤ lp ∨ n < plc (B i) ∨ lp ≠ 0 ∧ (plc (B i) - lp) % 2 = 0
      · rw [if_pos u] at e1
        refine ⟨h, Or.inl ⟨e1, Fx_r _ _ _, i, ei, rn_n ?_⟩⟩
        rw [e2]
        by_cases v : n < plc (B i)
        · rw [if_pos v]
        · rw [if_neg v, if_pos (by omega)]
      · rw [if_neg u] at e1
        rw [if_neg (by omega), if_neg (by omega)] at e2
        have w' := tk_ws w e2
        have x1 : Fi PMr h (sI h 35 56 (nI (i + 1))) := Fx_sI _ _ (by unfold PMr; omega)
        obtain ⟨h', c⟩ := places_l hN g r (i + 1) tc fb (plc (B i)) (prF 12 oc (lp + 1) (plc (B i) - 1)) x T (sI h 35 56 (nI (i + 1))) (by omega) (by omega) (MT_f M x1) (sI_at ..) (by rw [sI_ne (by omega)]; exact ex) hx w'
        refine ⟨h', ?_⟩
        rcases c with ⟨c1, c2, e, c3, c4⟩ | ⟨c1, c2, e, lp', oc', c3, c4, c5, c6⟩
        · exact Or.inl ⟨by rw [e1]; exact c1, Fx_t x1 c2, e, c3, by rw [rn_s e2]; exact c4⟩
        · exact Or.inr ⟨by rw [e1]; exact c1, Fx_t (Fx_sI _ _ (by omega)) c2, e, lp', oc', ⟨by omega, c3.2⟩, c4, by rw [rn_s e2]; exact c5, c6⟩
/-- places from their first one on -/
theorem places_1 {N n t r i st tc fb lp oc x : Nat} {B T : Nat → Nat} {h : Hp} (hN : 1000 < N) (hi : i + (r + 1) = t) (M : MT h n t B) (ei : hI h 35 56 = nI i) (ex : hI h 35 55 = nI x) (hx : x < 600) (w : WS n i st tc fb lp oc T) (s2 : st ≠ 2) (hp : plc (B i) ≠ 0) : ∃ h', PE h h' n t (i + 1) i (r + 1) st tc fb lp oc x B T (ds [(12, M_places N (some 35) h)] (some 35) h) := by
  obtain ⟨K, rfl⟩ : ∃ K, N = K + 1 := ⟨N - 1, by omega⟩
  have t3 := M.2.2.2.2.1
  have n12 := M.2.1.2.2.2
  have e1 := mp_at (N := K + 1) (g := K) (oc := 0) (lp := 0) (by omega) M ei (by omega) (by omega) hp
  have e2 := tk_pl (n := n) (st := st) (tc := tc) (fb := fb) (lp := lp) (oc := oc) (T := T) hp
  rw [if_neg s2] at e2
  rw [if_pos (show (0 : Nat) = 0 from rfl)] at e1
  rw [dM M.1]
  unfold M_places
  have e0 : M_places_4 (K + 1) (K + 1) (some 35) 0 0 h = M_places_4 (K + 1) (K + 1) (some 35) (nI 0) (nI 0) h := rfl
  rw [e0]
  by_cases v : n < plc (B i)
  · rw [if_pos (Or.inr (Or.inl v))] at e1
    rw [if_pos v] at e2
    exact ⟨h, Or.inl ⟨e1, Fx_r _ _ _, i, ei, rn_n e2⟩⟩
  · rw [if_neg (by omega)] at e1
    rw [if_neg v] at e2
    have w' := tk_ws w e2
    have x1 : Fi PMr h (sI h 35 56 (nI (i + 1))) := Fx_sI _ _ (by unfold PMr; omega)
    obtain ⟨h', c⟩ := places_l (N := K + 1) (by omega) K r (i + 1) tc fb (plc (B i)) (prF 12 0 (if plc (B i) % 2 = 0 then 2 else 1) (plc (B i) - 1)) x T (sI h 35 56 (nI (i + 1))) (by omega) (by omega) (MT_f M x1) (sI_at ..) (by rw [sI_ne (by omega)]; exact ex) hx w'
    refine ⟨h', ?_⟩
    rcases c with ⟨c1, c2, e, c3, c4⟩ | ⟨c1, c2, e, lp', oc', c3, c4, c5, c6⟩
    · exact Or.inl ⟨by rw [e1]; exact c1, Fx_t x1 c2, e, c3, by rw [rn_s e2]; exact c4⟩
    · exact Or.inr ⟨by rw [e1]; exact c1, Fx_t (Fx_sI _ _ (by omega)) c2, e, lp', oc', c3, c4, by rw [rn_s e2]; exact c5, c6⟩
