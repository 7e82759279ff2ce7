/-! PURE: notation: the class takes a sign -/
theorem nz2 {β : Type} {F : Option β} : nz 2 F = F := by unfold nz; rw [if_neg (by decide)]
theorem comma_n {N n i st tc fb lp oc : Nat} {T : Nat → Nat} {h : Hp} (L : Lay h) (r : RT h st tc fb lp oc T) (w : WS n i st tc fb lp oc T) (hi : i ≤ 300) (q : ¬ (fb = 0 ∧ (st = 1 ∨ st = 2))) : ds [(8, Tape_takesComma N (some 1) (nI n) h)] (some 1) h = some (0, h) := by
  obtain ⟨r1, r2, r3, r4, r5⟩ := r
  obtain ⟨⟨w1, w2, w3⟩, w4, w5, w6, w7⟩ := w
  have cl := ctc_le st tc
  rw [ds8 L]
  unfold Tape_takesComma
  rw [gi_s (o1 L), r2]
  by_cases f0 : fb = 0
  · rw [if_pos ((eN_0 (by omega)).mpr f0), canClose_s L r3 w1, cl_s, if_neg (fun u => q ⟨f0, u⟩), if_pos rfl, rz_0]
  · rw [if_neg (fun u => f0 ((eN_0 (by omega)).mp u)), rz_0]
theorem comma_y {N n i st tc fb lp oc : Nat} {T : Nat → Nat} {h : Hp} (hN : 100 < N) (hn : n ≤ 12) (L : Lay h) (r : RT h st tc fb lp oc T) (w : WS n i st tc fb lp oc T) (hi : i ≤ 300) (f0 : fb = 0) (q : st = 1 ∨ st = 2) : ∃ h', ds [(8, Tape_takesComma N (some 1) (nI n) h)] (some 1) h = some (1, h') ∧ Fi PTp h h' ∧ RT h' 0 (ctc st tc) (ctc st tc) lp oc (cTf n st tc lp oc T) := by
  obtain ⟨h1, e1, x1, v1, v2⟩ := close_s hN hn L r w hi
  obtain ⟨r1, r2, r3, r4, r5⟩ := r
  obtain ⟨⟨w1, w2, w3⟩, w4, w5, w6, w7⟩ := w
  have cl := ctc_le st tc
  have L1 := Fx_Lay x1 L
  rw [ds8 L]
  unfold Tape_takesComma
  rw [gi_s (o1 L), r2, if_pos ((eN_0 (by omega)).mpr f0), canClose_s L r3 w1, cl_s, if_pos q, if_neg i10, e1, cl_s, gi_s (o1 L1), v1, pi_s (o1 L1), pi_s (show ok (sI h1 1 4 (nI (ctc st tc))) [8] 1 = true from o1 L1), rz_1]
  refine ⟨_, rfl, Fx_t (Fx_m x1 (fun a k c => by unfold PTp; omega) (fun _ _ c => c)) (Fx_t (Fx_sI _ _ (by unfold PTp; omega)) (Fx_sI _ _ (by unfold PTp; omega))), ?_, ?_, ?_, fun u => absurd u (by decide), fun j hj => ?_⟩
  · rw [sI_ne (by omega), sI_ne (by omega)]; exact v1
  · rw [sI_ne (by omega), sI_at]
  · rw [sI_at]; rfl
  · rw [sI_ne (by omega), sI_ne (by omega)]; exact v2 j hj
theorem dot_n {N n i st tc fb lp oc : Nat} {T : Nat → Nat} {h : Hp} (L : Lay h) (r : RT h st tc fb lp oc T) (w : WS n i st tc fb lp oc T) (q : st ≠ 2) : ds [(8, Tape_takesDot N (some 1) (nI n) h)] (some 1) h = some (0, h) := by
  have w1 := w.1.1
  rw [ds8 L]
  unfold Tape_takesDot
  rw [gi_s (o1 L), r.2.2.1, if_neg (fun u => q ((eN_2 (by omega)).mp u)), rz_0]
theorem dot_y {N n i st tc fb lp oc : Nat} {T : Nat → Nat} {h : Hp} (hN : 100 < N) (hn : n ≤ 12) (L : Lay h) (r : RT h st tc fb lp oc T) (w : WS n i st tc fb lp oc T) (hi : i ≤ 300) (q : st = 2) : ∃ h', ds [(8, Tape_takesDot N (some 1) (nI n) h)] (some 1) h = some (1, h') ∧ Fi PTp h h' ∧ RT h' 3 (ctc st tc) fb lp oc (cTf n st tc lp oc T) := by
  obtain ⟨h1, e1, x1, v1, v2⟩ := close_s hN hn L r w hi
  obtain ⟨r1, r2, r3, r4, r5⟩ := r
  have L1 := Fx_Lay x1 L
  rw [ds8 L]
  unfold Tape_takesDot
  rw [gi_s (o1 L), r3, if_pos ((eN_2 (by omega)).mpr q), e1, cl_s, pi_s (o1 L1), rz_1]
  refine ⟨_, rfl, Fx_t (Fx_m x1 (fun a k c => by unfold PTp; omega) (fun _ _ c => c)) (Fx_sI _ _ (by unfold PTp; omega)), ?_, ?_, ?_, fun u => absurd u (by decide), fun j hj => ?_⟩
  · rw [sI_ne (by omega)]; exact v1
  · rw [sI_ne (by omega), Fx_I x1 (by omega)]; exact r2
  · rw [sI_at]; rfl
  · rw [sI_ne (by omega)]; exact v2 j hj
theorem cross_n {N n : Nat} {h : Hp} (L : Lay h) (r : hI h 1 5 = nI 3) : ds [(8, Tape_takesCross N (some 1) (nI n) h)] (some 1) h = some (0, h) := by
  rw [ds8 L]
  unfold Tape_takesCross
  rw [gi_s (o1 L), r, if_pos (show nI 3 = 3 from rfl), rz_0]
theorem cross_y {N n i st tc fb lp oc : Nat} {T : Nat → Nat} {h : Hp} (hN : 100 < N) (hn : n ≤ 12) (L : Lay h) (r : RT h st tc fb lp oc T) (w : WS n i st tc fb lp oc T) (hi : i < 300) (q : st ≠ 3) : ∃ h', ds [(8, Tape_takesCross N (some 1) (nI n) h)] (some 1) h = some (1, h') ∧ Fi PTp h h' ∧ RT h' 1 (ctc st tc + 1) fb lp oc (va_up (cTf n st tc lp oc T) (ctc st tc) (prF 12 0 1 n)) := by
  obtain ⟨h1, e1, x1, v1, v2⟩ := close_s hN hn L r w (by omega)
  obtain ⟨r1, r2, r3, r4, r5⟩ := r
  obtain ⟨⟨w1, w2, w3⟩, w4, w5, w6, w7⟩ := w
  have L1 := Fx_Lay x1 L
  have ep : Tape_pairs N 1 (nI n) h1 = some (nI (prF 12 0 1 n), h1) := pairs_s (a := 1) hN (by omega) (by omega) hn
  have L2 : Lay (sI (sI h1 3 (ctc st tc) (nI (prF 12 0 1 n))) 1 3 (nI (ctc st tc + 1))) := L1
  rw [ds8 L]
  unfold Tape_takesCross
  rw [gi_s (o1 L), r3, if_neg (fun u => q ((eN_3 (by omega)).mp u)), e1, cl_s, ep, cl_s, tell_s L1 v1 (by omega), cl_s, pi_s (o1 L2), rz_1]
  refine ⟨_, rfl, Fx_t (Fx_m x1 (fun a k c => by unfold PTp; omega) (fun _ _ c => c)) (Fx_t (Fx_t (Fx_sI _ _ (by unfold PTp; omega)) (Fx_sI _ _ (by unfold PTp; omega))) (Fx_sI _ _ (by unfold PTp; omega))), ?_, ?_, ?_, fun u => absurd u (by decide), fun j hj => ?_⟩
  · rw [sI_ne (by omega), sI_at]
  · rw [sI_ne (by omega), sI_ne (by omega), sI_ne (by omega), Fx_I x1 (by omega)]; exact r2
  · rw [sI_at]; rfl
  · rw [sI_ne (by omega), sI_ne (by omega), up_at]
    by_cases e : j = ctc st tc
    · rw [if_pos e, e, sI_at]
    · rw [if_neg e, sI_ne (by omega)]; exact v2 j (by omega)
theorem place_n {N n i st tc fb lp oc p : Nat} {T : Nat → Nat} {h : Hp} (hn : n ≤ 12) (hp : p ≤ 12) (L : Lay h) (r : RT h st tc fb lp oc T) (w : WS n i st tc fb lp oc T) (q : (p = 0 ∨ n < p) ∨ st = 2 ∧ (p ≤ lp ∨ (p - lp) % 2 = 0)) : ds [(8, Tape_takesPlace N (some 1) (nI p) (nI n) h)] (some 1) h = some (0, h) := by
  have w1 := w.1.1
  rw [ds8 L]
  unfold Tape_takesPlace
  by_cases p0 : p = 0
  · rw [if_pos ((ltN_1 (by omega)).mpr (by omega)), rz_0]
  rw [if_neg (fun u => absurd ((ltN_1 (by omega)).mp u) (by omega))]
  by_cases pn : n < p
  · rw [if_neg (fun u => absurd ((nI_leI (by omega) (by omega)).mp u) (by omega)), rz_0]
  rw [if_pos ((nI_leI (by omega) (by omega)).mpr (by omega))]
  rcases q with q | ⟨q, q'⟩
  · omega
  obtain ⟨a1, a2, a3, a4⟩ := w.2.1 q
  obtain ⟨q1, q2⟩ := r.2.2.2.1 q
  rw [gi_s (o1 L), r.2.2.1, if_pos ((eN_2 (by omega)).mpr q), gi_s (o1 L), q1]
  by_cases u : p ≤ lp
  · rw [if_pos ((nI_leI (by omega) (by omega)).mpr u), rz_0]
  · rw [if_neg (fun v => u ((nI_leI (by omega) (by omega)).mp v)), gi_s (o1 L), q1, nz2, pk_sub (by omega), if_pos ((nI_par (by omega)).mpr (by omega)), rz_0]
theorem place_y {N n i st tc fb lp oc p : Nat} {T : Nat → Nat} {h : Hp} (hN : 100 < N) (hn : n ≤ 12) (L : Lay h) (r : RT h st tc fb lp oc T) (w : WS n i st tc fb lp oc T) (p1 : 1 ≤ p) (p2 : p ≤ n) (q : st = 2 → lp < p ∧ (p - lp) % 2 ≠ 0) : ∃ h', ds [(8, Tape_takesPlace N (some 1) (nI p) (nI n) h)] (some 1) h = some (1, h') ∧ Fi PTp h h' ∧ RT h' 2 tc fb p (if st = 2 then prF 12 oc (lp + 1) (p - 1) else prF 12 0 (if p % 2 = 0 then 2 else 1) (p - 1)) T := by
  have w1 := w.1.1
  obtain ⟨r1, r2, r3, r4, r5⟩ := r
  have fin : ∀ c, ∃ h', (pi [8] 7 (some 1) (nI c) h fun h8 => Tape_takesPlace_89 N (some 1) (nI p) h8) = some (1, h') ∧ Fi PTp h h' ∧ RT h' 2 tc fb p c T := fun c => by
    have L1 : Lay (sI h 1 7 (nI c)) := L
    have L2 : Lay (sI (sI h 1 7 (nI c)) 1 6 (nI p)) := L
    rw [pi_s (o1 L)]
    unfold Tape_takesPlace_89
    rw [pi_s (o1 L1), pi_s (o1 L2), rz_1]
    refine ⟨_, rfl, Fx_t (Fx_t (Fx_sI _ _ (by unfold PTp; omega)) (Fx_sI _ _ (by unfold PTp; omega))) (Fx_sI _ _ (by unfold PTp; omega)), ?_, ?_, ?_, fun u => ⟨?_, ?_⟩, fun j hj => ?_⟩
    · rw [sI_ne (by omega), sI_ne (by omega), sI_ne (by omega)]; exact r1
    · rw [sI_ne (by omega), sI_ne (by omega), sI_ne (by omega)]; exact r2
    · rw [sI_at]; rfl
    · rw [sI_ne (by omega), sI_at]
    · rw [sI_ne (by omega), sI_ne (by omega), sI_at]
    · rw [sI_ne (by omega), sI_ne (by omega), sI_ne (by omega)]; exact r5 j hj
  rw [ds8 L]
  unfold Tape_takesPlace
  rw [if_neg (fun u => absurd ((ltN_1 (by omega)).mp u) (by omega)), if_pos ((nI_leI (by omega) (by omega)).mpr p2), gi_s (o1 L), r3]
  by_cases s2 : st = 2
  · obtain ⟨a1, a2, a3, a4⟩ := w.2.1 s2
    obtain ⟨q1, q2⟩ := r4 s2
    obtain ⟨u1, u2⟩ := q s2
    rw [if_pos ((eN_2 (by omega)).mpr s2), gi_s (o1 L), q1, if_neg (fun v => absurd ((nI_leI (by omega) (by omega)).mp v) (by omega)), gi_s (o1 L), q1, nz2, pk_sub (by omega), if_neg (fun v => u2 ((nI_par (by omega)).mp v)), gi_s (o1 L), q2, gi_s (o1 L), q1, aN_1, nI_m1 p1, pairs_s hN (by omega) (by omega) (by omega), cl_s, nI_or, ← prF_or, if_pos s2]
    exact fin _
  · rw [if_neg (fun u => s2 ((eN_2 (by omega)).mp u)), nz2, if_neg s2]
    by_cases v : p % 2 = 0
    · rw [if_pos ((nI_par (by omega)).mpr v), if_pos v]
      unfold Tape_takesPlace_32
      rw [nI_m1 p1, show Tape_pairs N 2 (nI (p - 1)) h = some (nI (prF 12 0 2 (p - 1)), h) from pairs_s (a := 2) hN (by omega) (by omega) (by omega), cl_s]
      exact fin _
    · rw [if_neg (fun u => v ((nI_par (by omega)).mp u)), if_neg v]
      unfold Tape_takesPlace_32
      rw [nI_m1 p1, show Tape_pairs N 1 (nI (p - 1)) h = some (nI (prF 12 0 1 (p - 1)), h) from pairs_s (a := 1) hN (by omega) (by omega) (by omega), cl_s]
      exact fin _
theorem takes_s {N n i st tc fb lp oc b : Nat} {T : Nat → Nat} {h : Hp} (hN : 100 < N) (hn : n ≤ 12) (hb : b < 256) (L : Lay h) (r : RT h st tc fb lp oc T) (w : WS n i st tc fb lp oc T) (hi : i < 300) :
    (tk n st tc fb lp oc T b = none ∧ ds [(8, Tape_takes N (some 1) (sgn b) (nI n) h)] (some 1) h = some (0, h)) ∨ ∃ (s : TS) (h' : Hp), tk n st tc fb lp oc T b = some s ∧ ds [(8, Tape_takes N (some 1) (sgn b) (nI n) h)] (some 1) h = some (1, h') ∧ Fi PTp h h' ∧ RT h' s.1 s.2.1 s.2.2.1 s.2.2.2.1 s.2.2.2.2.1 s.2.2.2.2.2 := by
  obtain ⟨c1, c2, c3⟩ := sgn_c b hb
  rw [ds8 L]
  unfold Tape_takes tk
  simp only [sw]
  by_cases b1 : b = 44
  · rw [if_pos (c1.mpr b1), if_pos b1]
    by_cases q : fb = 0 ∧ (st = 1 ∨ st = 2)
    · obtain ⟨h', e, x, v⟩ := comma_y (N := N) hN hn L r w (by omega) q.1 q.2
      right
      exact ⟨_, h', if_pos q, by rw [e, cl_s, rz_1], x, v⟩
    · left
      exact ⟨if_neg q, by rw [comma_n L r w (by omega) q, cl_s, rz_0]⟩
  rw [if_neg (fun u => b1 (c1.mp u)), if_neg b1]
  by_cases b2 : b = 46
  · rw [if_pos (c2.mpr b2), if_pos b2]
    by_cases q : st = 2
    · obtain ⟨h', e, x, v⟩ := dot_y (N := N) hN hn L r w (by omega) q
      right
      exact ⟨_, h', if_pos q, by rw [e, cl_s, rz_1], x, v⟩
    · left
      exact ⟨if_neg q, by rw [dot_n L r w q, cl_s, rz_0]⟩
  rw [if_neg (fun u => b2 (c2.mp u)), if_neg b2]
  by_cases b3 : b = 120
  · rw [if_pos (c3.mpr b3), if_pos b3]
    by_cases q : st = 3
    · left
      exact ⟨if_pos q, by rw [cross_n L (by rw [r.2.2.1, q]), cl_s, rz_0]⟩
    · obtain ⟨h', e, x, v⟩ := cross_y (N := N) hN hn L r w hi q
      right
      exact ⟨_, h', if_neg q, by rw [e, cl_s, rz_1], x, v⟩
  rw [if_neg (fun u => b3 (c3.mp u)), if_neg b3, placeTold_e, plS b hb, cl_s]
  have p12 := plc_le b
  by_cases b4 : plc b = 0 ∨ n < plc b
  · left
    exact ⟨if_pos b4, by rw [place_n hn p12 L r w (Or.inl b4), cl_s, rz_0]⟩
  rw [if_neg b4]
  by_cases q : st = 2
  · rw [if_pos q]
    by_cases u : plc b ≤ lp ∨ (plc b - lp) % 2 = 0
    · left
      exact ⟨if_pos u, by rw [place_n hn p12 L r w (Or.inr ⟨q, u⟩), cl_s, rz_0]⟩
    · obtain ⟨h', e, x, v⟩ := place_y (N := N) (p := plc b) hN hn L r w (by omega) (by omega) (fun _ => by omega)
      rw [if_pos q] at v
      right
      exact ⟨_, h', if_neg u, by rw [e, cl_s, rz_1], x, v⟩
  · obtain ⟨h', e, x, v⟩ := place_y (N := N) (p := plc b) hN hn L r w (by omega) (by omega) (fun u => absurd u q)
    rw [if_neg q] at v
    right
    exact ⟨_, h', if_neg q, by rw [e, cl_s, rz_1], x, v⟩
/-- how many changes there are in all -/
def tot (fb tc : Nat) : Nat := if fb = 0 then tc else 2 * tc - 2
theorem readLead_l {N n t : Nat} {B : Nat → Nat} {lo : Option Nat} (hN : 100 < N) (hn : n ≤ 12) (ht : t ≤ 300) (hB : ∀ k, k < t → B k < 256) : ∀ (r g i st tc fb lp oc : Nat) (T : Nat → Nat) (h : Hp), i + r = t → r < g → Lay h → hI h 1 1 = nI t → (∀ k, k < t → hI h 2 k = sgn (B k)) → RT h st tc fb lp oc T → WS n i st tc fb lp oc T →
    (∀ e, rn n B r i (st, tc, fb, lp, oc, T) = .inl e → ∃ h', Tape_readLead_17 N g (some 1) (nI n) lo (nI i) h = some ((-1 : Int32) - nI e, h') ∧ Fi PTp h h') ∧
    (∀ s, rn n B r i (st, tc, fb, lp, oc, T) = .inr s → ∃ h', Tape_readLead_17 N g (some 1) (nI n) lo (nI i) h = Tape_readLead_90 N (some 1) lo (nI (tot s.2.2.1 (ctc s.1 s.2.1))) h' ∧ Fi PTp h h' ∧ (hI h' 1 3 = nI (ctc s.1 s.2.1) ∧ hI h' 1 4 = nI s.2.2.1 ∧ ∀ j, j < ctc s.1 s.2.1 → hI h' 3 j = nI (cTf n s.1 s.2.1 s.2.2.2.1 s.2.2.2.2.1 s.2.2.2.2.2 j)) ∧ WS n t s.1 s.2.1 s.2.2.1 s.2.2.2.1 s.2.2.2.2.1 s.2.2.2.2.2 ∧ (s.1 = 1 ∨ s.1 = 2))
  | r, 0, _, _, _, _, _, _, _, _, _, hg, _, _, _, _, _ => absurd hg (by omega)
  | 0, g + 1, i, st, tc, fb, lp, oc, T, h, hi, _, L, el, _, R, w => by
    simp only [Tape_readLead_17, rn]
    rw [gi_s (o1 L), el, if_pos ((nI_leI (by omega) (by omega)).mpr (by omega)), canClose_s L R.2.2.1 w.1.1, cl_s]
    have it : i = t := by omega
    by_cases q : st = 1 ∨ st = 2
    · rw [if_pos q, if_pos q, if_neg i10]
      refine ⟨fun e u => (by cases u), fun s u => ?_⟩
      cases u
      obtain ⟨h1, e1, x1, v1, v2⟩ := close_s (N := N) hN hn L R w (by omega)
      have L1 := Fx_Lay x1 L
      have f4 : hI h1 1 4 = nI fb := by rw [Fx_I x1 (by omega)]; exact R.2.1
      have w1 := w.1
      have w7 := w.2.2.2.2 (by omega)
      have cl := ctc_le st tc
      refine ⟨h1, ?_, Fx_m x1 (fun a k c => by unfold PTp; omega) (fun _ _ c => c), ⟨v1, f4, v2⟩, by rw [← it]; exact w, q⟩
      rw [e1, cl_s, gi_s (o1 L1), f4]
      show _ = Tape_readLead_90 N (some 1) lo (nI (tot fb (ctc st tc))) h1
      unfold tot
      by_cases f0 : fb = 0
      · rw [if_pos ((eN_0 (by omega)).mpr f0), gi_s (o1 L1), v1, if_pos f0]
      · rw [if_neg (fun u => f0 ((eN_0 (by omega)).mp u)), gi_s (o1 L1), v1, if_neg f0, mN_2, sN_2 (by omega)]
    · rw [if_neg q, if_neg q, if_pos rfl]
      refine ⟨fun e u => ?_, fun s u => (by cases u)⟩
      cases u
      exact ⟨h, by rw [gi_s (o1 L), el, it], Fx_r _ _ _⟩
  | r + 1, g + 1, i, st, tc, fb, lp, oc, T, h, hi, hg, L, el, eb, R, w => by
    simp only [Tape_readLead_17, rn]
    rw [gi_s (o1 L), el, if_neg (fun u => absurd ((nI_leI (by omega) (by omega)).mp u) (by omega)), gr_s (o1 L), r1_0 L, li_s (o2 L) (by rw [k2 L]; show i < 300; omega) (by rw [k2 L]; decide), eb i (by omega)]
    rcases takes_s (N := N) (b := B i) hN hn (hB i (by omega)) L R w (by omega) with ⟨e1, e2⟩ | ⟨s, h1, e1, e2, x, R1⟩
    · rw [e1, e2, cl_s, if_pos rfl]
      refine ⟨fun e u => ?_, fun s u => (by cases u)⟩
      cases u
      exact ⟨h, rfl, Fx_r _ _ _⟩
    · rw [e1, e2, cl_s, if_neg i10, nmE]
      have w' := tk_ws w e1
      obtain ⟨st', tc', fb', lp', oc', T'⟩ := s
      obtain ⟨A, C⟩ := readLead_l hN hn ht hB r g (i + 1) st' tc' fb' lp' oc' T' h1 (by omega) (by omega) (Fx_Lay x L) (by rw [Fx_I x (by unfold PTp; omega)]; exact el) (fun k hk => by rw [Fx_I x (by unfold PTp; omega)]; exact eb k hk) R1 w'
      rw [show nI i + 1 = nI (i + 1) from aN_1 i]
      refine ⟨fun e u => ?_, fun s u => ?_⟩
      · obtain ⟨h', a1, a2⟩ := A e u
        exact ⟨h', a1, Fx_t x a2⟩
      · obtain ⟨h', a1, a2, a3⟩ := C s u
        exact ⟨h', a1, Fx_t x a2, a3⟩
