/-! PURE: notation: the model reads a lead -/
theorem turned_l {N k0 : Nat} {W : Nat → Nat} : ∀ (r g x : Nat) (h : Hp), r < g → Lay h → hI h 35 55 = nI x → x + r ≤ 600 → k0 + r ≤ x → (∀ k, k < x → hI h 61 k = nI (W k)) → (∀ j, j < r → W (x + (r - 1 - j)) = W (k0 + j)) → ∃ h', M_turned_11 N g (some 35) (nI k0) (nI r + (-1)) h = some ((), h') ∧ Fi (fun a k => a = 35 ∧ k = 55 ∨ a = 61) h h' ∧ hI h' 35 55 = nI (x + r) ∧ ∀ k, k < x + r → hI h' 61 k = nI (W k)
  | r, 0, _, _, hg, _, _, _, _, _, _ => absurd hg (by omega)
  | 0, g + 1, x, h, _, L, e, _, _, hw, _ => by
    simp only [M_turned_11]
    rw [if_pos (show nI 0 + (-1 : Int32) < 0 by decide)]
    exact ⟨h, rfl, Fx_r _ _ _, e, hw⟩
  | r + 1, g + 1, x, h, hg, L, e, hx, hk, hw, hW => by
    simp only [M_turned_11]
    have L1 : Lay (sI h 61 x (nI (W (k0 + r)))) := L
    rw [bl_m1, if_neg (nI_pos (by omega)), gr_s (o35 L), r35_54 L, gi_s (o35 L), e, gr_s (o35 L), r35_54 L, nI_add, li_s (o61 L) (by rw [k61 L]; show k0 + r < 600; omega) (by rw [k61 L]; decide), hw (k0 + r) (by omega), si_s (o61 L) (by rw [k61 L]; show x < 600; omega) (by rw [k61 L]; decide), gi_s (o35 L1), sI_ne (by omega), e, aN_1, pi_s (o35 L1), nmE]
    have wx : W x = W (k0 + r) := by have := hW r (by omega); rw [show x + (r + 1 - 1 - r) = x by omega] at this; exact this
    obtain ⟨h', e', f', c', d'⟩ := turned_l (N := N) (k0 := k0) (W := W) r g (x + 1) (sI (sI h 61 x (nI (W (k0 + r)))) 35 55 (nI (x + 1))) (by omega) L (sI_at ..) (by omega) (by omega) (fun k hk => by
      rw [sI_ne (by omega)]
      by_cases q : k = x
      · rw [q, sI_at, wx]
      · rw [sI_ne (by omega)]; exact hw k (by omega)) (fun j hj => by have := hW j (by omega); rw [show x + (r + 1 - 1 - j) = x + 1 + (r - 1 - j) by omega] at this; exact this)
    exact ⟨h', e', Fx_t (Fx_t (Fx_sI _ _ (by omega)) (Fx_sI _ _ (by omega))) f', by rw [c']; congr 1; omega, fun k hk => d' k (by omega)⟩
theorem turned_s {N k0 c : Nat} {V : Nat → Nat} {h : Hp} (hN : 1000 < N) (L : Lay h) (e : hI h 35 55 = nI (k0 + c)) (c1 : 1 ≤ c) (hx : k0 + 2 * c ≤ 601) (hw : ∀ k, k < k0 + c → hI h 61 k = nI (V k)) : ∃ h', ds [(12, M_turned N (some 35) (nI k0) h)] (some 35) h = some ((), h') ∧ Fi (fun a k => a = 35 ∧ k = 55 ∨ a = 61) h h' ∧ hI h' 35 55 = nI (k0 + 2 * c - 1) ∧ ∀ k, k < k0 + 2 * c - 1 → hI h' 61 k = nI (if k < k0 + c then V k else V (2 * k0 + 2 * c - 2 - k)) := by
  rw [dM L]
  unfold M_turned
  rw [gi_s (o35 L), e, pk_sub (by omega), nmE, nmE, show k0 + c - k0 = c - 1 + 1 by omega, m2]
  obtain ⟨h', a1, a2, a3, a4⟩ := turned_l (N := N) (k0 := k0) (W := fun k => if k < k0 + c then V k else V (2 * k0 + 2 * c - 2 - k)) (c - 1) N (k0 + c) h (by omega) L e (by omega) (by omega) (fun k hk => by rw [if_pos hk]; exact hw k hk) (fun j hj => by
    rw [if_neg (by omega), if_pos (by omega)]
    congr 1; omega)
  exact ⟨h', a1, a2, by rw [a3]; congr 1; omega, fun k hk => a4 k (by omega)⟩
theorem rn_le {n : Nat} {B : Nat → Nat} : ∀ (r i : Nat) (s : TS) (e : Nat), rn n B r i s = .inl e → e ≤ i + r
  | 0, i, s, e, h => by
    simp only [rn] at h
    by_cases q : s.1 = 1 ∨ s.1 = 2
    · rw [if_pos q] at h; cases h
    · rw [if_neg q] at h; cases h; omega
  | r + 1, i, s, e, h => by
    simp only [rn] at h
    rcases q : tk n s.1 s.2.1 s.2.2.1 s.2.2.2.1 s.2.2.2.2.1 s.2.2.2.2.2 (B i) with _ | s'
    · rw [q] at h; cases h; omega
    · rw [q] at h
      have := rn_le r (i + 1) s' e h
      omega
def T0 : TS := (0, 0, 0, 0, 0, fun _ => 0)
theorem WS_0 (n : Nat) : WS n 0 0 0 0 0 0 (fun _ => 0) := ⟨⟨by decide, Nat.le_refl _, Nat.le_refl _⟩, fun u => absurd u (by decide), fun j hj => absurd hj (by omega), fun _ => rfl, fun u => absurd rfl u⟩
/-- the model's reading ends as the class's -/
theorem parse_M {N n t m : Nat} {B : Nat → Nat} {h : Hp} (hN : 1000 < N) (M : MT h n t B) : ∃ h', Fi (fun a k => PMr a k ∨ a = 35 ∧ k = 3) h h' ∧ hI h' 35 3 = 0 ∧
    ((∃ e, M_notation_28 N (some 35) (nI m) (some 35) 0 h = M_notation_109 N (some 35) (nI m) 0 h' ∧ hI h' 35 56 = nI e ∧ rn n B t 0 T0 = .inl e) ∨
     (∃ s : TS, M_notation_28 N (some 35) (nI m) (some 35) 0 h = M_notation_109 N (some 35) (nI m) 1 h' ∧ rn n B t 0 T0 = .inr s ∧ hI h' 35 55 = nI (tot s.2.2.1 (ctc s.1 s.2.1)) ∧ tot s.2.2.1 (ctc s.1 s.2.1) ≤ 600 ∧ ∀ k, k < tot s.2.2.1 (ctc s.1 s.2.1) → hI h' 61 k = nI (lF s.2.2.1 (ctc s.1 s.2.1) (cTf n s.1 s.2.1 s.2.2.2.1 s.2.2.2.2.1 s.2.2.2.2.2) k))) := by
  have L := M.1
  have t3 := M.2.2.2.2.1
  obtain ⟨ha, eha⟩ : ∃ ha, ha = sI (sI (sI h 35 3 0) 35 55 0) 35 56 0 := ⟨_, rfl⟩
  have xa : Fi (fun a k => PMr a k ∨ a = 35 ∧ k = 3) h ha := by rw [eha]; exact Fx_t (Fx_t (Fx_sI _ _ (by omega)) (Fx_sI _ _ (by unfold PMr; omega))) (Fx_sI _ _ (by unfold PMr; omega))
  have Ma : MT ha n t B := by
    obtain ⟨m1, ⟨a1, a2, a3⟩, m3, m4, m5⟩ := M
    refine ⟨Fx_Lay xa m1, ⟨by rw [Fx_ok xa]; exact a1, ?_, a3⟩, ?_, fun k hk => ?_, m5⟩
    · rw [Fx_I xa (by unfold PMr; omega)]; exact a2
    · rw [Fx_I xa (by unfold PMr; omega)]; exact m3
    · rw [Fx_I xa (by unfold PMr; omega)]; exact m4 k hk
  have a3 : hI ha 35 3 = 0 := by rw [eha, sI_ne (by omega), sI_ne (by omega), sI_at]
  have a55 : hI ha 35 55 = nI 0 := by rw [eha, sI_ne (by omega), sI_at]; rfl
  have a56 : hI ha 35 56 = nI 0 := by rw [eha, sI_at]; rfl
  have keep : ∀ h', Fi PMr ha h' → Fi (fun a k => PMr a k ∨ a = 35 ∧ k = 3) h h' ∧ hI h' 35 3 = 0 := fun h' f => ⟨Fx_t xa (Fx_m f (fun _ _ c => Or.inl c) (fun _ _ c => c)), by rw [Fx_I f (by unfold PMr; omega)]; exact a3⟩
  have L1 : Lay (sI h 35 3 0) := L
  have L2 : Lay (sI (sI h 35 3 0) 35 55 0) := L
  have e0 : ds [(12, M_block N (some 35) 0 (sI (sI h 35 3 0) 35 55 0))] (some 35) (sI (sI h 35 3 0) 35 55 0) = M_block_9 N N (some 35) (nI 0) (nI 0) ha := by
    rw [dM L2]
    unfold M_block
    rw [pi_s (o35 L2), eha]
    rfl
  obtain ⟨h1, c⟩ := block_l (N := N) (fb := 0) (k0 := 0) (G := fun _ => 0) (n := n) (t := t) (B := B) hN (by omega) N 0 t 0 0 0 0 (fun _ => 0) 0 0 ha (by omega) (by omega) Ma a56 (WS_0 n) ⟨a55, fun k hk => absurd (show k < 0 from hk) (by omega)⟩ (Or.inl ⟨rfl, rfl, rfl⟩)
  have pre : M_notation_28 N (some 35) (nI m) (some 35) 0 h = cl (M_block_9 N N (some 35) (nI 0) (nI 0) ha) fun x5 h4 => if x5 = 0 then (M_notation_109 N (some 35) (nI m) x5 h4) else (gi [12] 56 (some 35) h4 fun x6 =>
      gi [12] 1 (some 35) h4 fun x7 =>
      if x7 ≤ x6 then (M_notation_109 N (some 35) (nI m) x5 h4) else (cl (ds [(12, M_turned N (some 35) 0 h4)] (some 35) h4) fun _ h8 =>
      gi [12] 55 (some 35) h8 fun x9 =>
      gi [12] 56 (some 35) h8 fun x10 =>
      cl (ds [(12, M_block N (some 35) (x10 + (1 : Int32)) h8)] (some 35) h8) fun x12 h11 =>
      if x12 = 0 then (M_notation_109 N (some 35) (nI m) x12 h11) else (cl (ds [(12, M_turned N (some 35) x9 h11)] (some 35) h11) fun _ h13 =>
      gi [12] 56 (some 35) h13 fun x14 =>
      gi [12] 1 (some 35) h13 fun x15 =>
      if x14 = x15 then (M_notation_108 N (some 35) (nI m) 1 h13) else (M_notation_108 N (some 35) (nI m) 0 h13)))) := by
    unfold M_notation_28
    rw [M_finds_0 L, cl_s, if_pos rfl, pi_s (o35 L1), e0]
  rcases c with ⟨c1, c2, e, c3, c4⟩ | ⟨c1, c2, e, st', tc', lp', oc', T', c3, c4, c5, c6, c7, c8, c9, -⟩
  · obtain ⟨k1, k2⟩ := keep h1 c2
    refine ⟨h1, k1, k2, Or.inl ⟨e, ?_, c3, c4⟩⟩
    rw [pre, c1, cl_s, if_pos rfl]
  have M1 := MT_f Ma c2
  have L3 := M1.1
  have w1 := c8.1
  have w7 := c8.2.2.2.2 (by omega)
  by_cases et : e = t
  · obtain ⟨k1, k2⟩ := keep h1 c2
    refine ⟨h1, k1, k2, Or.inr ⟨(st', tc', 0, lp', oc', T'), ?_, ?_, ?_, ?_, fun k hk => ?_⟩⟩
    · rw [pre, c1, cl_s, if_neg i10, gi_s (o35 L3), c4, gi_s (o35 L3), M1.2.2.1, if_pos ((nI_leI (by omega) (by omega)).mpr (by omega))]
    · unfold T0
      rw [c6, et, Nat.sub_self]
      simp only [rn]
      rw [if_pos c7]
    · rw [c9.1]; congr 1; show 0 + (ctc st' tc' - 0) = ctc st' tc'; omega
    · show ctc st' tc' ≤ 600; omega
    · have hk' : k < ctc st' tc' := hk
      rw [c9.2 k (by omega)]
      show nI (cTf n st' tc' lp' oc' T' (k - 0 + 0)) = nI (cTf n st' tc' lp' oc' T' k)
      rfl
  · have b44 : B e = 44 := by omega
    obtain ⟨m1, em1⟩ : ∃ m1, m1 = ctc st' tc' := ⟨_, rfl⟩
    obtain ⟨U, eU⟩ : ∃ U, U = cTf n st' tc' lp' oc' T' := ⟨_, rfl⟩
    rw [← em1, ← eU] at c9
    rw [← em1] at w7
    have e2 : tk n st' tc' 0 lp' oc' T' (B e) = some (0, m1, m1, lp', oc', U) := by
      unfold tk
      rw [if_pos b44, if_pos ⟨rfl, c7⟩, em1, eU]
    have w' := tk_ws c8 e2
    have r1 : rn n B t 0 T0 = rn n B (t - e - 1) (e + 1) (0, m1, m1, lp', oc', U) := by
      unfold T0
      rw [c6, show t - e = t - e - 1 + 1 by omega, rn_s e2]
      congr 1
    obtain ⟨h2, d1, d2, d3, d4⟩ := turned_s (N := N) (k0 := 0) (c := m1) (V := U) hN L3 (by rw [c9.1]; rfl) (by omega) (by omega) (fun k hk => by rw [c9.2 k (by omega)]; rfl)
    have x2 : Fi PMr h1 h2 := Fx_m d2 (fun a k c => by unfold PMr; omega) (fun _ _ c => c)
    have M2 := MT_f M1 x2
    have L4 := M2.1
    have f56 : hI h2 35 56 = nI e := by rw [Fx_I d2 (by omega)]; exact c4
    have x3 : Fi PMr h2 (sI h2 35 56 (nI (e + 1))) := Fx_sI _ _ (by unfold PMr; omega)
    have M3 := MT_f M2 x3
    obtain ⟨G, eG⟩ : ∃ G : Nat → Nat, G = fun k => if k < 0 + m1 then U k else U (2 * 0 + 2 * m1 - 2 - k) := ⟨_, rfl⟩
    have ba3 : BA (sI h2 35 56 (nI (e + 1))) (2 * m1 - 1) m1 m1 G U := by
      refine ⟨by rw [sI_ne (by omega), d3]; congr 1; omega, fun k hk => ?_⟩
      rw [sI_ne (by omega), d4 k (by omega)]
      unfold gk
      rw [if_pos (show k < 2 * m1 - 1 by omega), eG]
    obtain ⟨h5, q⟩ := block_l (N := N) (fb := m1) (k0 := 2 * m1 - 1) (G := G) (n := n) (t := t) (B := B) hN (by omega) N (e + 1) (t - e - 1) 0 m1 lp' oc' U 0 0 (sI h2 35 56 (nI (e + 1))) (by omega) (by omega) M3 (sI_at ..) w' ba3 (Or.inl ⟨rfl, rfl, rfl⟩)
    have eb : ds [(12, M_block N (some 35) (nI e + (1 : Int32)) h2)] (some 35) h2 = M_block_9 N N (some 35) (nI 0) (nI 0) (sI h2 35 56 (nI (e + 1))) := by
      rw [dM L4]
      unfold M_block
      rw [aN_1, pi_s (o35 L4)]
      rfl
    have pre2 : M_notation_28 N (some 35) (nI m) (some 35) 0 h = cl (M_block_9 N N (some 35) (nI 0) (nI 0) (sI h2 35 56 (nI (e + 1)))) fun x12 h11 =>
      if x12 = 0 then (M_notation_109 N (some 35) (nI m) x12 h11) else (cl (ds [(12, M_turned N (some 35) (nI (2 * m1 - 1)) h11)] (some 35) h11) fun _ h13 =>
      gi [12] 56 (some 35) h13 fun x14 =>
      gi [12] 1 (some 35) h13 fun x15 =>
      if x14 = x15 then (M_notation_108 N (some 35) (nI m) 1 h13) else (M_notation_108 N (some 35) (nI m) 0 h13)) := by
      rw [pre, c1, cl_s, if_neg i10, gi_s (o35 L3), c4, gi_s (o35 L3), M1.2.2.1, if_neg (fun u => absurd ((nI_leI (by omega) (by omega)).mp u) (by omega)), show ds [(12, M_turned N (some 35) 0 h1)] (some 35) h1 = some ((), h2) from d1, cl_s, gi_s (o35 L4), d3, gi_s (o35 L4), f56, eb, show 0 + 2 * m1 - 1 = 2 * m1 - 1 by omega]
    have x05 : ∀ h', Fi PMr (sI h2 35 56 (nI (e + 1))) h' → Fi PMr ha h' := fun h' f => Fx_t (Fx_t (Fx_t c2 x2) x3) f
    rcases q with ⟨q1, q2, e', q3, q4⟩ | ⟨q1, q2, e', st2, tc2, lp2, oc2, T2, q3, q4, q5, q6, q7, q8, q9, q10⟩
    · obtain ⟨k1, k2⟩ := keep h5 (x05 h5 q2)
      refine ⟨h5, k1, k2, Or.inl ⟨e', ?_, q3, by rw [r1]; exact q4⟩⟩
      rw [pre2, q1, cl_s, if_pos rfl]
    · have v1 := q8.1
      have v7 := q8.2.2.2.2 (by omega)
      have M5 := MT_f M3 q2
      have cl5 := ctc_le st2 tc2
      obtain ⟨m2', em2⟩ : ∃ m2', m2' = ctc st2 tc2 := ⟨_, rfl⟩
      rw [← em2] at q9 v7 cl5
      obtain ⟨U2, eU2⟩ : ∃ U2, U2 = cTf n st2 tc2 lp2 oc2 T2 := ⟨_, rfl⟩
      rw [← eU2] at q9
      have uu : ∀ j, j < m1 → U2 j = U j := fun j hj => by rw [eU2, cTf_o (by omega)]; exact q10 j hj
      obtain ⟨h6, p1, p2, p3, p4⟩ := turned_s (N := N) (k0 := 2 * m1 - 1) (c := m2' - m1) (V := gk (2 * m1 - 1) m1 G U2) hN M5.1 q9.1 (by omega) (by omega) q9.2
      have x6 : Fi PMr h5 h6 := Fx_m p2 (fun a k c => by unfold PMr; omega) (fun _ _ c => c)
      have M6 := MT_f M5 x6
      have f6 : hI h6 35 56 = nI e' := by rw [Fx_I p2 (by omega)]; exact q4
      obtain ⟨k1, k2⟩ := keep h6 (Fx_t (x05 h5 q2) x6)
      have pre3 : M_notation_28 N (some 35) (nI m) (some 35) 0 h = if nI e' = nI t then (M_notation_108 N (some 35) (nI m) 1 h6) else (M_notation_108 N (some 35) (nI m) 0 h6) := by
        rw [pre2, q1, cl_s, if_neg i10, p1, cl_s, gi_s (o35 M6.1), f6, gi_s (o35 M6.1), M6.2.2.1]
      by_cases et2 : e' = t
      · refine ⟨h6, k1, k2, Or.inr ⟨(st2, tc2, m1, lp2, oc2, T2), ?_, ?_, ?_, ?_, fun k hk => ?_⟩⟩
        · rw [pre3, et2, if_pos rfl]; rfl
        · rw [r1, q6, et2, Nat.sub_self]
          simp only [rn]
          rw [if_pos q7]
        · rw [p3]
          show _ = nI (tot m1 (ctc st2 tc2))
          unfold tot
          rw [if_neg (by omega), ← em2]
          congr 1; omega
        · show tot m1 (ctc st2 tc2) ≤ 600
          unfold tot
          rw [if_neg (by omega), ← em2]
          omega
        · have hk' : k < tot m1 (ctc st2 tc2) := hk
          unfold tot at hk'
          rw [if_neg (by omega), ← em2] at hk'
          show _ = nI (lF m1 (ctc st2 tc2) (cTf n st2 tc2 lp2 oc2 T2) k)
          rw [p4 k (by omega), ← em2, ← eU2]
          congr 1
          unfold lF gk
          rw [eG]
          by_cases z1 : k < m1
          · have A : k < 2 * m1 - 1 + (m2' - m1) := by omega
            have A2 : k < 2 * m1 - 1 := by omega
            have A3 : k < 0 + m1 := by omega
            have A4 : m1 = 0 ∨ k < m1 := Or.inr z1
            simp only [if_pos A, if_pos A2, if_pos A3, if_pos A4, uu k z1]
          · have A4 : ¬ (m1 = 0 ∨ k < m1) := by omega
            have A3 : ¬ k < 0 + m1 := by omega
            by_cases z2 : k < 2 * m1 - 1
            · have A : k < 2 * m1 - 1 + (m2' - m1) := by omega
              simp only [if_pos A, if_pos z2, if_neg A3, if_neg A4]
              rw [uu _ (by omega)]
              congr 1; omega
            · by_cases z3 : k < m1 + m2' - 1
              · have A : k < 2 * m1 - 1 + (m2' - m1) := by omega
                simp only [if_pos A, if_neg z2, if_pos z3, if_neg A4]
                congr 1; omega
              · have A : ¬ k < 2 * m1 - 1 + (m2' - m1) := by omega
                have A2 : ¬ 2 * (2 * m1 - 1) + 2 * (m2' - m1) - 2 - k < 2 * m1 - 1 := by omega
                simp only [if_neg A, if_neg z2, if_neg z3, if_neg A4, if_neg A2]
                congr 1; omega
      · refine ⟨h6, k1, k2, Or.inl ⟨e', ?_, f6, ?_⟩⟩
        · rw [pre3, if_neg (fun u => et2 ((nI_eq (by omega) (by omega)).mp u))]; rfl
        · rw [r1, q6, show t - e' = t - e' - 1 + 1 by omega]
          apply rn_n
          unfold tk
          rw [if_pos (by omega), if_neg (fun u => by have := u.1; omega)]
