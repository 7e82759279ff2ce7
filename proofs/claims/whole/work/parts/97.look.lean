/-! PURE: the search, by the class: an item is looked at -/
def NB (mc : Nat) (bs : Nat → Nat) (a : Nat) : Prop := ∀ m, m < mc → a + 1 ≤ bs m ∨ bs m + 5 ≤ a
def nnF (f : Nat → Option Nat) : Nat → Nat
  | 0 => 0
  | m + 1 => nnF f m + if (f m).isNone = true then 1 else 0
theorem nnF_f (f : Nat → Option Nat) : ∀ m, ((List.range m).filter (fun i => (f i).isNone)).length = nnF f m
  | 0 => rfl
  | m + 1 => by
    rw [List.range_succ, List.filter_append, List.length_append, nnF_f f m, nnF]
    by_cases c : (f m).isNone = true <;> simp [c]
theorem nnF_up {f : Nat → Option Nat} {i c : Nat} (hf : f i = none) : ∀ m, i < m → nnF (va_up f i (some c)) m + 1 = nnF f m
  | 0, h => absurd h (by omega)
  | m + 1, h => by
    have cg : ∀ k, k ≤ i → nnF (va_up f i (some c)) k = nnF f k := fun k => by
      induction k with
      | zero => intro _; rfl
      | succ k ih => intro hk; rw [nnF, nnF, ih (by omega), up_at, if_neg (show ¬ k = i by omega)]
    rw [nnF, nnF, up_at]
    by_cases q : i = m
    · rw [if_pos q.symm, ← q, cg i (Nat.le_refl _), hf]
      simp
    · have := nnF_up (c := c) hf m (show i < m by omega)
      rw [if_neg (show ¬ m = i by omega)]
      omega
theorem nn_eq (h : Hp) : nn h = nnF (hR h 20) 1080 := nnF_f _ _
def GS (h h' : Hp) : Prop := hz h' + 2 * nn h' ≤ hz h + 2 * nn h ∧ hs h' + 103 * nn h' ≤ hs h + 103 * nn h
theorem GS_r (h : Hp) : GS h h := ⟨Nat.le_refl _, Nat.le_refl _⟩
theorem GS_t {h h1 h2 : Hp} (a : GS h h1) (b : GS h1 h2) : GS h h2 := ⟨Nat.le_trans b.1 a.1, Nat.le_trans b.2 a.2⟩
theorem GS_s {h h' : Hp} (e : hR h' 20 = hR h 20) (a : hz h' = hz h) (b : hs h' = hs h) : GS h h' := by
  have g : nn h' = nn h := by unfold nn; rw [e]
  unfold GS
  rw [g, a, b]
  exact ⟨Nat.le_refl _, Nat.le_refl _⟩
theorem GS_F {P Q : Nat → Nat → Prop} {h h' : Hp} (f : Fx P Q h h') : GS h h' := GS_s (by rw [Fx_R f]) (Fx_z f) (Fx_s f)
theorem Cs_G {P Q R : Nat → Nat → Prop} {h h' : Hp} {n mc : Nat} {D : Nat → Md} {bs : Nat → Nat} (c : Cs h n mc D bs) (z : 64 ≤ hz h) (f : Gx P Q R h h') (p : ∀ a k, P a k → ¬ (a = 0 ∧ k = 3) ∧ (64 ≤ a → NB mc bs a)) (r : ∀ a k, R a k → a ≠ 5 ∧ a < 64) : Cs h' n mc D bs := by
  obtain ⟨c1, c2, c3, c4⟩ := c
  refine ⟨by rw [Gx_I f z (by omega) (fun q => (p _ _ q).1 ⟨rfl, rfl⟩)]; exact c1, c2, fun m hm => ⟨?_, ?_, (c3 m hm).2.2⟩, c4⟩
  · rw [Gx_R f z (by omega) (fun q => (r _ _ q).1 rfl)]; exact (c3 m hm).1
  · have b64 := CM_64 (c3 m hm).2.1
    exact CM_g (c3 m hm).2.1 f (fun a k h1 h2 q => by have := (p a k q).2 (by omega) m hm; omega) (fun a k h1 h2 q => by have := (r a k q).2; omega)
/-- a lead of its own is there for each item that is looked at -/
theorem lead_make {N n mc idx : Nat} {D : Nat → Md} {bs : Nat → Nat} {x : Int32} {y : Option Nat} {h : Hp} (L : Lay h) (C : Cs h n mc D bs) (S : Sl h mc bs) (hi : idx < 1080) : ∃ g c0, (lr 17 (some 20) (nI idx) h fun x4 =>
  if x4 = none then (nw 0 h fun x5 h6 =>
  cl (ck [0] x5 h6 (Lead_init N x5 h6)) fun _ h7 =>
  gr [5] 8 (some 17) h7 fun x8 =>
  sr 17 [0] x8 (nI idx) x5 h7 fun h9 =>
  Search_lookAtItem_40 N (some 17) x y (nI idx) x5 h9) else (Search_lookAtItem_40 N (some 17) x y (nI idx) x4 h)) = Search_lookAtItem_40 N (some 17) x y (nI idx) (some c0) g ∧ Gx nF nF (fun a _ => a = 20) h g ∧ hR g 20 idx = some c0 ∧ (∀ i, i ≠ idx → hR g 20 i = hR h 20 i) ∧ (∀ c, hR h 20 idx = some c → c0 = c ∧ g = h) ∧ Sl g mc bs ∧ GS h g := by
  rw [lr_s (o20 L) (by rw [k20 L]; exact hi) (by rw [k20 L]; decide)]
  rcases e : hR h 20 idx with _ | c
  · have z := L.1
    obtain ⟨b, hb⟩ : ∃ b, hz h = b + 1 := ⟨hz h - 1, by omega⟩
    have z1 : hz (nwO h 0 (nfl 0)) = b + 2 := by rw [nw_z, hb]
    have o1 : ok (nwO h 0 (nfl 0)) [0] (b + 1) = true := by have := nw_ok0 h 0 (nfl 0); rw [hb] at this; exact this
    obtain ⟨g1, eg1⟩ : ∃ g1, g1 = sI (sR (nwO (nwO h 0 (nfl 0)) 13 100) (b + 1) 0 (some (b + 2))) (b + 1) 2 1 := ⟨_, rfl⟩
    have zz : hz (nwO (nwO h 0 (nfl 0)) 13 100) = b + 3 := by rw [nw_z, z1]
    have f1 : Gx nF nF nF h g1 := by
      refine ⟨?_, fun a ha => ?_, fun a k ha _ => ?_, fun a k ha _ => ?_, fun a k ha _ => ?_⟩
      · rw [eg1, hz_sI, hz_sR, zz]; omega
      · rw [eg1, hK_sI, hK_sR, nwK (by rw [z1]; omega), nwK ha]
      · rw [eg1, sI_ne (by omega), hI_sR, nw_I (by rw [z1]; omega), nw_I ha]
      · rw [eg1, hL_sI, hL_sR, nw_L (by rw [z1]; omega), nw_L ha]
      · rw [eg1, hR_sI, sR_ne (by omega), nw_R (by rw [z1]; omega), nw_R ha]
    have Lg1 : Lay g1 := Gx_Lay f1 L (fun _ _ _ q => q)
    have K1 : hK g1 (b + 1) = (0, nfl 0) := by rw [eg1, hK_sI, hK_sR, nwK (by rw [z1]; omega), ← hb]; exact nw_K0 ..
    have K2 : hK g1 (b + 2) = (13, 100) := by rw [eg1, hK_sI, hK_sR, ← z1]; exact nw_K0 ..
    have R1 : hR g1 (b + 1) 0 = some (b + 2) := by rw [eg1, hR_sI, sR_at]
    have gz : hz g1 = b + 3 := by rw [eg1, hz_sI, hz_sR, zz]
    have gs : hs g1 = hs h + nfl 0 + 100 := by rw [eg1, hs_sI, hs_sR, nw_s, nw_s]
    have ok0 : ok g1 [0] (b + 1) = true := ok_K (by omega) K1
    have f2 : Gx nF nF (fun a _ => a = 20) g1 (sR g1 20 idx (some (b + 1))) := Gx_sR g1 _ rfl
    have f3 : Gx nF nF (fun a _ => a = 20) h (sR g1 20 idx (some (b + 1))) := Gx_t (Gx_m f1 (fun _ _ _ q => q) (fun _ _ _ q => q) (fun _ _ _ q => q.elim)) f2
    have r20 : ∀ i, i ≠ idx → hR (sR g1 20 idx (some (b + 1))) 20 i = hR h 20 i := fun i hn => by rw [sR_ne (fun _ => hn), f1.2.2.2.2 _ _ (by omega) (fun q => q)]
    refine ⟨sR g1 20 idx (some (b + 1)), b + 1, ?_, f3, sR_at .., r20, fun c q => (by cases q), ?_, ?_⟩
    · rw [if_pos rfl]
      unfold nw
      dsimp only
      rw [hb, ck_s o1, lead_e z1 o1, cl_s, ← eg1, gr_s (o17 Lg1), r17_8 Lg1, sr_s (o20 Lg1) (by rw [k20 Lg1]; exact hi) (by rw [k20 Lg1]; decide) (fun b' q => by cases q; exact ok0)]
    · clear eg1
      intro i hi' c hc
      by_cases q : i = idx
      · rw [q, sR_at] at hc
        cases hc
        refine ⟨⟨by omega, by show b + 1 + 2 ≤ hz g1; omega⟩, ⟨K1, K2⟩, ?_, fun m hm => ?_, fun j hj hn c' hc' => ?_⟩
        · rw [sR_ne (by omega)]; exact R1
        · have := (blk (C.2.2.1 m hm).2.1).2
          right; omega
        · rw [r20 j (by omega)] at hc'
          have := (S j hj c' hc').1.2
          right; omega
      · rw [r20 i q] at hc
        obtain ⟨⟨s1, s2⟩, ⟨s3, s4⟩, s5, s6, s7⟩ := S i hi' c hc
        refine ⟨⟨s1, Nat.le_trans s2 f3.1⟩, ⟨by rw [f3.2.1 _ (by omega)]; exact s3, by rw [f3.2.1 _ (by omega)]; exact s4⟩, by rw [f3.2.2.2.2 _ _ (by omega) (by omega)]; exact s5, s6, fun j hj hn c' hc' => ?_⟩
        by_cases u : j = idx
        · rw [u, sR_at] at hc'
          cases hc'
          left; omega
        · rw [r20 j u] at hc'
          exact s7 j hj hn c' hc'
    · have e1 : nn (sR g1 20 idx (some (b + 1))) + 1 = nn h := by
        rw [nn_eq, nn_eq]
        have : hR (sR g1 20 idx (some (b + 1))) 20 = va_up (hR h 20) idx (some (b + 1)) := funext fun i => by
          rw [up_at]
          by_cases q : i = idx
          · rw [if_pos q, q, sR_at]
          · rw [if_neg q]; exact r20 i q
        rw [this]
        exact nnF_up e 1080 hi
      have n3 : nfl 0 = 3 := by decide
      unfold GS
      rw [hz_sR, hs_sR, gz, gs, ← e1, n3, hb]
      generalize nn (sR g1 20 idx (some (b + 1))) = t
      omega
  · exact ⟨h, c, by rw [if_neg (by simp)], Gx_r _ _ _ _, e, fun _ _ => rfl, fun c' q => by cases q; exact ⟨rfl, rfl⟩, S, GS_r h⟩
/-- what is kept of the items -/
def LK (h : Hp) (D : Nat → Md) (cc : Nat) (ch : Nat → Nat) (kn : Nat → Nat → Nat) : Prop :=
  (∀ d j, d < 12 → j < cc → hI h 21 (90 * d + ch j) = nI (kn d j)) ∧
  ∀ d j, d < 12 → j < cc → kn d j = 1 → ∃ c, hR h 20 (90 * d + ch j) = some c ∧ hI h c 1 = nI (LRd D ch d j).2.1 ∧ ∀ k, k < (LRd D ch d j).2.1 → hI h (c + 1) k = nI ((LRd D ch d j).2.2 k)
def PL (mc : Nat) (bs : Nat → Nat) (a k : Nat) : Prop := a = 4 ∨ a = 21 ∨ a = 17 ∧ k = 16 ∨ 64 ≤ a ∧ NB mc bs a
def RL (a k : Nat) : Prop := a = 17 ∧ k = 15 ∨ a = 20
theorem ds5 {β : Type} {F : Option β} {h : Hp} (L : Lay h) : ds [(5, F)] (some 17) h = F := ds_1 (o17 L)
theorem look_92 {N idx k' c0 : Nat} {h : Hp} (L : Lay h) (hi : idx < 1080) (e : hI h 21 idx = nI k') (k2 : k' ≤ 2) : ∃ h', Search_lookAtItem_92 N (some 17) (nI idx) (some c0) h = some ((), h') ∧ Gx (fun a k => a = 17 ∧ k = 16) nF (fun a k => a = 17 ∧ k = 15) h h' ∧ hR h' 17 15 = (if k' = 1 then some c0 else none) ∧ hI h' 17 16 = nI 0 ∧ (hz h' = hz h ∧ hs h' = hs h ∧ hR h' 20 = hR h 20) := by
  have fin : ∀ q : Option Nat, ∃ h', Search_lookAtItem_109 N (some 17) (some 17) q h = some ((), h') ∧ Gx (fun a k => a = 17 ∧ k = 16) nF (fun a k => a = 17 ∧ k = 15) h h' ∧ hR h' 17 15 = q ∧ hI h' 17 16 = nI 0 ∧ (hz h' = hz h ∧ hs h' = hs h ∧ hR h' 20 = hR h 20) := fun q => by
    have L1 : Lay (sR h 17 15 q) := Gx_Lay (Gx_sR (P := nF) (Q := nF) (R := fun a k => a = 17 ∧ k = 15) h _ ⟨rfl, rfl⟩) L (fun a k c u => by unfold Rc at c; omega)
    refine ⟨sI (sR h 17 15 q) 17 16 0, ?_, Gx_t (Gx_sR h _ ⟨rfl, rfl⟩) (Gx_sI _ _ ⟨rfl, rfl⟩), ?_, ?_, rfl, rfl, ?_⟩
    · unfold Search_lookAtItem_109
      rw [pr_s (o17 L), pi_s (o17 L1)]
    · rw [hR_sI, sR_at]
    · rw [sI_at]; rfl
    · rw [hR_sI]; exact funext fun i => sR_ne (by omega)
  unfold Search_lookAtItem_92
  rw [gr_s (o17 L), r17_9 L, li_s (o21 L) (by rw [k21 L]; exact hi) (by rw [k21 L]; decide), e]
  by_cases q : k' = 1
  · rw [if_pos ((eN_1 (by omega)).mpr q), if_pos q]; exact fin _
  · rw [if_neg (fun u => q ((eN_1 (by omega)).mp u)), if_neg q]; exact fin _
