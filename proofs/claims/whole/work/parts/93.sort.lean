/-! PURE: numbers put in order: counts, the class's heap -/
def sp (a : Nat → Nat) (i j : Nat) : Nat → Nat := va_up (va_up a i (a j)) j (a i)
theorem cnt_congr {f g : Nat → Nat} {y : Nat} : ∀ m, (∀ j, j < m → f j = g j) → cnt f y m = cnt g y m
  | 0, _ => rfl
  | m + 1, h => by rw [cnt, cnt, cnt_congr m (fun j hj => h j (by omega)), h m (by omega)]
theorem cnt_up {f : Nat → Nat} {y i x : Nat} : ∀ m, i < m → cnt (va_up f i x) y m + (if f i = y then 1 else 0) = cnt f y m + (if x = y then 1 else 0)
  | 0, h => absurd h (by omega)
  | m + 1, h => by
    rw [cnt, cnt]
    by_cases q : i = m
    · have e : cnt (va_up f i x) y m = cnt f y m := cnt_congr m (fun j hj => by rw [up_at, if_neg (by omega)])
      rw [e, up_at, if_pos q.symm, q]
      omega
    · have := cnt_up (f := f) (y := y) (x := x) m (show i < m by omega)
      rw [up_at, if_neg (show ¬ m = i by omega)]
      omega
theorem cnt_sp {a : Nat → Nat} {y i j m : Nat} (hi : i < m) (hj : j < m) : cnt (sp a i j) y m = cnt a y m := by
  unfold sp
  have h1 := cnt_up (f := va_up a i (a j)) (y := y) (x := a i) m hj
  have h2 := cnt_up (f := a) (y := y) (x := a j) m hi
  by_cases q : j = i
  · rw [up_at, if_pos q, q] at h1
    rw [q] at h2
    rw [q]
    omega
  · rw [up_at, if_neg q] at h1
    omega
theorem cnt_p1 {f : Nat → Nat} {y : Nat} : ∀ m j, j < m → f j = y → 1 ≤ cnt f y m
  | 0, j, h, _ => absurd h (by omega)
  | m + 1, j, h, e => by
    rw [cnt]
    by_cases q : j = m
    · rw [← q, if_pos e]; omega
    · have := cnt_p1 m j (by omega) e
      omega
theorem cnt_zero {f : Nat → Nat} {y : Nat} : ∀ m, (∀ j, j < m → f j ≠ y) → cnt f y m = 0
  | 0, _ => rfl
  | m + 1, h => by rw [cnt, cnt_zero m (fun j hj => h j (by omega)), if_neg (h m (by omega))]
theorem srt_uniq {v v' : Nat → Nat} : ∀ m, (∀ i j, i < j → j < m → v i ≤ v j) → (∀ i j, i < j → j < m → v' i ≤ v' j) → (∀ y, cnt v y m = cnt v' y m) → ∀ j, j < m → v j = v' j
  | 0, _, _, _, j, hj => absurd hj (by omega)
  | m + 1, h1, h2, hc, j, hj => by
    have top : v m = v' m := by
      by_cases q : v m < v' m
      · have a := hc (v' m)
        rw [cnt_zero (f := v) (m + 1) (fun j hj e => by
          by_cases u : j = m
          · rw [u] at e; omega
          · have := h1 j m (by omega) (by omega); omega)] at a
        have := cnt_p1 (f := v') (m + 1) m (by omega) rfl
        omega
      · by_cases q2 : v' m < v m
        · have a := hc (v m)
          rw [cnt_zero (f := v') (m + 1) (fun j hj e => by
            by_cases u : j = m
            · rw [u] at e; omega
            · have := h2 j m (by omega) (by omega); omega)] at a
          have := cnt_p1 (f := v) (m + 1) m (by omega) rfl
          omega
        · omega
    by_cases u : j = m
    · rw [u]; exact top
    · refine srt_uniq m (fun i j a b => h1 i j a (by omega)) (fun i j a b => h2 i j a (by omega)) (fun y => ?_) j (by omega)
      have := hc y
      rw [cnt, cnt, top] at this
      omega
theorem Srt_uniq {f v v' : Nat → Nat} {m : Nat} (a : Srt f v m) (b : Srt f v' m) : ∀ j, j < m → v j = v' j := srt_uniq m a.1 b.1 (fun y => by rw [a.2, b.2])
theorem sp_at (a : Nat → Nat) (i j k : Nat) : sp a i j k = if k = j then a i else if k = i then a j else a k := by
  unfold sp
  rw [up_at]
  by_cases q : k = j
  · rw [if_pos q, if_pos q]
  · rw [if_neg q, if_neg q, up_at]
/-- from lo on each is no less than what is below it -/
def HP (a : Nat → Nat) (lo sz : Nat) : Prop := ∀ i, lo ≤ i → ∀ c, (c = 2 * i + 1 ∨ c = 2 * i + 2) → c < sz → a c ≤ a i
/-- the same, but for the place k -/
def HQ (a : Nat → Nat) (lo sz k : Nat) : Prop := (∀ i, lo ≤ i → i ≠ k → ∀ c, (c = 2 * i + 1 ∨ c = 2 * i + 2) → c < sz → a c ≤ a i) ∧ ∀ p, lo ≤ p → (k = 2 * p + 1 ∨ k = 2 * p + 2) → ∀ c, (c = 2 * k + 1 ∨ c = 2 * k + 2) → c < sz → a c ≤ a p
theorem HQ_end {a : Nat → Nat} {lo sz k : Nat} (q : HQ a lo sz k) (e : ∀ c, (c = 2 * k + 1 ∨ c = 2 * k + 2) → c < sz → a c ≤ a k) : HP a lo sz := by
  intro i hi c hc h
  by_cases u : i = k
  · rw [u]; rw [u] at hc; exact e c hc h
  · exact q.1 i hi u c hc h
theorem HQ_sp {a : Nat → Nat} {lo sz k c : Nat} (q : HQ a lo sz k) (lk : lo ≤ k) (hc : c = 2 * k + 1 ∨ c = 2 * k + 2) (cs : c < sz) (g : a k < a c) (big : ∀ d, (d = 2 * k + 1 ∨ d = 2 * k + 2) → d < sz → a d ≤ a c) : HQ (sp a k c) lo sz c := by
  refine ⟨fun i hi ne d hd ds => ?_, fun p hp hk d hd ds => ?_⟩
  · rw [sp_at, sp_at, if_neg ne]
    by_cases ik : i = k
    · rw [if_pos ik]
      rw [ik] at hd
      by_cases dc : d = c
      · rw [if_pos dc]; omega
      · rw [if_neg dc, if_neg (by omega)]; exact big d hd ds
    · rw [if_neg ik, if_neg (by omega)]
      by_cases dk : d = k
      · rw [if_pos dk]
        exact q.2 i hi (by omega) c hc cs
      · rw [if_neg dk]; exact q.1 i hi ik d hd ds
  · have pk : p = k := by omega
    rw [sp_at, sp_at, if_neg (by omega), if_neg (by omega), pk, if_neg (by omega), if_pos rfl]
    exact q.1 c (by omega) (by omega) d hd ds
theorem HP_max {a : Nat → Nat} {sz : Nat} (h : HP a 0 sz) : ∀ j, j < sz → a j ≤ a 0 := by
  intro j
  induction j using Nat.strongRecOn with
  | ind j ih =>
    intro hj
    by_cases q : j = 0
    · rw [q]; exact Nat.le_refl _
    · have h1 := h ((j - 1) / 2) (by omega) j (by omega) hj
      have h2 := ih ((j - 1) / 2) (by omega) (by omega)
      omega
/-- what is left of the array after a sinking -/
def SE (h h' : Hp) (M sz lo : Nat) (a a' : Nat → Nat) : Prop := Fi (fun b _ => b = 15) h h' ∧ (∀ j, j < M → hI h' 15 j = nI (a' j)) ∧ (∀ y, cnt a' y M = cnt a y M) ∧ HP a' lo sz ∧ (∀ j, sz ≤ j → a' j = a j) ∧ ∀ B, (∀ i, i < sz → a i ≤ B) → ∀ i, i < sz → a' i ≤ B
theorem sink_97 {N M sz lo k : Nat} {a : Nat → Nat} {h : Hp} (L : Lay h) (hM : M ≤ 2001) (sM : sz ≤ M) (ks : k < sz) (hv : ∀ j, j < M → j ≠ k → hI h 15 j = nI (a j)) (p : HP a lo sz) : ∃ h' a', Touch_sink_97 N (some 6) (nI (a k)) (nI k) h = some ((), h') ∧ SE h h' M sz lo a a' := by
  refine ⟨sI h 15 k (nI (a k)), a, ?_, Fx_sI _ _ rfl, fun j hj => ?_, fun _ => rfl, p, fun _ _ => rfl, fun _ q => q⟩
  · unfold Touch_sink_97
    rw [gr_s (o6 L), r6_12 L, si_s (o15 L) (by rw [k15 L]; show k < 2001; omega) (by rw [k15 L]; decide)]
  · by_cases q : j = k
    · rw [q, sI_at]
    · rw [sI_ne (by omega)]; exact hv j hj q
theorem sink_l {N M lo : Nat} (hM : M ≤ 2001) : ∀ (g k sz : Nat) (a : Nat → Nat) (h : Hp), sz ≤ M → k < sz → sz - k < g → lo ≤ k → Lay h → (∀ j, j < M → a j < 2 ^ 31) → (∀ j, j < M → j ≠ k → hI h 15 j = nI (a j)) → HQ a lo sz k → ∃ h' a', Touch_sink_18 N g (some 6) (nI sz) (nI (a k)) (nI k) (nI (2 * k + 1)) h = some ((), h') ∧ SE h h' M sz lo a a'
  | 0, _, _, _, _, _, _, hg, _, _, _, _, _ => absurd hg (by omega)
  | g + 1, k, sz, a, h, sM, ks, hg, lk, L, ha, hv, q => by
    have rd : ∀ c, c < sz → c ≠ k → ∀ {β : Type} (f : Int32 → Option β), (gr [9] 12 (some 6) h fun x1 => li 13 x1 (nI c) h f) = f (nI (a c)) := fun c hc ne β f => by
      rw [gr_s (o6 L), r6_12 L, li_s (o15 L) (by rw [k15 L]; show c < 2001; omega) (by rw [k15 L]; decide), hv c (by omega) ne]
    have s54 : ∀ c, (c = 2 * k + 1 ∨ c = 2 * k + 2) → c < sz → (∀ d, (d = 2 * k + 1 ∨ d = 2 * k + 2) → d < sz → a d ≤ a c) → ∃ h' a', Touch_sink_54 N (Touch_sink_18 N g) (some 6) (nI sz) (nI (a k)) (nI k) (nI c) h = some ((), h') ∧ SE h h' M sz lo a a' := by
      intro c hc cs big
      have ck := ha k (by omega)
      have cc := ha c (by omega)
      unfold Touch_sink_54
      rw [rd c cs (by omega)]
      by_cases gt : a k < a c
      · rw [if_pos ((nI_ltI ck cc).mpr gt), gr_s (o6 L), r6_12 L, rd c cs (by omega), si_s (o15 L) (by rw [k15 L]; show k < 2001; omega) (by rw [k15 L]; decide), mN_2, aN_1, nmE]
        have e1 : sp a k c c = a k := by rw [sp_at, if_pos rfl]
        obtain ⟨h', a', e', f', v', c', p', o', b'⟩ := sink_l hM g c sz (sp a k c) (sI h 15 k (nI (a c))) sM cs (by omega) (by omega) L (fun j hj => by
          rw [sp_at]
          (repeat' split) <;> first | exact ck | exact cc | exact ha j hj) (fun j hj ne => by
          rw [sp_at, if_neg ne]
          by_cases u : j = k
          · rw [if_pos u, u, sI_at]
          · rw [if_neg u, sI_ne (by omega)]; exact hv j hj u) (HQ_sp q lk hc cs gt big)
        rw [e1] at e'
        refine ⟨h', a', e', Fx_t (Fx_sI _ _ rfl) f', v', fun y => by rw [c', cnt_sp (by omega) (by omega)], p', fun j hj => by rw [o' j hj, sp_at, if_neg (by omega), if_neg (by omega)], fun B hB => b' B (fun i hi => ?_)⟩
        rw [sp_at]
        (repeat' split) <;> exact hB _ (by omega)
      · rw [if_neg (fun u => gt ((nI_ltI ck cc).mp u))]
        exact sink_97 L hM sM ks hv (HQ_end q (fun d hd ds => by have := big d hd ds; omega))
    rw [Touch_sink_18]
    by_cases c1 : sz ≤ 2 * k + 1
    · rw [if_pos ((nI_leI (by omega) (by omega)).mpr c1)]
      exact sink_97 L hM sM ks hv (HQ_end q (fun d hd ds => absurd ds (by omega)))
    rw [if_neg (fun u => c1 ((nI_leI (by omega) (by omega)).mp u)), aN_1]
    by_cases c2 : sz ≤ 2 * k + 1 + 1
    · rw [if_pos ((nI_leI (by omega) (by omega)).mpr c2)]
      exact s54 (2 * k + 1) (by omega) (by omega) (fun d hd ds => by rw [show d = 2 * k + 1 by omega]; exact Nat.le_refl _)
    rw [if_neg (fun u => c2 ((nI_leI (by omega) (by omega)).mp u)), rd (2 * k + 1 + 1) (by omega) (by omega), rd (2 * k + 1) (by omega) (by omega)]
    have d1 := ha (2 * k + 1) (by omega)
    have d2 := ha (2 * k + 1 + 1) (by omega)
    by_cases c3 : a (2 * k + 1 + 1) ≤ a (2 * k + 1)
    · rw [if_pos ((nI_leI d2 d1).mpr c3)]
      exact s54 (2 * k + 1) (by omega) (by omega) (fun d hd ds => by
        rcases hd with hd | hd
        · rw [hd]; exact Nat.le_refl _
        · rw [hd]; exact c3)
    · rw [if_neg (fun u => c3 ((nI_leI d2 d1).mp u)), nmE]
      exact s54 (2 * k + 1 + 1) (by omega) (by omega) (fun d hd ds => by
        rcases hd with hd | hd
        · rw [hd]; omega
        · rw [hd]; exact Nat.le_refl _)
theorem sink_s {N M lo k sz : Nat} {a : Nat → Nat} {h : Hp} (hN : 3000 < N) (hM : M ≤ 2001) (sM : sz ≤ M) (ks : k < sz) (lk : lo ≤ k) (L : Lay h) (ha : ∀ j, j < M → a j < 2 ^ 31) (hv : ∀ j, j < M → hI h 15 j = nI (a j)) (q : HQ a lo sz k) : ∃ h' a', ds [(9, Touch_sink N (some 6) (nI k) (nI sz) h)] (some 6) h = some ((), h') ∧ SE h h' M sz lo a a' := by
  obtain ⟨h', a', e, s⟩ := sink_l (N := N) hM N k sz a h sM ks (by omega) lk L ha (fun j hj _ => hv j hj) q
  refine ⟨h', a', ?_, s⟩
  rw [ds9 L]
  unfold Touch_sink
  rw [gr_s (o6 L), r6_12 L, li_s (o15 L) (by rw [k15 L]; show k < 2001; omega) (by rw [k15 L]; decide), hv k (by omega), mN_2, aN_1, nmE]
  exact e
theorem SE_lt {h h' : Hp} {M sz lo : Nat} {a a' : Nat → Nat} (s : SE h h' M sz lo a a') (sM : sz ≤ M) (ha : ∀ j, j < M → a j < 2 ^ 31) : ∀ j, j < M → a' j < 2 ^ 31 := by
  intro j hj
  by_cases q : j < sz
  · have := s.2.2.2.2.2 (2 ^ 31 - 1) (fun i hi => by have := ha i (by omega); omega) j q
    omega
  · rw [s.2.2.2.2.1 j (by omega)]; exact ha j hj
/-- the second half: the greatest goes behind -/
theorem heap_26 {N M : Nat} (hN : 3000 < N) (hM : M ≤ 2001) : ∀ (r g : Nat) (a : Nat → Nat) (h : Hp), r < M → r < g → Lay h → (∀ j, j < M → a j < 2 ^ 31) → (∀ j, j < M → hI h 15 j = nI (a j)) → HP a 0 (r + 1) → (∀ i j, i < j → r < j → j < M → a i ≤ a j) → ∃ h' a', Touch_heapSort_26 N g (some 6) (nI r) h = some ((), h') ∧ Fi (fun b _ => b = 15) h h' ∧ (∀ j, j < M → hI h' 15 j = nI (a' j)) ∧ (∀ y, cnt a' y M = cnt a y M) ∧ (∀ i j, i < j → j < M → a' i ≤ a' j)
  | r, 0, _, _, _, hg, _, _, _, _, _ => absurd hg (by omega)
  | 0, g + 1, a, h, hr, _, L, ha, hv, p, s => by
    rw [Touch_heapSort_26]
    rw [if_pos (show nI 0 ≤ 0 by decide)]
    exact ⟨h, a, rfl, Fx_r _ _ _, hv, fun _ => rfl, fun i j h1 h2 => s i j h1 (by omega) h2⟩
  | r + 1, g + 1, a, h, hr, hg, L, ha, hv, p, s => by
    rw [Touch_heapSort_26]
    have L1 : Lay (sI h 15 0 (nI (a (r + 1)))) := L
    have i0 : (0 : Int32) = nI 0 := rfl
    rw [if_neg (fun u => absurd ((leN_0 (by omega)).mp u) (by omega)), gr_s (o6 L), r6_12 L, show ∀ f : Int32 → Option (Unit × Hp), li 13 (some 15) 0 h f = f (nI (a 0)) from fun f => by rw [i0, li_s (o15 L) (by rw [k15 L]; decide) (by rw [k15 L]; decide), hv 0 (by omega)], gr_s (o6 L), r6_12 L, gr_s (o6 L), r6_12 L, li_s (o15 L) (by rw [k15 L]; show r + 1 < 2001; omega) (by rw [k15 L]; decide), hv (r + 1) hr, show ∀ f : Hp → Option (Unit × Hp), si (some 15) 0 (nI (a (r + 1))) h f = f (sI h 15 0 (nI (a (r + 1)))) from fun f => by rw [i0, si_s (o15 L) (by rw [k15 L]; decide) (by rw [k15 L]; decide)], gr_s (o6 L1), r6_12 L1, si_s (o15 L1) (by rw [k15 L1]; show r + 1 < 2001; omega) (by rw [k15 L1]; decide)]
    have mx := HP_max p
    have lt1 : ∀ j, j < M → sp a 0 (r + 1) j < 2 ^ 31 := fun j hj => by
      rw [sp_at]
      (repeat' split) <;> exact ha _ (by omega)
    have hv1 : ∀ j, j < M → hI (sI (sI h 15 0 (nI (a (r + 1)))) 15 (r + 1) (nI (a 0))) 15 j = nI (sp a 0 (r + 1) j) := fun j hj => by
      rw [sp_at]
      by_cases u : j = r + 1
      · rw [if_pos u, u, sI_at]
      · rw [if_neg u, sI_ne (by omega)]
        by_cases v : j = 0
        · rw [if_pos v, v, sI_at]
        · rw [if_neg v, sI_ne (by omega)]; exact hv j hj
    have q1 : HQ (sp a 0 (r + 1)) 0 (r + 1) 0 := by
      refine ⟨fun i _ ne c hc cs => ?_, fun p _ hp => absurd hp (by omega)⟩
      rw [sp_at, sp_at, if_neg (by omega), if_neg (by omega), if_neg (by omega), if_neg ne]
      exact p i (by omega) c hc (by omega)
    obtain ⟨h2, a2, e2, s2⟩ := sink_s (N := N) (M := M) (lo := 0) (k := 0) (sz := r + 1) (h := sI (sI h 15 0 (nI (a (r + 1)))) 15 (r + 1) (nI (a 0))) hN hM (by omega) (by omega) (by omega) L lt1 hv1 q1
    obtain ⟨f2, v2, c2, p2, o2, b2⟩ := id s2
    have cs : ∀ y, cnt (sp a 0 (r + 1)) y M = cnt a y M := fun y => cnt_sp (by omega) hr
    obtain ⟨h3, a3, e3, f3, v3, c3, d3⟩ := heap_26 hN hM r g a2 h2 (by omega) (by omega) (Fx_Lay f2 L) (SE_lt s2 (by omega) lt1) v2 p2 (fun i j hij hj hjM => by
      rw [o2 j (by omega)]
      by_cases u : i < r + 1
      · refine b2 _ (fun i' hi' => ?_) i u
        rw [sp_at, sp_at, if_neg (by omega)]
        by_cases v : j = r + 1
        · rw [if_pos v]
          by_cases w : i' = 0
          · rw [if_pos w]; exact mx _ (by omega)
          · rw [if_neg w]; exact mx _ (by omega)
        · rw [if_neg v, if_neg (show ¬ j = 0 by omega)]
          by_cases w : i' = 0
          · rw [if_pos w]; exact s (r + 1) j (by omega) (by omega) hjM
          · rw [if_neg w]; exact s i' j (by omega) (by omega) hjM
      · rw [o2 i (by omega), sp_at, sp_at, if_neg (show ¬ j = r + 1 by omega), if_neg (show ¬ j = 0 by omega)]
        by_cases v : i = r + 1
        · rw [if_pos v]; exact s 0 j (by omega) (by omega) hjM
        · rw [if_neg v, if_neg (by omega)]; exact s i j hij (by omega) hjM)
    refine ⟨h3, a3, ?_, Fx_t (Fx_t (Fx_t (Fx_sI _ _ rfl) (Fx_sI _ _ rfl)) f2) f3, v3, fun y => by rw [c3, c2, cs], d3⟩
    rw [show ds [(9, Touch_sink N (some 6) 0 (nI (r + 1)) (sI (sI h 15 0 (nI (a (r + 1)))) 15 (r + 1) (nI (a 0))))] (some 6) (sI (sI h 15 0 (nI (a (r + 1)))) 15 (r + 1) (nI (a 0))) = some ((), h2) from e2, cl_s, bl_m1, nmE]
    exact e3
theorem heap_6 {N M : Nat} (hN : 3000 < N) (hM : M ≤ 2001) (m1 : 1 ≤ M) : ∀ (r g : Nat) (a : Nat → Nat) (h : Hp), r ≤ M / 2 → r < g → Lay h → (∀ j, j < M → a j < 2 ^ 31) → (∀ j, j < M → hI h 15 j = nI (a j)) → HP a r M → ∃ h' a', Touch_heapSort_6 N g (some 6) (nI M) (nI r + (-1)) h = some ((), h') ∧ Fi (fun b _ => b = 15) h h' ∧ (∀ j, j < M → hI h' 15 j = nI (a' j)) ∧ (∀ y, cnt a' y M = cnt a y M) ∧ (∀ i j, i < j → j < M → a' i ≤ a' j)
  | r, 0, _, _, _, hg, _, _, _, _ => absurd hg (by omega)
  | 0, g + 1, a, h, hr, _, L, ha, hv, p => by
    rw [Touch_heapSort_6]
    rw [if_pos (show nI 0 + (-1 : Int32) < 0 by decide), nI_m1 m1, nmE]
    exact heap_26 hN hM (M - 1) N a h (by omega) (by omega) L ha hv (by rw [show M - 1 + 1 = M by omega]; exact p) (fun i j _ h2 h3 => absurd h3 (by omega))
  | r + 1, g + 1, a, h, hr, hg, L, ha, hv, p => by
    rw [Touch_heapSort_6]
    obtain ⟨h1, a1, e1, s1⟩ := sink_s (N := N) (M := M) (lo := r) (k := r) (sz := M) hN hM (Nat.le_refl _) (by omega) (Nat.le_refl _) L ha hv ⟨fun i hi ne c hc cs => p i (by omega) c hc cs, fun q hq hk => absurd hk (by omega)⟩
    obtain ⟨f2, v2, c2, p2, o2, b2⟩ := id s1
    obtain ⟨h3, a3, e3, f3, v3, c3, d3⟩ := heap_6 hN hM m1 r g a1 h1 (by omega) (by omega) (Fx_Lay f2 L) (SE_lt s1 (Nat.le_refl _) ha) v2 p2
    refine ⟨h3, a3, ?_, Fx_t f2 f3, v3, fun y => by rw [c3, c2], d3⟩
    rw [bl_m1, if_neg (nI_pos (by omega)), e1, cl_s, nmE]
    exact e3
theorem heapSort_s {N M : Nat} {a : Nat → Nat} {h : Hp} (hN : 3000 < N) (hM : M ≤ 2001) (m1 : 1 ≤ M) (L : Lay h) (ha : ∀ j, j < M → a j < 2 ^ 31) (hv : ∀ j, j < M → hI h 15 j = nI (a j)) : ∃ h' a', ds [(9, Touch_heapSort N (some 6) (nI M) h)] (some 6) h = some ((), h') ∧ Fi (fun b _ => b = 15) h h' ∧ (∀ j, j < M → hI h' 15 j = nI (a' j)) ∧ Srt a a' M := by
  obtain ⟨h', a', e, f, v, c, d⟩ := heap_6 (N := N) hN hM m1 (M / 2) N a h (Nat.le_refl _) (by omega) L ha hv (fun i hi c hc cs => absurd cs (by omega))
  refine ⟨h', a', ?_, f, v, d, c⟩
  rw [ds9 L]
  unfold Touch_heapSort
  rw [nz2, nmE, show nI M / (2 : Int32) = nI (M / 2) from pk_div (d := 2) (by omega) (by decide) (by decide), Int32.sub_eq_add_neg]
  exact e
