/-! PURE: rows that are found by their code -/
def slt (x : Int64) : Nat := (x * (-7046029254386353131 : Int64)).toBitVec.toNat / 2 ^ 55
theorem slt_lt (x : Int64) : slt x < 512 := by
  unfold slt
  have := (x * (-7046029254386353131 : Int64)).toBitVec.isLt
  omega
theorem slotOf_s (N : Nat) (x : Int64) (h : Hp) : Rows_slotOf N x h = some (nI (slt x), h) := by
  unfold Rows_slotOf slt
  generalize x * (-7046029254386353131 : Int64) = y
  obtain ⟨m, hm, rfl⟩ := wb_of y
  rw [show Int64.toUInt64 (Int32.toInt64 (55 : Int32)) = (nI 55).toInt64.toUInt64 from rfl, wb_shr hm (by decide), lN_i, wb_tn hm]
/-- the newest index, and 1 more, below m of the rows in slot s; 0: none -/
def lst (w : Nat → Int64) (s : Nat) : Nat → Nat
  | 0 => 0
  | m + 1 => if slt (w m) = s then m + 1 else lst w s m
theorem lst_succ (w : Nat → Int64) (s m : Nat) : lst w s (m + 1) = if slt (w m) = s then m + 1 else lst w s m := rfl
theorem lst_le (w : Nat → Int64) (s m : Nat) : lst w s m ≤ m := by
  induction m with
  | zero => exact Nat.le_refl 0
  | succ m ih => unfold lst; split <;> omega
theorem lst_none {w : Nat → Int64} {s m : Nat} (h : lst w s m = 0) : ∀ j, j < m → slt (w j) ≠ s := by
  induction m with
  | zero => intro j hj; omega
  | succ m ih =>
    unfold lst at h
    split at h
    · omega
    · rename_i hne
      intro j hj
      by_cases e : j = m
      · subst e; exact hne
      · exact ih h j (by omega)
theorem lst_some {w : Nat → Int64} {s m k : Nat} (h : lst w s m = k + 1) : k < m ∧ slt (w k) = s ∧ ∀ j, k < j → j < m → slt (w j) ≠ s := by
  induction m with
  | zero => cases h
  | succ m ih =>
    unfold lst at h
    split at h
    · rename_i e
      have : k = m := by omega
      subst this
      exact ⟨by omega, e, fun j h1 h2 => by omega⟩
    · rename_i hne
      obtain ⟨a, b, c⟩ := ih h
      refine ⟨by omega, b, fun j h1 h2 => ?_⟩
      by_cases e : j = m
      · subst e; exact hne
      · exact c j h1 (by omega)
theorem lst_congr {w w' : Nat → Int64} {s m : Nat} (h : ∀ j, j < m → w j = w' j) : lst w s m = lst w' s m := by
  induction m with
  | zero => rfl
  | succ m ih =>
    unfold lst
    rw [h m (by omega), ih (fun j hj => h j (by omega))]
/-- where the parts of a Rows object lie -/
def RO (h : Hp) (r hd co lk cap : Nat) : Prop := ok h [4] r = true ∧ (hR h r 0 = some co ∧ hR h r 1 = some lk ∧ hR h r 2 = some hd) ∧ (hK h co = (14, cap) ∧ hK h lk = (13, cap) ∧ hK h hd = (13, 512)) ∧ (co < hz h ∧ lk < hz h ∧ hd < hz h) ∧ (r ≠ lk ∧ r ≠ hd ∧ lk ≠ hd) ∧ cap < 2 ^ 30
/-- its rows, and the chains of its slots -/
def Hs (h : Hp) (r hd co lk cap sz : Nat) (w : Nat → Int64) : Prop := hI h r 3 = nI sz ∧ sz ≤ cap ∧ (∀ j, j < sz → hL h co j = w j) ∧ (∀ s, s < 512 → hI h hd s = nI (lst w s sz)) ∧ ∀ j, j < sz → hI h lk j = nI (lst w (slt (w j)) j)
theorem Hs_congr {h : Hp} {r hd co lk cap sz : Nat} {w w' : Nat → Int64} (H : Hs h r hd co lk cap sz w) (e : ∀ j, j < sz → w j = w' j) : Hs h r hd co lk cap sz w' := by
  obtain ⟨a, b, c, d, f⟩ := H
  refine ⟨a, b, fun j hj => by rw [c j hj, e j hj], fun s hs => by rw [d s hs, lst_congr e], fun j hj => by rw [f j hj, e j hj, lst_congr (fun i hi => e i (by omega))]⟩
def PR (r hd lk : Nat) (a k : Nat) : Prop := a = r ∧ k = 3 ∨ a = hd ∨ a = lk
def QR (co : Nat) (a k : Nat) : Prop := a = co
theorem RO_f {h h' : Hp} {r hd co lk cap : Nat} {P Q : Nat → Nat → Prop} (H : RO h r hd co lk cap) (f : Fx P Q h h') : RO h' r hd co lk cap := by
  unfold RO at H ⊢
  rw [Fx_ok f, Fx_R f, Fx_K f, Fx_z f]
  exact H
theorem Hs_f {h h' : Hp} {r hd co lk cap sz : Nat} {w : Nat → Int64} {P Q : Nat → Nat → Prop} (H : Hs h r hd co lk cap sz w) (f : Fx P Q h h') (p0 : ¬ P r 3) (p1 : ∀ k, ¬ P hd k) (p2 : ∀ k, ¬ P lk k) (q : ∀ k, ¬ Q co k) : Hs h' r hd co lk cap sz w := by
  obtain ⟨a, b, c, d, e⟩ := H
  exact ⟨by rw [Fx_I f p0]; exact a, b, fun j hj => by rw [Fx_L f (q j)]; exact c j hj, fun s hs => by rw [Fx_I f (p1 s)]; exact d s hs, fun j hj => by rw [Fx_I f (p2 j)]; exact e j hj⟩
theorem add_s {N : Nat} {h : Hp} {r hd co lk cap sz : Nat} {w : Nat → Int64} (x : Int64) (o : RO h r hd co lk cap) (H : Hs h r hd co lk cap sz w) (hc : sz < cap) : ∃ h', Rows_add N (some r) x h = some ((), h') ∧ Fx (PR r hd lk) (fun a k => a = co ∧ k = sz) h h' ∧ Hs h' r hd co lk cap (sz + 1) (va_up w sz x) ∧ hL h' co = va_up (hL h co) sz x := by
  obtain ⟨o1, ⟨o2, o3, o4⟩, ⟨o5, o6, o7⟩, ⟨o8, o9, o10⟩, ⟨o11, o12, o13⟩, o14⟩ := o
  obtain ⟨a, b, c, d, e⟩ := H
  have kco := ok_K o8 o5
  have klk := ok_K o9 o6
  have khd := ok_K o10 o7
  have cp31 : cap < 2 ^ 31 := by omega
  have sl := slt_lt x
  have alE : ∀ (f : Int32 → Option (Unit × Hp)), al (some co) h f = f (nI cap) := by
    intro f
    have : ok h [13, 14, 15, 16, 17, 18] co = true := by simp [ok, o8, o5]
    simp only [al, this, if_true, o5]
    rfl
  unfold Rows_add
  simp only [gi_s, gr_s, o1, o2, a, alE]
  rw [if_pos ((nI_ltI (by omega) cp31).mpr hc), slotOf_s, cl_s]
  simp only [gi_s, gr_s, pi_s, o1, o2, o3, o4, a, sl_s, si_s, li_s, kco, klk, khd, o5, o6, o7, hc, cp31, sl, ok_sI, ok_sL, hK_sI, hK_sL, hR_sI, hR_sL, hI_sL, Nat.reducePow, Nat.reduceLT]
  rw [d _ sl]
  have n1 : r ≠ lk := o11
  rw [sI_ne (a := lk) (by omega), hI_sL, a, nI_1, sI_at]
  refine ⟨_, rfl, ?_, ?_, ?_⟩
  · exact Fx_t (Fx_sL h x ⟨rfl, rfl⟩) (Fx_t (Fx_sI _ _ (by simp [PR])) (Fx_t (Fx_sI _ _ (by simp [PR])) (Fx_sI _ _ (by simp [PR]))))
  · have ew : ∀ j, j < sz → w j = va_up w sz x j := fun j hj => by rw [up_at, if_neg (by omega)]
    refine ⟨?_, by omega, ?_, ?_, ?_⟩
    · rw [sI_ne (by omega), sI_at]
    · intro j hj
      simp only [hL_sI]
      rw [up_at]
      by_cases q : j = sz
      · subst q; rw [sL_at, if_pos rfl]
      · rw [sL_ne (fun _ => q), if_neg q]; exact c j (by omega)
    · intro s hs
      rw [lst_succ, up_at, if_pos rfl, ← lst_congr ew]
      by_cases q : slt x = s
      · subst q; rw [sI_at, if_pos rfl]
      · rw [sI_ne (fun _ => fun z => q z.symm), if_neg q, sI_ne (by omega), sI_ne (by omega)]
        exact d s hs
    · intro j hj
      rw [up_at, sI_ne (by omega), sI_ne (by omega)]
      by_cases q : j = sz
      · subst q
        rw [sI_at, if_pos rfl, ← lst_congr ew]
      · rw [sI_ne (fun _ => q), if_neg q, hI_sL, ← lst_congr (fun i hi => ew i (by omega))]
        exact e j (by omega)
  · simp only [hL_sI]
    rw [hL_sL, if_pos rfl]
theorem keep_s {N : Nat} {r hd co lk cap : Nat} {w : Nat → Int64} (kept : Nat) (hk : kept < 2 ^ 31) : ∀ (sz f : Nat) (h : Hp), RO h r hd co lk cap → Hs h r hd co lk cap sz w → sz < f → ∃ h', Rows_keepFirst_0 N f (some r) (nI kept) h = some ((), h') ∧ Fi (PR r hd lk) h h' ∧ Hs h' r hd co lk cap (min sz kept) w := by
  intro sz
  induction sz with
  | zero =>
    intro f h o H hf
    obtain ⟨f, rfl⟩ : ∃ k, f = k + 1 := ⟨f - 1, by omega⟩
    refine ⟨h, ?_, Fx_r _ _ _, by rw [Nat.zero_min]; exact H⟩
    rw [Rows_keepFirst_0, gi_s o.1, H.1, if_pos ((nI_leI (by omega) hk).mpr (by omega))]
  | succ sz ih =>
    intro f h o H hf
    obtain ⟨f, rfl⟩ : ∃ k, f = k + 1 := ⟨f - 1, by omega⟩
    have o' := o
    obtain ⟨o1, ⟨o2, o3, o4⟩, ⟨o5, o6, o7⟩, ⟨o8, o9, o10⟩, ⟨o11, o12, o13⟩, o14⟩ := o'
    have H' := H
    obtain ⟨a, b, c, d, e⟩ := H'
    rw [Rows_keepFirst_0, gi_s o.1, a]
    by_cases q : sz + 1 ≤ kept
    · rw [if_pos ((nI_leI (by omega) hk).mpr q)]
      exact ⟨h, rfl, Fx_r _ _ _, by rw [Nat.min_eq_left q]; exact H⟩
    · rw [if_neg (fun z => q ((nI_leI (by omega) hk).mp z)), gi_s o.1, a, if_neg (nI_nle (by omega) (by omega)), gi_s o.1, a, sN_1 (by omega), show sz + 1 - 1 = sz by omega]
      have kco := ok_K o8 o5
      have klk := ok_K o9 o6
      have khd := ok_K o10 o7
      have cp31 : cap < 2 ^ 31 := by omega
      have b' : sz < cap := by omega
      simp only [gi_s, gr_s, pi_s, o1, o2, o3, o4, sI_at, ll_s, kco, o5, ok_sI, hK_sI, hR_sI, hL_sI, b', cp31]
      rw [c sz (by omega), slotOf_s, cl_s]
      have sl := slt_lt (w sz)
      simp only [gi_s, gr_s, o1, o3, sI_at, li_s, si_s, klk, khd, o6, o7, ok_sI, hK_sI, hR_sI, b', cp31, sl, Nat.reducePow, Nat.reduceLT]
      rw [sI_ne (by omega), e sz (by omega)]
      have F : Fi (PR r hd lk) h (sI (sI h r 3 (nI sz)) hd (slt (w sz)) (nI (lst w (slt (w sz)) sz))) := Fx_t (Fx_sI _ _ (by simp [PR])) (Fx_sI _ _ (by simp [PR]))
      obtain ⟨h', g1, g2, g3⟩ := ih f _ (RO_f o F) (by
        refine ⟨?_, by omega, ?_, ?_, ?_⟩
        · rw [sI_ne (by omega), sI_at]
        · intro j hj; simp only [hL_sI]; exact c j (by omega)
        · intro s hs
          by_cases q : s = slt (w sz)
          · subst q; rw [sI_at]
          · rw [sI_ne (fun _ => q), sI_ne (by omega), d s hs]
            rw [lst_succ, if_neg (fun z => q z.symm)]
        · intro j hj
          rw [sI_ne (by omega), sI_ne (by omega)]
          exact e j (by omega)) (by omega)
      rw [show min sz kept = min (sz + 1) kept by omega] at g3
      exact ⟨h', g1, Fx_t F g2, g3⟩
theorem keepFirst_s {N : Nat} {h : Hp} {r hd co lk cap sz : Nat} {w : Nat → Int64} (kept : Nat) (hk : kept < 2 ^ 31) (o : RO h r hd co lk cap) (H : Hs h r hd co lk cap sz w) (hN : sz < N) : ∃ h', Rows_keepFirst N (some r) (nI kept) h = some ((), h') ∧ Fi (PR r hd lk) h h' ∧ Hs h' r hd co lk cap (min sz kept) w := by
  unfold Rows_keepFirst
  exact keep_s kept hk sz N h o H hN
/-- the newest index with this code -/
theorem index_loop {N : Nat} {h : Hp} {r hd co lk cap sz : Nat} {w : Nat → Int64} (x : Int64) (o : RO h r hd co lk cap) (H : Hs h r hd co lk cap sz w) : ∀ (m f seen : Nat), m ≤ sz → seen + m ≤ sz → (∀ j, m ≤ j → j < sz → w j ≠ x) → m < f → ((∀ j, j < sz → w j ≠ x) ∧ Rows_indexOf_13 N f (some r) x (nI (lst w (slt x) m)) (nI seen) h = some (-1, h)) ∨ (∃ k, k < sz ∧ w k = x ∧ Rows_indexOf_13 N f (some r) x (nI (lst w (slt x) m)) (nI seen) h = some (nI k, h)) := by
  intro m
  induction m using Nat.strongRecOn with
  | ind m ih =>
    intro f seen hm hs hno hf
    obtain ⟨f, rfl⟩ : ∃ k, f = k + 1 := ⟨f - 1, by omega⟩
    obtain ⟨o1, ⟨o2, o3, o4⟩, ⟨o5, o6, o7⟩, ⟨o8, o9, o10⟩, ⟨o11, o12, o13⟩, o14⟩ := o
    obtain ⟨a, b, c, d, e⟩ := H
    rw [Rows_indexOf_13, gi_s o1, a]
    cases hl : lst w (slt x) m with
    | zero =>
      have non := lst_none hl
      refine Or.inl ⟨fun j hj => ?_, ?_⟩
      · by_cases q : j < m
        · intro z; exact non j q (by rw [z])
        · exact hno j (by omega) hj
      · by_cases q : sz ≤ seen
        · rw [if_pos ((nI_leI (by omega) (by omega)).mpr q)]
        · rw [if_neg (fun z => q ((nI_leI (by omega) (by omega)).mp z)), if_pos (by rw [nI_0]; decide)]
    | succ k =>
      obtain ⟨k1, k2, k3⟩ := lst_some hl
      have kco := ok_K o8 o5
      have klk := ok_K o9 o6
      have cp31 : cap < 2 ^ 31 := by omega
      have kc : k < cap := by omega
      rw [if_neg (fun z => by have := (nI_leI (by omega) (by omega)).mp z; omega), if_neg (nI_nle (by omega) (by omega)), sN_1 (by omega), show k + 1 - 1 = k by omega]
      simp only [gr_s, o1, o2, o3, ll_s, li_s, kco, klk, o5, o6, kc, cp31]
      rw [c k (by omega)]
      by_cases q : w k = x
      · rw [if_pos ((lg_eq _ _).mpr q)]
        exact Or.inr ⟨k, by omega, q, rfl⟩
      · rw [if_neg (fun z => q ((lg_eq _ _).mp z)), e k (by omega), nmE, nI_1, k2]
        exact ih k k1 f (seen + 1) (by omega) (by omega) (fun j h1 h2 => by
          by_cases e1 : j = k
          · subst e1; exact q
          · by_cases e2 : j < m
            · intro z; exact k3 j (by omega) e2 (by rw [z])
            · exact hno j (by omega) h2) (by omega)
theorem indexOf_s {N : Nat} {h : Hp} {r hd co lk cap sz : Nat} {w : Nat → Int64} (x : Int64) (o : RO h r hd co lk cap) (H : Hs h r hd co lk cap sz w) (hN : sz < N) : ((∀ j, j < sz → w j ≠ x) ∧ Rows_indexOf N (some r) x h = some (-1, h)) ∨ (∃ k, k < sz ∧ w k = x ∧ Rows_indexOf N (some r) x h = some (nI k, h)) := by
  have o' := o
  obtain ⟨o1, ⟨o2, o3, o4⟩, ⟨o5, o6, o7⟩, ⟨o8, o9, o10⟩, -, -⟩ := o'
  have khd := ok_K o10 o7
  have sl := slt_lt x
  unfold Rows_indexOf
  simp only [gr_s, o1, o4, slotOf_s, cl_s, li_s, khd, o7, sl, Nat.reducePow, Nat.reduceLT, H.2.2.2.1 _ sl]
  exact index_loop x o H sz N 0 (Nat.le_refl _) (by omega) (fun j h1 h2 => by omega) hN
theorem codeAt_s {N i : Nat} {h : Hp} {r hd co lk cap sz : Nat} {w : Nat → Int64} (o : RO h r hd co lk cap) (H : Hs h r hd co lk cap sz w) (hi : i < sz) : Rows_codeAt N (some r) (nI i) h = some (w i, h) := by
  obtain ⟨o1, ⟨o2, o3, o4⟩, ⟨o5, o6, o7⟩, ⟨o8, o9, o10⟩, -, o14⟩ := o
  have kco := ok_K o8 o5
  have h1 := H.2.1
  have cp31 : cap < 2 ^ 31 := by omega
  have ic : i < cap := by omega
  unfold Rows_codeAt
  rw [if_neg (nI_pos (by omega)), gi_s o1, H.1, if_pos ((nI_ltI (by omega) (by omega)).mpr hi)]
  simp only [gr_s, o1, o2, ll_s, kco, o5, ic, cp31]
  rw [H.2.2.1 i hi]
theorem codeAt_0 {N : Nat} {x : Int32} {h : Hp} {r hd co lk cap sz : Nat} {w : Nat → Int64} (o : RO h r hd co lk cap) (H : Hs h r hd co lk cap sz w) (hi : ∀ i, i < sz → x ≠ nI i) : Rows_codeAt N (some r) x h = some (0, h) := by
  have h1 := H.2.1
  have h2 := o.2.2.2.2.2
  unfold Rows_codeAt Rows_codeAt_12
  by_cases q : x < 0
  · rw [if_pos q]
  · obtain ⟨j, hj, rfl⟩ := nI_of q
    rw [if_neg q, gi_s o.1, H.1, if_neg (fun z => hi j ((nI_ltI hj (by omega)).mp z) rfl)]
