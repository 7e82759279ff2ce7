/-! PURE: fitting of patterns -/
/-- row v fits pattern w at the first n places -/
def Ft (n v w : Nat) : Prop := ∀ i, i < n → dg w i ≠ 0 → dg w i = dg v i
/-- the digits that a pattern tells -/
def tld (w : Nat) : Nat → Nat
  | 0 => 0
  | i + 1 => tld w i + (if dg w i = 0 then 0 else 15) * 16 ^ i
theorem tld_mk (w : Nat) : ∀ i, tld w i = mk (fun i => if dg w i = 0 then 0 else 15) i := by
  intro i
  induction i with
  | zero => rfl
  | succ i ih => rw [tld, mk, ih]
theorem tld_lt (w i : Nat) : tld w i < 16 ^ i := by
  rw [tld_mk]; exact mk_lt (n := i) (fun j _ => by split <;> omega) i (Nat.le_refl _)
theorem tld_dg {w i j : Nat} (hj : j < i) : dg (tld w i) j = if dg w j = 0 then 0 else 15 := by
  rw [tld_mk]; exact mk_dg (n := i) (f := fun i => if dg w i = 0 then 0 else 15) (fun j _ => by split <;> omega) i (Nat.le_refl _) j hj
theorem and_dg (a b i : Nat) : dg (a &&& b) i = dg a i &&& dg b i := by
  unfold dg
  rw [p16, Nat.and_div_two_pow, show (16 : Nat) = 2 ^ 4 by decide, Nat.and_mod_two_pow]
theorem told_loop {N w : Nat} {h : Hp} (hw : w < 2 ^ 63) : ∀ (r f i : Nat), i + r = 12 → r < f → Rows_toldDigits_5 N f (lN w) (lN (tld w i)) (nI i) h = some (lN (tld w 12), h) := by
  intro r
  induction r with
  | zero =>
    intro f i hi hf
    obtain ⟨f, rfl⟩ : ∃ k, f = k + 1 := ⟨f - 1, by omega⟩
    obtain rfl : i = 12 := by omega
    rw [Rows_toldDigits_5, if_pos (by decide)]
  | succ r ih =>
    intro f i hi hf
    obtain ⟨f, rfl⟩ : ∃ k, f = k + 1 := ⟨f - 1, by omega⟩
    have h12 : ¬ (12 : Int32) ≤ nI i := fun q => by have := (nI_leI (a := 12) (by omega) (by omega)).mp q; omega
    have hd := dg_lt w i
    have ht := tld_lt w i
    have hpi : (16 : Nat) ^ i ≤ 16 ^ 11 := Nat.pow_le_pow_right (by decide) (by omega)
    have e4 : nI i + 1 = nI (i + 1) := nI_1 i
    have ihh := ih f (i + 1) (by omega) (by omega)
    rw [Rows_toldDigits_5, if_neg h12, Rows_digit_s hw (by omega), cl_s]
    by_cases h0 : dg w i = 0
    · rw [tld, if_pos h0, Nat.zero_mul, Nat.add_zero] at ihh
      rw [if_pos (by rw [h0]; exact nI_0), Rows_toldDigits_32, nmE, e4]
      exact ihh
    · rw [tld, if_neg h0] at ihh
      have e15 : (15 : Int64) = lN 15 := rfl
      rw [if_neg (fun q => h0 ((nI_eq0 (by omega)).mp q)), nmE, Rows_toldDigits_32, nmE, e4, e15, nI_4, wb_shl _ (by omega), ← p16, wb_or (by omega) (by omega), or_add (dg_big ht (Nat.le_refl _)) (by decide)]
      exact ihh
theorem Rows_toldDigits_s {N w : Nat} {h : Hp} (hN : 20 < N) (hw : w < 2 ^ 63) : Rows_toldDigits N (lN w) h = some (lN (tld w 12), h) := by
  unfold Rows_toldDigits
  exact told_loop (N := N) (h := h) hw 12 N 0 (by omega) (by omega)
/-- what the class asks: the told digits of the row are the pattern -/
theorem fit_and {n v w : Nat} (hn : n ≤ 12) (hv : v < 16 ^ 12) (hw : w < 16 ^ n) : v &&& tld w 12 = w ↔ Ft n v w := by
  have hw12 : w < 16 ^ 12 := lN_lt12 hn hw
  have key : ∀ x, x < 16 → x &&& 15 = x := by decide
  constructor
  · intro e i hi h0
    have e1 : dg (v &&& tld w 12) i = dg w i := by rw [e]
    rw [and_dg, tld_dg (by omega), if_neg h0, key _ (dg_lt v i)] at e1
    exact e1.symm
  · intro hf
    refine dg_ext 12 _ _ (Nat.lt_of_le_of_lt Nat.and_le_left hv) hw12 fun i hi => ?_
    rw [and_dg, tld_dg hi]
    by_cases h0 : dg w i = 0
    · rw [if_pos h0, h0, Nat.and_zero]
    · rw [if_neg h0, key _ (dg_lt v i)]
      by_cases hin : i < n
      · exact (hf i hin h0).symm
      · exact absurd (dg_big hw (by omega)) h0
theorem M_fit_loop {N n v w : Nat} {h : Hp} (hM : Mn h n) (hv : v < 2 ^ 62) (hw : w < 2 ^ 62) : ∀ (r f i : Nat), i + r = n → r < f → (∀ j, j < i → dg w j ≠ 0 → dg w j = dg v j) → (Ft n v w ∧ M_isFitting_3 N f (some 35) (lN v) (lN w) (nI (i + 1)) h = some (1, h)) ∨ (¬ Ft n v w ∧ M_isFitting_3 N f (some 35) (lN v) (lN w) (nI (i + 1)) h = some (0, h)) := by
  obtain ⟨o, e2, n4, hn⟩ := hM
  intro r
  induction r with
  | zero =>
    intro f i hi hf hj
    obtain ⟨f, rfl⟩ : ∃ k, f = k + 1 := ⟨f - 1, by omega⟩
    obtain rfl : i = n := by omega
    rw [M_isFitting_3, gi_s o, e2, if_pos ((nI_ltI (by omega) (by omega)).mpr (by omega)), rz_1]
    exact Or.inl ⟨hj, rfl⟩
  | succ r ih =>
    intro f i hi hf hj
    obtain ⟨f, rfl⟩ : ∃ k, f = k + 1 := ⟨f - 1, by omega⟩
    have d1 := dg_lt w i
    have d2 := dg_lt v i
    have e4 : nI (i + 1) + 1 = nI (i + 2) := nI_1 (i + 1)
    rw [M_isFitting_3, gi_s o, e2, if_neg (fun q => by have := (nI_ltI (by omega) (by omega)).mp q; omega), M_bell_s hw (by omega) (by omega), cl_s, show i + 1 - 1 = i by omega]
    by_cases h0 : dg w i = 0
    · rw [if_pos (by rw [h0]; exact nI_0), M_isFitting_38, nmE, e4]
      exact ih f (i + 1) (by omega) (by omega) (fun j h1 h2 => by by_cases e : j = i; · rw [e] at h2; exact absurd h0 h2
                                                                  · exact hj j (by omega) h2)
    · rw [if_neg (fun q => h0 ((nI_eq0 (by omega)).mp q)), M_bell_s hw (by omega) (by omega), cl_s, M_bell_s hv (by omega) (by omega), cl_s, show i + 1 - 1 = i by omega]
      by_cases h1 : dg w i = dg v i
      · rw [if_pos (by rw [h1]), M_isFitting_38, nmE, e4]
        exact ih f (i + 1) (by omega) (by omega) (fun j h3 h2 => by by_cases e : j = i; · rw [e]; exact h1
                                                                    · exact hj j (by omega) h2)
      · rw [if_neg (fun q => h1 ((nI_eq (by omega) (by omega)).mp q)), rz_0]
        exact Or.inr ⟨fun hf => h1 (hf i (by omega) h0), rfl⟩
theorem M_isFitting_s {N n v w : Nat} {h : Hp} (hN : 20 < N) (hM : Mn h n) (hv : v < 2 ^ 62) (hw : w < 2 ^ 62) : (Ft n v w ∧ M_isFitting N (some 35) (lN v) (lN w) h = some (1, h)) ∨ (¬ Ft n v w ∧ M_isFitting N (some 35) (lN v) (lN w) h = some (0, h)) := by
  have hn := hM.2.2.2
  unfold M_isFitting
  exact M_fit_loop (N := N) hM hv hw n N 0 (by omega) (by omega) (fun j hj => by omega)
