/-! PURE: patterns, changes, rounds -/
theorem lg_lt (x y : Int64) : lg_cmp x y < 0 ↔ x < y := by
  unfold lg_cmp
  by_cases h1 : x > y
  · rw [if_pos h1]
    exact ⟨fun q => absurd q (by decide), fun q => absurd (Int64.lt_trans q h1) Int64.lt_irrefl⟩
  · rw [if_neg h1]
    by_cases h2 : x = y
    · rw [if_pos h2]
      exact ⟨fun q => absurd q (by decide), fun q => by subst h2; exact absurd q Int64.lt_irrefl⟩
    · rw [if_neg h2]
      exact ⟨fun _ => Int64.lt_of_le_of_ne (Int64.not_lt.mp h1) h2, fun _ => by decide⟩
theorem lg_eq (x y : Int64) : lg_cmp x y = 0 ↔ x = y := by
  unfold lg_cmp
  by_cases h1 : x > y
  · rw [if_pos h1]
    exact ⟨fun q => absurd q (by decide), fun q => by subst q; exact absurd h1 Int64.lt_irrefl⟩
  · rw [if_neg h1]
    by_cases h2 : x = y
    · rw [if_pos h2]; exact ⟨fun _ => h2, fun _ => rfl⟩
    · rw [if_neg h2]; exact ⟨fun q => absurd q (by decide), fun q => absurd q h2⟩
theorem rz_1 (h : Hp) : rz 1 h = some (1, h) := by simp [rz]
theorem rz_0 (h : Hp) : rz 0 h = some (0, h) := by simp [rz]
theorem shr63 {v k : Nat} (hv : v < 2 ^ 63) (hk : k < 64) : lN v >>> (Int32.toInt64 (nI k) &&& 63) = lN (v / 2 ^ k) := by
  rw [wb_c k hk]
  have hd : v / 2 ^ k ≤ v := Nat.div_le_self _ _
  apply Int64.toInt_inj.mp
  have e : (lN v >>> lN k).toInt = (lN v).toInt >>> k := by
    have h1 : ((lN k).toBitVec.smod 64).toNat = k := by rw [wb_tb, wb_sm k hk, BitVec.toNat_ofNat]; exact Nat.mod_eq_of_lt (by omega)
    conv => rhs; rw [← h1]
    exact BitVec.toInt_sshiftRight ..
  rw [e, Int.shiftRight_eq_div_pow, pf_lI hv, pf_lI (by omega)]
  rfl
theorem lN_eq0 {w : Nat} (hw : w < 2 ^ 63) : lN w = 0 ↔ w = 0 := by
  have := pk_lEQ hw (show 0 < 2 ^ 63 by decide)
  exact this
/-- the model's number of bells -/
def Mn (h : Hp) (n : Nat) : Prop := ok h [12] 35 = true ∧ hI h 35 2 = nI n ∧ 4 ≤ n ∧ n ≤ 12
def Pt (n v : Nat) : Prop := v < 16 ^ n ∧ ∀ i, i < n → dg v i ≤ n
theorem n12 {n : Nat} (h : n ≤ 12) : (16 : Nat) ^ n ≤ 16 ^ 12 := Nat.pow_le_pow_right (by decide) h
theorem pat_loop {N n v : Nat} {h : Hp} (hn : n ≤ 12) (hv : v < 2 ^ 63) : ∀ (r f i : Nat), i + r = n → r < f → ((∀ j, i ≤ j → j < n → dg v j ≤ n) ∧ Rows_isPattern_20 N f (lN v) (nI n) (nI i) h = some (1, h)) ∨ ((∃ j, j < n ∧ n < dg v j) ∧ Rows_isPattern_20 N f (lN v) (nI n) (nI i) h = some (0, h)) := by
  intro r
  induction r with
  | zero =>
    intro f i hi hf
    obtain ⟨f, rfl⟩ : ∃ k, f = k + 1 := ⟨f - 1, by omega⟩
    refine Or.inl ⟨fun j h1 h2 => by omega, ?_⟩
    rw [Rows_isPattern_20, if_pos ((nI_leI (by omega) (by omega)).mpr (by omega)), rz_1]
  | succ r ih =>
    intro f i hi hf
    obtain ⟨f, rfl⟩ : ∃ k, f = k + 1 := ⟨f - 1, by omega⟩
    have hd := dg_lt v i
    rw [Rows_isPattern_20, if_neg (fun q => by have := (nI_leI (by omega) (by omega)).mp q; omega), Rows_digit_s hv (by omega), cl_s]
    by_cases hb : dg v i ≤ n
    · rw [if_pos ((nI_leI (by omega) (by omega)).mpr hb)]
      simp only [nm]
      rw [nI_1]
      rcases ih f (i + 1) (by omega) (by omega) with ⟨a, b⟩ | ⟨a, b⟩
      · exact Or.inl ⟨fun j h1 h2 => by by_cases e : j = i; · rw [e]; exact hb
                                        · exact a j (by omega) h2, b⟩
      · exact Or.inr ⟨a, b⟩
    · rw [if_neg (fun q => hb ((nI_leI (by omega) (by omega)).mp q)), rz_0]
      exact Or.inr ⟨⟨i, by omega, by omega⟩, rfl⟩
theorem Rows_isPattern_s {N n : Nat} {x : Int64} {h : Hp} (hN : 12 < N) (hn : n ≤ 12) : ((∃ v, x = lN v ∧ Pt n v) ∧ Rows_isPattern N x (nI n) h = some (1, h)) ∨ ((∀ v, v < 2 ^ 63 → x = lN v → ¬ Pt n v) ∧ Rows_isPattern N x (nI n) h = some (0, h)) := by
  unfold Rows_isPattern
  by_cases h0 : x < 0
  · rw [if_pos ((lg_lt _ _).mpr h0), rz_0]
    refine Or.inr ⟨fun v hv hx => ?_, rfl⟩
    subst hx
    have : (lN v).toInt < 0 := by simpa using Int64.lt_iff_toInt_lt.mp h0
    rw [pf_lI hv] at this
    omega
  · rw [if_neg (fun q => h0 ((lg_lt _ _).mp q))]
    obtain ⟨v, hv, rfl⟩ := pk_lOf h0
    rw [nI_4, wb_shr (by omega) (by omega), ← p16]
    have hu : ∀ w, w < 2 ^ 63 → lN v = lN w → w = v := fun w hw e => ((pk_lEQ hv hw).mp e).symm
    by_cases h1 : v / 16 ^ n = 0
    · rw [if_pos ((lg_eq _ _).mpr (by rw [h1]; rfl))]
      have hlt : v < 16 ^ n := by
        rcases Nat.lt_or_ge v (16 ^ n) with q | q
        · exact q
        · have := (Nat.div_pos_iff (a := v) (b := 16 ^ n)).mpr ⟨p16_pos n, q⟩; omega
      rcases pat_loop (N := N) (h := h) hn hv n N 0 (by omega) (by omega) with ⟨a, b⟩ | ⟨⟨j, a1, a2⟩, b⟩
      · exact Or.inl ⟨⟨v, rfl, hlt, fun i hi => a i (by omega) hi⟩, b⟩
      · refine Or.inr ⟨fun w hw e p => ?_, b⟩
        rw [hu w hw e] at p
        have := p.2 j a1
        omega
    · rw [if_neg (fun q => h1 ((lN_eq0 (by have := Nat.div_le_self v (16 ^ n); omega)).mp ((lg_eq _ _).mp q))), rz_0]
      refine Or.inr ⟨fun w hw e p => h1 ?_, rfl⟩
      rw [hu w hw e] at p
      exact Nat.div_eq_of_lt p.1
theorem M_pat_loop {N n v : Nat} {h : Hp} (hM : Mn h n) (hv : v < 2 ^ 62) : ∀ (r f i : Nat), i + r = n → r < f → ((∀ j, i ≤ j → j < n → dg v j ≤ n) ∧ M_isPattern_23 N f (some 35) (lN v) (nI (i + 1)) h = some (1, h)) ∨ ((∃ j, j < n ∧ n < dg v j) ∧ M_isPattern_23 N f (some 35) (lN v) (nI (i + 1)) h = some (0, h)) := by
  obtain ⟨o, e2, n4, n12⟩ := hM
  intro r
  induction r with
  | zero =>
    intro f i hi hf
    obtain ⟨f, rfl⟩ : ∃ k, f = k + 1 := ⟨f - 1, by omega⟩
    refine Or.inl ⟨fun j h1 h2 => by omega, ?_⟩
    rw [M_isPattern_23, gi_s o, e2, if_pos ((nI_ltI (by omega) (by omega)).mpr (by omega)), rz_1]
  | succ r ih =>
    intro f i hi hf
    obtain ⟨f, rfl⟩ : ∃ k, f = k + 1 := ⟨f - 1, by omega⟩
    have hd := dg_lt v i
    rw [M_isPattern_23, gi_s o, e2, if_neg (fun q => by have := (nI_ltI (by omega) (by omega)).mp q; omega), M_bell_s hv (by omega) (by omega), cl_s, gi_s o, e2, show i + 1 - 1 = i by omega]
    by_cases hb : dg v i ≤ n
    · rw [if_pos ((nI_leI (by omega) (by omega)).mpr hb)]
      simp only [nm]
      rw [nI_1]
      rcases ih f (i + 1) (by omega) (by omega) with ⟨a, b⟩ | ⟨a, b⟩
      · exact Or.inl ⟨fun j h1 h2 => by by_cases e : j = i; · rw [e]; exact hb
                                        · exact a j (by omega) h2, b⟩
      · exact Or.inr ⟨a, b⟩
    · rw [if_neg (fun q => hb ((nI_leI (by omega) (by omega)).mp q)), rz_0]
      exact Or.inr ⟨⟨i, by omega, by omega⟩, rfl⟩
theorem M_isPattern_s {N n : Nat} {x : Int64} {h : Hp} (hN : 12 < N) (hM : Mn h n) : ((∃ v, x = lN v ∧ Pt n v) ∧ M_isPattern N (some 35) x h = some (1, h)) ∨ ((∀ v, v < 2 ^ 63 → x = lN v → ¬ Pt n v) ∧ M_isPattern N (some 35) x h = some (0, h)) := by
  have hM' := hM
  obtain ⟨o, e2, n4, hn⟩ := hM'
  unfold M_isPattern
  by_cases h0 : x < 0
  · rw [if_pos ((lg_lt _ _).mpr h0), rz_0]
    refine Or.inr ⟨fun v hv hx => ?_, rfl⟩
    subst hx
    have : (lN v).toInt < 0 := by simpa using Int64.lt_iff_toInt_lt.mp h0
    rw [pf_lI hv] at this
    omega
  · rw [if_neg (fun q => h0 ((lg_lt _ _).mp q))]
    obtain ⟨v, hv, rfl⟩ := pk_lOf h0
    rw [gi_s o, e2, nI_4, shr63 hv (by omega), ← p16]
    have hu : ∀ w, w < 2 ^ 63 → lN v = lN w → w = v := fun w hw e => ((pk_lEQ hv hw).mp e).symm
    by_cases h1 : v / 16 ^ n = 0
    · rw [if_pos ((lg_eq _ _).mpr (by rw [h1]; rfl))]
      have hlt : v < 16 ^ n := by
        rcases Nat.lt_or_ge v (16 ^ n) with q | q
        · exact q
        · have := (Nat.div_pos_iff (a := v) (b := 16 ^ n)).mpr ⟨p16_pos n, q⟩; omega
      have h62 : v < 2 ^ 62 := Nat.lt_of_lt_of_le hlt (Nat.le_trans (n12 hn) (by decide))
      rcases M_pat_loop (N := N) hM h62 n N 0 (by omega) (by omega) with ⟨a, b⟩ | ⟨⟨j, a1, a2⟩, b⟩
      · exact Or.inl ⟨⟨v, rfl, hlt, fun i hi => a i (by omega) hi⟩, b⟩
      · refine Or.inr ⟨fun w hw e p => ?_, b⟩
        rw [hu w hw e] at p
        have := p.2 j a1
        omega
    · rw [if_neg (fun q => h1 ((lN_eq0 (by have := Nat.div_le_self v (16 ^ n); omega)).mp ((lg_eq _ _).mp q))), rz_0]
      refine Or.inr ⟨fun w hw e p => h1 ?_, rfl⟩
      rw [hu w hw e] at p
      exact Nat.div_eq_of_lt p.1
