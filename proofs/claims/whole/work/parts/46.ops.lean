/-! PURE: changes' codes, rounds, products, inverses -/
theorem nI_and (a b : Nat) : nI a &&& nI b = nI (a &&& b) := by
  apply Int32.toBitVec_inj.mp
  rw [Int32.toBitVec_and]
  show BitVec.ofNat 32 a &&& BitVec.ofNat 32 b = BitVec.ofNat 32 (a &&& b)
  apply BitVec.eq_of_getLsbD_eq
  intro i hi
  simp [BitVec.getLsbD_ofNat, hi]
/-- a change of n bells -/
def Ch (n c : Nat) : Prop := c < 2 ^ (n - 1) ∧ c &&& (c / 2) = 0
theorem ch_dbl (c : Nat) : c &&& (2 * c) = 0 ↔ c &&& (c / 2) = 0 := by
  have b1 : ∀ i, (c &&& (2 * c)).testBit (i + 1) = (c.testBit (i + 1) && c.testBit i) := by
    intro i
    rw [Nat.testBit_and, Nat.testBit_succ (x := 2 * c), Nat.mul_div_cancel_left _ (by decide)]
  have b2 : ∀ i, (c &&& (c / 2)).testBit i = (c.testBit i && c.testBit (i + 1)) := by
    intro i
    rw [Nat.testBit_and, Nat.testBit_succ]
  constructor
  · intro h
    apply Nat.eq_of_testBit_eq
    intro i
    rw [b2, Nat.zero_testBit, Bool.and_comm, ← b1, h, Nat.zero_testBit]
  · intro h
    apply Nat.eq_of_testBit_eq
    intro i
    rw [Nat.zero_testBit]
    cases i with
    | zero => simp [Nat.testBit_zero]
    | succ i => rw [b1, Bool.and_comm, ← b2, h, Nat.zero_testBit]
theorem i32_of {x : Int32} (h : ¬ x < 0) : ∃ c, c < 2 ^ 31 ∧ x = nI c := nI_of h
theorem i32_neg {x : Int32} (h : x < 0) {c : Nat} (hc : c < 2 ^ 31) : x ≠ nI c := fun e => by subst e; exact nI_pos hc h
theorem Rows_isChange_s {N n : Nat} {x : Int32} {h : Hp} (hn1 : 1 ≤ n) (hn : n ≤ 12) : ((∃ c, x = nI c ∧ Ch n c) ∧ Rows_isChange N x (nI n) h = some (1, h)) ∨ ((∀ c, c < 2 ^ 31 → x = nI c → ¬ Ch n c) ∧ Rows_isChange N x (nI n) h = some (0, h)) := by
  unfold Rows_isChange
  by_cases h0 : x < 0
  · rw [if_pos h0, rz_0]
    exact Or.inr ⟨fun c hc e => absurd e (i32_neg h0 hc), rfl⟩
  · obtain ⟨c, hc, rfl⟩ := i32_of h0
    have hu : ∀ w, w < 2 ^ 31 → nI c = nI w → w = c := fun w hw e => ((nI_eq hc hw).mp e).symm
    have hp : (2 : Nat) ^ (n - 1) ≤ 2 ^ 11 := Nat.pow_le_pow_right (by decide) (by omega)
    rw [if_neg h0, nI_m1 hn1, nI_shl1 (by omega)]
    by_cases h1 : 2 ^ (n - 1) ≤ c
    · rw [if_pos ((nI_leI (by omega) hc).mpr h1), rz_0]
      exact Or.inr ⟨fun w hw e q => by rw [hu w hw e] at q; have := q.1; omega, rfl⟩
    · rw [if_neg (fun q => h1 ((nI_leI (by omega) hc).mp q)), show nI c >>> ((1 : Int32) &&& 31) = nI (c / 2) from pk_shrN (by omega) _ 1 (by decide), nI_and]
      have hle : c &&& (c / 2) ≤ c := Nat.and_le_left
      by_cases h2 : c &&& (c / 2) = 0
      · rw [h2, if_pos nI_0, rz_1]
        exact Or.inl ⟨⟨c, rfl, by omega, h2⟩, rfl⟩
      · rw [if_neg (fun q => h2 ((nI_eq0 (by omega)).mp q)), rz_0]
        exact Or.inr ⟨fun w hw e q => by rw [hu w hw e] at q; exact h2 q.2, rfl⟩
theorem M_isChange_s {N n : Nat} {x : Int32} {h : Hp} (hM : Mn h n) : ((∃ c, x = nI c ∧ Ch n c) ∧ M_isChange N (some 35) x h = some (1, h)) ∨ ((∀ c, c < 2 ^ 31 → x = nI c → ¬ Ch n c) ∧ M_isChange N (some 35) x h = some (0, h)) := by
  obtain ⟨o, e2, n4, hn⟩ := hM
  unfold M_isChange
  by_cases h0 : x < 0
  · rw [if_pos h0, rz_0]
    exact Or.inr ⟨fun c hc e => absurd e (i32_neg h0 hc), rfl⟩
  · obtain ⟨c, hc, rfl⟩ := i32_of h0
    have hu : ∀ w, w < 2 ^ 31 → nI c = nI w → w = c := fun w hw e => ((nI_eq hc hw).mp e).symm
    have hp : (2 : Nat) ^ (n - 1) ≤ 2 ^ 11 := Nat.pow_le_pow_right (by decide) (by omega)
    rw [if_neg h0, gi_s o, e2, nI_m1 (by omega), pk_shrN hc _ (n - 1) (s_l _ (by omega))]
    have hdl : c / 2 ^ (n - 1) ≤ c := Nat.div_le_self _ _
    by_cases h1 : c < 2 ^ (n - 1)
    · rw [Nat.div_eq_of_lt h1, if_pos nI_0, show nI c <<< ((1 : Int32) &&& 31) = nI (c * 2 ^ 1) from pk_shlN _ 1 (by decide) (by omega), Nat.pow_one, Nat.mul_comm c 2, nI_and]
      have hle : c &&& (2 * c) ≤ c := Nat.and_le_left
      by_cases h2 : c &&& (2 * c) = 0
      · rw [h2, if_pos nI_0, rz_1]
        exact Or.inl ⟨⟨c, rfl, h1, (ch_dbl c).mp h2⟩, rfl⟩
      · rw [if_neg (fun q => h2 ((nI_eq0 (by omega)).mp q)), rz_0]
        exact Or.inr ⟨fun w hw e q => by rw [hu w hw e] at q; exact h2 ((ch_dbl c).mpr q.2), rfl⟩
    · have hpos : 0 < c / 2 ^ (n - 1) := Nat.div_pos (by omega) (Nat.two_pow_pos _)
      rw [if_neg (fun q => by have := (nI_eq0 (by omega)).mp q; omega), rz_0]
      exact Or.inr ⟨fun w hw e q => by rw [hu w hw e] at q; exact h1 q.1, rfl⟩
def rd (n : Nat) : Nat := 223928981472033 % 16 ^ n
theorem rd_dg : ∀ n, n ≤ 12 → ∀ i, i < n → dg (rd n) i = i + 1 := by decide +kernel
theorem rd_rw {n : Nat} (hn : n ≤ 12) : Rw n (rd n) := ⟨Nat.mod_lt _ (p16_pos n), fun i hi => by rw [rd_dg n hn i hi]; omega, fun i j hi hj e => by rw [rd_dg n hn i hi, rd_dg n hn j hj] at e; omega⟩
theorem rd_lt {n : Nat} (hn : n ≤ 12) : rd n < 16 ^ 12 := Nat.lt_of_lt_of_le (Nat.mod_lt _ (p16_pos n)) (n12 hn)
theorem Rows_rounds_s {N n : Nat} {h : Hp} (hn : n ≤ 12) : Rows_rounds N (nI n) h = some (lN (rd n), h) := by
  unfold Rows_rounds
  have o : (1 : Int64) = lN 1 := rfl
  have hp := p16_pos n
  rw [nI_4, o, wb_shl _ (by omega), Nat.one_mul, ← p16, show lN (16 ^ n) - lN 1 = lN (16 ^ n - 1) from lN_sub (by omega), p16, show (223928981472033 : Int64) = lN 223928981472033 from rfl, wb_mask (by decide) (by omega), rd, p16]
theorem rd_step : ∀ p, p < 12 → rd (p + 1) = (p + 1) * 16 ^ p + rd p := by decide +kernel
theorem rounds_loop {N : Nat} {h : Hp} : ∀ (p f r : Nat), p ≤ 12 → p < f → M_rounds_7 N f (lN r) (nI p) h = some (lN (r * 16 ^ p + rd p), h) := by
  intro p
  induction p with
  | zero =>
    intro f r hp hf
    obtain ⟨f, rfl⟩ : ∃ k, f = k + 1 := ⟨f - 1, by omega⟩
    rw [M_rounds_7, if_pos (by rw [nI_0]; decide)]
    simp [rd, Nat.mod_one]
  | succ p ih =>
    intro f r hp hf
    obtain ⟨f, rfl⟩ : ∃ k, f = k + 1 := ⟨f - 1, by omega⟩
    have hne : ¬ nI (p + 1) < 1 := fun q => by have := (nI_ltI (b := 1) (by omega) (by omega)).mp q; omega
    rw [M_rounds_7, if_neg hne]
    simp only [nm]
    rw [show nI (p + 1) + (-1) = nI p from pk_m1 p, nI_l (by omega), show (16 : Int64) * lN r = lN (16 * r) from lN_mul 16 r, lN_add, ih f _ (by omega) (by omega), rd_step p (by omega), Nat.pow_succ]
    congr 3
    generalize (16 : Nat) ^ p = P
    rw [Nat.add_mul, ← Nat.mul_assoc, Nat.mul_comm (r * P) 16, Nat.mul_assoc 16 r P]
    omega
theorem M_rounds_s {N n : Nat} {h : Hp} (hN : 12 < N) (hM : Mn h n) : M_rounds N (some 35) h = some (lN (rd n), h) := by
  obtain ⟨o, e2, n4, hn⟩ := hM
  unfold M_rounds
  rw [gi_s o, e2]
  have := rounds_loop (N := N) (h := h) n N 0 hn (by omega)
  rw [Nat.zero_mul, Nat.zero_add] at this
  exact this
/-- a number by its digits -/
def mk (f : Nat → Nat) : Nat → Nat
  | 0 => 0
  | i + 1 => mk f i + f i * 16 ^ i
theorem mk_lt {f : Nat → Nat} {n : Nat} (hf : ∀ i, i < n → f i < 16) : ∀ i, i ≤ n → mk f i < 16 ^ i := by
  intro i
  induction i with
  | zero => intro _; simp [mk]
  | succ i ih =>
    intro hi
    have h1 := ih (by omega)
    have h2 : f i * 16 ^ i ≤ 15 * 16 ^ i := Nat.mul_le_mul_right _ (by have := hf i (by omega); omega)
    rw [mk, Nat.pow_succ]
    omega
theorem mk_dg {f : Nat → Nat} {n : Nat} (hf : ∀ i, i < n → f i < 16) : ∀ i, i ≤ n → ∀ j, j < i → dg (mk f i) j = f j := by
  intro i
  induction i with
  | zero => intro _ j hj; omega
  | succ i ih =>
    intro hi j hj
    have h1 := mk_lt hf i (by omega)
    rw [mk]
    by_cases e : j = i
    · subst e
      rw [dg, Nat.add_mul_div_right _ _ (p16_pos j), Nat.div_eq_of_lt h1, Nat.zero_add, Nat.mod_eq_of_lt (hf j (by omega))]
    · rw [← ih (by omega) j (by omega)]
      obtain ⟨d, rfl⟩ : ∃ d, i = j + 1 + d := ⟨i - j - 1, by omega⟩
      have g : ∀ w : Nat, dg w j = w % 16 ^ (j + 1) / 16 ^ j := fun w => by rw [dg, Nat.pow_succ, Nat.mod_mul_right_div_self]
      rw [g, g, show f (j + 1 + d) * 16 ^ (j + 1 + d) = 16 ^ (j + 1) * (f (j + 1 + d) * 16 ^ d) by rw [Nat.pow_add, Nat.mul_left_comm], Nat.add_mul_mod_self_left]
theorem or_add {x y d : Nat} (hx : dg x d = 0) (hy : y < 16) : x ||| (y * 16 ^ d) = x + y * 16 ^ d := by
  have hx4 : x / 2 ^ (4 * d) % 16 = 0 := by rw [dg, p16] at hx; exact hx
  have e1 : (x ||| (y * 16 ^ d)) % 16 ^ d = x % 16 ^ d := by
    rw [p16, Nat.or_mod_two_pow, Nat.mul_mod_left, Nat.or_zero]
  have e2 : (x ||| (y * 16 ^ d)) / 16 ^ d = x / 16 ^ d + y := by
    rw [p16, Nat.or_div_two_pow, Nat.mul_div_cancel _ (Nat.two_pow_pos _)]
    obtain ⟨w, hw⟩ : ∃ w, x / 2 ^ (4 * d) = 2 ^ 4 * w := ⟨x / 2 ^ (4 * d) / 16, by omega⟩
    rw [hw, ← Nat.two_pow_add_eq_or_of_lt (i := 4) (b := y) (by omega)]
  have h1 := Nat.mod_add_div (x ||| (y * 16 ^ d)) (16 ^ d)
  have h2 := Nat.mod_add_div x (16 ^ d)
  rw [e1, e2, Nat.mul_add] at h1
  have h3 : 16 ^ d * y = y * 16 ^ d := Nat.mul_comm _ _
  omega
/-- the product of two rows -/
def tm (n a b : Nat) : Nat := mk (fun i => dg a (dg b i - 1)) n
theorem tm_lt (n a b : Nat) : tm n a b < 16 ^ n := mk_lt (n := n) (fun i _ => dg_lt _ _) n (Nat.le_refl _)
theorem tm_dg {n a b i : Nat} (hi : i < n) : dg (tm n a b) i = dg a (dg b i - 1) := mk_dg (n := n) (f := fun i => dg a (dg b i - 1)) (fun i _ => dg_lt _ _) n (Nat.le_refl _) i hi
theorem tm_rw {n a b : Nat} (ha : Rw n a) (hb : Rw n b) : Rw n (tm n a b) := by
  refine ⟨tm_lt n a b, fun i hi => ?_, fun i j hi hj e => ?_⟩
  · rw [tm_dg hi]
    have := hb.2.1 i hi
    exact ha.2.1 _ (by omega)
  · rw [tm_dg hi, tm_dg hj] at e
    have h1 := hb.2.1 i hi
    have h2 := hb.2.1 j hj
    have := ha.2.2 _ _ (by omega) (by omega) e
    exact hb.2.2 i j hi hj (by omega)
theorem times_loop {N n a b : Nat} {h : Hp} (hn : n ≤ 12) (ha : a < 16 ^ 12) (hb : Rw n b) : ∀ (r f i : Nat), i + r = n → r < f → Rows_times_6 N f (lN a) (lN b) (nI n) (lN (mk (fun i => dg a (dg b i - 1)) i)) (nI i) h = some (lN (tm n a b), h) := by
  have ha63 : a < 2 ^ 63 := Nat.lt_of_lt_of_le ha (by decide)
  have hb63 : b < 2 ^ 63 := Nat.lt_of_lt_of_le hb.1 (Nat.le_trans (n12 hn) (by decide))
  intro r
  induction r with
  | zero =>
    intro f i hi hf
    obtain ⟨f, rfl⟩ : ∃ k, f = k + 1 := ⟨f - 1, by omega⟩
    obtain rfl : i = n := by omega
    rw [Rows_times_6, if_pos ((nI_leI (by omega) (by omega)).mpr (Nat.le_refl _)), tm]
  | succ r ih =>
    intro f i hi hf
    obtain ⟨f, rfl⟩ : ∃ k, f = k + 1 := ⟨f - 1, by omega⟩
    have hd := hb.2.1 i (by omega)
    have hm := mk_lt (f := fun i => dg a (dg b i - 1)) (n := n) (fun i _ => dg_lt _ _) i (by omega)
    rw [Rows_times_6, if_neg (fun q => by have := (nI_leI (by omega) (by omega)).mp q; omega), Rows_digit_s hb63 (by omega), cl_s, nI_m1 hd.1, Rows_digit_s ha63 (by omega), cl_s]
    simp only [nm]
    have hx := dg_lt a (dg b i - 1)
    have hpi : (16 : Nat) ^ i ≤ 16 ^ 11 := Nat.pow_le_pow_right (by decide) (by omega)
    have hb2 : dg a (dg b i - 1) * 16 ^ i ≤ 15 * 16 ^ 11 := Nat.mul_le_mul (by omega) hpi
    rw [dg_l, nI_4, wb_shl _ (by omega), ← p16, wb_or (by omega) (by omega), or_add (dg_big hm (Nat.le_refl _)) hx, nI_1]
    exact ih f (i + 1) (by omega) (by omega)
theorem Rows_times_s {N n a b : Nat} {h : Hp} (hN : 12 < N) (hn : n ≤ 12) (ha : a < 16 ^ 12) (hb : Rw n b) : Rows_times N (lN a) (lN b) (nI n) h = some (lN (tm n a b), h) := by
  unfold Rows_times
  have := times_loop (N := N) (h := h) hn ha hb n N 0 (by omega) (by omega)
  rw [show mk (fun i => dg a (dg b i - 1)) 0 = 0 from rfl, nI_0] at this
  exact this
theorem M_times_loop {N n a b : Nat} {h : Hp} (hM : Mn h n) (ha : a < 16 ^ 12) (hb : Rw n b) : ∀ (r f i : Nat), i + r = n → r < f → M_times_6 N f (some 35) (lN a) (lN b) (lN (mk (fun i => dg a (dg b i - 1)) i)) (nI (i + 1)) h = some (lN (tm n a b), h) := by
  obtain ⟨o, e2, n4, hn⟩ := hM
  have ha62 : a < 2 ^ 62 := Nat.lt_of_lt_of_le ha (by decide)
  have hb62 : b < 2 ^ 62 := Nat.lt_of_lt_of_le hb.1 (Nat.le_trans (n12 hn) (by decide))
  intro r
  induction r with
  | zero =>
    intro f i hi hf
    obtain ⟨f, rfl⟩ : ∃ k, f = k + 1 := ⟨f - 1, by omega⟩
    obtain rfl : i = n := by omega
    rw [M_times_6, gi_s o, e2, if_pos ((nI_ltI (by omega) (by omega)).mpr (by omega)), tm]
  | succ r ih =>
    intro f i hi hf
    obtain ⟨f, rfl⟩ : ∃ k, f = k + 1 := ⟨f - 1, by omega⟩
    have hd := hb.2.1 i (by omega)
    rw [M_times_6, gi_s o, e2, if_neg (fun q => by have := (nI_ltI (by omega) (by omega)).mp q; omega), M_bell_s hb62 (by omega) (by omega), cl_s, show i + 1 - 1 = i by omega, M_bell_s ha62 (by omega) (by omega), cl_s]
    simp only [nm]
    rw [dg_l, nI_m1 (by omega), show i + 1 - 1 = i by omega, nI_4, wb_shl _ (by omega), ← p16, lN_add, nI_1]
    exact ih f (i + 1) (by omega) (by omega)
theorem M_times_s {N n a b : Nat} {h : Hp} (hN : 12 < N) (hM : Mn h n) (ha : a < 16 ^ 12) (hb : Rw n b) : M_times N (some 35) (lN a) (lN b) h = some (lN (tm n a b), h) := by
  unfold M_times
  have hn := hM.2.2.2
  have := M_times_loop (N := N) hM ha hb n N 0 (by omega) (by omega)
  rw [show mk (fun i => dg a (dg b i - 1)) 0 = 0 from rfl] at this
  exact this
/-- the inverse of a row, as far as it is made -/
def ivs (a : Nat) : Nat → Nat
  | 0 => 0
  | i + 1 => ivs a i + (i + 1) * 16 ^ (dg a i - 1)
theorem add_dg {x y d e : Nat} (hx : dg x d = 0) (hy : y < 16) : dg (x + y * 16 ^ d) e = if e = d then y else dg x e := by
  have hx4 : x / 16 ^ d % 16 = 0 := hx
  have hs := Nat.mod_add_div x (16 ^ d)
  have hm := Nat.mod_lt x (p16_pos d)
  have e2 : (x + y * 16 ^ d) / 16 ^ d = x / 16 ^ d + y := by rw [Nat.add_mul_div_right _ _ (p16_pos d)]
  rcases Nat.lt_trichotomy e d with h | h | h
  · rw [if_neg (by omega)]
    obtain ⟨k, rfl⟩ : ∃ k, d = e + 1 + k := ⟨d - e - 1, by omega⟩
    have g : ∀ w : Nat, dg w e = w % 16 ^ (e + 1) / 16 ^ e := fun w => by rw [dg, Nat.pow_succ, Nat.mod_mul_right_div_self]
    rw [g, g, show y * 16 ^ (e + 1 + k) = 16 ^ (e + 1) * (y * 16 ^ k) by rw [Nat.pow_add, Nat.mul_left_comm], Nat.add_mul_mod_self_left]
  · subst h
    rw [if_pos rfl, dg, e2]
    omega
  · rw [if_neg (by omega)]
    obtain ⟨k, rfl⟩ : ∃ k, e = d + 1 + k := ⟨e - d - 1, by omega⟩
    rw [dg, dg, show (16 : Nat) ^ (d + 1 + k) = 16 ^ d * (16 * 16 ^ k) by rw [Nat.pow_add, Nat.pow_succ, Nat.mul_assoc], ← Nat.div_div_eq_div_mul, ← Nat.div_div_eq_div_mul x, e2, ← Nat.div_div_eq_div_mul, ← Nat.div_div_eq_div_mul (x / 16 ^ d)]
    congr 2
    omega
theorem ivs_dg {n a : Nat} (hn : n ≤ 12) (ha : Rw n a) : ∀ i, i ≤ n → ∀ e, dg (ivs a i) e = if ∃ j, j < i ∧ dg a j - 1 = e then dg (ivs a i) e else 0 := by
  intro i
  induction i with
  | zero => intro _ e; simp [ivs, dg]
  | succ i ih =>
    intro hi e
    by_cases h : ∃ j, j < i + 1 ∧ dg a j - 1 = e
    · rw [if_pos h]
    · rw [if_neg h]
      have h0 : dg (ivs a i) (dg a i - 1) = 0 := by
        rw [ih (by omega), if_neg]
        rintro ⟨j, h1, h2⟩
        have := ha.2.1 i (by omega)
        have := ha.2.1 j (by omega)
        have := ha.2.2 j i (by omega) (by omega) (by omega)
        omega
      rw [ivs, add_dg h0 (by omega), if_neg (fun q => h ⟨i, by omega, q.symm⟩), ih (by omega), if_neg]
      rintro ⟨j, h1, h2⟩
      exact h ⟨j, by omega, h2⟩
theorem ivs_0 {n a i : Nat} (hn : n ≤ 12) (ha : Rw n a) (hi : i < n) : dg (ivs a i) (dg a i - 1) = 0 := by
  rw [ivs_dg hn ha i (by omega), if_neg]
  rintro ⟨j, h1, h2⟩
  have := ha.2.1 i (by omega)
  have := ha.2.1 j (by omega)
  have := ha.2.2 j i (by omega) (by omega) (by omega)
  omega
theorem ivs_lt {n a : Nat} (hn : n ≤ 12) (ha : Rw n a) : ∀ i, i ≤ n → ivs a i < 16 ^ 12 := by
  intro i hi
  have key : ∀ k, k ≤ n → ivs a k ≤ k * (12 * 16 ^ 11) := by
    intro k
    induction k with
    | zero => intro _; simp [ivs]
    | succ k ih =>
      intro hk
      have h1 := ha.2.1 k (by omega)
      have h2 : (16 : Nat) ^ (dg a k - 1) ≤ 16 ^ 11 := Nat.pow_le_pow_right (by decide) (by omega)
      have h3 : (k + 1) * 16 ^ (dg a k - 1) ≤ 12 * 16 ^ 11 := Nat.mul_le_mul (by omega) h2
      have h4 := ih (by omega)
      have h5 : (k + 1) * (12 * 16 ^ 11) = k * (12 * 16 ^ 11) + 12 * 16 ^ 11 := by rw [Nat.add_mul, Nat.one_mul]
      rw [ivs, h5]
      exact Nat.add_le_add h4 h3
  -- the digits say more: beyond the twelfth there is none
  refine Classical.byContradiction fun hge => ?_
  have hpos : 0 < ivs a i / 16 ^ 12 := Nat.div_pos (by omega) (by decide)
  have hk := key i hi
  have hsm : ivs a i / 16 ^ 12 < 16 := by
    have : i * (12 * 16 ^ 11) ≤ 12 * (12 * 16 ^ 11) := Nat.mul_le_mul_right _ (by omega)
    omega
  have : dg (ivs a i) 12 = 0 := by
    rw [ivs_dg hn ha i hi, if_neg]
    rintro ⟨j, h1, h2⟩
    have := ha.2.1 j (by omega)
    omega
  rw [dg, Nat.mod_eq_of_lt hsm] at this
  omega
theorem inv_loop {N n a : Nat} {h : Hp} (hn : n ≤ 12) (ha : Rw n a) : ∀ (r f i : Nat), i + r = n → r < f → Rows_inverseOf_5 N f (lN a) (nI n) (lN (ivs a i)) (nI i) h = some (lN (ivs a n), h) := by
  have ha63 : a < 2 ^ 63 := Nat.lt_of_lt_of_le ha.1 (Nat.le_trans (n12 hn) (by decide))
  intro r
  induction r with
  | zero =>
    intro f i hi hf
    obtain ⟨f, rfl⟩ : ∃ k, f = k + 1 := ⟨f - 1, by omega⟩
    obtain rfl : i = n := by omega
    rw [Rows_inverseOf_5, if_pos ((nI_leI (by omega) (by omega)).mpr (Nat.le_refl _))]
  | succ r ih =>
    intro f i hi hf
    obtain ⟨f, rfl⟩ : ∃ k, f = k + 1 := ⟨f - 1, by omega⟩
    have hd := ha.2.1 i (by omega)
    have hl := ivs_lt hn ha i (by omega)
    rw [Rows_inverseOf_5, if_neg (fun q => by have := (nI_leI (by omega) (by omega)).mp q; omega), Rows_digit_s ha63 (by omega), cl_s]
    simp only [nm]
    have hp : (16 : Nat) ^ (dg a i - 1) ≤ 16 ^ 11 := Nat.pow_le_pow_right (by decide) (by omega)
    have hp2 : (i + 1) * 16 ^ (dg a i - 1) ≤ 12 * 16 ^ 11 := Nat.mul_le_mul (by omega) hp
    rw [nI_m1 hd.1, nI_4, nI_l (by omega), lN_1, wb_shl _ (by omega), ← p16, wb_or (by omega) (by omega), or_add (ivs_0 hn ha (by omega)) (by omega), nI_1]
    exact ih f (i + 1) (by omega) (by omega)
theorem Rows_inverseOf_s {N n a : Nat} {h : Hp} (hN : 12 < N) (hn : n ≤ 12) (ha : Rw n a) : Rows_inverseOf N (lN a) (nI n) h = some (lN (ivs a n), h) := by
  unfold Rows_inverseOf
  have := inv_loop (N := N) (h := h) hn ha n N 0 (by omega) (by omega)
  exact this
theorem M_inv_loop {N n a : Nat} {h : Hp} (hM : Mn h n) (ha : Rw n a) : ∀ (r f i : Nat), i + r = n → r < f → M_inverse_28 N f (some 35) (lN a) (lN (ivs a i)) (nI (i + 1)) h = some (lN (ivs a n), h) := by
  obtain ⟨o, e2, n4, hn⟩ := hM
  have ha62 : a < 2 ^ 62 := Nat.lt_of_lt_of_le ha.1 (Nat.le_trans (n12 hn) (by decide))
  intro r
  induction r with
  | zero =>
    intro f i hi hf
    obtain ⟨f, rfl⟩ : ∃ k, f = k + 1 := ⟨f - 1, by omega⟩
    obtain rfl : i = n := by omega
    rw [M_inverse_28, gi_s o, e2, if_pos ((nI_ltI (by omega) (by omega)).mpr (by omega))]
  | succ r ih =>
    intro f i hi hf
    obtain ⟨f, rfl⟩ : ∃ k, f = k + 1 := ⟨f - 1, by omega⟩
    have hd := ha.2.1 i (by omega)
    rw [M_inverse_28, gi_s o, e2, if_neg (fun q => by have := (nI_ltI (by omega) (by omega)).mp q; omega), M_bell_s ha62 (by omega) (by omega), cl_s, show i + 1 - 1 = i by omega]
    simp only [nm]
    rw [nI_m1 hd.1, nI_4, nI_l (by omega), wb_shl _ (by omega), ← p16, lN_add, nI_1]
    exact ih f (i + 1) (by omega) (by omega)
