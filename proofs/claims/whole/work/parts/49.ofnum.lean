/-! PURE: the row of a number, on both sides -/
def fc : Nat → Nat
  | 0 => 1
  | k + 1 => (k + 1) * fc k
theorem fc_pos : ∀ k, 0 < fc k := by
  intro k
  induction k with
  | zero => decide
  | succ k ih => exact Nat.mul_pos (by omega) ih
theorem fc_le : ∀ k, k ≤ 12 → fc k ≤ 479001600 := by decide
/-- how many places are skipped at place i -/
def dk (n m i : Nat) : Nat := m / fc (n - 1 - i) % (n - i)
def cu (U : Nat) : Nat → Nat → Nat
  | 0, _ => 0
  | f + 1, b => (if U.testBit b = true then 0 else 1) + cu U f (b + 1)
def pick (U : Nat) : Nat → Nat → Nat → Nat
  | 0, b, _ => b
  | f + 1, b, k => if U.testBit b = true then pick U f (b + 1) k else if k = 0 then b else pick U f (b + 1) (k - 1)
theorem pick_ok (U : Nat) : ∀ f b k, k < cu U f b → b ≤ pick U f b k ∧ pick U f b k < b + f ∧ U.testBit (pick U f b k) = false := by
  intro f
  induction f with
  | zero => intro b k h; simp [cu] at h
  | succ f ih =>
    intro b k h
    unfold cu at h
    unfold pick
    by_cases hb : U.testBit b = true
    · rw [if_pos hb] at h ⊢
      obtain ⟨h1, h2, h3⟩ := ih (b + 1) k (by omega)
      exact ⟨by omega, by omega, h3⟩
    · rw [if_neg hb] at h ⊢
      by_cases hk : k = 0
      · rw [if_pos hk]; exact ⟨Nat.le_refl _, by omega, by simpa using hb⟩
      · rw [if_neg hk]
        obtain ⟨h1, h2, h3⟩ := ih (b + 1) (k - 1) (by omega)
        exact ⟨by omega, by omega, h3⟩
theorem cu_add {U x : Nat} (hx : U.testBit x = false) : ∀ f b, b ≤ x → x < b + f → cu U f b = cu (U ||| 2 ^ x) f b + 1 := by
  have key : ∀ f b, x < b → cu U f b = cu (U ||| 2 ^ x) f b := by
    intro f
    induction f with
    | zero => intro b _; rfl
    | succ f ih =>
      intro b hb
      unfold cu
      rw [ih (b + 1) (by omega), Nat.testBit_or, Nat.testBit_two_pow, decide_eq_false (show ¬ x = b by omega), Bool.or_false]
  intro f
  induction f with
  | zero => intro b h1 h2; omega
  | succ f ih =>
    intro b h1 h2
    unfold cu
    rw [Nat.testBit_or, Nat.testBit_two_pow]
    by_cases e : x = b
    · subst e
      rw [hx, key f (x + 1) (by omega), decide_eq_true rfl]
      simp
      omega
    · rw [ih (b + 1) (by omega) (by omega), decide_eq_false e, Bool.or_false]
      omega
/-- the bells used and the row so far, behind i places -/
def rof (n m : Nat) : Nat → Nat × Nat
  | 0 => (0, 0)
  | i + 1 => ((rof n m i).1 ||| 2 ^ pick (rof n m i).1 n 1 (dk n m i), (rof n m i).2 + pick (rof n m i).1 n 1 (dk n m i) * 16 ^ i)
theorem cu_0 : ∀ f b, cu 0 f b = f := by
  intro f
  induction f with
  | zero => intro b; rfl
  | succ f ih => intro b; unfold cu; rw [ih, Nat.zero_testBit]; simp; omega
theorem rof_ok {n m : Nat} (hn : n ≤ 12) : ∀ i, i ≤ n → cu (rof n m i).1 n 1 = n - i ∧ (rof n m i).1 < 2 ^ 13 ∧ (rof n m i).2 < 16 ^ i := by
  intro i
  induction i with
  | zero => intro _; exact ⟨cu_0 n 1, Nat.two_pow_pos 13, Nat.one_pos⟩
  | succ i ih =>
    intro hi
    obtain ⟨h1, h2, h3⟩ := ih (by omega)
    have hd : dk n m i < n - i := Nat.mod_lt _ (by omega)
    obtain ⟨p1, p2, p3⟩ := pick_ok (rof n m i).1 n 1 (dk n m i) (by omega)
    refine ⟨?_, ?_, ?_⟩
    · have := cu_add p3 n 1 p1 p2
      show cu ((rof n m i).1 ||| 2 ^ pick (rof n m i).1 n 1 (dk n m i)) n 1 = _
      omega
    · exact Nat.or_lt_two_pow h2 (Nat.pow_lt_pow_right (by decide) (by omega))
    · show (rof n m i).2 + pick (rof n m i).1 n 1 (dk n m i) * 16 ^ i < 16 ^ (i + 1)
      have : pick (rof n m i).1 n 1 (dk n m i) * 16 ^ i ≤ 15 * 16 ^ i := Nat.mul_le_mul_right _ (by omega)
      rw [Nat.pow_succ]
      omega
theorem rof_pick {n m i : Nat} (hn : n ≤ 12) (hi : i < n) : dk n m i < cu (rof n m i).1 n 1 ∧ 1 ≤ pick (rof n m i).1 n 1 (dk n m i) ∧ pick (rof n m i).1 n 1 (dk n m i) ≤ n := by
  have h1 := (rof_ok (m := m) hn i (by omega)).1
  have hd : dk n m i < n - i := Nat.mod_lt _ (by omega)
  obtain ⟨p1, p2, p3⟩ := pick_ok (rof n m i).1 n 1 (dk n m i) (by omega)
  exact ⟨by omega, p1, by omega⟩
theorem bit_s {U b : Nat} (hU : U < 2 ^ 31) (hb : b < 31) : (nI U >>> (nI b &&& 31)) &&& 1 = if U.testBit b = true then 1 else 0 := by
  rw [pk_shrN hU _ b (s_l b (by omega)), nI_and1, Nat.testBit_eq_decide_div_mod_eq]
  by_cases h : U / 2 ^ b % 2 = 1
  · rw [decide_eq_true h, if_pos rfl, h]; exact (rfl : nI 1 = 1)
  · rw [decide_eq_false h, if_neg Bool.false_ne_true, show U / 2 ^ b % 2 = 0 by omega]; exact nI_0
theorem nmE {α β : Type} (x : α) (f : α → Option β) : nm x f = f x := rfl
theorem bl_12 {b : Nat} (h : b ≤ 12) : ¬ (12 : Int32) < nI b := by
  have e : (12 : Int32) = nI 12 := rfl
  rw [e]
  exact nI_nlt h (by decide)
theorem bl_used {N lf b : Nat} {k : Int32} {g : Nat} {h : Hp} (hb : b ≤ 12) (hl : lf < 2 ^ 31) (hu : lf.testBit b = false) : Rows_bellLeft_4 N (g + 1) (nI lf) k (nI b) h = Rows_bellLeft_4 N g (nI lf) k (nI (b + 1)) h := by
  rw [Rows_bellLeft_4, if_neg (bl_12 hb), bit_s hl (by omega), hu, if_neg Bool.false_ne_true, if_pos rfl, Rows_bellLeft_27]
  simp only [nm]
  rw [nI_1]
theorem bl_stop {N lf b : Nat} {g : Nat} {h : Hp} (hb : b ≤ 12) (hl : lf < 2 ^ 31) (hu : lf.testBit b = true) : Rows_bellLeft_4 N (g + 1) (nI lf) 0 (nI b) h = some (nI b, h) := by
  rw [Rows_bellLeft_4, if_neg (bl_12 hb), bit_s hl (by omega), hu, if_pos rfl, if_neg (by decide), if_pos rfl]
theorem one_ne : ¬ (1 : Int32) = 0 := by decide
theorem bl_m1 (k : Nat) : nI (k + 1) + (-1) = nI k := pk_m1 k
theorem bl_ne {k : Nat} (hk : k < 100) : ¬ nI (k + 1) = 0 := nI_ne0 (by omega) (by omega)
theorem bl_skip {N lf b k : Nat} {g : Nat} {h : Hp} (hb : b ≤ 12) (hl : lf < 2 ^ 31) (hu : lf.testBit b = true) (hk : k < 100) : Rows_bellLeft_4 N (g + 1) (nI lf) (nI (k + 1)) (nI b) h = Rows_bellLeft_4 N g (nI lf) (nI k) (nI (b + 1)) h := by
  have e1 := bit_s (U := lf) (b := b) hl (by omega)
  rw [hu, if_pos rfl] at e1
  have e2 := bl_m1 k
  have e3 := bl_ne hk
  have e4 : nI b + 1 = nI (b + 1) := nI_1 b
  generalize nI (k + 1) = kk at e2 e3 ⊢
  generalize nI k = k0 at e2 ⊢
  rw [Rows_bellLeft_4, if_neg (bl_12 hb), e1, if_neg one_ne, if_neg e3]
  rw [nmE, e2, Rows_bellLeft_27, nmE, e4]
theorem bellLeft_loop {N n U lf : Nat} {h : Hp} (hn : n ≤ 12) (hl : lf < 2 ^ 31) (hb : ∀ x, 1 ≤ x → x ≤ n → lf.testBit x = !U.testBit x) : ∀ (f g b k : Nat), 1 ≤ b → b + f = n + 1 → f < g → k < cu U f b → k < 100 → Rows_bellLeft_4 N g (nI lf) (nI k) (nI b) h = some (nI (pick U f b k), h) := by
  intro f
  induction f with
  | zero => intro g b k _ _ _ hk; exact absurd hk (Nat.not_lt_zero _)
  | succ f ih =>
    intro g b k h1 hf hg hk hk2
    obtain ⟨g, rfl⟩ : ∃ j, g = j + 1 := ⟨g - 1, by omega⟩
    have hbb := hb b h1 (by omega)
    rw [cu] at hk
    rw [pick]
    by_cases hu : U.testBit b = true
    · rw [if_pos hu] at hk
      rw [if_pos hu, bl_used (by omega) hl (by rw [hbb, hu]; rfl)]
      exact ih g (b + 1) k (by omega) (by omega) (by omega) (by omega) hk2
    · have hu' : U.testBit b = false := by simpa using hu
      rw [if_neg hu] at hk
      rw [if_neg hu]
      cases k with
      | zero => rw [if_pos rfl, nI_0, bl_stop (by omega) hl (by rw [hbb, hu']; rfl)]
      | succ k =>
        rw [if_neg (by omega), bl_skip (by omega) hl (by rw [hbb, hu']; rfl) (by omega)]
        exact ih g (b + 1) k (by omega) (by omega) (by omega) (by omega) (by omega)
/-- the places skipped, written as digits -/
def blw (m : Nat) : Nat → Nat
  | 0 => 0
  | c + 1 => blw m c * 16 + m / fc c % (c + 1)
theorem blw_lt (m : Nat) : ∀ c, c ≤ 12 → blw m c < 16 ^ c := by
  intro c
  induction c with
  | zero => intro _; exact Nat.one_pos
  | succ c ih =>
    intro hc
    have h1 := ih (by omega)
    have h2 : m / fc c % (c + 1) < c + 1 := Nat.mod_lt _ (by omega)
    rw [blw, Nat.pow_succ]
    omega
theorem blw_dg (m : Nat) : ∀ c, c ≤ 12 → ∀ i, i < c → dg (blw m c) i = m / fc (c - 1 - i) % (c - i) := by
  intro c
  induction c with
  | zero => intro _ i hi; omega
  | succ c ih =>
    intro hc i hi
    have h2 : m / fc c % (c + 1) < c + 1 := Nat.mod_lt _ (by omega)
    cases i with
    | zero =>
      rw [dg, Nat.pow_zero, Nat.div_one, blw, Nat.add_sub_cancel, Nat.sub_zero, Nat.sub_zero]
      omega
    | succ i =>
      rw [dg, Nat.pow_succ, Nat.mul_comm, ← Nat.div_div_eq_div_mul, show blw m (c + 1) / 16 = blw m c by rw [blw]; omega]
      have := ih (by omega) i (by omega)
      rw [dg] at this
      rw [this, show c + 1 - 1 - (i + 1) = c - 1 - i by omega, show c + 1 - (i + 1) = c - i by omega]
theorem taken_loop {N n m : Nat} {h : Hp} (hN : 20 < N) (hn : n ≤ 12) (hm : m < 2 ^ 31) : ∀ (r f i : Nat), i + r = n → r < f → Rows_taken_14 N f (lN (blw m n)) (nI n) (lN (rof n m i).2) (nI ((2 ^ (n + 1) - 2) ^^^ (rof n m i).1)) (nI i) h = some (lN (rof n m n).2, h) := by
  have hb := blw_lt m n hn
  have h63 : blw m n < 2 ^ 63 := Nat.lt_of_lt_of_le hb (Nat.le_trans (n12 hn) (by decide))
  intro r
  induction r with
  | zero =>
    intro f i hi hf
    obtain ⟨f, rfl⟩ : ∃ k, f = k + 1 := ⟨f - 1, by omega⟩
    obtain rfl : i = n := by omega
    rw [Rows_taken_14, if_pos ((nI_leI (by omega) (by omega)).mpr (Nat.le_refl _))]
  | succ r ih =>
    intro f i hi hf
    obtain ⟨f, rfl⟩ : ∃ k, f = k + 1 := ⟨f - 1, by omega⟩
    obtain ⟨o1, o2, o3⟩ := rof_ok (m := m) hn i (by omega)
    obtain ⟨q1, q2, q3⟩ := rof_pick (m := m) hn (show i < n by omega)
    have hd : dg (blw m n) i = dk n m i := blw_dg m n hn i (by omega)
    have hp1 : (2 : Nat) ^ (n + 1) ≤ 2 ^ 13 := Nat.pow_le_pow_right (by decide) (by omega)
    have hpp := Nat.two_pow_pos (n + 1)
    have hlf : (2 ^ (n + 1) - 2) ^^^ (rof n m i).1 < 2 ^ 13 := Nat.xor_lt_two_pow (by omega) o2
    have hk16 : dk n m i < 16 := by rw [← hd]; exact dg_lt _ _
    rw [Rows_taken_14, if_neg (fun q => by have := (nI_leI (by omega) (by omega)).mp q; omega), Rows_digit_s h63 (by omega), cl_s, hd, Rows_bellLeft]
    have hbl := bellLeft_loop (N := N) (n := n) (U := (rof n m i).1) (lf := (2 ^ (n + 1) - 2) ^^^ (rof n m i).1) (h := h) hn (by omega) (fun x h1 h2 => by rw [Nat.testBit_xor, full_bit, decide_eq_true h1, decide_eq_true h2]; simp) n N 1 (dk n m i) (Nat.le_refl _) (by omega) (by omega) q1 (by omega)
    rw [show nI 1 = 1 from rfl] at hbl
    rw [hbl, cl_s]
    simp only [nm]
    have hpi : (16 : Nat) ^ i ≤ 16 ^ 11 := Nat.pow_le_pow_right (by decide) (by omega)
    have hb2 : pick (rof n m i).1 n 1 (dk n m i) * 16 ^ i ≤ 15 * 16 ^ 11 := Nat.mul_le_mul (by omega) hpi
    rw [nI_l (by omega), nI_4, wb_shl _ (by omega), ← p16, wb_or (by omega) (by omega), or_add (dg_big o3 (Nat.le_refl _)) (by omega), nI_shl1 (by omega), nI_andnot (c := (2 ^ (n + 1) - 2) ^^^ (rof n m (i + 1)).1), nI_1]
    · exact ih f (i + 1) (by omega) (by omega)
    · intro x hx
      show ((2 ^ (n + 1) - 2) ^^^ ((rof n m i).1 ||| 2 ^ pick (rof n m i).1 n 1 (dk n m i))).testBit x = _
      have hun := (pick_ok (rof n m i).1 n 1 (dk n m i) q1).2.2
      rw [Nat.testBit_xor, Nat.testBit_xor, Nat.testBit_or, Nat.testBit_two_pow, full_bit]
      by_cases e : pick (rof n m i).1 n 1 (dk n m i) = x
      · rw [← e, hun, decide_eq_true rfl, decide_eq_true q2, decide_eq_true q3]; rfl
      · rw [decide_eq_false e]; simp
theorem rowOf_loop {N n m : Nat} {h : Hp} (hN : 20 < N) (hn : n ≤ 12) (hm : m < 2 ^ 31) : ∀ (r f c : Nat), c + r = n → r < f → Rows_rowOf_14 N f (nI n) (lN (blw m c)) (nI (m / fc c)) (nI (c + 1)) h = if m / fc n = 0 then some (lN (rof n m n).2, h) else some (0, h) := by
  intro r
  induction r with
  | zero =>
    intro f c hc hf
    obtain ⟨f, rfl⟩ : ∃ k, f = k + 1 := ⟨f - 1, by omega⟩
    obtain rfl : c = n := by omega
    have hle : m / fc c ≤ m := Nat.div_le_self _ _
    rw [Rows_rowOf_14, if_pos ((nI_ltI (by omega) (by omega)).mpr (by omega))]
    by_cases h0 : m / fc c = 0
    · have hp2 : 2 ≤ (2 : Nat) ^ (c + 1) := by rw [Nat.pow_succ]; have := Nat.two_pow_pos c; omega
      rw [if_pos h0, if_pos (by rw [h0]; exact nI_0), Rows_taken]
      simp only [nm]
      rw [show nI c + 1 = nI (c + 1) from nI_1 c, nI_shl1 (by omega), show nI (2 ^ (c + 1)) - 2 = nI (2 ^ (c + 1) - 2) from pk_sub (b := 2) hp2]
      have := taken_loop (N := N) (h := h) hN hn hm c N 0 (by omega) (by omega)
      rw [show (rof c m 0).1 = 0 from rfl, show (rof c m 0).2 = 0 from rfl, Nat.xor_zero, nI_0] at this
      rw [show (0 : Int64) = lN 0 from rfl, this, cl_s]
    · rw [if_neg h0, if_neg (fun q => h0 ((nI_eq0 (by omega)).mp q))]
  | succ r ih =>
    intro f c hc hf
    obtain ⟨f, rfl⟩ : ∃ k, f = k + 1 := ⟨f - 1, by omega⟩
    have hle : m / fc c ≤ m := Nat.div_le_self _ _
    have hne : ¬ nI (c + 1) = 0 := fun q => by have := (nI_eq0 (by omega)).mp q; omega
    have hb := blw_lt m c (by omega)
    have hpc : (16 : Nat) ^ c ≤ 16 ^ 11 := Nat.pow_le_pow_right (by decide) (by omega)
    have hmd : m / fc c % (c + 1) < c + 1 := Nat.mod_lt _ (by omega)
    rw [Rows_rowOf_14, if_neg (fun q => by have := (nI_ltI (by omega) (by omega)).mp q; omega), nz, if_neg hne]
    simp only [nm]
    rw [nz, if_neg hne, pk_rem (by omega) (by omega) (by omega), pk_div (by omega) (by omega) (by omega), nI_l (by omega), show (4 : Int32) = nI 4 from rfl, wb_shl _ (by decide), wb_or (by omega) (by omega), nI_1]
    have ho := or_add (x := blw m c * 2 ^ 4) (y := m / fc c % (c + 1)) (d := 0) (by rw [dg]; omega) (by omega)
    rw [Nat.pow_zero, Nat.mul_one] at ho
    rw [ho, show m / fc c / (c + 1) = m / fc (c + 1) by rw [Nat.div_div_eq_div_mul, fc, Nat.mul_comm]]
    exact ih f (c + 1) (by omega) (by omega)
theorem Rows_rowOf_s {N n m : Nat} {h : Hp} (hN : 20 < N) (hn : n ≤ 12) (hm : m < 2 ^ 31) : Rows_rowOf N (nI m) (nI n) h = if m / fc n = 0 then some (lN (rof n m n).2, h) else some (0, h) := by
  unfold Rows_rowOf
  rw [if_pos (nI_pos' hm)]
  have := rowOf_loop (N := N) (h := h) hN hn hm n N 0 (by omega) (by omega)
  rw [show fc 0 = 1 from rfl, Nat.div_one] at this
  exact this
