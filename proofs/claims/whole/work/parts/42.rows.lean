/-! PURE: rows as numbers of base 16 -/
def dg (v i : Nat) : Nat := v / 16 ^ i % 16
theorem dg_lt (v i : Nat) : dg v i < 16 := Nat.mod_lt _ (by decide)
theorem p16 (i : Nat) : (16 : Nat) ^ i = 2 ^ (4 * i) := by rw [show (16 : Nat) = 2 ^ 4 by decide, ← Nat.pow_mul]
theorem p16_pos (i : Nat) : 0 < (16 : Nat) ^ i := Nat.pow_pos (by decide)
theorem dg_ext : ∀ (k a b : Nat), a < 16 ^ k → b < 16 ^ k → (∀ i, i < k → dg a i = dg b i) → a = b := by
  intro k
  induction k with
  | zero => intro a b ha hb _; simp at ha hb; omega
  | succ k ih =>
    intro a b ha hb h
    have h0 : a % 16 = b % 16 := by have := h 0 (by omega); simpa [dg] using this
    have h1 : a / 16 = b / 16 := by
      refine ih _ _ ?_ ?_ fun i hi => ?_
      · rw [Nat.pow_succ] at ha; omega
      · rw [Nat.pow_succ] at hb; omega
      · have := h (i + 1) (by omega)
        unfold dg at this ⊢
        rw [Nat.pow_succ, Nat.mul_comm, ← Nat.div_div_eq_div_mul, ← Nat.div_div_eq_div_mul] at this
        exact this
    omega
theorem dg_big {k v i : Nat} (hv : v < 16 ^ k) (hi : k ≤ i) : dg v i = 0 := by
  have : 16 ^ k ≤ 16 ^ i := Nat.pow_le_pow_right (by decide) hi
  rw [dg, Nat.div_eq_of_lt (by omega)]
/-- the digits at p and p + 1 are exchanged -/
def sw4 (v p : Nat) : Nat := v % 16 ^ p + 16 ^ p * (dg v (p + 1) + 16 * dg v p + 256 * (v / 16 ^ (p + 2)))
theorem v_split (v p : Nat) : v = v % 16 ^ p + 16 ^ p * (dg v p + 16 * dg v (p + 1) + 256 * (v / 16 ^ (p + 2))) := by
  have h1 := Nat.mod_add_div v (16 ^ p)
  have h2 : v / 16 ^ p = dg v p + 16 * dg v (p + 1) + 256 * (v / 16 ^ (p + 2)) := by
    unfold dg
    rw [show (16 : Nat) ^ (p + 1) = 16 ^ p * 16 by rw [Nat.pow_succ], show (16 : Nat) ^ (p + 2) = 16 ^ p * 256 by rw [Nat.pow_add], ← Nat.div_div_eq_div_mul, ← Nat.div_div_eq_div_mul]
    omega
  rw [← h2]; exact h1.symm
theorem sw4_xor (v p : Nat) : v ^^^ (16 ^ p * (dg v p ^^^ dg v (p + 1)) + 16 ^ p * (16 * (dg v p ^^^ dg v (p + 1)))) = sw4 v p := by
  have key : ∀ a, a < 16 → ∀ b, b < 16 → (a + 16 * b) ^^^ ((a ^^^ b) + 16 * (a ^^^ b)) = b + 16 * a := by decide +kernel
  have hx : dg v p ^^^ dg v (p + 1) < 16 := Nat.xor_lt_two_pow (n := 4) (dg_lt v p) (dg_lt v (p + 1))
  generalize hy : dg v p ^^^ dg v (p + 1) = y at hx
  rw [← Nat.mul_add]
  have e1 : (v ^^^ 16 ^ p * (y + 16 * y)) % 16 ^ p = v % 16 ^ p := by
    rw [p16, Nat.xor_mod_two_pow, Nat.mul_mod_right, Nat.xor_zero]
  have e2 : (v ^^^ 16 ^ p * (y + 16 * y)) / 16 ^ p = dg v (p + 1) + 16 * dg v p + 256 * (v / 16 ^ (p + 2)) := by
    rw [p16, Nat.xor_div_two_pow, Nat.mul_div_cancel_left _ (Nat.two_pow_pos _), ← p16]
    have h2 : v / 16 ^ p = dg v p + 16 * dg v (p + 1) + 256 * (v / 16 ^ (p + 2)) := by
      have h3 := v_split v p
      have h4 : v / 16 ^ p = (v % 16 ^ p + 16 ^ p * (dg v p + 16 * dg v (p + 1) + 256 * (v / 16 ^ (p + 2)))) / 16 ^ p := by rw [← h3]
      rw [h4, Nat.add_mul_div_left _ _ (p16_pos p), Nat.div_eq_of_lt (Nat.mod_lt _ (p16_pos p)), Nat.zero_add]
    rw [h2]
    generalize v / 16 ^ (p + 2) = w
    have ha := dg_lt v p
    have hb := dg_lt v (p + 1)
    have k1 := key _ ha _ hb
    rw [hy] at k1
    have m1 : ((dg v p + 16 * dg v (p + 1) + 256 * w) ^^^ (y + 16 * y)) % 256 = dg v (p + 1) + 16 * dg v p := by
      rw [show (256 : Nat) = 2 ^ 8 by decide, Nat.xor_mod_two_pow, show (2 : Nat) ^ 8 = 256 by decide, Nat.add_mul_mod_self_left, Nat.mod_eq_of_lt (by omega), Nat.mod_eq_of_lt (by omega), k1]
    have m2 : ((dg v p + 16 * dg v (p + 1) + 256 * w) ^^^ (y + 16 * y)) / 256 = w := by
      rw [show (256 : Nat) = 2 ^ 8 by decide, Nat.xor_div_two_pow, show (2 : Nat) ^ 8 = 256 by decide, Nat.add_mul_div_left _ _ (by decide), Nat.div_eq_of_lt (show dg v p + 16 * dg v (p + 1) < 256 by omega), Nat.div_eq_of_lt (show y + 16 * y < 256 by omega), Nat.zero_add, Nat.xor_zero]
    omega
  rw [sw4, ← e1, ← e2]
  exact (Nat.mod_add_div _ _).symm
theorem sw4_dg (v p i : Nat) : dg (sw4 v p) i = if i = p then dg v (p + 1) else if i = p + 1 then dg v p else dg v i := by
  have hm := Nat.mod_lt v (p16_pos p)
  rcases Nat.lt_trichotomy i p with h | h | h
  · rw [if_neg (by omega), if_neg (by omega)]
    obtain ⟨d, rfl⟩ : ∃ d, p = i + (d + 1) := ⟨p - i - 1, by omega⟩
    have e : sw4 v (i + (d + 1)) % 16 ^ (i + 1) = v % 16 ^ (i + 1) := by
      rw [sw4, show (16 : Nat) ^ (i + (d + 1)) = 16 ^ (i + 1) * 16 ^ d by rw [← Nat.pow_add]; congr 1; omega, Nat.mul_assoc, Nat.add_mul_mod_self_left, Nat.mod_mul_right_mod]
    have f : ∀ w : Nat, dg w i = w % 16 ^ (i + 1) / 16 ^ i := fun w => by rw [dg, Nat.pow_succ, Nat.mod_mul_right_div_self]
    rw [f, f, e]
  · subst h
    rw [if_pos rfl, dg, sw4, Nat.add_mul_div_left _ _ (p16_pos i), Nat.div_eq_of_lt hm, Nat.zero_add]
    have := dg_lt v (i + 1)
    omega
  · rw [if_neg (by omega)]
    have q : sw4 v p / 16 ^ p = dg v (p + 1) + 16 * dg v p + 256 * (v / 16 ^ (p + 2)) := by
      rw [sw4, Nat.add_mul_div_left _ _ (p16_pos p), Nat.div_eq_of_lt hm, Nat.zero_add]
    have b1 := dg_lt v (p + 1)
    have b2 := dg_lt v p
    by_cases h2 : i = p + 1
    · subst h2
      rw [if_pos rfl, dg, Nat.pow_succ, ← Nat.div_div_eq_div_mul, q]
      omega
    · rw [if_neg h2]
      obtain ⟨d, rfl⟩ : ∃ d, i = p + 2 + d := ⟨i - p - 2, by omega⟩
      rw [dg, dg, show (16 : Nat) ^ (p + 2 + d) = 16 ^ p * 256 * 16 ^ d by rw [Nat.pow_add, Nat.pow_add], ← Nat.div_div_eq_div_mul, ← Nat.div_div_eq_div_mul, q, ← Nat.div_div_eq_div_mul v, ← Nat.div_div_eq_div_mul v, show v / 16 ^ p / 256 = v / 16 ^ (p + 2) by rw [Nat.div_div_eq_div_mul, Nat.pow_add]]
      congr 2
      omega
theorem sw4_lt {v p k : Nat} (hv : v < 16 ^ k) (hp : p + 1 < k) : sw4 v p < 16 ^ k := by
  have hm := Nat.mod_lt v (p16_pos p)
  obtain ⟨d, rfl⟩ : ∃ d, k = p + 2 + d := ⟨k - p - 2, by omega⟩
  have hw : v / 16 ^ (p + 2) < 16 ^ d := by
    rw [Nat.div_lt_iff_lt_mul (p16_pos _), Nat.mul_comm, ← Nat.pow_add]; exact hv
  have b1 := dg_lt v (p + 1)
  have b2 := dg_lt v p
  have h1 : dg v (p + 1) + 16 * dg v p + 256 * (v / 16 ^ (p + 2)) < 256 * 16 ^ d := by omega
  have h2 : 16 ^ p * (dg v (p + 1) + 16 * dg v p + 256 * (v / 16 ^ (p + 2)) + 1) ≤ 16 ^ p * (256 * 16 ^ d) := Nat.mul_le_mul_left _ h1
  rw [Nat.mul_add, Nat.mul_one] at h2
  have h3 : (16 : Nat) ^ (p + 2 + d) = 16 ^ p * (256 * 16 ^ d) := by rw [Nat.pow_add, Nat.pow_add, Nat.mul_assoc]
  rw [h3, sw4]
  omega
