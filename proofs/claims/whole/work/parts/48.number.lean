/-! PURE: the number of a row, on both sides -/
def pc (m : Nat) : Nat := ((List.range 13).filter (fun x => m.testBit x)).length
def bcE (l0 : Int32) : Int32 :=
  let x1 := l0 - ((UInt32.toInt32 (Int32.toUInt32 l0 >>> (Int32.toUInt32 (1 : Int32) &&& Int32.toUInt32 31))) &&& (1431655765 : Int32))
  let x2 := (x1 &&& (858993459 : Int32)) + ((UInt32.toInt32 (Int32.toUInt32 x1 >>> (Int32.toUInt32 (2 : Int32) &&& Int32.toUInt32 31))) &&& (858993459 : Int32))
  let x3 := (x2 + (UInt32.toInt32 (Int32.toUInt32 x2 >>> (Int32.toUInt32 (4 : Int32) &&& Int32.toUInt32 31)))) &&& (252645135 : Int32)
  let x4 := x3 + (UInt32.toInt32 (Int32.toUInt32 x3 >>> (Int32.toUInt32 (8 : Int32) &&& Int32.toUInt32 31)))
  let x5 := x4 + (UInt32.toInt32 (Int32.toUInt32 x4 >>> (Int32.toUInt32 (16 : Int32) &&& Int32.toUInt32 31)))
  x5 &&& (63 : Int32)
theorem bc_e (N : Nat) (x : Int32) (h : Hp) : Jk_bitCount N x h = some (bcE x, h) := rfl
theorem bc_two : ∀ a, a < 64 → ∀ b, b < 128 → bcE (nI (128 * a + b)) = nI (pc (128 * a + b)) := by decide +kernel
theorem bc_all (m : Nat) (h : m < 8192) : bcE (nI m) = nI (pc m) := by
  have := bc_two (m / 128) (by omega) (m % 128) (by omega)
  rw [Nat.div_add_mod] at this
  exact this
theorem bitCount_s {N m : Nat} {h : Hp} (hm : m < 2 ^ 13) : Jk_bitCount N (nI m) h = some (nI (pc m), h) := by rw [bc_e, bc_all m hm]
theorem nI_andnot {a b c : Nat} (h : ∀ x, x < 32 → c.testBit x = (a.testBit x && !b.testBit x)) : nI a &&& (nI b ^^^ (-1 : Int32)) = nI c := by
  apply Int32.toBitVec_inj.mp
  rw [Int32.toBitVec_and, Int32.toBitVec_xor]
  apply BitVec.eq_of_getLsbD_eq
  intro i hi
  show (BitVec.ofNat 32 a &&& (BitVec.ofNat 32 b ^^^ BitVec.allOnes 32)).getLsbD i = (BitVec.ofNat 32 c).getLsbD i
  rw [BitVec.getLsbD_and, BitVec.getLsbD_xor, BitVec.getLsbD_ofNat, BitVec.getLsbD_ofNat, BitVec.getLsbD_ofNat, BitVec.getLsbD_allOnes, h i hi]
  simp [hi]
/-- how many behind i are less -/
def lsl (n v i : Nat) : List Nat := (List.range n).filter (fun j => decide (i < j) && decide (dg v j < dg v i))
def num (n v : Nat) : Nat → Nat
  | 0 => 0
  | i + 1 => num n v i * (n - i) + (lsl n v i).length
theorem lsl_step (n v i : Nat) : (lsl (n + 1) v i).length = (lsl n v i).length + if i < n ∧ dg v n < dg v i then 1 else 0 := by
  unfold lsl
  rw [List.range_succ, List.filter_append, List.length_append]
  congr 1
  by_cases h : i < n ∧ dg v n < dg v i
  · rw [if_pos h]; simp [h.1, h.2]
  · rw [if_neg h]
    have : (decide (i < n) && decide (dg v n < dg v i)) = false := by
      rw [Bool.and_eq_false_iff]
      rcases Nat.lt_or_ge i n with q | q
      · exact Or.inr (by simpa using fun r => h ⟨q, r⟩)
      · exact Or.inl (by simpa using q)
    simp [this]
theorem lsl_0 (v i : Nat) : ∀ k, k ≤ i + 1 → (lsl k v i).length = 0 := by
  intro k
  induction k with
  | zero => intro _; rfl
  | succ k ih => intro hk; rw [lsl_step, ih (by omega), if_neg (by omega)]
/-- the bells left behind the first i -/
def lft (n v i : Nat) : Nat := (2 ^ (n + 1) - 2) ^^^ msk v i
theorem full_bit (n x : Nat) : (2 ^ (n + 1) - 2).testBit x = (decide (1 ≤ x) && decide (x ≤ n)) := by
  have h1 : (2 : Nat) ^ (n + 1) - 2 = 2 * (2 ^ n - 1) := by rw [Nat.pow_succ]; omega
  rw [h1]
  cases x with
  | zero => simp [Nat.testBit_zero]
  | succ x =>
    rw [Nat.testBit_succ, Nat.mul_div_cancel_left _ (by decide), Nat.testBit_two_pow_sub_one]
    simp; omega
theorem lft_bit {n v : Nat} (hr : Rw n v) {i : Nat} (hi : i ≤ n) (x : Nat) : (lft n v i).testBit x = true ↔ ∃ j, i ≤ j ∧ j < n ∧ dg v j = x := by
  unfold lft
  rw [Nat.testBit_xor, full_bit]
  have hm := msk_bit v x i
  by_cases h1 : 1 ≤ x ∧ x ≤ n
  · rw [decide_eq_true h1.1, decide_eq_true h1.2]
    obtain ⟨k, hk, rfl⟩ := rw_cover hr h1.1 h1.2
    cases hb : (msk v i).testBit (dg v k) with
    | true =>
      obtain ⟨j, j1, j2⟩ := hm.mp hb
      have := hr.2.2 j k (by omega) hk j2
      simp
      rintro j' q1 q2 q3
      have := hr.2.2 j' k q2 hk q3
      omega
    | false =>
      have hki : ¬ k < i := fun q => by rw [hm.mpr ⟨k, q, rfl⟩] at hb; cases hb
      simp
      exact ⟨k, by omega, hk, rfl⟩
  · have hb : (msk v i).testBit x = false := by
      cases hb : (msk v i).testBit x with
      | false => rfl
      | true => obtain ⟨j, j1, j2⟩ := hm.mp hb; have := hr.2.1 j (by omega); omega
    have hf : (decide (1 ≤ x) && decide (x ≤ n)) = false := by
      rw [Bool.and_eq_false_iff]
      rcases Nat.lt_or_ge x 1 with q | q
      · exact Or.inl (by simpa using q)
      · exact Or.inr (by simp; omega)
    rw [hb, hf]
    simp
    rintro j q1 q2 q3
    have := hr.2.1 j q2
    omega
theorem lft_lt {n v : Nat} (hn : n ≤ 12) (hr : Rw n v) {i : Nat} (hi : i ≤ n) : lft n v i < 2 ^ 13 := by
  have h1 : (2 : Nat) ^ (n + 1) ≤ 2 ^ 13 := Nat.pow_le_pow_right (by decide) (by omega)
  have h2 := Nat.two_pow_pos (n + 1)
  exact Nat.xor_lt_two_pow (by omega) (msk_lt hn (fun i hi => (hr.2.1 i hi).2) i hi)
theorem lft_less {n v : Nat} (hn : n ≤ 12) (hr : Rw n v) {i : Nat} (hi : i < n) : pc (lft n v (i + 1) % 2 ^ dg v i) = (lsl n v i).length := by
  have hd := hr.2.1 i hi
  have hmem : ∀ x, x ∈ (List.range 13).filter (fun x => (lft n v (i + 1) % 2 ^ dg v i).testBit x) ↔ ∃ j, i < j ∧ j < n ∧ dg v j = x ∧ x < dg v i := by
    intro x
    rw [List.mem_filter, List.mem_range, Nat.testBit_mod_two_pow, Bool.and_eq_true, decide_eq_true_eq, lft_bit hr (by omega)]
    constructor
    · rintro ⟨-, h1, j, h2, h3, h4⟩; exact ⟨j, by omega, h3, h4, h1⟩
    · rintro ⟨j, h2, h3, h4, h1⟩; exact ⟨by omega, h1, j, by omega, h3, h4⟩
  have hmem2 : ∀ x, x ∈ (lsl n v i).map (dg v) ↔ ∃ j, i < j ∧ j < n ∧ dg v j = x ∧ x < dg v i := by
    intro x
    unfold lsl
    rw [List.mem_map]
    constructor
    · rintro ⟨j, h1, rfl⟩
      rw [List.mem_filter, List.mem_range, Bool.and_eq_true, decide_eq_true_eq, decide_eq_true_eq] at h1
      exact ⟨j, h1.2.1, h1.1, rfl, h1.2.2⟩
    · rintro ⟨j, h1, h2, rfl, h3⟩
      exact ⟨j, by rw [List.mem_filter, List.mem_range, Bool.and_eq_true, decide_eq_true_eq, decide_eq_true_eq]; exact ⟨h2, h1, h3⟩, rfl⟩
  have n1 : ((List.range 13).filter (fun x => (lft n v (i + 1) % 2 ^ dg v i).testBit x)).Nodup := List.nodup_range.filter _
  have n2 : ((lsl n v i).map (dg v)).Nodup := by
    rw [List.nodup_iff_pairwise_ne, List.pairwise_map]
    have n3 : (lsl n v i).Nodup := List.nodup_range.filter _
    refine List.Pairwise.imp_of_mem ?_ (List.nodup_iff_pairwise_ne.mp n3)
    intro a b ha hb hab e
    unfold lsl at ha hb
    rw [List.mem_filter, List.mem_range] at ha hb
    exact hab (hr.2.2 a b ha.1 hb.1 e)
  have l1 := nodup_le _ _ n1 fun x hx => (hmem2 x).mpr ((hmem x).mp hx)
  have l2 := nodup_le _ _ n2 fun x hx => (hmem x).mpr ((hmem2 x).mp hx)
  rw [List.length_map] at l1 l2
  exact Nat.le_antisymm l1 l2
theorem number_loop {N n v : Nat} {h : Hp} (hn : n ≤ 12) (hr : Rw n v) : ∀ (r f i : Nat), i + r = n → r < f → Rows_numberOf_14 N f (lN v) (nI n) (nI (num n v i)) (nI (lft n v i)) (nI i) h = some (nI (num n v n), h) := by
  have h63 : v < 2 ^ 63 := Nat.lt_of_lt_of_le hr.1 (Nat.le_trans (n12 hn) (by decide))
  intro r
  induction r with
  | zero =>
    intro f i hi hf
    obtain ⟨f, rfl⟩ : ∃ k, f = k + 1 := ⟨f - 1, by omega⟩
    obtain rfl : i = n := by omega
    rw [Rows_numberOf_14, if_pos ((nI_leI (by omega) (by omega)).mpr (Nat.le_refl _))]
  | succ r ih =>
    intro f i hi hf
    obtain ⟨f, rfl⟩ : ∃ k, f = k + 1 := ⟨f - 1, by omega⟩
    have hd := hr.2.1 i (by omega)
    have hl := lft_lt hn hr (i := i + 1) (by omega)
    have hp := Nat.two_pow_pos (dg v i)
    rw [Rows_numberOf_14, if_neg (fun q => by have := (nI_leI (by omega) (by omega)).mp q; omega), Rows_digit_s h63 (by omega), cl_s]
    simp only [nm]
    rw [nI_shl1 (by omega), nI_andnot (c := lft n v (i + 1)), show nI (2 ^ dg v i) - 1 = nI (2 ^ dg v i - 1) from pk_sub (b := 1) hp, nI_and, Nat.and_two_pow_sub_one_eq_mod, bitCount_s (Nat.lt_of_le_of_lt (Nat.mod_le _ _) hl), cl_s, lft_less hn hr (by omega), pk_sub (by omega), pk_mul, nI_add, nI_1]
    · exact ih f (i + 1) (by omega) (by omega)
    · intro x hx
      rw [Bool.eq_iff_iff, lft_bit hr (by omega), Bool.and_eq_true, lft_bit hr (by omega), Nat.testBit_two_pow]
      constructor
      · rintro ⟨j, h1, h2, rfl⟩
        refine ⟨⟨j, by omega, h2, rfl⟩, ?_⟩
        have : dg v i ≠ dg v j := fun e => by have := hr.2.2 i j (by omega) h2 e; omega
        simp [this]
      · rintro ⟨⟨j, h1, h2, rfl⟩, h3⟩
        refine ⟨j, ?_, h2, rfl⟩
        rcases Nat.lt_or_ge i j with q | q
        · omega
        · obtain rfl : i = j := by omega
          simp at h3
theorem Rows_numberOf_s {N n v : Nat} {h : Hp} (hN : 12 < N) (hn : n ≤ 12) (hr : Rw n v) : Rows_numberOf N (lN v) (nI n) h = some (nI (num n v n), h) := by
  unfold Rows_numberOf
  have hp2 : 2 ≤ (2 : Nat) ^ (n + 1) := by rw [Nat.pow_succ]; have := Nat.two_pow_pos n; omega
  simp only [nm]
  rw [show nI n + 1 = nI (n + 1) from nI_1 n, nI_shl1 (by omega), show nI (2 ^ (n + 1)) - 2 = nI (2 ^ (n + 1) - 2) from pk_sub (b := 2) hp2]
  have := number_loop (N := N) (h := h) hn hr n N 0 (by omega) (by omega)
  rw [show lft n v 0 = 2 ^ (n + 1) - 2 from Nat.xor_zero _] at this
  exact this
theorem M_num_in {N n v : Nat} {h : Hp} {re : Option Nat → Int64 → Int32 → Int32 → Hp → Option (Int32 × Hp)} (hM : Mn h n) (hr : Rw n v) {i : Nat} (hi : i < n) {a : Nat} : ∀ (r f k : Nat), k + r = n → r < f → i < k → M_numberOf_23 N re f (some 35) (lN v) (nI a) (nI (i + 1)) (nI (lsl k v i).length) (nI (k + 1)) h = re (some 35) (lN v) (nI (a * (n - i) + (lsl n v i).length)) (nI (i + 2)) h := by
  obtain ⟨o, e2, n4, hn⟩ := hM
  have h62 : v < 2 ^ 62 := Nat.lt_of_lt_of_le hr.1 (Nat.le_trans (n12 hn) (by decide))
  intro r
  induction r with
  | zero =>
    intro f k hk hf hik
    obtain ⟨f, rfl⟩ : ∃ k, f = k + 1 := ⟨f - 1, by omega⟩
    obtain rfl : k = n := by omega
    rw [M_numberOf_23, gi_s o, e2, if_pos ((nI_ltI (by omega) (by omega)).mpr (by omega)), gi_s o, e2]
    simp only [nm]
    rw [pk_sub (by omega), nI_1, show k - (i + 1) + 1 = k - i by omega, pk_mul, nI_add, nI_1]
  | succ r ih =>
    intro f k hk hf hik
    obtain ⟨f, rfl⟩ : ∃ k, f = k + 1 := ⟨f - 1, by omega⟩
    have d1 := dg_lt v k
    have d2 := dg_lt v i
    rw [M_numberOf_23, gi_s o, e2, if_neg (fun q => by have := (nI_ltI (by omega) (by omega)).mp q; omega), M_bell_s h62 (by omega) (by omega), cl_s, M_bell_s h62 (by omega) (by omega), cl_s, show k + 1 - 1 = k by omega, show i + 1 - 1 = i by omega]
    have ihh := ih f (k + 1) (by omega) (by omega) (by omega)
    rw [lsl_step] at ihh
    by_cases hlt : dg v k < dg v i
    · rw [if_pos ⟨hik, hlt⟩] at ihh
      rw [if_neg (fun q => by have := (nI_leI (by omega) (by omega)).mp q; omega), M_numberOf_54]
      simp only [nm]
      rw [nI_1, nI_1]
      exact ihh
    · rw [if_neg (fun q => hlt q.2), Nat.add_zero] at ihh
      rw [if_pos ((nI_leI (by omega) (by omega)).mpr (by omega)), M_numberOf_54]
      simp only [nm]
      rw [show nI (lsl k v i).length + 0 = nI (lsl k v i).length from Int32.add_zero _, nI_1]
      exact ihh
theorem M_num_out {N n v : Nat} {h : Hp} (hN : 20 < N) (hM : Mn h n) (hr : Rw n v) : ∀ (r f i : Nat), i + r = n → r < f → M_numberOf_5 N f (some 35) (lN v) (nI (num n v i)) (nI (i + 1)) h = some (nI (num n v n), h) := by
  have hM' := hM
  obtain ⟨o, e2, n4, hn⟩ := hM'
  intro r
  induction r with
  | zero =>
    intro f i hi hf
    obtain ⟨f, rfl⟩ : ∃ k, f = k + 1 := ⟨f - 1, by omega⟩
    obtain rfl : i = n := by omega
    rw [M_numberOf_5, gi_s o, e2, if_pos ((nI_ltI (by omega) (by omega)).mpr (by omega))]
  | succ r ih =>
    intro f i hi hf
    obtain ⟨f, rfl⟩ : ∃ k, f = k + 1 := ⟨f - 1, by omega⟩
    rw [M_numberOf_5, gi_s o, e2, if_neg (fun q => by have := (nI_ltI (by omega) (by omega)).mp q; omega)]
    simp only [nm]
    rw [nI_1]
    have := M_num_in (N := N) (re := M_numberOf_5 N f) hM hr (i := i) (by omega) (a := num n v i) (n - (i + 1)) N (i + 1) (by omega) (by omega) (by omega)
    rw [lsl_0 v i (i + 1) (Nat.le_refl _), nI_0] at this
    rw [this]
    exact ih f (i + 1) (by omega) (by omega)
theorem M_numberOf_s {N n v : Nat} {h : Hp} (hN : 20 < N) (hM : Mn h n) (hr : Rw n v) : M_numberOf N (some 35) (lN v) h = some (nI (num n v n), h) := by
  unfold M_numberOf
  have hn := hM.2.2.2
  exact M_num_out (N := N) hN hM hr n N 0 (by omega) (by omega)
