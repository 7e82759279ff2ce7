/-! PURE: the model's row of a number -/
theorem all_loop {N n : Nat} {h : Hp} (hM : Mn h n) : ∀ (r f k : Nat), k + r = n → 1 ≤ k → r < f → M_all_4 N f (some 35) (nI (fc k)) (nI (k + 1)) h = some (nI (fc n), h) := by
  obtain ⟨o, e2, n4, hn⟩ := hM
  intro r
  induction r with
  | zero =>
    intro f k hk h1 hf
    obtain ⟨f, rfl⟩ : ∃ j, f = j + 1 := ⟨f - 1, by omega⟩
    obtain rfl : k = n := by omega
    rw [M_all_4, gi_s o, e2, if_pos ((nI_ltI (by omega) (by omega)).mpr (by omega))]
  | succ r ih =>
    intro f k hk h1 hf
    obtain ⟨f, rfl⟩ : ∃ j, f = j + 1 := ⟨f - 1, by omega⟩
    rw [M_all_4, gi_s o, e2, if_neg (fun q => by have := (nI_ltI (by omega) (by omega)).mp q; omega), nmE, pk_mul, nmE, nI_1, Nat.mul_comm (fc k)]
    exact ih f (k + 1) (by omega) (by omega) (by omega)
theorem M_all_s {N n : Nat} {h : Hp} (hN : 20 < N) (hM : Mn h n) : M_all N (some 35) h = some (nI (fc n), h) := by
  have h4 := hM.2.2.1
  have h12 := hM.2.2.2
  unfold M_all
  exact all_loop (N := N) hM (n - 1) N 1 (by omega) (by omega) (by omega)
theorem mr_skip {N U b k : Nat} {g : Nat} {h : Hp} {re17 : Option Nat → Int64 → Int32 → Int32 → Int32 → Int32 → Hp → Option (Int64 × Hp)} {l0 : Option Nat} {l2 : Int64} {l4 l5 l7 : Int32} (hU : U < 2 ^ 31) (hb : b < 31) (hu : U.testBit b = true) : M_rowOf_57 N re17 (g + 1) l0 l2 l4 l5 (nI U) l7 (nI k) (nI b) h = M_rowOf_57 N re17 g l0 l2 l4 l5 (nI U) l7 (nI k) (nI (b + 1)) h := by
  have e1 := bit_s (U := U) (b := b) hU hb
  rw [hu, if_pos rfl] at e1
  have e4 : nI b + 1 = nI (b + 1) := nI_1 b
  have e5 : nI k - 0 = nI k := Int32.sub_zero _
  rw [M_rowOf_57, e1, if_pos rfl, M_rowOf_73, e1, if_pos rfl, M_rowOf_91, nmE, nmE, e4, e5]
theorem mr_next {N U b k : Nat} {g : Nat} {h : Hp} {re17 : Option Nat → Int64 → Int32 → Int32 → Int32 → Int32 → Hp → Option (Int64 × Hp)} {l0 : Option Nat} {l2 : Int64} {l4 l5 l7 : Int32} (hU : U < 2 ^ 31) (hb : b < 31) (hu : U.testBit b = false) (hk : k < 100) : M_rowOf_57 N re17 (g + 1) l0 l2 l4 l5 (nI U) l7 (nI (k + 1)) (nI b) h = M_rowOf_57 N re17 g l0 l2 l4 l5 (nI U) l7 (nI k) (nI (b + 1)) h := by
  have e1 := bit_s (U := U) (b := b) hU hb
  rw [hu, if_neg Bool.false_ne_true] at e1
  have z : ¬ (0 : Int32) = 1 := by decide
  have e4 : nI b + 1 = nI (b + 1) := nI_1 b
  have e5 : nI (k + 1) - 1 = nI k := nI_pred k
  have e6 : ¬ nI (k + 1) ≤ 0 := nI_nle (by omega) (by omega)
  rw [M_rowOf_57, e1, if_neg z, if_neg e6, M_rowOf_73, e1, if_neg z, M_rowOf_91, nmE, nmE, e4, e5]
theorem mr_stop {N U b : Nat} {g : Nat} {h : Hp} {re17 : Option Nat → Int64 → Int32 → Int32 → Int32 → Int32 → Hp → Option (Int64 × Hp)} {l0 : Option Nat} {r i : Nat} {l4 l5 : Int32} (hU : U < 2 ^ 31) (hb : b < 16) (hu : U.testBit b = false) (hi : i < 12) : M_rowOf_57 N re17 (g + 1) l0 (lN r) l4 l5 (nI U) (nI (i + 1)) 0 (nI b) h = re17 l0 (lN (r + b * 16 ^ i)) l4 l5 (nI (U ||| 2 ^ b)) (nI (i + 2)) h := by
  have e1 := bit_s (U := U) (b := b) hU (by omega)
  rw [hu, if_neg Bool.false_ne_true] at e1
  have z : ¬ (0 : Int32) = 1 := by decide
  have z2 : (0 : Int32) ≤ 0 := by decide
  have e4 : nI (i + 1) + 1 = nI (i + 2) := nI_1 (i + 1)
  have e5 : nI (i + 1) - 1 = nI i := nI_pred i
  rw [M_rowOf_57, e1, if_neg z, if_pos z2, nmE, nmE, nmE, e4, e5, nI_shl1 (by omega), nI_or, nI_l (by omega), nI_4, wb_shl _ (by omega), ← p16, lN_add]
theorem mr_pick {N U : Nat} {h : Hp} {re17 : Option Nat → Int64 → Int32 → Int32 → Int32 → Int32 → Hp → Option (Int64 × Hp)} {l0 : Option Nat} {r i n : Nat} {l4 l5 : Int32} (hU : U < 2 ^ 31) (hn : n ≤ 12) (hi : i < 12) : ∀ (f g b k : Nat), 1 ≤ b → b + f = n + 1 → f < g → k < cu U f b → k < 100 → M_rowOf_57 N re17 g l0 (lN r) l4 l5 (nI U) (nI (i + 1)) (nI k) (nI b) h = re17 l0 (lN (r + pick U f b k * 16 ^ i)) l4 l5 (nI (U ||| 2 ^ pick U f b k)) (nI (i + 2)) h := by
  intro f
  induction f with
  | zero => intro g b k _ _ _ hk; exact absurd hk (Nat.not_lt_zero _)
  | succ f ih =>
    intro g b k h1 hf hg hk hk2
    obtain ⟨g, rfl⟩ : ∃ j, g = j + 1 := ⟨g - 1, by omega⟩
    rw [cu] at hk
    rw [pick]
    by_cases hu : U.testBit b = true
    · rw [if_pos hu] at hk
      rw [if_pos hu, mr_skip hU (by omega) hu]
      exact ih g (b + 1) k (by omega) (by omega) (by omega) (by omega) hk2
    · have hu' : U.testBit b = false := by simpa using hu
      rw [if_neg hu] at hk
      rw [if_neg hu]
      cases k with
      | zero => rw [if_pos rfl, nI_0, mr_stop hU (by omega) hu' hi]
      | succ k =>
        rw [if_neg (by omega), mr_next hU (by omega) hu' (by omega)]
        exact ih g (b + 1) k (by omega) (by omega) (by omega) (by omega) (by omega)
theorem M_row_of_loop {N n m : Nat} {h : Hp} (hN : 20 < N) (hM : Mn h n) (hm : m < fc n) : ∀ (r f i : Nat), i + r = n → r < f → M_rowOf_17 N f (some 35) (lN (rof n m i).2) (nI (m % fc (n - i))) (nI (fc (n - i))) (nI (rof n m i).1) (nI (i + 1)) h = some (lN (rof n m n).2, h) := by
  obtain ⟨o, e2, n4, hn⟩ := hM
  intro r
  induction r with
  | zero =>
    intro f i hi hf
    obtain ⟨f, rfl⟩ : ∃ j, f = j + 1 := ⟨f - 1, by omega⟩
    obtain rfl : i = n := by omega
    rw [M_rowOf_17, gi_s o, e2, if_pos ((nI_ltI (by omega) (by omega)).mpr (by omega))]
  | succ r ih =>
    intro f i hi hf
    obtain ⟨f, rfl⟩ : ∃ j, f = j + 1 := ⟨f - 1, by omega⟩
    obtain ⟨o1, o2, o3⟩ := rof_ok (m := m) hn i (by omega)
    obtain ⟨q1, q2, q3⟩ := rof_pick (m := m) hn (show i < n by omega)
    have hfl := fc_le (n - i) (by omega)
    have hfl2 := fc_le (n - 1 - i) (by omega)
    have hp := fc_pos (n - 1 - i)
    have hfs : fc (n - i) = (n - i) * fc (n - 1 - i) := by rw [show n - i = (n - 1 - i) + 1 by omega]; rfl
    have hml : m % fc (n - i) < fc (n - i) := Nat.mod_lt _ (fc_pos _)
    have hx : nI n - nI (i + 1) + 1 = nI (n - i) := by rw [pk_sub (by omega), nI_1]; congr 1; omega
    have hne : ¬ nI (n - i) = 0 := nI_ne0 (by omega) (by omega)
    have hne2 : ¬ nI (fc (n - 1 - i)) = 0 := nI_ne0 hp (by omega)
    have hdv : nI (fc (n - i)) / nI (n - i) = nI (fc (n - 1 - i)) := by rw [pk_div (by omega) (by omega) (by omega), hfs, Nat.mul_div_cancel_left _ (by omega)]
    have hsk : m % fc (n - i) / fc (n - 1 - i) = dk n m i := by rw [hfs, Nat.mul_comm, Nat.mod_mul_right_div_self, dk]
    have hlf : m % fc (n - i) % fc (n - 1 - i) = m % fc (n - 1 - i) := by rw [hfs, Nat.mul_comm, Nat.mod_mul_right_mod]
    have hdk : dk n m i < 100 := by have : dk n m i < n - i := Nat.mod_lt _ (by omega); omega
    rw [M_rowOf_17, gi_s o, e2, if_neg (fun q => by have := (nI_ltI (by omega) (by omega)).mp q; omega), gi_s o, e2, hx, nz, if_neg hne, nmE, hdv, nz, if_neg hne2, nmE, nz, if_neg hne2, nmE, pk_rem (a := m % fc (n - i)) (by omega) hp (by omega), pk_div (a := m % fc (n - i)) (by omega) hp (by omega), hsk, hlf]
    have := mr_pick (N := N) (U := (rof n m i).1) (h := h) (re17 := M_rowOf_17 N f) (l0 := some 35) (r := (rof n m i).2) (i := i) (n := n) (l4 := nI (m % fc (n - 1 - i))) (l5 := nI (fc (n - 1 - i))) (by omega) hn (by omega) n N 1 (dk n m i) (Nat.le_refl _) (by omega) (by omega) q1 hdk
    rw [show nI 1 = 1 from rfl] at this
    rw [this]
    have ihh := ih f (i + 1) (by omega) (by omega)
    rw [show n - (i + 1) = n - 1 - i by omega] at ihh
    exact ihh
theorem M_rowOf_s {N n m : Nat} {h : Hp} (hN : 20 < N) (hM : Mn h n) (hm : m < fc n) : M_rowOf N (some 35) (nI m) h = some (lN (rof n m n).2, h) := by
  have hn := hM.2.2.2
  unfold M_rowOf
  rw [ds_1 hM.1, M_all_s hN hM, cl_s]
  have := M_row_of_loop (N := N) hN hM hm n N 0 (by omega) (by omega)
  rw [Nat.sub_zero, Nat.mod_eq_of_lt hm, show (rof n m 0).1 = 0 from rfl, show (rof n m 0).2 = 0 from rfl, nI_0] at this
  exact this
theorem rof_ne {n m : Nat} (hn : n ≤ 12) (h1 : 1 ≤ n) : (rof n m n).2 ≠ 0 := by
  have key : ∀ i, 1 ≤ i → i ≤ n → 1 ≤ (rof n m i).2 := by
    intro i
    induction i with
    | zero => intro h _; omega
    | succ i ih =>
      intro _ hi
      have q := (rof_pick (m := m) hn (show i < n by omega)).2.1
      show 1 ≤ (rof n m i).2 + pick (rof n m i).1 n 1 (dk n m i) * 16 ^ i
      have : 1 * 1 ≤ pick (rof n m i).1 n 1 (dk n m i) * 16 ^ i := Nat.mul_le_mul q (p16_pos i)
      omega
  have := key n h1 (Nat.le_refl _)
  omega
