/-! PURE: digits and changes, as the programs reckon them -/
theorem lshr_s {v k : Nat} (hv : v < 2 ^ 62) (hk : k < 64) : lN v >>> (Int32.toInt64 (nI k) &&& 63) = lN (v / 2 ^ k) := by
  rw [wb_c k hk]
  exact pf_shr (by rw [wb_tb, wb_sm k hk, BitVec.toNat_ofNat]; exact Nat.mod_eq_of_lt (by omega)) hv
theorem nI_and15 (m : Nat) : nI m &&& 15 = nI (m % 16) := by
  rw [pk_and (nI m) (m := 15) 4 (by decide)]
  congr 1
  show (BitVec.ofNat 32 m).toNat % 2 ^ 4 = m % 16
  rw [BitVec.toNat_ofNat]
  omega
theorem nI_and1 (m : Nat) : nI m &&& 1 = nI (m % 2) := by
  rw [pk_and (nI m) (m := 1) 1 (by decide)]
  congr 1
  show (BitVec.ofNat 32 m).toNat % 2 ^ 1 = m % 2
  rw [BitVec.toNat_ofNat]
  omega
theorem nI_4 (k : Nat) : (4 : Int32) * nI k = nI (4 * k) := pk_mul 4 k
theorem nI_m1 {p : Nat} (h : 1 ≤ p) : nI p - 1 = nI (p - 1) := pk_sub (a := p) (b := 1) h
theorem Rows_digit_s {N v k : Nat} {h : Hp} (hv : v < 2 ^ 63) (hk : k < 16) : Rows_digit N (lN v) (nI k) h = some (nI (dg v k), h) := by
  unfold Rows_digit
  rw [nI_4, wb_shr (by omega) (by omega), lN_i, nI_and15, dg, p16]
theorem M_bell_s {N v p : Nat} {h : Hp} (hv : v < 2 ^ 62) (hp : 1 ≤ p) (hp2 : p ≤ 16) : M_bell N (lN v) (nI p) h = some (nI (dg v (p - 1)), h) := by
  unfold M_bell
  rw [nI_m1 hp, nI_4, lshr_s hv (by omega), lN_i, nI_and15, dg, p16]
def chgF : Nat → Nat → Nat → Nat → Nat
  | 0, v, _, _ => v
  | f + 1, v, c, p => chgF f (if c % 2 = 1 then sw4 v p else v) (c / 2) (p + 1)
theorem chgF_0 : ∀ (f v p : Nat), chgF f v 0 p = v := by
  intro f
  induction f with
  | zero => intros; rfl
  | succ f ih => intro v p; unfold chgF; simp [ih]
/-- a change done on a row -/
def chg (v c : Nat) : Nat := chgF 11 v c 0
theorem chgF_lt : ∀ (f v c p : Nat), v < 16 ^ 12 → p + f ≤ 11 → chgF f v c p < 16 ^ 12 := by
  intro f
  induction f with
  | zero => intro v c p hv _; exact hv
  | succ f ih =>
    intro v c p hv hp
    unfold chgF
    refine ih _ _ _ ?_ (by omega)
    split
    · exact sw4_lt hv (by omega)
    · exact hv
theorem chg_lt {v : Nat} (c : Nat) (hv : v < 16 ^ 12) : chg v c < 16 ^ 12 := chgF_lt 11 v c 0 hv (by omega)
theorem nI_le0 {c : Nat} (hc : c < 2 ^ 31) : nI c ≤ 0 ↔ c = 0 := by
  have h1 := nI_leI hc (show 0 < 2 ^ 31 by decide)
  rw [nI_0] at h1
  rw [h1]; omega
theorem nI_eq0 {c : Nat} (hc : c < 2 ^ 31) : nI c = 0 ↔ c = 0 := by
  have h1 := nI_eq hc (show 0 < 2 ^ 31 by decide)
  rw [nI_0] at h1
  exact h1
theorem nI_eqk {c : Nat} (k : Nat) (hc : c < 2 ^ 31) (hk : k < 2 ^ 31) : nI c = nI k ↔ c = k := nI_eq hc hk
theorem changed_x {v p : Nat} (hv : v < 16 ^ 12) (hp : p < 11) : lN v ^^^ ((lN (dg v p ^^^ dg v (p + 1)) <<< (Int32.toInt64 (nI (4 * p)) &&& 63)) ||| (lN (dg v p ^^^ dg v (p + 1)) <<< (Int32.toInt64 (nI (4 * p + 4)) &&& 63))) = lN (sw4 v p) := by
  have hx : dg v p ^^^ dg v (p + 1) < 16 := Nat.xor_lt_two_pow (n := 4) (dg_lt v p) (dg_lt v (p + 1))
  rw [wb_shl _ (by omega), wb_shl _ (by omega)]
  have hb : (2 : Nat) ^ (4 * p + 4) ≤ 2 ^ 44 := Nat.pow_le_pow_right (by decide) (by omega)
  have ha : (dg v p ^^^ dg v (p + 1)) * 2 ^ (4 * p) < 2 ^ (4 * p + 4) := by
    rw [Nat.pow_add, Nat.mul_comm]; exact Nat.mul_lt_mul_of_pos_left hx (Nat.two_pow_pos _)
  have hc : (dg v p ^^^ dg v (p + 1)) * 2 ^ (4 * p + 4) ≤ 15 * 2 ^ 44 := Nat.mul_le_mul (by omega) hb
  rw [g_or' (k := 4 * p + 4) rfl ha (by omega), lN_xor, ← sw4_xor]
  congr 2
  rw [p16, Nat.pow_add, show (2 : Nat) ^ 4 = 16 by decide]
  have k : ∀ P y : Nat, y * P + y * (P * 16) = P * y + P * (16 * y) := by
    intro P y
    rw [Nat.mul_comm y P, Nat.mul_left_comm y P 16, Nat.mul_comm y 16]
  exact k _ _
theorem changed_loop {N : Nat} {h : Hp} : ∀ (f n v c p : Nat), c < 2 ^ f → p + f ≤ 11 → v < 16 ^ 12 → f < n → Rows_changed_8 N n (lN v) (nI (4 * p)) (nI c) h = some (lN (chgF f v c p), h) := by
  intro f
  induction f with
  | zero =>
    intro n v c p hc hp hv hn
    obtain ⟨n, rfl⟩ : ∃ k, n = k + 1 := ⟨n - 1, by omega⟩
    have : c = 0 := by simpa using hc
    subst this
    rw [Rows_changed_8, if_pos (by rw [nI_0]; decide)]
    rfl
  | succ f ih =>
    intro n v c p hc hp hv hn
    obtain ⟨n, rfl⟩ : ∃ k, n = k + 1 := ⟨n - 1, by omega⟩
    have hf : (2 : Nat) ^ (f + 1) ≤ 2 ^ 11 := Nat.pow_le_pow_right (by decide) (by omega)
    rw [Rows_changed_8]
    by_cases h0 : c = 0
    · subst h0
      rw [if_pos (by rw [nI_0]; decide), chgF_0]
    · rw [if_neg (fun q => h0 ((nI_le0 (by omega)).mp q)), nI_and1]
      have hc2 : c / 2 < 2 ^ f := by rw [Nat.pow_succ] at hc; omega
      have hs : nI c >>> ((1 : Int32) &&& 31) = nI (c / 2) := pk_shrN (by omega) _ 1 (by decide)
      have h4 : nI (4 * p) + 4 = nI (4 * (p + 1)) := nI_add (4 * p) 4
      by_cases h1 : c % 2 = 1
      · rw [if_neg (fun q => by have := (nI_eq0 (by omega)).mp q; omega)]
        have e15 : (15 : Int64) = lN (2 ^ 4 - 1) := rfl
        have hv64 : v < 2 ^ 64 := Nat.lt_of_lt_of_le hv (by decide)
        simp only [nm]
        rw [h4, show 4 * (p + 1) = 4 * p + 4 by omega, wb_shr hv64 (by omega), wb_shr hv64 (by omega), lN_xor, e15, wb_mask (Nat.xor_lt_two_pow (n := 64) (Nat.lt_of_le_of_lt (Nat.div_le_self _ _) hv64) (Nat.lt_of_le_of_lt (Nat.div_le_self _ _) hv64)) (by decide), Nat.xor_mod_two_pow]
        have d1 : v / 2 ^ (4 * p) % 2 ^ 4 = dg v p := by rw [dg, p16]
        have d2 : v / 2 ^ (4 * p + 4) % 2 ^ 4 = dg v (p + 1) := by rw [dg, p16]; rfl
        rw [d1, d2, changed_x hv (by omega), Rows_changed_53]
        simp only [nm]
        rw [h4, hs]
        have := ih n (sw4 v p) (c / 2) (p + 1) hc2 (by omega) (sw4_lt hv (by omega)) (by omega)
        rw [this]
        show _ = some (lN (chgF f (if c % 2 = 1 then sw4 v p else v) (c / 2) (p + 1)), h)
        rw [if_pos h1]
      · rw [if_pos (by rw [show c % 2 = 0 by omega]; exact nI_0), Rows_changed_53]
        simp only [nm]
        rw [h4, hs]
        have := ih n v (c / 2) (p + 1) hc2 (by omega) hv (by omega)
        rw [this]
        show _ = some (lN (chgF f (if c % 2 = 1 then sw4 v p else v) (c / 2) (p + 1)), h)
        rw [if_neg h1]
theorem Rows_changed_s {N v c : Nat} {h : Hp} (hN : 11 < N) (hc : c < 2 ^ 11) (hv : v < 16 ^ 12) : Rows_changed N (lN v) (nI c) h = some (lN (chg v c), h) := by
  unfold Rows_changed
  have := changed_loop (N := N) (h := h) 11 N v c 0 hc (by omega) hv hN
  rw [show nI (4 * 0) = 0 from nI_0] at this
  exact this
theorem lN_sub' (a b : Nat) : lN (a + b) - lN b = lN a := by rw [← lN_add]; exact Int64.add_sub_cancel _ _
theorem done_x {v p : Nat} (hv : v < 16 ^ 12) (hp : p < 11) : lN v + (((lN (dg v (p + 1)) - lN (dg v p)) * ((1 : Int64) <<< (Int32.toInt64 (nI (4 * p)) &&& 63))) + ((lN (dg v p) - lN (dg v (p + 1))) * ((1 : Int64) <<< (Int32.toInt64 (nI (4 * (p + 1))) &&& 63)))) = lN (sw4 v p) := by
  have o : (1 : Int64) = lN 1 := rfl
  rw [o, wb_shl _ (by omega), wb_shl _ (by omega), Nat.one_mul, Nat.one_mul]
  have e : v + (dg v (p + 1) * 2 ^ (4 * p) + dg v p * 2 ^ (4 * (p + 1))) = sw4 v p + (dg v p * 2 ^ (4 * p) + dg v (p + 1) * 2 ^ (4 * (p + 1))) := by
    have h1 := v_split v p
    rw [sw4]
    rw [show 2 ^ (4 * (p + 1)) = 16 ^ p * 16 by rw [← p16, Nat.pow_succ], ← p16]
    generalize v / 16 ^ (p + 2) = w at h1 ⊢
    generalize v % 16 ^ p = r at h1 ⊢
    generalize dg v p = a at h1 ⊢
    generalize dg v (p + 1) = b at h1 ⊢
    generalize 16 ^ p = P at h1 ⊢
    rw [h1]
    simp only [Nat.mul_add, Nat.mul_comm, Nat.mul_left_comm]
    omega
  have e2 := congrArg lN e
  simp only [← lN_add, ← lN_mul] at e2
  generalize lN (2 ^ (4 * p)) = P at e2 ⊢
  generalize lN (2 ^ (4 * (p + 1))) = P' at e2 ⊢
  generalize lN (dg v p) = a at e2 ⊢
  generalize lN (dg v (p + 1)) = b at e2 ⊢
  grind
theorem dg_l (v i : Nat) : (nI (dg v i)).toInt64 = lN (dg v i) := nI_l (by have := dg_lt v i; omega)
theorem done_loop {N : Nat} {h : Hp} {c : Nat} (hc : c < 2 ^ 11) : ∀ (f n v p : Nat), c / 2 ^ p < 2 ^ f → p + f ≤ 11 → v < 16 ^ 12 → f < n → M_done_5 N n (nI c) (lN v) (nI (p + 1)) h = some (lN (chgF f v (c / 2 ^ p) p), h) := by
  intro f
  induction f with
  | zero =>
    intro n v p hc1 hp hv hn
    obtain ⟨n, rfl⟩ : ∃ k, n = k + 1 := ⟨n - 1, by omega⟩
    have h0 : c / 2 ^ p = 0 := by simpa using hc1
    rw [M_done_5, nI_m1 (by omega), show p + 1 - 1 = p by omega, pk_shrN (by omega) _ p (s_l p (by omega)), if_pos (by rw [h0]; exact nI_0)]
    rfl
  | succ f ih =>
    intro n v p hc1 hp hv hn
    obtain ⟨n, rfl⟩ : ∃ k, n = k + 1 := ⟨n - 1, by omega⟩
    have hle : c / 2 ^ p ≤ c := Nat.div_le_self _ _
    have hc2 : c / 2 ^ (p + 1) = c / 2 ^ p / 2 := by rw [Nat.pow_succ, Nat.div_div_eq_div_mul]
    rw [M_done_5, nI_m1 (by omega), show p + 1 - 1 = p by omega, pk_shrN (by omega) _ p (s_l p (by omega))]
    by_cases h0 : c / 2 ^ p = 0
    · rw [if_pos (by rw [h0]; exact nI_0), h0, chgF_0]
    · rw [if_neg (fun q => h0 ((nI_eq0 (by omega)).mp q)), nI_and1]
      have ihv := fun v' (hv' : v' < 16 ^ 12) => ih n v' (p + 1) (by rw [hc2]; rw [Nat.pow_succ] at hc1; omega) (by omega) hv' (by omega)
      have hv62 : v < 2 ^ 62 := Nat.lt_of_lt_of_le hv (by decide)
      by_cases h1 : c / 2 ^ p % 2 = 1
      · rw [if_pos (by rw [h1]; rfl), M_bell_s hv62 (by omega) (by omega), cl_s, show nI (p + 1) + 1 = nI (p + 2) from nI_1 (p + 1)]
        simp only [nm]
        rw [M_bell_s hv62 (by omega) (by omega), cl_s, show p + 1 - 1 = p by omega, show p + 2 - 1 = p + 1 by omega, dg_l, dg_l, nI_4, nI_4, done_x hv (by omega), M_done_76]
        simp only [nm]
        rw [nI_1, ihv _ (sw4_lt hv (by omega)), hc2]
        show _ = some (lN (chgF f (if c / 2 ^ p % 2 = 1 then sw4 v p else v) (c / 2 ^ p / 2) (p + 1)), h)
        rw [if_pos h1]
      · have hne : ¬ nI (c / 2 ^ p % 2) = 1 := fun q => h1 ((nI_eqk 1 (by omega) (by decide)).mp q)
        rw [if_neg hne, M_done_76]
        simp only [nm]
        rw [nI_1, ihv _ hv, hc2]
        show _ = some (lN (chgF f (if c / 2 ^ p % 2 = 1 then sw4 v p else v) (c / 2 ^ p / 2) (p + 1)), h)
        rw [if_neg h1]
theorem M_done_s {N v c : Nat} {h : Hp} (hN : 11 < N) (hc : c < 2 ^ 11) (hv : v < 16 ^ 12) : M_done N (lN v) (nI c) h = some (lN (chg v c), h) := by
  unfold M_done
  have := done_loop (N := N) (h := h) hc 11 N v 0 (by simpa using hc) (by omega) hv hN
  rw [Nat.pow_zero, Nat.div_one] at this
  exact this
