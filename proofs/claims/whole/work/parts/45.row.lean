/-! PURE: what a row is, on both sides -/
theorem nodup_le : ∀ (a b : List Nat), a.Nodup → (∀ x ∈ a, x ∈ b) → a.length ≤ b.length := by
  intro a
  induction a with
  | nil => intro b _ _; exact Nat.zero_le _
  | cons x a ih =>
    intro b hn hs
    have h1 : x ∈ b := hs x List.mem_cons_self
    obtain ⟨h2, h3⟩ := List.nodup_cons.mp hn
    have h4 := ih (b.erase x) h3 fun y hy => (List.mem_erase_of_ne (by rintro rfl; exact h2 hy)).mpr (hs y (List.mem_cons_of_mem _ hy))
    rw [List.length_erase_of_mem h1] at h4
    have h5 := List.length_pos_of_mem h1
    show a.length + 1 ≤ b.length
    omega
/-- a row of n bells -/
def Rw (n v : Nat) : Prop := v < 16 ^ n ∧ (∀ i, i < n → 1 ≤ dg v i ∧ dg v i ≤ n) ∧ ∀ i j, i < n → j < n → dg v i = dg v j → i = j
def dgs (n v : Nat) : List Nat := (List.range n).map (dg v)
theorem dgs_mem {n v x : Nat} : x ∈ dgs n v ↔ ∃ i, i < n ∧ dg v i = x := by simp [dgs]
theorem dgs_nodup {n v : Nat} (h : ∀ i j, i < n → j < n → dg v i = dg v j → i = j) : (dgs n v).Nodup := by
  unfold dgs
  rw [List.nodup_iff_pairwise_ne, List.pairwise_map]
  refine List.Pairwise.imp_of_mem ?_ (List.nodup_iff_pairwise_ne.mp List.nodup_range)
  intro a b ha hb hab e
  exact hab (h a b (List.mem_range.mp ha) (List.mem_range.mp hb) e)
theorem rw_cover {n v : Nat} (hr : Rw n v) {x : Nat} (h1 : 1 ≤ x) (h2 : x ≤ n) : ∃ i, i < n ∧ dg v i = x := by
  refine Classical.byContradiction fun hx => ?_
  have h3 := nodup_le (dgs n v) ((List.range' 1 n).erase x) (dgs_nodup hr.2.2) fun y hy => by
    obtain ⟨i, hi, rfl⟩ := dgs_mem.mp hy
    refine (List.mem_erase_of_ne fun e => hx ⟨i, hi, e⟩).mpr ?_
    have := hr.2.1 i hi
    rw [List.mem_range'_1]; omega
  have h4 : x ∈ List.range' 1 n := by rw [List.mem_range'_1]; omega
  rw [List.length_erase_of_mem h4] at h3
  simp [dgs] at h3
  omega
theorem cover_rw {n v : Nat} (hv : v < 16 ^ n) (hle : ∀ i, i < n → dg v i ≤ n) (hc : ∀ x, 1 ≤ x → x ≤ n → ∃ i, i < n ∧ dg v i = x) : Rw n v := by
  have inj : ∀ i j, i < n → j < n → dg v i = dg v j → i = j := by
    intro i j hi hj e
    refine Classical.byContradiction fun hij => ?_
    have h3 := nodup_le (List.range' 1 n) (((List.range n).erase j).map (dg v)) List.nodup_range' fun x hx => by
      rw [List.mem_range'_1] at hx
      obtain ⟨k, hk, ek⟩ := hc x (by omega) (by omega)
      rw [List.mem_map]
      by_cases hkj : k = j
      · exact ⟨i, (List.mem_erase_of_ne hij).mpr (List.mem_range.mpr hi), by rw [e, ← hkj]; exact ek⟩
      · exact ⟨k, (List.mem_erase_of_ne hkj).mpr (List.mem_range.mpr hk), ek⟩
    rw [List.length_map, List.length_erase_of_mem (List.mem_range.mpr hj), List.length_range', List.length_range] at h3
    omega
  refine ⟨hv, fun i hi => ⟨?_, hle i hi⟩, inj⟩
  refine Classical.byContradiction fun h0 => ?_
  have h3 := nodup_le (0 :: List.range' 1 n) (dgs n v) (List.nodup_cons.mpr ⟨by rw [List.mem_range'_1]; omega, List.nodup_range'⟩) fun x hx => by
    rw [dgs_mem]
    rcases List.mem_cons.mp hx with rfl | hx
    · exact ⟨i, hi, by omega⟩
    · rw [List.mem_range'_1] at hx
      exact hc x (by omega) (by omega)
  simp [dgs] at h3
  omega
/-- the set of the first i digits, as bits -/
def msk (v : Nat) : Nat → Nat
  | 0 => 0
  | i + 1 => msk v i ||| 2 ^ dg v i
theorem msk_bit (v x : Nat) : ∀ i, (msk v i).testBit x = true ↔ ∃ j, j < i ∧ dg v j = x := by
  intro i
  induction i with
  | zero => simp [msk]
  | succ i ih =>
    rw [msk, Nat.testBit_or, Bool.or_eq_true, ih, Nat.testBit_two_pow]
    constructor
    · rintro (⟨j, h1, h2⟩ | h)
      · exact ⟨j, by omega, h2⟩
      · exact ⟨i, by omega, by simpa using h⟩
    · rintro ⟨j, h1, h2⟩
      by_cases e : j = i
      · subst e; exact Or.inr (by simpa using h2)
      · exact Or.inl ⟨j, by omega, h2⟩
theorem msk_lt {v n : Nat} (hn : n ≤ 12) (hle : ∀ i, i < n → dg v i ≤ n) : ∀ i, i ≤ n → msk v i < 2 ^ 13 := by
  intro i
  induction i with
  | zero => intro _; simp [msk]
  | succ i ih =>
    intro hi
    have := hle i (by omega)
    exact Nat.or_lt_two_pow (ih (by omega)) (Nat.pow_lt_pow_right (by decide) (by omega))
theorem msk_full {v n : Nat} (hn : n ≤ 12) (hv : v < 16 ^ n) (hle : ∀ i, i < n → dg v i ≤ n) : msk v n = 2 ^ (n + 1) - 2 ↔ Rw n v := by
  have hb : ∀ x, (2 ^ (n + 1) - 2).testBit x = true ↔ 1 ≤ x ∧ x ≤ n := by
    intro x
    have h1 : (2 : Nat) ^ (n + 1) - 2 = 2 * (2 ^ n - 1) := by rw [Nat.pow_succ]; omega
    rw [h1]
    cases x with
    | zero => simp [Nat.testBit_zero]
    | succ x =>
      rw [Nat.testBit_succ, Nat.mul_div_cancel_left _ (by decide), Nat.testBit_two_pow_sub_one]
      simp; omega
  constructor
  · intro e
    refine cover_rw hv hle fun x h1 h2 => ?_
    rw [← msk_bit, e, hb]; exact ⟨h1, h2⟩
  · intro hr
    apply Nat.eq_of_testBit_eq
    intro x
    rw [Bool.eq_iff_iff, hb, msk_bit]
    constructor
    · rintro ⟨j, h1, rfl⟩; exact hr.2.1 j h1
    · rintro ⟨h1, h2⟩; exact rw_cover hr h1 h2
theorem nI_or (a b : Nat) : nI a ||| nI b = nI (a ||| b) := by
  apply Int32.toBitVec_inj.mp
  rw [Int32.toBitVec_or]
  show BitVec.ofNat 32 a ||| BitVec.ofNat 32 b = BitVec.ofNat 32 (a ||| b)
  apply BitVec.eq_of_getLsbD_eq
  intro i hi
  simp [BitVec.getLsbD_ofNat, hi]
theorem nI_shl1 {k : Nat} (hk : k < 31) : (1 : Int32) <<< (nI k &&& 31) = nI (2 ^ k) := by
  have h1 : (2 : Nat) ^ k ≤ 2 ^ 30 := Nat.pow_le_pow_right (by decide) (by omega)
  have := pk_shlN (n := 1) (nI k &&& 31) k (s_l k (by omega)) (by omega)
  rw [Nat.one_mul] at this
  exact this
theorem row_loop {N n v : Nat} {h : Hp} (hn : n ≤ 12) (hv : v < 16 ^ n) (hle : ∀ i, i < n → dg v i ≤ n) : ∀ (r f i : Nat), i + r = n → r < f → Rows_isRow_15 N f (lN v) (nI n) (nI (msk v i)) (nI i) h = if msk v n = 2 ^ (n + 1) - 2 then some (1, h) else some (0, h) := by
  intro r
  have h63 : v < 2 ^ 63 := Nat.lt_of_lt_of_le hv (Nat.le_trans (n12 hn) (by decide))
  induction r with
  | zero =>
    intro f i hi hf
    obtain ⟨f, rfl⟩ : ∃ k, f = k + 1 := ⟨f - 1, by omega⟩
    obtain rfl : i = n := by omega
    have hm := msk_lt hn hle i (Nat.le_refl _)
    have hp : (2 : Nat) ^ (i + 1) ≤ 2 ^ 13 := Nat.pow_le_pow_right (by decide) (by omega)
    have hp2 : 2 ≤ (2 : Nat) ^ (i + 1) := by rw [Nat.pow_succ]; have := Nat.two_pow_pos i; omega
    rw [Rows_isRow_15, if_pos ((nI_leI (by omega) (by omega)).mpr (Nat.le_refl _)), show nI i + 1 = nI (i + 1) from nI_1 i, nI_shl1 (by omega), show nI (2 ^ (i + 1)) - 2 = nI (2 ^ (i + 1) - 2) from pk_sub (b := 2) hp2, rz_1, rz_0]
    by_cases e : msk v i = 2 ^ (i + 1) - 2
    · rw [if_pos e, if_pos (by rw [e])]
    · rw [if_neg e, if_neg (fun q => e ((nI_eq (by omega) (by omega)).mp q))]
  | succ r ih =>
    intro f i hi hf
    obtain ⟨f, rfl⟩ : ∃ k, f = k + 1 := ⟨f - 1, by omega⟩
    have hd := hle i (by omega)
    rw [Rows_isRow_15, if_neg (fun q => by have := (nI_leI (by omega) (by omega)).mp q; omega), Rows_digit_s h63 (by omega), cl_s]
    simp only [nm]
    rw [nI_shl1 (by omega), nI_or, nI_1]
    exact ih f (i + 1) (by omega) (by omega)
theorem Rows_isRow_s {N n : Nat} {x : Int64} {h : Hp} (hN : 12 < N) (hn : n ≤ 12) : ((∃ v, x = lN v ∧ Rw n v) ∧ Rows_isRow N x (nI n) h = some (1, h)) ∨ ((∀ v, v < 2 ^ 63 → x = lN v → ¬ Rw n v) ∧ Rows_isRow N x (nI n) h = some (0, h)) := by
  unfold Rows_isRow
  rcases Rows_isPattern_s (N := N) (n := n) (x := x) (h := h) hN hn with ⟨⟨v, rfl, hp⟩, e⟩ | ⟨hp, e⟩
  · rw [e, cl_s, if_neg (by decide)]
    have := row_loop (N := N) (h := h) hn hp.1 hp.2 n N 0 (by omega) (by omega)
    rw [show msk v 0 = 0 from rfl, nI_0] at this
    rw [this]
    by_cases q : msk v n = 2 ^ (n + 1) - 2
    · rw [if_pos q]; exact Or.inl ⟨⟨v, rfl, (msk_full hn hp.1 hp.2).mp q⟩, rfl⟩
    · rw [if_neg q]
      refine Or.inr ⟨fun w hw e2 hr => q ?_, rfl⟩
      have h63 : v < 2 ^ 63 := Nat.lt_of_lt_of_le hp.1 (Nat.le_trans (n12 hn) (by decide))
      rw [← (pk_lEQ h63 hw).mp e2] at hr
      exact (msk_full hn hp.1 hp.2).mpr hr
  · rw [e, cl_s, if_pos rfl, rz_0]
    exact Or.inr ⟨fun v hv hx hr => hp v hv hx ⟨hr.1, fun i hi => (hr.2.1 i hi).2⟩, rfl⟩
theorem M_row_loop {N n v : Nat} {h : Hp} (hM : Mn h n) (hv : v < 16 ^ n) : ∀ (r f i : Nat), i + r = n → r < f → (∀ a, a < i → 1 ≤ dg v a ∧ dg v a ≤ n) → (∀ a b, a < i → b < i → dg v a = dg v b → a = b) → (Rw n v ∧ M_isRow_26 N f (some 35) (lN v) (nI (msk v i)) (nI (i + 1)) h = some (1, h)) ∨ (¬ Rw n v ∧ M_isRow_26 N f (some 35) (lN v) (nI (msk v i)) (nI (i + 1)) h = some (0, h)) := by
  obtain ⟨o, e2, n4, hn⟩ := hM
  have h62 : v < 2 ^ 62 := Nat.lt_of_lt_of_le hv (Nat.le_trans (n12 hn) (by decide))
  intro r
  induction r with
  | zero =>
    intro f i hi hf g1 g2
    obtain ⟨f, rfl⟩ : ∃ k, f = k + 1 := ⟨f - 1, by omega⟩
    obtain rfl : i = n := by omega
    rw [M_isRow_26, gi_s o, e2, if_pos ((nI_ltI (by omega) (by omega)).mpr (by omega)), rz_1]
    exact Or.inl ⟨⟨hv, g1, g2⟩, rfl⟩
  | succ r ih =>
    intro f i hi hf g1 g2
    obtain ⟨f, rfl⟩ : ∃ k, f = k + 1 := ⟨f - 1, by omega⟩
    have hd := dg_lt v i
    rw [M_isRow_26, gi_s o, e2, if_neg (fun q => by have := (nI_ltI (by omega) (by omega)).mp q; omega), M_bell_s h62 (by omega) (by omega), cl_s, show i + 1 - 1 = i by omega]
    by_cases hb1 : dg v i < 1
    · have hlt1 : nI (dg v i) < 1 := (nI_ltI (b := 1) (by omega) (by omega)).mpr hb1
      rw [if_pos hlt1, rz_0]
      exact Or.inr ⟨fun hr => by have := hr.2.1 i (by omega); omega, rfl⟩
    · have hne : ¬ nI (dg v i) < 1 := fun q => hb1 ((nI_ltI (b := 1) (by omega) (by omega)).mp q)
      rw [if_neg hne, gi_s o, e2]
      by_cases hb2 : n < dg v i
      · rw [if_pos ((nI_ltI (by omega) (by omega)).mpr hb2), rz_0]
        exact Or.inr ⟨fun hr => by have := hr.2.1 i (by omega); omega, rfl⟩
      · have hml : msk v i < 2 ^ 13 := by
          have : ∀ j, j ≤ i → msk v j < 2 ^ 13 := by
            intro j
            induction j with
            | zero => intro _; simp [msk]
            | succ j ihj => intro hj; exact Nat.or_lt_two_pow (ihj (by omega)) (Nat.pow_lt_pow_right (by decide) (by have := g1 j (by omega); omega))
          exact this i (Nat.le_refl _)
        rw [if_neg (fun q => hb2 ((nI_ltI (by omega) (by omega)).mp q)), pk_shrN (by omega) _ (dg v i) (s_l _ (by omega)), nI_and1]
        have hbit : msk v i / 2 ^ dg v i % 2 = 1 ↔ ∃ j, j < i ∧ dg v j = dg v i := by
          rw [← msk_bit, Nat.testBit_eq_decide_div_mod_eq]; simp
        by_cases hs : msk v i / 2 ^ dg v i % 2 = 1
        · rw [hs, if_pos (show nI 1 = 1 from rfl), rz_0]
          obtain ⟨j, j1, j2⟩ := hbit.mp hs
          exact Or.inr ⟨fun hr => by have := hr.2.2 j i (by omega) (by omega) j2; omega, rfl⟩
        · have hne2 : ¬ nI (msk v i / 2 ^ dg v i % 2) = 1 := fun q => hs ((nI_eqk 1 (by omega) (by decide)).mp q)
          rw [if_neg hne2]
          simp only [nm]
          rw [nI_shl1 (by omega), nI_or, nI_1]
          refine ih f (i + 1) (by omega) (by omega) (fun a ha => ?_) (fun a b ha hb e => ?_)
          · by_cases e : a = i
            · subst e; omega
            · exact g1 a (by omega)
          · by_cases ea : a = i
            · by_cases eb : b = i
              · omega
              · exact absurd (hbit.mpr ⟨b, by omega, by rw [← e, ea]⟩) hs
            · by_cases eb : b = i
              · exact absurd (hbit.mpr ⟨a, by omega, by rw [e, eb]⟩) hs
              · exact g2 a b (by omega) (by omega) e
theorem M_isRow_s {N n : Nat} {x : Int64} {h : Hp} (hN : 12 < N) (hM : Mn h n) : ((∃ v, x = lN v ∧ Rw n v) ∧ M_isRow N (some 35) x h = some (1, h)) ∨ ((∀ v, v < 2 ^ 63 → x = lN v → ¬ Rw n v) ∧ M_isRow N (some 35) x h = some (0, h)) := by
  have hM' := hM
  obtain ⟨o, e2, n4, hn⟩ := hM'
  unfold M_isRow
  by_cases h0 : x < 0
  · rw [if_pos ((lg_lt _ _).mpr h0), rz_0]
    refine Or.inr ⟨fun v hv hx => ?_, rfl⟩
    subst hx
    have : (lN v).toInt < 0 := by simpa using Int64.lt_iff_toInt_lt.mp h0
    rw [pf_lI hv] at this
    omega
  · rw [if_neg (fun q => h0 ((lg_lt _ _).mp q))]
    obtain ⟨v, hv, rfl⟩ := pk_lOf h0
    rw [gi_s o, e2, nI_4, shr63 hv (by omega), ← p16]
    have hu : ∀ w, w < 2 ^ 63 → lN v = lN w → w = v := fun w hw e => ((pk_lEQ hv hw).mp e).symm
    by_cases h1 : v / 16 ^ n = 0
    · rw [if_pos ((lg_eq _ _).mpr (by rw [h1]; rfl))]
      have hlt : v < 16 ^ n := by
        rcases Nat.lt_or_ge v (16 ^ n) with q | q
        · exact q
        · have := (Nat.div_pos_iff (a := v) (b := 16 ^ n)).mpr ⟨p16_pos n, q⟩; omega
      have := M_row_loop (N := N) hM hlt n N 0 (by omega) (by omega) (fun a ha => by omega) (fun a b ha hb e => by omega)
      rw [show msk v 0 = 0 from rfl, nI_0, show nI (0 + 1) = 1 from rfl] at this
      rcases this with ⟨a, b⟩ | ⟨a, b⟩
      · exact Or.inl ⟨⟨v, rfl, a⟩, b⟩
      · exact Or.inr ⟨fun w hw e p => a (by rw [hu w hw e] at p; exact p), b⟩
    · rw [if_neg (fun q => h1 ((lN_eq0 (by have := Nat.div_le_self v (16 ^ n); omega)).mp ((lg_eq _ _).mp q))), rz_0]
      refine Or.inr ⟨fun w hw e p => h1 ?_, rfl⟩
      rw [hu w hw e] at p
      exact Nat.div_eq_of_lt p.1
