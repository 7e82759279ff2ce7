/-! PURE: how often the treble is at each place; inner places -/
def occ (f : Nat → Nat) (M a : Nat) : Nat := cnt (fun k => tpl f (k + 1)) a M
theorem cnt_le (f : Nat → Nat) (x : Nat) : ∀ m, cnt f x m ≤ m
  | 0 => Nat.le_refl 0
  | m + 1 => by have := cnt_le f x m; rw [cnt]; split <;> omega
theorem cnt_pos {f : Nat → Nat} {x : Nat} : ∀ m j, j < m → f j = x → 1 ≤ cnt f x m
  | 0, j, hj, _ => by omega
  | m + 1, j, hj, e => by
    rw [cnt]
    by_cases c : j = m
    · subst c; rw [if_pos e]; omega
    · have := cnt_pos m j (by omega) e; omega
theorem occ_s (f : Nat → Nat) (k a : Nat) : occ f (k + 1) a = occ f k a + if tpl f (k + 1) = a then 1 else 0 := rfl
def Ev (f : Nat → Nat) (M n : Nat) : Prop := ∀ a b, a < n → b < n → occ f M a ≠ 0 → occ f M b ≠ 0 → occ f M a = occ f M b
theorem Ev_l {f : Nat → Nat} {M n : Nat} (ht : tpl f M < n) : (∀ j, j < n → occ f M j ≠ 0 → occ f M j = occ f M (tpl f M)) ↔ Ev f M n := by
  constructor
  · intro h a b ha hb a0 b0
    rw [h a ha a0, h b hb b0]
  · intro h j hj j0
    rcases Nat.eq_zero_or_pos M with e | e
    · subst e; exact absurd rfl j0
    · refine h j (tpl f M) hj ht j0 ?_
      have := cnt_pos (f := fun k => tpl f (k + 1)) (x := tpl f M) M (M - 1) (by omega) (by show tpl f (M - 1 + 1) = tpl f M; rw [show M - 1 + 1 = M by omega])
      unfold occ
      omega
theorem even_2 {N n b g M : Nat} {f : Nat → Nat} {h : Hp} (hM : M ≤ 100) (hn : n ≤ 12) (ob : ok h [7, 10] b = true) (hb : hI h b 0 = nI n) (og : ok h [13] g = true) (kg : hK h g = (13, 13)) (ht : tpl f M < n) (hv : ∀ a, a < n → hI h g (a + 1) = nI (occ f M a)) : ∀ (r u i : Nat), i + r = n → r < u → ∃ q : Bool, (q = true ↔ ∀ j, i ≤ j → j < n → occ f M j ≠ 0 → occ f M j = occ f M (tpl f M)) ∧ Treble_trebleIsAsOftenAtEachPlace_47 N u (some b) (some g) (nI (tpl f M + 1)) (nI (i + 1)) h = some (qI q, h)
  | 0, u + 1, i, hi, hu => by
    refine ⟨true, ⟨fun _ j h1 h2 => by omega, fun _ => rfl⟩, ?_⟩
    rw [Treble_trebleIsAsOftenAtEachPlace_47, gi_s ob, hb, if_pos ((nI_ltI (by omega) (by omega)).mpr (by omega)), rz_1]
    rfl
  | r + 1, u + 1, i, hi, hu => by
    obtain ⟨q, q1, q2⟩ := even_2 (N := N) hM hn ob hb og kg ht hv r u (i + 1) (by omega) (by omega)
    have ole : ∀ a, occ f M a ≤ 100 := fun a => Nat.le_trans (cnt_le _ _ _) hM
    have o1 := ole i
    have o2 := ole (tpl f M)
    have e75 : Treble_trebleIsAsOftenAtEachPlace_75 N (Treble_trebleIsAsOftenAtEachPlace_47 N u) (some b) (some g) (nI (tpl f M + 1)) (nI (i + 1)) h = some (qI q, h) := by
      unfold Treble_trebleIsAsOftenAtEachPlace_75
      rw [nmE, nI_1]; exact q2
    rw [Treble_trebleIsAsOftenAtEachPlace_47, gi_s ob, hb, if_neg (fun q => by have := (nI_ltI (by omega) (by omega)).mp q; omega), li_s og (by rw [kg]; show i + 1 < 13; omega) (by rw [kg]; decide), hv i (by omega), li_s og (by rw [kg]; show i + 1 < 13; omega) (by rw [kg]; decide), hv i (by omega), li_s og (by rw [kg]; show tpl f M + 1 < 13; omega) (by rw [kg]; decide), hv _ ht]
    by_cases c : occ f M i = 0
    · rw [if_pos ((nI_eq0 (by omega)).mpr c), e75]
      refine ⟨q, ⟨fun w j h1 h2 h3 => ?_, fun w => q1.mpr (fun j h1 h2 => w j (by omega) h2)⟩, rfl⟩
      by_cases q : j = i
      · subst q; exact absurd c h3
      · exact q1.mp w j (by omega) h2 h3
    · rw [if_neg (fun w => c ((nI_eq0 (by omega)).mp w))]
      by_cases c2 : occ f M i = occ f M (tpl f M)
      · rw [if_pos (by rw [c2]), e75]
        refine ⟨q, ⟨fun w j h1 h2 h3 => ?_, fun w => q1.mpr (fun j h1 h2 => w j (by omega) h2)⟩, rfl⟩
        by_cases q : j = i
        · subst q; exact c2
        · exact q1.mp w j (by omega) h2 h3
      · rw [if_neg (fun w => c2 ((nI_eqk _ (by omega) (by omega)).mp w)), rz_0]
        exact ⟨false, ⟨fun w => (by cases w), fun w => absurd (w i (by omega) (by omega) c) c2⟩, rfl⟩
theorem Ld_f {h h' : Hp} {y yc n M : Nat} {f : Nat → Nat} {P Q : Nat → Nat → Prop} (l : Ld h y yc n M f) (x : Fx P Q h h') (p : ∀ k, ¬ P y k) (p' : ∀ k, ¬ P yc k) : Ld h' y yc n M f := by
  obtain ⟨l1, l2, l3, l4, l5, l6, l7, l8⟩ := l
  exact ⟨by rw [Fx_ok x]; exact l1, by rw [Fx_ok x]; exact l2, by rw [Fx_K x]; exact l3, by rw [Fx_R x]; exact l4, by rw [Fx_I x (p _)]; exact l5, l6, fun k hk => by rw [Fx_I x (p' _)]; exact l7 k hk, l8⟩
theorem even_1 {N n b g y yc M : Nat} {f : Nat → Nat} (hN : 100 < N) (h4 : 4 ≤ n) (hn : n ≤ 12) (gy : g ≠ y ∧ g ≠ yc ∧ g ≠ b) : ∀ (r u k : Nat) (h : Hp), k + r = M → r < u → Ld h y yc n M f → ok h [7, 10] b = true → hI h b 0 = nI n → ok h [13] g = true → hK h g = (13, 13) → (∀ a, a < n → hI h g (a + 1) = nI (occ f k a)) → ∃ (q : Bool) (h' : Hp), (q = true ↔ Ev f M n) ∧ Treble_trebleIsAsOftenAtEachPlace_10 N u (some b) (some y) (some g) (nI (tpl f k + 1)) (nI k) h = some (qI q, h') ∧ Fi (fun a _ => a = g) h h'
  | 0, u + 1, k, h, hk, hu, l, ob, hb, og, kg, hv => by
    obtain ⟨l1, l2, l3, l4, l5, l6, l7, l8⟩ := l
    have ek : k = M := by omega
    subst ek
    have ht := (tpl_ok h4 hn l8 k (Nat.le_refl _)).1
    obtain ⟨q, q1, q2⟩ := even_2 (N := N) l6 hn ob hb og kg ht hv n N 0 (by omega) (by omega)
    refine ⟨q, h, ?_, ?_, Fx_r _ _ _⟩
    · rw [q1, ← Ev_l ht]
      exact ⟨fun w j h1 => w j (by omega) h1, fun w j _ h1 => w j h1⟩
    · rw [Treble_trebleIsAsOftenAtEachPlace_10, gi_s l1, l5, if_pos ((nI_leI (by omega) (by omega)).mpr (by omega))]
      exact q2
  | r + 1, u + 1, k, h, hk, hu, l, ob, hb, og, kg, hv => by
    have l' := l
    obtain ⟨l1, l2, l3, l4, l5, l6, l7, l8⟩ := l
    have t := (tpl_ok h4 hn l8 k (by omega)).1
    have t' := (tpl_ok h4 hn l8 (k + 1) (by omega)).1
    have x0 : Fi (fun a _ => a = g) h (sI h g (tpl f (k + 1) + 1) (nI (occ f k (tpl f (k + 1)) + 1))) := Fx_sI h _ rfl
    obtain ⟨q, h', a1, a2, a3⟩ := even_1 (N := N) (g := g) (b := b) hN h4 hn gy r u (k + 1) _ (by omega) (by omega) (Ld_f l' x0 (by omega) (by omega)) (by rw [Fx_ok x0]; exact ob) (by rw [Fx_I x0 (by omega)]; exact hb) (by rw [Fx_ok x0]; exact og) (by rw [Fx_K x0]; exact kg) (fun a ha => by
      rw [occ_s]
      by_cases c : tpl f (k + 1) = a
      · subst c; rw [sI_at, if_pos rfl]
      · rw [sI_ne (by omega), if_neg c, hv a ha]; rfl)
    refine ⟨q, h', a1, ?_, Fx_t x0 a3⟩
    rw [Treble_trebleIsAsOftenAtEachPlace_10, gi_s l1, l5, if_neg (fun q => by have := (nI_leI (by omega) (by omega)).mp q; omega), gr_s l1, l4, li_s l2 (by rw [l3]; show k < 100; omega) (by rw [l3]; decide), l7 k (by omega), placeBehind_s hn (l8 k (by omega)) t, cl_s, show plb (tpl f k) (f k) = tpl f (k + 1) from rfl, li_s og (by rw [kg]; show tpl f (k + 1) + 1 < 13; omega) (by rw [kg]; decide), hv _ t', nI_1, si_s og (by rw [kg]; show tpl f (k + 1) + 1 < 13; omega) (by rw [kg]; decide), nmE, nI_1]
    exact a2
/-! inner places -/
def Inn (n c : Nat) : Prop := ∃ i, 1 ≤ i ∧ i + 1 < n ∧ c.testBit i = false ∧ c.testBit (i - 1) = false
def Su (f : Nat → Nat) (M n : Nat) : Prop := ∀ k, k < M → tpl f (k + 1) ≠ tpl f k → (min (tpl f k) (tpl f (k + 1)) + 1) % 2 = 0 → Inn n (f k)
theorem jmin_s {a b : Nat} (ha : a < 2 ^ 31) (hb : b < 2 ^ 31) : jmin (nI a) (nI b) = nI (min a b) := by
  unfold jmin
  by_cases c : b < a
  · rw [if_pos ((nI_ltI hb ha).mpr c), Nat.min_eq_right (by omega)]
  · rw [if_neg (fun q => c ((nI_ltI hb ha).mp q)), Nat.min_eq_left (by omega)]
theorem shl1 (c : Nat) : nI c <<< ((1 : Int32) &&& 31) = nI (2 * c) := by
  have : nI c <<< ((1 : Int32) &&& 31) = nI c + nI c := by
    apply Int32.toBitVec_inj.mp
    show (nI c).toBitVec <<< _ = _
    have e : ((1 : Int32) &&& 31).toBitVec.smod 32 = 1#32 := by decide
    rw [e, Int32.toBitVec_add]
    apply BitVec.eq_of_toNat_eq
    rw [BitVec.toNat_add]
    show ((nI c).toBitVec.toNat <<< 1) % 2 ^ 32 = _
    rw [Nat.shiftLeft_eq]
    omega
  rw [this, nI_add, show c + c = 2 * c by omega]
theorem inner_s {N n b c : Nat} {h : Hp} (h4 : 4 ≤ n) (hn : n ≤ 12) (ob : ok h [7] b = true) (hb : hI h b 0 = nI n) (hc : Ch n c) : ∃ q : Bool, (q = true ↔ Inn n c) ∧ Surprise_hasInnerPlace N (some b) (nI c) h = some (qI q, h) := by
  have cl := ch_lt hn hc
  have p1 : 2 ^ (n - 1) ≤ 2 ^ 11 := Nat.pow_le_pow_right (by decide) (by omega)
  have p2 : 2 ^ 3 ≤ 2 ^ (n - 1) := Nat.pow_le_pow_right (by decide) (by omega)
  have e : (1 : Int32) <<< ((nI n - 1) &&& 31) - 2 = nI (2 ^ (n - 1) - 2) := by
    rw [nI_m1 (by omega), nI_shl1 (by omega), sN_2 (by omega)]
  have ft : ∀ x, (2 ^ (n - 1) - 2).testBit x = (decide (1 ≤ x) && decide (x ≤ n - 2)) := by
    intro x
    have := full_bit (n - 2) x
    rw [show n - 2 + 1 = n - 1 by omega] at this
    exact this
  have t2 : ∀ x, (2 * c).testBit x = (decide (1 ≤ x) && c.testBit (x - 1)) := by
    intro x
    have := Nat.testBit_two_pow_mul (i := 1) (a := c) (j := x)
    simpa using this
  have zt : ∀ x, ((2 ^ (n - 1) - 2) ^^^ ((2 ^ (n - 1) - 2) &&& (c ||| 2 * c))).testBit x = ((2 ^ (n - 1) - 2).testBit x && !(c ||| 2 * c).testBit x) := by
    intro x
    rw [Nat.testBit_xor, Nat.testBit_and]
    cases (2 ^ (n - 1) - 2).testBit x <;> simp
  have zl : (2 ^ (n - 1) - 2) ^^^ ((2 ^ (n - 1) - 2) &&& (c ||| 2 * c)) < 2 ^ 11 := Nat.xor_lt_two_pow (by omega) (Nat.lt_of_le_of_lt Nat.and_le_left (by omega))
  have ez : (2 ^ (n - 1) - 2) ^^^ ((2 ^ (n - 1) - 2) &&& (c ||| 2 * c)) = 0 ↔ ¬ Inn n c := by
    constructor
    · rintro z ⟨i, i1, i2, i3, i4⟩
      have := zt i
      rw [z, Nat.zero_testBit, ft, Nat.testBit_or, t2, i3, i4] at this
      simp at this
      omega
    · intro w
      apply Nat.eq_of_testBit_eq
      intro x
      rw [zt, Nat.zero_testBit, ft, Nat.testBit_or, t2]
      by_cases c1 : 1 ≤ x
      · by_cases c2 : x ≤ n - 2
        · by_cases b1 : c.testBit x = true
          · simp [b1]
          · by_cases b2 : c.testBit (x - 1) = true
            · simp [b2, c1]
            · exact absurd ⟨x, c1, by omega, by simpa using b1, by simpa using b2⟩ w
        · simp [c2]
      · simp [c1]
  unfold Surprise_hasInnerPlace
  rw [nmE, shl1, nI_or, gi_s ob, hb, nmE, e, nI_andnot (c := (2 ^ (n - 1) - 2) ^^^ ((2 ^ (n - 1) - 2) &&& (c ||| 2 * c))) (fun x _ => zt x)]
  by_cases w : Inn n c
  · exact ⟨true, ⟨fun _ => w, fun _ => rfl⟩, by rw [if_neg (fun q => (ez.mp ((nI_eq0 (by omega)).mp q)) w), rz_1]; rfl⟩
  · exact ⟨false, ⟨fun q => (by cases q), fun q => absurd q w⟩, by rw [if_pos ((nI_eq0 (by omega)).mpr (ez.mpr w)), rz_0]; rfl⟩
theorem min1 (a b : Nat) : min (a + 1) (b + 1) = min a b + 1 := by omega
theorem nI_par {m : Nat} (hm : m < 2 ^ 31) : (nI m - nI m / 2 * 2 = 0) ↔ m % 2 = 0 := by
  rw [show nI m - nI m / 2 * 2 = nI (m % 2) from nI_mod (b := 2) (by omega) hm (by omega), nI_eq0 (by omega)]
theorem surp_loop {N n b y yc M : Nat} {f : Nat → Nat} {h : Hp} (h4 : 4 ≤ n) (hn : n ≤ 12) (ob : ok h [7] b = true) (hb : hI h b 0 = nI n) (l : Ld h y yc n M f) : ∀ (r u k : Nat), k + r = M → r < u → ∃ q : Bool, (q = true ↔ ∀ j, k ≤ j → j < M → tpl f (j + 1) ≠ tpl f j → (min (tpl f j) (tpl f (j + 1)) + 1) % 2 = 0 → Inn n (f j)) ∧ Surprise_hasPlacesWhereTrebleCrosses_4 N u (some b) (some y) (nI (tpl f k + 1)) (nI k) h = some (qI q, h)
  | 0, u + 1, k, hk, hf => by
    obtain ⟨l1, l2, l3, l4, l5, l6, l7, l8⟩ := l
    refine ⟨true, ⟨fun _ j h1 h2 => by omega, fun _ => rfl⟩, ?_⟩
    rw [Surprise_hasPlacesWhereTrebleCrosses_4, gi_s l1, l5, if_pos ((nI_leI (by omega) (by omega)).mpr (by omega)), rz_1]
    rfl
  | r + 1, u + 1, k, hk, hf => by
    obtain ⟨q, q1, q2⟩ := surp_loop (N := N) h4 hn ob hb l r u (k + 1) (by omega) (by omega)
    obtain ⟨l1, l2, l3, l4, l5, l6, l7, l8⟩ := l
    have t := (tpl_ok h4 hn l8 k (by omega)).1
    have t' := (tpl_ok h4 hn l8 (k + 1) (by omega)).1
    have e56 : Surprise_hasPlacesWhereTrebleCrosses_56 N (Surprise_hasPlacesWhereTrebleCrosses_4 N u) (some b) (some y) (nI k) (nI (tpl f (k + 1) + 1)) h = some (qI q, h) := by
      unfold Surprise_hasPlacesWhereTrebleCrosses_56
      rw [nmE, nI_1]; exact q2
    have ext : (tpl f (k + 1) ≠ tpl f k → (min (tpl f k) (tpl f (k + 1)) + 1) % 2 = 0 → Inn n (f k)) → (q = true ↔ ∀ j, k ≤ j → j < M → tpl f (j + 1) ≠ tpl f j → (min (tpl f j) (tpl f (j + 1)) + 1) % 2 = 0 → Inn n (f j)) := by
      intro c
      refine ⟨fun w j h1 h2 => ?_, fun w => q1.mpr (fun j h1 h2 => w j (by omega) h2)⟩
      by_cases e : j = k
      · subst e; exact c
      · exact q1.mp w j (by omega) h2
    rw [Surprise_hasPlacesWhereTrebleCrosses_4, gi_s l1, l5, if_neg (fun q => by have := (nI_leI (by omega) (by omega)).mp q; omega), gr_s l1, l4, li_s l2 (by rw [l3]; show k < 100; omega) (by rw [l3]; decide), l7 k (by omega), placeBehind_s hn (l8 k (by omega)) t, cl_s, show plb (tpl f k) (f k) = tpl f (k + 1) from rfl]
    by_cases c : tpl f (k + 1) = tpl f k
    · rw [if_pos (by rw [c]), e56]
      exact ⟨q, ext (fun w => absurd c w), rfl⟩
    · rw [if_neg (fun w => c (by have := (nI_eqk _ (by omega) (by omega)).mp w; omega)), nz, if_neg (by decide), jmin_s (by omega) (by omega), min1]
      by_cases p : (min (tpl f k) (tpl f (k + 1)) + 1) % 2 = 0
      · rw [if_pos ((nI_par (by omega)).mpr p), gr_s l1, l4, li_s l2 (by rw [l3]; show k < 100; omega) (by rw [l3]; decide), l7 k (by omega), ds_1 ob]
        obtain ⟨s, s1, s2⟩ := inner_s (N := N) h4 hn ob hb (l8 k (by omega))
        rw [s2, cl_s]
        cases s
        · rw [if_pos (show qI false = 0 from rfl), rz_0]
          exact ⟨false, ⟨fun w => (by cases w), fun w => by have := s1.mpr (w k (by omega) (by omega) c p); cases this⟩, rfl⟩
        · rw [if_neg (show ¬ qI true = 0 by decide), e56]
          exact ⟨q, ext (fun _ _ => s1.mp rfl), rfl⟩
      · rw [if_neg (fun w => p ((nI_par (by omega)).mp w)), e56]
        exact ⟨q, ext (fun _ w => absurd w p), rfl⟩
/-! the model's walk -/
theorem one_loop {N n v a : Nat} {h : Hp} (hn : n ≤ 12) (hv : Rw n v) (ha : a < n) (e : dg v a = 1) : ∀ (r u i : Nat), i + r = a → r < u → M_placeOfOne_2 N u (lN v) (nI (i + 1)) h = some (nI (a + 1), h)
  | 0, u + 1, i, hi, hu => by
    have vl := lN_lt12 hn hv.1
    have : i = a := by omega
    subst this
    rw [M_placeOfOne_2, M_bell_s (by omega) (by omega) (by omega), cl_s, show i + 1 - 1 = i from rfl, e, if_pos cN_1]
  | r + 1, u + 1, i, hi, hu => by
    have vl := lN_lt12 hn hv.1
    have d := dg_lt v i
    rw [M_placeOfOne_2, M_bell_s (by omega) (by omega) (by omega), cl_s, show i + 1 - 1 = i from rfl, if_neg (fun q => by
      have := (eN_1 (by omega)).mp q
      have := hv.2.2 i a (by omega) ha (by rw [this, e])
      omega), nmE, nI_1]
    exact one_loop hn hv ha e r u (i + 1) (by omega) (by omega)
theorem one_s {N n v a : Nat} {h : Hp} (hN : 100 < N) (hn : n ≤ 12) (L : Lay h) (hv : Rw n v) (ha : a < n) (e : dg v a = 1) : ds [(12, M_placeOfOne N (some 35) (lN v) h)] (some 35) h = some (nI (a + 1), h) := by
  rw [dM L]
  exact one_loop hn hv ha e a N 0 (by omega) (by omega)
theorem hunt_2 {N n M : Nat} {f : Nat → Nat} (hN : 100 < N) (h4 : 4 ≤ n) (hn : n ≤ 12) (hM : M ≤ 100) (hf : ∀ k, k < M → Ch n (f k)) : ∀ (r u k : Nat) (h : Hp), k + r = M → r < u → Lay h → hI h 35 14 = nI M → (∀ k, k < M → hI h 45 k = nI (f k)) → (∀ a, a < n → hI h 62 (a + 1) = nI (occ f k a)) → ∃ h', M_hunt_30 N u (some 35) (lN (rng f (rd n) k)) (nI k) h = some ((), h') ∧ Fi (fun a _ => a = 62) h h' ∧ ∀ a, a < n → hI h' 62 (a + 1) = nI (occ f M a)
  | 0, u + 1, k, h, hk, hu, L, l5, l7, hv => by
    have ek : k = M := by omega
    subst ek
    refine ⟨h, ?_, Fx_r _ _ _, hv⟩
    rw [M_hunt_30, gi_s (o35 L), l5, if_pos ((nI_leI (by omega) (by omega)).mpr (by omega))]
  | r + 1, u + 1, k, h, hk, hu, L, l5, l7, hv => by
    have rk := rng_rw (rd_rw hn) hf k (by omega)
    have rk' := rng_rw (rd_rw hn) hf (k + 1) (by omega)
    obtain ⟨t', e'⟩ := tpl_ok h4 hn hf (k + 1) (by omega)
    have x0 : Fi (fun a _ => a = 62) h (sI h 62 (tpl f (k + 1) + 1) (nI (occ f k (tpl f (k + 1)) + 1))) := Fx_sI h _ rfl
    obtain ⟨h', a1, a2, a3⟩ := hunt_2 (N := N) hN h4 hn hM hf r u (k + 1) _ (by omega) (by omega) (Fx_Lay x0 L) (by rw [Fx_I x0 (by omega)]; exact l5) (fun j hj => by rw [Fx_I x0 (by omega)]; exact l7 j hj) (fun a ha => by
      rw [occ_s]
      by_cases c : tpl f (k + 1) = a
      · subst c; rw [sI_at, if_pos rfl]
      · rw [sI_ne (by omega), if_neg c, hv a ha]; rfl)
    refine ⟨h', ?_, Fx_t x0 a2, a3⟩
    rw [M_hunt_30, gi_s (o35 L), l5, if_neg (fun q => by have := (nI_leI (by omega) (by omega)).mp q; omega), gr_s (o35 L), r35_13 L, li_s (o45 L) (by rw [k45 L]; show k < 100; omega) (by rw [k45 L]; decide), l7 k (by omega), M_done_s (by omega) (ch_lt hn (hf k (by omega))) (lN_lt12 hn rk.1), cl_s, gr_s (o35 L), r35_57 L, show chg (rng f (rd n) k) (f k) = rng f (rd n) (k + 1) from rfl, one_s hN hn L rk' t' e', cl_s, li_s (o62 L) (by rw [k62 L]; show tpl f (k + 1) + 1 < 13; omega) (by rw [k62 L]; decide), hv _ t', nI_1, si_s (o62 L) (by rw [k62 L]; show tpl f (k + 1) + 1 < 13; omega) (by rw [k62 L]; decide), nmE, nI_1]
    exact a1
theorem hunt_1 {N n M : Nat} {f : Nat → Nat} (hN : 100 < N) (hM : M ≤ 100) (hf : ∀ k, k < M → Ch n (f k)) : ∀ (r u i : Nat) (h : Hp), i + r = n → r < u → Lay h → Mn h n → hI h 35 14 = nI M → (∀ k, k < M → hI h 45 k = nI (f k)) → (∀ a, a < i → hI h 62 (a + 1) = 0) → ∃ h', M_hunt_2 N u (some 35) (nI (i + 1)) h = some ((), h') ∧ Fi (fun a _ => a = 62) h h' ∧ ∀ a, a < n → hI h' 62 (a + 1) = nI (occ f M a)
  | 0, u + 1, i, h, hi, hu, L, mn, l5, l7, hv => by
    have hn := mn.2.2
    obtain ⟨h', a1, a2, a3⟩ := hunt_2 (N := N) hN hn.1 hn.2 hM hf M N 0 h (by omega) (by omega) L l5 l7 (fun a ha => hv a (by omega))
    refine ⟨h', ?_, a2, a3⟩
    rw [M_hunt_2, gi_s (o35 L), mn.2.1, if_pos ((nI_ltI (by omega) (by omega)).mpr (by omega)), dM L, M_rounds_s (by omega) mn, cl_s]
    exact a1
  | r + 1, u + 1, i, h, hi, hu, L, mn, l5, l7, hv => by
    have hn := mn.2.2
    have x0 : Fi (fun a _ => a = 62) h (sI h 62 (i + 1) 0) := Fx_sI h _ rfl
    obtain ⟨h', a1, a2, a3⟩ := hunt_1 (N := N) hN hM hf r u (i + 1) _ (by omega) (by omega) (Fx_Lay x0 L) ⟨mn.1, by rw [sI_ne (by omega)]; exact mn.2.1, mn.2.2⟩ (by rw [Fx_I x0 (by omega)]; exact l5) (fun j hj => by rw [Fx_I x0 (by omega)]; exact l7 j hj) (fun a ha => by
      by_cases c : a = i
      · subst c; rw [sI_at]
      · rw [sI_ne (by omega)]; exact hv a (by omega))
    refine ⟨h', ?_, Fx_t x0 a2, a3⟩
    rw [M_hunt_2, gi_s (o35 L), mn.2.1, if_neg (fun q => by have := (nI_ltI (by omega) (by omega)).mp q; omega), gr_s (o35 L), r35_57 L, si_s (o62 L) (by rw [k62 L]; show i + 1 < 13; omega) (by rw [k62 L]; decide), nmE, nI_1]
    exact a1
theorem meven {N n M : Nat} {f : Nat → Nat} {h : Hp} (hM : M ≤ 100) (L : Lay h) (mn : Mn h n) (hv : ∀ a, a < n → hI h 62 (a + 1) = nI (occ f M a)) : ∀ (r u i z : Nat), i + r = n → r < u → z ≤ 100 → (z ≠ 0 → ∃ j, j < i ∧ occ f M j = z) → (∀ j, j < i → occ f M j ≠ 0 → occ f M j = z) → ∃ q : Bool, (q = true ↔ Ev f M n) ∧ M_isEven_4 N u (some 35) (nI z) (nI (i + 1)) h = some (qI q, h)
  | 0, u + 1, i, z, hi, hu, hz, z1, z2 => by
    have hn := mn.2.2
    refine ⟨true, ⟨fun _ a b ha hb a0 b0 => by rw [z2 a (by omega) a0, z2 b (by omega) b0], fun _ => rfl⟩, ?_⟩
    rw [M_isEven_4, gi_s (o35 L), mn.2.1, if_pos ((nI_ltI (by omega) (by omega)).mpr (by omega)), rz_1]
    rfl
  | r + 1, u + 1, i, z, hi, hu, hz, z1, z2 => by
    have hn := mn.2.2
    have oi : occ f M i ≤ 100 := Nat.le_trans (cnt_le _ _ _) hM
    have e47 : ∀ z, z ≤ 100 → (z ≠ 0 → ∃ j, j < i + 1 ∧ occ f M j = z) → (∀ j, j < i + 1 → occ f M j ≠ 0 → occ f M j = z) → ∃ q : Bool, (q = true ↔ Ev f M n) ∧ M_isEven_47 N (M_isEven_4 N u) (some 35) (nI z) (nI (i + 1)) h = some (qI q, h) := by
      intro z hz z1 z2
      unfold M_isEven_47
      rw [nmE, nI_1]
      exact meven (N := N) hM L mn hv r u (i + 1) z (by omega) (by omega) hz z1 z2
    rw [M_isEven_4, gi_s (o35 L), mn.2.1, if_neg (fun q => by have := (nI_ltI (by omega) (by omega)).mp q; omega), gr_s (o35 L), r35_57 L, li_s (o62 L) (by rw [k62 L]; show i + 1 < 13; omega) (by rw [k62 L]; decide), hv i (by omega)]
    by_cases c : occ f M i = 0
    · rw [if_pos ((nI_eq0 (by omega)).mpr c)]
      refine e47 z hz (fun w => by obtain ⟨j, j1, j2⟩ := z1 w; exact ⟨j, by omega, j2⟩) (fun j hj j0 => ?_)
      by_cases e : j = i
      · subst e; exact absurd c j0
      · exact z2 j (by omega) j0
    · rw [if_neg (fun w => c ((nI_eq0 (by omega)).mp w))]
      have e40 : M_isEven_40 N (M_isEven_4 N u) (some 35) (nI (i + 1)) h = M_isEven_47 N (M_isEven_4 N u) (some 35) (nI (occ f M i)) (nI (i + 1)) h := by
        unfold M_isEven_40
        rw [gr_s (o35 L), r35_57 L, li_s (o62 L) (by rw [k62 L]; show i + 1 < 13; omega) (by rw [k62 L]; decide), hv i (by omega)]
      rw [e40]
      by_cases z0 : z = 0
      · rw [if_pos ((nI_eq0 (by omega)).mpr z0)]
        refine e47 (occ f M i) oi (fun _ => ⟨i, by omega, rfl⟩) (fun j hj j0 => ?_)
        by_cases e : j = i
        · rw [e]
        · have := z2 j (by omega) j0
          omega
      · rw [if_neg (fun w => z0 ((nI_eq0 (by omega)).mp w)), gr_s (o35 L), r35_57 L, li_s (o62 L) (by rw [k62 L]; show i + 1 < 13; omega) (by rw [k62 L]; decide), hv i (by omega)]
        by_cases e : z = occ f M i
        · rw [if_pos (by rw [e])]
          refine e47 (occ f M i) oi (fun _ => ⟨i, by omega, rfl⟩) (fun j hj j0 => ?_)
          by_cases e' : j = i
          · rw [e']
          · rw [z2 j (by omega) j0, e]
        · rw [if_neg (fun w => e ((nI_eqk _ (by omega) (by omega)).mp w)), rz_0]
          obtain ⟨j, j1, j2⟩ := z1 z0
          exact ⟨false, ⟨fun w => (by cases w), fun w => absurd (w j i (by omega) (by omega) (by omega) c) (by omega)⟩, rfl⟩
theorem wthn {N n c : Nat} {h : Hp} (L : Lay h) (mn : Mn h n) (hc : c < 2 ^ 11) : ∀ (r u i : Nat), i + r = n - 1 → 1 ≤ i → r < u → ∃ q : Bool, (q = true ↔ ∃ j, i ≤ j ∧ j + 1 < n ∧ c.testBit j = false ∧ c.testBit (j - 1) = false) ∧ M_staysWithin_2 N u (some 35) (nI c) (nI (i + 1)) h = some (qI q, h)
  | 0, u + 1, i, hi, h1, hu => by
    have hn := mn.2.2
    refine ⟨false, ⟨fun w => (by cases w), fun ⟨j, j1, j2, _⟩ => by omega⟩, ?_⟩
    rw [M_staysWithin_2, gi_s (o35 L), mn.2.1, if_pos ((nI_leI (by omega) (by omega)).mpr (by omega)), rz_0]
    rfl
  | r + 1, u + 1, i, hi, h1, hu => by
    have hn := mn.2.2
    obtain ⟨q, q1, q2⟩ := wthn (N := N) L mn hc r u (i + 1) (by omega) (by omega) (by omega)
    have e32 : M_staysWithin_32 N (M_staysWithin_2 N u) (some 35) (nI c) (nI (i + 1)) h = some (qI q, h) := by
      unfold M_staysWithin_32
      rw [nmE, nI_1]; exact q2
    have ext : ¬ (c.testBit i = false ∧ c.testBit (i - 1) = false) → (q = true ↔ ∃ j, i ≤ j ∧ j + 1 < n ∧ c.testBit j = false ∧ c.testBit (j - 1) = false) := by
      intro w
      rw [q1]
      constructor
      · rintro ⟨j, j1, j2⟩; exact ⟨j, by omega, j2⟩
      · rintro ⟨j, j1, j2, j3⟩
        refine ⟨j, ?_, j2, j3⟩
        by_cases e : j = i
        · subst e; exact absurd j3 w
        · omega
    rw [M_staysWithin_2, gi_s (o35 L), mn.2.1, if_neg (fun q => by have := (nI_leI (by omega) (by omega)).mp q; omega), nI_m1 (by omega), Nat.add_sub_cancel, sN_2 (by omega), show i + 1 - 2 = i - 1 by omega]
    by_cases a : c.testBit i = false
    · rw [if_pos ((shr_bit (by omega) (by omega)).mpr a)]
      by_cases b : c.testBit (i - 1) = false
      · rw [if_pos ((shr_bit (by omega) (by omega)).mpr b), rz_1]
        exact ⟨true, ⟨fun _ => ⟨i, by omega, by omega, a, b⟩, fun _ => rfl⟩, rfl⟩
      · rw [if_neg (fun w => b ((shr_bit (by omega) (by omega)).mp w)), e32]
        exact ⟨q, ext (fun w => b w.2), rfl⟩
    · rw [if_neg (fun w => a ((shr_bit (by omega) (by omega)).mp w)), e32]
      exact ⟨q, ext (fun w => a w.1), rfl⟩
theorem msurp {N n M : Nat} {f : Nat → Nat} {h : Hp} (hN : 100 < N) (hM : M ≤ 100) (hf : ∀ k, k < M → Ch n (f k)) (L : Lay h) (mn : Mn h n) (l5 : hI h 35 14 = nI M) (l7 : ∀ k, k < M → hI h 45 k = nI (f k)) : ∀ (r u k : Nat), k + r = M → r < u → ∃ q : Bool, (q = true ↔ ∀ j, k ≤ j → j < M → tpl f (j + 1) ≠ tpl f j → (min (tpl f j) (tpl f (j + 1)) + 1) % 2 = 0 → Inn n (f j)) ∧ M_isSurprising_7 N u (some 35) (lN (rng f (rd n) k)) (nI k) h = some (qI q, h)
  | 0, u + 1, k, hk, hu => by
    refine ⟨true, ⟨fun _ j h1 h2 => by omega, fun _ => rfl⟩, ?_⟩
    rw [M_isSurprising_7, gi_s (o35 L), l5, if_pos ((nI_leI (by omega) (by omega)).mpr (by omega)), rz_1]
    rfl
  | r + 1, u + 1, k, hk, hu => by
    have hn := mn.2.2
    obtain ⟨q, q1, q2⟩ := msurp (N := N) hN hM hf L mn l5 l7 r u (k + 1) (by omega) (by omega)
    have rk := rng_rw (rd_rw hn.2) hf k (by omega)
    have rk' := rng_rw (rd_rw hn.2) hf (k + 1) (by omega)
    obtain ⟨t, e⟩ := tpl_ok hn.1 hn.2 hf k (by omega)
    obtain ⟨t', e'⟩ := tpl_ok hn.1 hn.2 hf (k + 1) (by omega)
    have e74 : M_isSurprising_74 N (M_isSurprising_7 N u) (some 35) (lN (rng f (rd n) (k + 1))) (nI k) h = some (qI q, h) := by
      unfold M_isSurprising_74
      rw [nmE, nI_1]; exact q2
    have ext : (tpl f (k + 1) ≠ tpl f k → (min (tpl f k) (tpl f (k + 1)) + 1) % 2 = 0 → Inn n (f k)) → (q = true ↔ ∀ j, k ≤ j → j < M → tpl f (j + 1) ≠ tpl f j → (min (tpl f j) (tpl f (j + 1)) + 1) % 2 = 0 → Inn n (f j)) := by
      intro c
      refine ⟨fun w j h1 h2 => ?_, fun w => q1.mpr (fun j h1 h2 => w j (by omega) h2)⟩
      by_cases e : j = k
      · subst e; exact c
      · exact q1.mp w j (by omega) h2
    rw [M_isSurprising_7, gi_s (o35 L), l5, if_neg (fun q => by have := (nI_leI (by omega) (by omega)).mp q; omega), one_s hN hn.2 L rk t e, cl_s, gr_s (o35 L), r35_13 L, li_s (o45 L) (by rw [k45 L]; show k < 100; omega) (by rw [k45 L]; decide), l7 k (by omega), M_done_s (by omega) (ch_lt hn.2 (hf k (by omega))) (lN_lt12 hn.2 rk.1), cl_s, show chg (rng f (rd n) k) (f k) = rng f (rd n) (k + 1) from rfl, one_s hN hn.2 L rk' t' e', cl_s]
    by_cases c : tpl f (k + 1) = tpl f k
    · rw [if_pos (by rw [c]), e74]
      exact ⟨q, ext (fun w => absurd c w), rfl⟩
    · rw [if_neg (fun w => c (by have := (nI_eqk _ (by omega) (by omega)).mp w; omega)), nz, if_neg (by decide), jmin_s (by omega) (by omega), min1, Nat.min_comm]
      by_cases p : (min (tpl f k) (tpl f (k + 1)) + 1) % 2 = 0
      · rw [if_pos ((nI_par (by omega)).mpr p), gr_s (o35 L), r35_13 L, li_s (o45 L) (by rw [k45 L]; show k < 100; omega) (by rw [k45 L]; decide), l7 k (by omega), dM L]
        obtain ⟨s, s1, s2⟩ := wthn (N := N) L mn (ch_lt hn.2 (hf k (by omega))) (n - 2) N 1 (by omega) (by omega) (by omega)
        rw [show M_staysWithin N (some 35) (nI (f k)) h = _ from s2, cl_s]
        cases s
        · rw [if_pos (show qI false = 0 from rfl), rz_0]
          exact ⟨false, ⟨fun w => (by cases w), fun w => by have := s1.mpr (w k (by omega) (by omega) c p); cases this⟩, rfl⟩
        · rw [if_neg (show ¬ qI true = 0 by decide), e74]
          exact ⟨q, ext (fun _ _ => s1.mp rfl), rfl⟩
      · rw [if_neg (fun w => p ((nI_par (by omega)).mp w)), e74]
        exact ⟨q, ext (fun _ w => absurd w p), rfl⟩
