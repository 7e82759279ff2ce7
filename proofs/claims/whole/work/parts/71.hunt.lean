/-! PURE: where the treble goes -/
theorem chgF_dg : ∀ (f v c p i : Nat), c < 2 ^ f → c &&& (c / 2) = 0 → dg (chgF f v c p) i = if i < p then dg v i else if c.testBit (i - p) = true then dg v (i + 1) else if p + 1 ≤ i ∧ c.testBit (i - p - 1) = true then dg v (i - 1) else dg v i
  | 0, v, c, p, i, hc, ha => by
    have : c = 0 := by simpa using hc
    subst this
    simp [chgF]
  | f + 1, v, c, p, i, hc, ha => by
    have ha' : (c / 2) &&& (c / 2 / 2) = 0 := by
      apply Nat.eq_of_testBit_eq
      intro j
      have := congrArg (fun x => x.testBit (j + 1)) ha
      simp only [Nat.testBit_and, Nat.testBit_div_two, Nat.zero_testBit] at this ⊢
      exact this
    have ih := chgF_dg f (if c % 2 = 1 then sw4 v p else v) (c / 2) (p + 1) i (by rw [Nat.pow_succ] at hc; omega) ha'
    have tb : ∀ j, (c / 2).testBit j = c.testBit (j + 1) := fun j => Nat.testBit_div_two ..
    have t0 : c.testBit 0 = decide (c % 2 = 1) := Nat.testBit_zero ..
    rw [chgF, ih]
    by_cases c1 : c % 2 = 1
    · have n1 : c.testBit 1 = false := by
        have := congrArg (fun x => x.testBit 0) ha
        simp only [Nat.testBit_and, tb, Nat.zero_testBit, t0, c1] at this
        simpa using this
      have t0' : c.testBit 0 = true := by rw [t0, c1]; rfl
      have wp : dg (sw4 v p) p = dg v (p + 1) := by rw [sw4_dg, if_pos rfl]
      have wq : dg (sw4 v p) (p + 1) = dg v p := by rw [sw4_dg, if_neg (by omega), if_pos rfl]
      have wo : ∀ j, j ≠ p → j ≠ p + 1 → dg (sw4 v p) j = dg v j := fun j h1 h2 => by rw [sw4_dg, if_neg h1, if_neg h2]
      simp only [if_pos c1]
      by_cases i1 : i < p
      · rw [if_pos (show i < p + 1 by omega), if_pos i1, wo i (by omega) (by omega)]
      by_cases i2 : i = p
      · subst i2
        rw [if_pos (show i < i + 1 by omega), if_neg i1, Nat.sub_self, if_pos t0', wp]
      by_cases i3 : i = p + 1
      · subst i3
        rw [if_neg (show ¬ p + 1 < p + 1 by omega), if_neg i1, if_neg (show ¬ (c / 2).testBit (p + 1 - (p + 1)) = true by rw [Nat.sub_self, tb, n1]; decide), if_neg (show ¬ (p + 1 + 1 ≤ p + 1 ∧ (c / 2).testBit (p + 1 - (p + 1) - 1) = true) from fun q => by omega), wq, if_neg (show ¬ c.testBit (p + 1 - p) = true by rw [show p + 1 - p = 1 by omega, n1]; decide), if_pos (show p + 1 ≤ p + 1 ∧ c.testBit (p + 1 - p - 1) = true from ⟨by omega, by rw [show p + 1 - p - 1 = 0 by omega]; exact t0'⟩), Nat.add_sub_cancel]
      · rw [if_neg (show ¬ i < p + 1 by omega), if_neg i1, tb, show i - (p + 1) + 1 = i - p by omega]
        by_cases b : c.testBit (i - p) = true
        · rw [if_pos b, if_pos b, wo (i + 1) (by omega) (by omega)]
        · rw [if_neg b, if_neg b]
          by_cases b' : c.testBit (i - p - 1) = true
          · have i4 : i ≠ p + 2 := fun q => by subst q; rw [show p + 2 - p - 1 = 1 by omega, n1] at b'; cases b'
            rw [if_pos (show p + 1 + 1 ≤ i ∧ (c / 2).testBit (i - (p + 1) - 1) = true from ⟨by omega, by rw [tb, show i - (p + 1) - 1 + 1 = i - p - 1 by omega]; exact b'⟩), if_pos (show p + 1 ≤ i ∧ c.testBit (i - p - 1) = true from ⟨by omega, b'⟩), wo (i - 1) (by omega) (by omega)]
          · rw [if_neg (show ¬ (p + 1 + 1 ≤ i ∧ (c / 2).testBit (i - (p + 1) - 1) = true) from fun q => b' (by have := q.2; rw [tb, show i - (p + 1) - 1 + 1 = i - p - 1 by omega] at this; exact this)), if_neg (show ¬ (p + 1 ≤ i ∧ c.testBit (i - p - 1) = true) from fun q => b' q.2), wo i (by omega) (by omega)]
    · have t0' : c.testBit 0 = false := by rw [t0]; simp [c1]
      simp only [if_neg c1]
      by_cases i1 : i < p
      · rw [if_pos (by omega), if_pos i1]
      by_cases i2 : i = p
      · subst i2
        rw [if_pos (by omega), if_neg i1, Nat.sub_self, t0', if_neg (by decide), if_neg (by omega)]
      · rw [if_neg (show ¬ i < p + 1 by omega), if_neg i1, tb, show i - (p + 1) + 1 = i - p by omega]
        by_cases b : c.testBit (i - p) = true
        · rw [if_pos b, if_pos b]
        · rw [if_neg b, if_neg b]
          by_cases i3 : i = p + 1
          · subst i3
            rw [if_neg (by omega), if_neg (fun q => by have := q.2; rw [show p + 1 - p - 1 = 0 by omega, t0'] at this; cases this)]
          · by_cases b' : c.testBit (i - p - 1) = true
            · rw [if_pos (show p + 1 + 1 ≤ i ∧ (c / 2).testBit (i - (p + 1) - 1) = true from ⟨by omega, by rw [tb, show i - (p + 1) - 1 + 1 = i - p - 1 by omega]; exact b'⟩), if_pos ⟨by omega, b'⟩]
            · rw [if_neg (show ¬ (p + 1 + 1 ≤ i ∧ (c / 2).testBit (i - (p + 1) - 1) = true) from fun q => b' (by have := q.2; rw [tb, show i - (p + 1) - 1 + 1 = i - p - 1 by omega] at this; exact this)), if_neg (fun q => b' q.2)]
theorem chg_dg {n v c : Nat} (hn : n ≤ 12) (hc : Ch n c) (i : Nat) : dg (chg v c) i = if c.testBit i = true then dg v (i + 1) else if 1 ≤ i ∧ c.testBit (i - 1) = true then dg v (i - 1) else dg v i := by
  have := chgF_dg 11 v c 0 i (ch_lt hn hc) hc.2
  rw [if_neg (by omega), Nat.sub_zero] at this
  rw [chg, this]
/-- a bell at place a (from 0 on) before change c is there behind it -/
def plb (a c : Nat) : Nat := if c.testBit a = true then a + 1 else if 1 ≤ a ∧ c.testBit (a - 1) = true then a - 1 else a
theorem ch_adj {n c : Nat} (hc : Ch n c) (a : Nat) (h : c.testBit a = true) : c.testBit (a + 1) = false := by
  have := congrArg (fun x => x.testBit a) hc.2
  simp only [Nat.testBit_and, Nat.testBit_div_two, Nat.zero_testBit, h] at this
  simpa using this
theorem ch_big {n c : Nat} (hc : Ch n c) (a : Nat) (h : n ≤ a + 1) : c.testBit a = false := Nat.testBit_lt_two_pow (Nat.lt_of_lt_of_le hc.1 (Nat.pow_le_pow_right (by decide) (by omega)))
theorem plb_dg {n v c a : Nat} (hn : n ≤ 12) (hc : Ch n c) (ha : a < n) (h : dg v a = 1) : plb a c < n ∧ dg (chg v c) (plb a c) = 1 := by
  unfold plb
  rw [chg_dg hn hc]
  by_cases b : c.testBit a = true
  · rw [if_pos b]
    refine ⟨?_, ?_⟩
    · rcases Nat.lt_or_ge (a + 1) n with q | q
      · exact q
      · rw [ch_big hc a q] at b; cases b
    · rw [ch_adj hc a b, if_neg (by decide), if_pos ⟨by omega, by rw [Nat.add_sub_cancel]; exact b⟩, Nat.add_sub_cancel]
      exact h
  · rw [if_neg b]
    by_cases b' : 1 ≤ a ∧ c.testBit (a - 1) = true
    · rw [if_pos b', if_pos b'.2, show a - 1 + 1 = a by omega]
      exact ⟨by omega, h⟩
    · rw [if_neg b', if_neg b, if_neg b']
      exact ⟨ha, h⟩
def tpl (f : Nat → Nat) : Nat → Nat
  | 0 => 0
  | k + 1 => plb (tpl f k) (f k)
theorem tpl_ok {n M : Nat} {f : Nat → Nat} (h4 : 4 ≤ n) (hn : n ≤ 12) (hf : ∀ k, k < M → Ch n (f k)) : ∀ k, k ≤ M → tpl f k < n ∧ dg (rng f (rd n) k) (tpl f k) = 1
  | 0, _ => ⟨by show 0 < n; omega, rd_dg n hn 0 (by omega)⟩
  | k + 1, hk => by
    obtain ⟨h1, h2⟩ := tpl_ok h4 hn hf k (by omega)
    exact plb_dg hn (hf k (by omega)) h1 h2
/-! the class's walk -/
theorem shr_bit {c s : Nat} (hc : c < 2 ^ 31) (hs : s < 31) : ((nI c >>> (nI s &&& 31)) &&& (1 : Int32) = 0) ↔ c.testBit s = false := by
  rw [bit_s hc hs]
  by_cases b : c.testBit s = true
  · rw [if_pos b, b]; exact ⟨fun q => absurd q i10, fun q => by cases q⟩
  · rw [if_neg b]; exact ⟨fun _ => by simpa using b, fun _ => rfl⟩
theorem placeBehind_s {N n a c : Nat} {h : Hp} (hn : n ≤ 12) (hc : Ch n c) (ha : a < n) : Meth_placeBehind N (nI (a + 1)) (nI c) h = some (nI (plb a c + 1), h) := by
  have cl := ch_lt hn hc
  unfold Meth_placeBehind plb
  rw [nI_m1 (by omega), Nat.add_sub_cancel]
  by_cases b : c.testBit a = true
  · rw [if_neg (fun q => by have := (shr_bit (by omega) (by omega)).mp q; rw [b] at this; cases this), if_pos b, nI_1]
  · have b0 : c.testBit a = false := by simpa using b
    rw [if_pos ((shr_bit (by omega) (by omega)).mpr b0), if_neg b]
    by_cases a1 : a = 0
    · rw [if_pos ((leN_1 (by omega)).mpr (by omega)), if_neg (by omega)]
    · rw [if_neg (fun q => by have := (leN_1 (by omega)).mp q; omega), sN_2 (by omega), show a + 1 - 2 = a - 1 by omega]
      by_cases b' : c.testBit (a - 1) = true
      · rw [if_neg (fun q => by have := (shr_bit (by omega) (by omega)).mp q; rw [b'] at this; cases this), if_pos ⟨by omega, b'⟩, show a - 1 + 1 = a by omega]
      · rw [if_pos ((shr_bit (by omega) (by omega)).mpr (by simpa using b')), if_neg (fun q => b' q.2)]
/-- a lead that lies where the class reads it -/
def Ld (h : Hp) (y yc n : Nat) (M : Nat) (f : Nat → Nat) : Prop := ok h [0] y = true ∧ ok h [13] yc = true ∧ hK h yc = (13, 100) ∧ hR h y 0 = some yc ∧ hI h y 1 = nI M ∧ M ≤ 100 ∧ (∀ k, k < M → hI h yc k = nI (f k)) ∧ ∀ k, k < M → Ch n (f k)
theorem treble_loop {N n y yc M : Nat} {f : Nat → Nat} {h : Hp} (h4 : 4 ≤ n) (hn : n ≤ 12) (l : Ld h y yc n M f) : ∀ (r g k : Nat), k + r = M → r < g → Meth_trebleBehind_4 N g (some y) (nI (tpl f k + 1)) (nI k) h = some (nI (tpl f M + 1), h)
  | 0, g + 1, k, hk, hf => by
    obtain ⟨l1, l2, l3, l4, l5, l6, l7, l8⟩ := l
    rw [Meth_trebleBehind_4, gi_s l1, l5, if_pos ((nI_leI (by omega) (by omega)).mpr (by omega)), show k = M by omega]
  | r + 1, g + 1, k, hk, hf => by
    have ih := treble_loop (N := N) h4 hn l r g (k + 1) (by omega) (by omega)
    obtain ⟨l1, l2, l3, l4, l5, l6, l7, l8⟩ := l
    have t := (tpl_ok h4 hn l8 k (by omega)).1
    rw [Meth_trebleBehind_4, gi_s l1, l5, if_neg (fun q => by have := (nI_leI (by omega) (by omega)).mp q; omega), gr_s l1, l4, li_s l2 (by rw [l3]; show k < 100; omega) (by rw [l3]; decide), l7 k (by omega), placeBehind_s hn (l8 k (by omega)) t, cl_s, nmE, nI_1]
    exact ih
theorem little_loop {N n b y yc M : Nat} {f : Nat → Nat} {h : Hp} (h4 : 4 ≤ n) (hn : n ≤ 12) (ob : ok h [1] b = true) (hb : hI h b 0 = nI n) (l : Ld h y yc n M f) : ∀ (r g k : Nat), k + r = M → r < g → ∃ q : Bool, (q = true ↔ ∀ j, k ≤ j → j < M → tpl f (j + 1) + 1 ≠ n) ∧ Little_trebleKeepsOffLastPlace_4 N g (some b) (some y) (nI (tpl f k + 1)) (nI k) h = some (qI q, h)
  | 0, g + 1, k, hk, hf => by
    obtain ⟨l1, l2, l3, l4, l5, l6, l7, l8⟩ := l
    refine ⟨true, ⟨fun _ j h1 h2 => by omega, fun _ => rfl⟩, ?_⟩
    rw [Little_trebleKeepsOffLastPlace_4, gi_s l1, l5, if_pos ((nI_leI (by omega) (by omega)).mpr (by omega)), rz_1]
    rfl
  | r + 1, g + 1, k, hk, hf => by
    obtain ⟨q, q1, q2⟩ := little_loop (N := N) h4 hn ob hb l r g (k + 1) (by omega) (by omega)
    obtain ⟨l1, l2, l3, l4, l5, l6, l7, l8⟩ := l
    have t := (tpl_ok h4 hn l8 k (by omega)).1
    have t' := (tpl_ok h4 hn l8 (k + 1) (by omega)).1
    have e : Little_trebleKeepsOffLastPlace_4 N (g + 1) (some b) (some y) (nI (tpl f k + 1)) (nI k) h = if nI (tpl f (k + 1) + 1) = nI n then (rz 0 h) else Little_trebleKeepsOffLastPlace_4 N g (some b) (some y) (nI (tpl f (k + 1) + 1)) (nI (k + 1)) h := by
      rw [Little_trebleKeepsOffLastPlace_4, gi_s l1, l5, if_neg (fun q => by have := (nI_leI (by omega) (by omega)).mp q; omega), gr_s l1, l4, li_s l2 (by rw [l3]; show k < 100; omega) (by rw [l3]; decide), l7 k (by omega), placeBehind_s hn (l8 k (by omega)) t, cl_s, gi_s ob, hb, nmE, nI_1]
      rfl
    rw [e]
    by_cases c : tpl f (k + 1) + 1 = n
    · refine ⟨false, ⟨fun q => (by cases q), fun q => absurd c (q k (by omega) (by omega))⟩, ?_⟩
      rw [if_pos (by rw [c]), rz_0]
      rfl
    · refine ⟨q, ⟨fun w j h1 h2 => ?_, fun w => q1.mpr (fun j h1 h2 => w j (by omega) h2)⟩, ?_⟩
      · by_cases q : j = k
        · subst q; exact c
        · exact q1.mp w j (by omega) h2
      · rw [if_neg (fun w => c ((nI_eqk _ (by omega) (by omega)).mp w)), q2]
