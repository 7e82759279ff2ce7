/-! PURE: notation: pairs of places, signs, the class's state -/
def prF : Nat → Nat → Nat → Nat → Nat
  | 0, c, _, _ => c
  | f + 1, c, a, b => if b ≤ a then c else prF f (c ||| 2 ^ (a - 1)) (a + 2) b
theorem prF_or : ∀ (f c a b : Nat), prF f c a b = c ||| prF f 0 a b
  | 0, c, a, b => by simp [prF]
  | f + 1, c, a, b => by
    simp only [prF]
    by_cases q : b ≤ a
    · rw [if_pos q, if_pos q, Nat.or_zero]
    · rw [if_neg q, if_neg q, prF_or f (c ||| 2 ^ (a - 1)) (a + 2) b, prF_or f (0 ||| 2 ^ (a - 1)) (a + 2) b, Nat.zero_or, Nat.or_assoc]
theorem gd_or {c a : Nat} (hc : c < 2 ^ (a - 2)) (g : c &&& (c / 2) = 0) (ha : 1 ≤ a) : (c ||| 2 ^ (a - 1)) &&& ((c ||| 2 ^ (a - 1)) / 2) = 0 ∧ c ||| 2 ^ (a - 1) < 2 ^ a := by
  refine ⟨?_, Nat.or_lt_two_pow (Nat.lt_of_lt_of_le hc (Nat.pow_le_pow_right (by decide) (by omega))) (Nat.pow_lt_pow_right (by decide) (by omega))⟩
  apply Nat.eq_of_testBit_eq
  intro i
  have g1 : (c.testBit i && c.testBit (i + 1)) = false := by
    have := congrArg (fun x => Nat.testBit x i) g
    simpa only [Nat.testBit_and, Nat.testBit_div_two, Nat.zero_testBit] using this
  have big : ∀ j, a - 2 ≤ j → c.testBit j = false := fun j hj => Nat.testBit_lt_two_pow (Nat.lt_of_lt_of_le hc (Nat.pow_le_pow_right (by decide) hj))
  rw [Nat.testBit_and, Nat.testBit_div_two, Nat.testBit_or, Nat.testBit_or, Nat.testBit_two_pow, Nat.testBit_two_pow, Nat.zero_testBit]
  by_cases p : a - 1 = i
  · rw [big (i + 1) (by omega), decide_eq_false (show ¬ a - 1 = i + 1 by omega)]; simp
  · rw [decide_eq_false p, Bool.or_false]
    by_cases q : a - 1 = i + 1
    · rw [big i (by omega)]; simp
    · rw [decide_eq_false q, Bool.or_false]; exact g1
theorem prF_ok : ∀ (f c a b : Nat), 1 ≤ a → c < 2 ^ (a - 2) → c &&& (c / 2) = 0 → (prF f c a b) &&& (prF f c a b / 2) = 0 ∧ (c < 2 ^ (b - 1) → prF f c a b < 2 ^ (b - 1))
  | 0, c, a, b, _, _, h3 => ⟨h3, fun q => q⟩
  | f + 1, c, a, b, h1, h2, h3 => by
    simp only [prF]
    by_cases q : b ≤ a
    · rw [if_pos q]; exact ⟨h3, fun q => q⟩
    · rw [if_neg q]
      obtain ⟨g1, g2⟩ := gd_or h2 h3 h1
      obtain ⟨p1, p2⟩ := prF_ok f (c ||| 2 ^ (a - 1)) (a + 2) b (by omega) g2 g1
      exact ⟨p1, fun _ => p2 (Nat.lt_of_lt_of_le g2 (Nat.pow_le_pow_right (by decide) (by omega)))⟩
theorem bit_or {c a : Nat} (ha : 1 ≤ a) (h : a < 30) : nI c ||| ((1 : Int32) <<< ((nI a - (1 : Int32)) &&& 31)) = nI (c ||| 2 ^ (a - 1)) := by
  rw [nI_m1 ha, nI_shl1 (by omega), nI_or]
theorem pairs_l {N : Nat} {h : Hp} : ∀ (f g c a b : Nat), b ≤ a + f → f < g → 1 ≤ a → a ≤ 14 → b ≤ 12 → Tape_pairs_4 N g (nI b) (nI c) (nI a) h = some (nI (prF f c a b), h)
  | f, 0, c, a, b, _, h2, _, _, _ => absurd h2 (by omega)
  | 0, g + 1, c, a, b, h1, _, _, h4, h5 => by
    simp only [Tape_pairs_4, prF]
    rw [if_pos ((nI_leI (by omega) (by omega)).mpr (by omega))]
  | f + 1, g + 1, c, a, b, h1, h2, h3, h4, h5 => by
    simp only [Tape_pairs_4, prF]
    by_cases q : b ≤ a
    · rw [if_pos ((nI_leI (by omega) (by omega)).mpr q), if_pos q]
    · rw [if_neg (fun u => q ((nI_leI (by omega) (by omega)).mp u)), if_neg q, nmE, nmE, bit_or h3 (by omega), aN_2]
      exact pairs_l f g _ _ _ (by omega) (by omega) (by omega) (by omega) h5
theorem pairs_s {N a b : Nat} {h : Hp} (hN : 100 < N) (h1 : 1 ≤ a) (h2 : a ≤ 13) (h3 : b ≤ 12) : Tape_pairs N (nI a) (nI b) h = some (nI (prF 12 0 a b), h) := by
  unfold Tape_pairs
  exact pairs_l 12 N 0 a b (by omega) (by omega) h1 (by omega) h3
/-! signs -/
def plc (b : Nat) : Nat := if 49 ≤ b ∧ b ≤ 57 then b - 48 else if b = 48 then 10 else if b = 69 then 11 else if b = 84 then 12 else 0
theorem plc_le (b : Nat) : plc b ≤ 12 := by unfold plc; (repeat' split) <;> omega
def plI (x : Int32) : Int32 := if x < 49 then (if x = 48 then 10 else if x = 69 then 11 else if x = 84 then 12 else 0) else if 57 < x then (if x = 48 then 10 else if x = 69 then 11 else if x = 84 then 12 else 0) else x - 48
theorem placeOf_e (N : Nat) (x : Int32) (h : Hp) : M_placeOf N x h = some (plI x, h) := by
  unfold M_placeOf M_placeOf_19 plI
  (repeat' split) <;> rfl
theorem placeTold_e (N : Nat) (x : Int32) (h : Hp) : Tape_placeTold N x h = some (plI x, h) := by
  unfold Tape_placeTold Tape_placeTold_17 plI
  simp only [sw]
  (repeat' split) <;> rfl
def sgn (b : Nat) : Int32 := Int8.toInt32 (Int32.toInt8 (nI b))
theorem pl_b : ∀ b, b < 256 → plI (nI b) = nI (plc b) := by decide +kernel
theorem plS : ∀ b, b < 256 → plI (sgn b) = nI (plc b) := by decide +kernel
theorem sgn_c : ∀ b, b < 256 → (sgn b = 44 ↔ b = 44) ∧ (sgn b = 46 ↔ b = 46) ∧ (sgn b = 120 ↔ b = 120) := by decide +kernel
theorem plI_m1 : plI (-1) = 0 := by decide
/-! what the class has read -/
abbrev TS : Type := Nat × Nat × Nat × Nat × Nat × (Nat → Nat)
def ctc (st tc : Nat) : Nat := if st = 2 then tc + 1 else tc
def cTf (n st tc lp oc : Nat) (T : Nat → Nat) : Nat → Nat := if st = 2 then va_up T tc (prF 12 oc (lp + 1) n) else T
def tk (n st tc fb lp oc : Nat) (T : Nat → Nat) (b : Nat) : Option TS :=
  if b = 44 then (if fb = 0 ∧ (st = 1 ∨ st = 2) then some (0, ctc st tc, ctc st tc, lp, oc, cTf n st tc lp oc T) else none)
  else if b = 46 then (if st = 2 then some (3, ctc st tc, fb, lp, oc, cTf n st tc lp oc T) else none)
  else if b = 120 then (if st = 3 then none else some (1, ctc st tc + 1, fb, lp, oc, va_up (cTf n st tc lp oc T) (ctc st tc) (prF 12 0 1 n)))
  else if plc b = 0 ∨ n < plc b then none
  else if st = 2 then (if plc b ≤ lp ∨ (plc b - lp) % 2 = 0 then none else some (2, tc, fb, plc b, prF 12 oc (lp + 1) (plc b - 1), T))
  else some (2, tc, fb, plc b, prF 12 0 (if plc b % 2 = 0 then 2 else 1) (plc b - 1), T)
def rn (n : Nat) (B : Nat → Nat) : Nat → Nat → TS → Nat ⊕ TS
  | 0, i, s => if s.1 = 1 ∨ s.1 = 2 then .inr s else .inl i
  | r + 1, i, s => match tk n s.1 s.2.1 s.2.2.1 s.2.2.2.1 s.2.2.2.2.1 s.2.2.2.2.2 (B i) with
    | none => .inl i
    | some s' => rn n B r (i + 1) s'
def WS (n i st tc fb lp oc : Nat) (T : Nat → Nat) : Prop :=
  (st ≤ 3 ∧ ctc st tc ≤ i ∧ fb ≤ tc) ∧ (st = 2 → 1 ≤ lp ∧ lp ≤ n ∧ oc < 2 ^ (lp - 1) ∧ oc &&& (oc / 2) = 0) ∧ (∀ j, j < tc → Ch n (T j)) ∧ (st = 0 → fb = tc) ∧ (st ≠ 0 → fb < ctc st tc)
theorem ctc_le (st tc : Nat) : tc ≤ ctc st tc ∧ ctc st tc ≤ tc + 1 := by unfold ctc; split <;> omega
theorem cT_ch {n i st tc fb lp oc : Nat} {T : Nat → Nat} (w : WS n i st tc fb lp oc T) : ∀ j, j < ctc st tc → Ch n (cTf n st tc lp oc T j) := by
  obtain ⟨⟨w1, w2, w3⟩, w4, w5, w6, w7⟩ := w
  intro j hj
  unfold cTf
  unfold ctc at hj
  by_cases q : st = 2
  · rw [if_pos q, up_at]
    rw [if_pos q] at hj
    obtain ⟨a1, a2, a3, a4⟩ := w4 q
    by_cases e : j = tc
    · rw [if_pos e]
      obtain ⟨p1, p2⟩ := prF_ok 12 oc (lp + 1) n (by omega) (by rw [show lp + 1 - 2 = lp - 1 by omega]; exact a3) a4
      exact ⟨p2 (Nat.lt_of_lt_of_le a3 (Nat.pow_le_pow_right (by decide) (by omega))), p1⟩
    · rw [if_neg e]; exact w5 j (by omega)
  · rw [if_neg q]
    rw [if_neg q] at hj
    exact w5 j hj
theorem cross_ch (n : Nat) : Ch n (prF 12 0 1 n) := by
  obtain ⟨p1, p2⟩ := prF_ok 12 0 1 n (by omega) (by decide) (by decide)
  exact ⟨p2 (Nat.pow_pos (by decide)), p1⟩
theorem tk_ws {n i st tc fb lp oc b : Nat} {T : Nat → Nat} {s : TS} (w : WS n i st tc fb lp oc T) (e : tk n st tc fb lp oc T b = some s) : WS n (i + 1) s.1 s.2.1 s.2.2.1 s.2.2.2.1 s.2.2.2.2.1 s.2.2.2.2.2 := by
  have c := cT_ch w
  obtain ⟨⟨w1, w2, w3⟩, w4, w5, w6, w7⟩ := w
  have cl := ctc_le st tc
  unfold tk at e
  by_cases b1 : b = 44
  · rw [if_pos b1] at e
    by_cases q : fb = 0 ∧ (st = 1 ∨ st = 2)
    · rw [if_pos q] at e
      cases e
      dsimp only
      refine ⟨⟨by decide, ?_, Nat.le_refl _⟩, fun u => absurd u (by decide), c, fun _ => rfl, fun u => absurd rfl u⟩
      show ctc 0 (ctc st tc) ≤ i + 1
      have : ctc 0 (ctc st tc) = ctc st tc := rfl
      omega
    · rw [if_neg q] at e; cases e
  rw [if_neg b1] at e
  by_cases b2 : b = 46
  · rw [if_pos b2] at e
    by_cases q : st = 2
    · rw [if_pos q] at e
      cases e
      dsimp only
      have h3 := w7 (by omega)
      refine ⟨⟨by decide, ?_, ?_⟩, fun u => absurd u (by decide), c, fun u => absurd u (by decide), fun _ => ?_⟩
      · show ctc 3 (ctc st tc) ≤ i + 1
        have : ctc 3 (ctc st tc) = ctc st tc := rfl
        omega
      · show fb ≤ ctc st tc; omega
      · show fb < ctc 3 (ctc st tc)
        have : ctc 3 (ctc st tc) = ctc st tc := rfl
        omega
    · rw [if_neg q] at e; cases e
  rw [if_neg b2] at e
  by_cases b3 : b = 120
  · rw [if_pos b3] at e
    by_cases q : st = 3
    · rw [if_pos q] at e; cases e
    · rw [if_neg q] at e
      cases e
      dsimp only
      have z : ctc 1 (ctc st tc + 1) = ctc st tc + 1 := rfl
      refine ⟨⟨by decide, ?_, ?_⟩, fun u => absurd u (by decide), fun j hj => ?_, fun u => absurd u (by decide), fun _ => ?_⟩
      · show ctc 1 (ctc st tc + 1) ≤ i + 1; omega
      · show fb ≤ ctc st tc + 1; omega
      · show Ch n (va_up (cTf n st tc lp oc T) (ctc st tc) (prF 12 0 1 n) j)
        have hj' : j < ctc st tc + 1 := hj
        rw [up_at]
        by_cases u : j = ctc st tc
        · rw [if_pos u]; exact cross_ch n
        · rw [if_neg u]; exact c j (by omega)
      · show fb < ctc 1 (ctc st tc + 1); omega
  rw [if_neg b3] at e
  by_cases b4 : plc b = 0 ∨ n < plc b
  · rw [if_pos b4] at e; cases e
  rw [if_neg b4] at e
  have z : ∀ x, ctc 2 x = x + 1 := fun _ => rfl
  by_cases q : st = 2
  · rw [if_pos q] at e
    obtain ⟨a1, a2, a3, a4⟩ := w4 q
    by_cases u : plc b ≤ lp ∨ (plc b - lp) % 2 = 0
    · rw [if_pos u] at e; cases e
    · rw [if_neg u] at e
      cases e
      dsimp only
      have wc : ctc st tc = tc + 1 := by rw [q]; rfl
      obtain ⟨p1, p2⟩ := prF_ok 12 oc (lp + 1) (plc b - 1) (by omega) (by rw [show lp + 1 - 2 = lp - 1 by omega]; exact a3) a4
      refine ⟨⟨by decide, ?_, w3⟩, fun _ => ⟨?_, ?_, ?_, p1⟩, w5, fun u => absurd u (by decide), fun _ => ?_⟩
      · show ctc 2 tc ≤ i + 1; rw [z]; omega
      · show 1 ≤ plc b; omega
      · show plc b ≤ n; omega
      · show prF 12 oc (lp + 1) (plc b - 1) < 2 ^ (plc b - 1)
        by_cases v : oc < 2 ^ (plc b - 1 - 1)
        · exact Nat.lt_of_lt_of_le (p2 v) (Nat.pow_le_pow_right (by decide) (by omega))
        · have v1 : lp - 1 ≤ plc b - 1 - 1 := by omega
          exact absurd (Nat.lt_of_lt_of_le a3 (Nat.pow_le_pow_right (by decide) v1)) v
      · show fb < ctc 2 tc; rw [z]; omega
  · rw [if_neg q] at e
    cases e
    dsimp only
    have wc : ctc st tc = tc := by unfold ctc; rw [if_neg q]
    obtain ⟨p1, p2⟩ := prF_ok 12 0 (if plc b % 2 = 0 then 2 else 1) (plc b - 1) (by split <;> omega) (by split <;> decide) (by decide)
    refine ⟨⟨by decide, ?_, w3⟩, fun _ => ⟨?_, ?_, ?_, p1⟩, w5, fun u => absurd u (by decide), fun _ => ?_⟩
    · show ctc 2 tc ≤ i + 1; rw [z]; omega
    · show 1 ≤ plc b; omega
    · show plc b ≤ n; omega
    · show prF 12 0 (if plc b % 2 = 0 then 2 else 1) (plc b - 1) < 2 ^ (plc b - 1)
      exact Nat.lt_of_lt_of_le (p2 (Nat.pow_pos (by decide))) (Nat.pow_le_pow_right (by decide) (by omega))
    · show fb < ctc 2 tc; rw [z]; omega
/-! the class's own cells -/
def PTp (a k : Nat) : Prop := a = 1 ∧ 3 ≤ k ∨ a = 3
def RT (h : Hp) (st tc fb lp oc : Nat) (T : Nat → Nat) : Prop := hI h 1 3 = nI tc ∧ hI h 1 4 = nI fb ∧ hI h 1 5 = nI st ∧ (st = 2 → hI h 1 6 = nI lp ∧ hI h 1 7 = nI oc) ∧ ∀ j, j < tc → hI h 3 j = nI (T j)
theorem ds8 {β : Type} {F : Option β} {h : Hp} (L : Lay h) : ds [(8, F)] (some 1) h = F := ds_1 (o1 L)
theorem tell_s {N tc c : Nat} {h : Hp} (L : Lay h) (e : hI h 1 3 = nI tc) (ht : tc < 300) : ds [(8, Tape_tell N (some 1) (nI c) h)] (some 1) h = some ((), sI (sI h 3 tc (nI c)) 1 3 (nI (tc + 1))) := by
  rw [ds8 L]
  unfold Tape_tell
  have L1 : Lay (sI h 3 tc (nI c)) := L
  rw [gi_s (o1 L), e, if_neg (fun u => absurd ((Nle_300 (by omega)).mp u) (by omega)), gr_s (o1 L), r1_2 L, gi_s (o1 L), e, si_s (o3 L) (by rw [k3 L]; exact ht) (by rw [k3 L]; decide), gi_s (o1 L1), sI_ne (by omega), e, aN_1, pi_s (o1 L1)]
theorem canClose_s {N st : Nat} {h : Hp} (L : Lay h) (e : hI h 1 5 = nI st) (hs : st ≤ 3) : ds [(8, Tape_canCloseBlock N (some 1) h)] (some 1) h = some (if st = 1 ∨ st = 2 then 1 else 0, h) := by
  rw [ds8 L]
  unfold Tape_canCloseBlock Tape_canCloseBlock_16
  rw [gi_s (o1 L), e]
  by_cases q : st = 1
  · rw [if_pos ((eN_1 (by omega)).mpr q), if_pos (Or.inl q), rz_1]
  · rw [if_neg (fun u => q ((eN_1 (by omega)).mp u)), gi_s (o1 L), e]
    by_cases p : st = 2
    · rw [if_pos ((eN_2 (by omega)).mpr p), if_pos (Or.inr p), rz_1]
    · rw [if_neg (fun u => p ((eN_2 (by omega)).mp u)), if_neg (by omega), rz_0]
/-- places told are a change -/
theorem close_s {N n i st tc fb lp oc : Nat} {T : Nat → Nat} {h : Hp} (hN : 100 < N) (hn : n ≤ 12) (L : Lay h) (r : RT h st tc fb lp oc T) (w : WS n i st tc fb lp oc T) (hi : i ≤ 300) : ∃ h', ds [(8, Tape_closePlaces N (some 1) (nI n) h)] (some 1) h = some ((), h') ∧ Fi (fun a k => a = 1 ∧ k = 3 ∨ a = 3) h h' ∧ hI h' 1 3 = nI (ctc st tc) ∧ ∀ j, j < ctc st tc → hI h' 3 j = nI (cTf n st tc lp oc T j) := by
  obtain ⟨r1, r2, r3, r4, r5⟩ := r
  obtain ⟨⟨w1, w2, w3⟩, w4, w5, w6, w7⟩ := w
  rw [ds8 L]
  unfold Tape_closePlaces
  rw [gi_s (o1 L), r3]
  by_cases q : st = 2
  · obtain ⟨a1, a2, a3, a4⟩ := w4 q
    obtain ⟨q1, q2⟩ := r4 q
    have wc : ctc st tc = tc + 1 := by rw [q]; rfl
    rw [if_pos ((eN_2 (by omega)).mpr q), gi_s (o1 L), q2, gi_s (o1 L), q1, aN_1, pairs_s hN (by omega) (by omega) hn, cl_s, nI_or, tell_s L r1 (by omega), cl_s]
    refine ⟨_, rfl, Fx_t (Fx_sI h _ (by omega)) (Fx_sI _ _ (by omega)), by rw [sI_at, wc], fun j hj => ?_⟩
    rw [sI_ne (by omega)]
    unfold cTf
    rw [if_pos q, up_at]
    by_cases e : j = tc
    · rw [if_pos e, e, sI_at, ← prF_or]
    · rw [if_neg e, sI_ne (by omega)]; exact r5 j (by omega)
  · have wc : ctc st tc = tc := by unfold ctc; rw [if_neg q]
    rw [if_neg (fun u => q ((eN_2 (by omega)).mp u))]
    refine ⟨h, rfl, Fx_r _ _ _, by rw [wc]; exact r1, fun j hj => ?_⟩
    unfold cTf
    rw [if_neg q]
    exact r5 j (by omega)
