/-! PURE: the search, a turn at a time -/
abbrev SS : Type := Nat × (Nat → Nat) × (Nat → Nat) × Nat × (Nat → Nat) × Bool × Nat × (Nat → Nat → Nat)
def LWs (n mc : Nat) (D : Nat → Md) (cc : Nat) (ch : Nat → Nat) (len wd pat : Nat) (S : SS) : Prop := LW n mc D cc ch len wd pat S.1 S.2.1 S.2.2.1 S.2.2.2.1 S.2.2.2.2.1 S.2.2.2.2.2.1 S.2.2.2.2.2.2.1 S.2.2.2.2.2.2.2
def LCs (h : Hp) (n : Nat) (D : Nat → Md) (bs : Nat → Nat) (cc : Nat) (ch : Nat → Nat) (len wd pat : Nat) (S : SS) : Prop := LC h n D bs cc ch len wd pat S.1 S.2.1 S.2.2.1 S.2.2.2.1 S.2.2.2.2.1 S.2.2.2.2.2.1 S.2.2.2.2.2.2.1 S.2.2.2.2.2.2.2
def LMs (h : Hp) (D : Nat → Md) (cc : Nat) (ch : Nat → Nat) (len wd pat : Nat) (S : SS) : Prop := LM h D cc ch len wd pat S.1 S.2.1 S.2.2.1 S.2.2.2.1 S.2.2.2.2.1 S.2.2.2.2.2.1 S.2.2.2.2.2.2.1 S.2.2.2.2.2.2.2
def kn1 (R : Nat × Nat × (Nat → Nat)) : Nat := if R.1 = 0 ∧ 0 < R.2.1 then 1 else 2
def thr (w : Nat → Nat) (row : Nat) : Nat → Bool
  | 0 => false
  | m + 1 => thr w row m || decide (w m = row)
theorem thr_t {w : Nat → Nat} {row : Nat} : ∀ m, thr w row m = true ↔ ∃ j, j < m ∧ w j = row
  | 0 => by simp [thr]
  | m + 1 => by
    rw [thr, Bool.or_eq_true, thr_t m, decide_eq_true_eq]
    constructor
    · rintro (⟨j, h1, h2⟩ | h)
      · exact ⟨j, by omega, h2⟩
      · exact ⟨m, by omega, h⟩
    · rintro ⟨j, h1, h2⟩
      by_cases q : j = m
      · exact Or.inr (by rw [← q]; exact h2)
      · exact Or.inl ⟨j, by omega, h2⟩
def knA (D : Nat → Md) (ch : Nat → Nat) (dp : Nat) (tk : Nat → Nat) (kn : Nat → Nat → Nat) : Nat := if kn dp (tk dp) = 0 then kn1 (LRd D ch dp (tk dp)) else kn dp (tk dp)
/-- no item is being rung: the next choice, or back -/
def stA (D : Nat → Md) (cc : Nat) (ch : Nat → Nat) (dp : Nat) (tk fr : Nat → Nat) (sz : Nat) (w : Nat → Nat) (kn : Nat → Nat → Nat) : Nat × SS × List Nat :=
  if tk dp < cc then (2, (dp, va_up tk dp (tk dp + 1), fr, sz, w, decide (knA D ch dp tk kn = 1), 0, up2 kn dp (tk dp) (knA D ch dp tk kn)), if kn dp (tk dp) = 0 then CT D (ch (tk dp) / 3) dp (ch (tk dp) % 3) else [])
  else if dp = 0 then (0, (dp, tk, fr, sz, w, false, 0, kn), []) else (2, (dp - 1, tk, fr, fr (dp - 1), w, false, 0, kn), [])
def fit1 (pat row : Nat) : Nat := if row &&& tld pat 12 = pat then 1 else 0
/-- a row of the item is rung -/
def stB (n : Nat) (D : Nat → Md) (ch : Nat → Nat) (len wd pat dp : Nat) (tk fr : Nat → Nat) (sz : Nat) (w : Nat → Nat) (ga : Nat) (kn : Nat → Nat → Nat) : Nat × SS :=
  if ga + 1 = (LRd D ch dp (tk dp - 1)).2.1 ∧ dp + 1 = len then
    (if chg (w (sz - 1)) ((LRd D ch dp (tk dp - 1)).2.2 ga) = rd n ∧ wd ≤ fcn n pat w (sz - 1) + fit1 pat (chg (w (sz - 1)) ((LRd D ch dp (tk dp - 1)).2.2 ga)) then (1, (dp, tk, fr, sz, w, true, ga, kn)) else (2, (dp, tk, fr, fr dp, w, false, 0, kn)))
  else if thr w (chg (w (sz - 1)) ((LRd D ch dp (tk dp - 1)).2.2 ga)) sz = true then (2, (dp, tk, fr, fr dp, w, false, 0, kn))
  else if ga + 1 = (LRd D ch dp (tk dp - 1)).2.1 then (2, (dp + 1, va_up tk (dp + 1) 0, va_up fr (dp + 1) (sz + 1), sz + 1, va_up w sz (chg (w (sz - 1)) ((LRd D ch dp (tk dp - 1)).2.2 ga)), false, 0, kn))
  else (2, (dp, tk, fr, sz + 1, va_up w sz (chg (w (sz - 1)) ((LRd D ch dp (tk dp - 1)).2.2 ga)), true, ga + 1, kn))
theorem up2_at {α : Type} (f : Nat → Nat → α) (a k b j : Nat) (x : α) : up2 f a k x b j = if b = a ∧ j = k then x else f b j := by
  unfold up2
  rw [up_at]
  by_cases q : b = a
  · rw [if_pos q, up_at]
    by_cases u : j = k
    · rw [if_pos u, if_pos ⟨q, u⟩]
    · rw [if_neg u, if_neg (fun v => u v.2), q]
  · rw [if_neg q, if_neg (fun v => q v.1)]
theorem kn1_le (R : Nat × Nat × (Nat → Nat)) : kn1 R ≤ 2 ∧ kn1 R ≠ 0 ∧ (kn1 R = 1 → R.1 = 0 ∧ 0 < R.2.1) ∧ (kn1 R = 2 → ¬ (R.1 = 0 ∧ 0 < R.2.1)) := by
  unfold kn1
  by_cases q : R.1 = 0 ∧ 0 < R.2.1
  · rw [if_pos q]; exact ⟨by omega, by omega, fun _ => q, fun u => absurd u (by omega)⟩
  · rw [if_neg q]; exact ⟨by omega, by omega, fun u => absurd u (by omega), fun _ => q⟩
theorem RWd {n mc : Nat} {D : Nat → Md} {cc : Nat} {ch : Nat → Nat} {d j : Nat} (hw : ∀ m, m < mc → Wm n m D) (hc : ∀ j, j < cc → ch j < 3 * mc) (hj : j < cc) : RW n (LRd D ch d j) := CR_ok hw (by have := hc j hj; omega)
theorem LW_A {n mc : Nat} {D : Nat → Md} {cc : Nat} {ch : Nat → Nat} {len wd pat dp : Nat} {tk fr : Nat → Nat} {sz : Nat} {w : Nat → Nat} {ga : Nat} {kn : Nat → Nat → Nat} (b : LW n mc D cc ch len wd pat dp tk fr sz w false ga kn) (o : (stA D cc ch dp tk fr sz w kn).1 = 2) : LWs n mc D cc ch len wd pat (stA D cc ch dp tk fr sz w kn).2.1 := by
  obtain ⟨⟨b1, b2, b3⟩, ⟨c1, c2, c3, c4, c5⟩, b4, b5, b6, b7, b8, b9, b10, b11, b12, b13⟩ := b
  have sf := b11 rfl
  unfold stA at o ⊢
  by_cases q : tk dp < cc
  · rw [if_pos q]
    have kp : knA D ch dp tk kn ≤ 2 ∧ knA D ch dp tk kn ≠ 0 ∧ (knA D ch dp tk kn = 1 → (LRd D ch dp (tk dp)).1 = 0 ∧ 0 < (LRd D ch dp (tk dp)).2.1) ∧ (knA D ch dp tk kn = 2 → ¬ ((LRd D ch dp (tk dp)).1 = 0 ∧ 0 < (LRd D ch dp (tk dp)).2.1)) := by
      unfold knA
      by_cases u : kn dp (tk dp) = 0
      · rw [if_pos u]; exact kn1_le _
      · rw [if_neg u]
        obtain ⟨x1, x2, x3⟩ := b13 dp (tk dp) (by omega) q
        exact ⟨x1, u, x2, x3⟩
    generalize knA D ch dp tk kn = k' at kp ⊢
    obtain ⟨p1, p2, p3, p4⟩ := kp
    have tu : va_up tk dp (tk dp + 1) dp = tk dp + 1 := by rw [up_at, if_pos rfl]
    refine ⟨⟨b1, b2, b3⟩, ⟨c1, c2, c3, c4, c5⟩, fun d hd => ?_, ?_, b6, b7, b8, b9, b10, fun _ => sf, fun e => ?_, fun d j hd hj => ?_⟩
    · have hd' : d < dp := hd
      show 1 ≤ va_up tk dp (tk dp + 1) d ∧ va_up tk dp (tk dp + 1) d ≤ cc
      rw [up_at, if_neg (by omega)]; exact b4 d hd
    · show va_up tk dp (tk dp + 1) dp ≤ cc
      rw [tu]; omega
    · have e' : k' = 1 := of_decide_eq_true e
      show 1 ≤ va_up tk dp (tk dp + 1) dp ∧ up2 kn dp (tk dp) k' dp (va_up tk dp (tk dp + 1) dp - 1) = 1 ∧ sz = fr dp + 0 ∧ 0 < (LRd D ch dp (va_up tk dp (tk dp + 1) dp - 1)).2.1
      rw [tu, Nat.add_sub_cancel, up2_at, if_pos ⟨rfl, rfl⟩]
      exact ⟨by omega, e', by omega, (p3 e').2⟩
    · show up2 kn dp (tk dp) k' d j ≤ 2 ∧ (up2 kn dp (tk dp) k' d j = 1 → (LRd D ch d j).1 = 0 ∧ 0 < (LRd D ch d j).2.1) ∧ (up2 kn dp (tk dp) k' d j = 2 → ¬ ((LRd D ch d j).1 = 0 ∧ 0 < (LRd D ch d j).2.1))
      rw [up2_at]
      by_cases u : d = dp ∧ j = tk dp
      · rw [if_pos u, u.1, u.2]; exact ⟨p1, p3, p4⟩
      · rw [if_neg u]; exact b13 d j hd hj
  · rw [if_neg q] at o ⊢
    by_cases u : dp = 0
    · rw [if_pos u] at o; exact absurd (show (0 : Nat) = 2 from o) (by decide)
    · rw [if_neg u]
      have t1 := b4 (dp - 1) (by omega)
      refine ⟨⟨b1, b2, b3⟩, ⟨c1, c2, by show dp - 1 < len; omega, c4, c5⟩, fun d hd => b4 d (by have : d < dp - 1 := hd; omega), t1.2, fun d hd => b6 d (by have : d ≤ dp - 1 := hd; omega), fun d hd => b8 d (dp - 1) hd (by show dp - 1 ≤ dp; omega), fun d d' h1 h2 => b8 d d' h1 (by have : d' ≤ dp - 1 := h2; omega), fun j hj => b9 j ?_, b10, fun _ => rfl, fun e => (by cases e), b13⟩
      have hj' : j < fr (dp - 1) := hj
      have := b7 (dp - 1) (by omega)
      omega
theorem LW_B {n mc : Nat} {D : Nat → Md} {cc : Nat} {ch : Nat → Nat} {len wd pat dp : Nat} {tk fr : Nat → Nat} {sz : Nat} {w : Nat → Nat} {ga : Nat} {kn : Nat → Nat → Nat} (hw : ∀ m, m < mc → Wm n m D) (b : LW n mc D cc ch len wd pat dp tk fr sz w true ga kn) : LWs n mc D cc ch len wd pat (stB n D ch len wd pat dp tk fr sz w ga kn).2 := by
  have b' := b
  obtain ⟨⟨b1, b2, b3⟩, ⟨c1, c2, c3, c4, c5⟩, b4, b5, b6, b7, b8, b9, b10, b11, b12, b13⟩ := b
  obtain ⟨i1, i2, i3, i4⟩ := b12 rfl
  have rok := RWd (d := dp) hw b2 (show tk dp - 1 < cc by omega)
  have f1 := b6 dp (Nat.le_refl _)
  have rr : Rw n (chg (w (sz - 1)) ((LRd D ch dp (tk dp - 1)).2.2 ga)) := chg_rw (b9 _ (by omega)) (rok.2.2 _ i4)
  have r100 := rok.2.1
  unfold stB
  obtain ⟨R, eR⟩ : ∃ R, R = LRd D ch dp (tk dp - 1) := ⟨_, rfl⟩
  rw [← eR] at i4 r100 rr ⊢
  have back : LWs n mc D cc ch len wd pat (dp, tk, fr, fr dp, w, false, 0, kn) := ⟨⟨b1, b2, b3⟩, ⟨c1, c2, c3, c4, c5⟩, b4, b5, b6, b7, b8, fun j hj => b9 j (by have : j < fr dp := hj; omega), b10, fun _ => rfl, fun e => (by cases e), b13⟩
  by_cases q : ga + 1 = R.2.1 ∧ dp + 1 = len
  · rw [if_pos q]
    split
    · exact b'
    · exact back
  · rw [if_neg q]
    by_cases u : thr w (chg (w (sz - 1)) (R.2.2 ga)) sz = true
    · rw [if_pos u]; exact back
    · rw [if_neg u]
      generalize chg (w (sz - 1)) (R.2.2 ga) = row at rr ⊢
      have w9 : ∀ j, j < sz + 1 → Rw n (va_up w sz row j) := fun j hj => by
        rw [up_at]
        by_cases e : j = sz
        · rw [if_pos e]; exact rr
        · rw [if_neg e]; exact b9 j (by omega)
      have w0 : va_up w sz row 0 = rd n := by rw [up_at, if_neg (by omega)]; exact b10
      by_cases v : ga + 1 = R.2.1
      · rw [if_pos v]
        have fu : va_up fr (dp + 1) (sz + 1) (dp + 1) = sz + 1 := by rw [up_at, if_pos rfl]
        have fo : ∀ d, d ≤ dp → va_up fr (dp + 1) (sz + 1) d = fr d := fun d hd => by rw [up_at, if_neg (by omega)]
        refine ⟨⟨b1, b2, b3⟩, ⟨c1, c2, by show dp + 1 < len; omega, c4, c5⟩, fun d hd => ?_, ?_, fun d hd => ?_, fun d hd => ?_, fun d d' h1 h2 => ?_, w9, w0, fun _ => ?_, fun e => (by cases e), b13⟩
        · have hd' : d < dp + 1 := hd
          show 1 ≤ va_up tk (dp + 1) 0 d ∧ va_up tk (dp + 1) 0 d ≤ cc
          rw [up_at, if_neg (by omega)]
          by_cases e : d = dp
          · rw [e]; exact ⟨i1, b5⟩
          · exact b4 d (by omega)
        · show va_up tk (dp + 1) 0 (dp + 1) ≤ cc
          rw [up_at, if_pos rfl]; omega
        · have hd' : d ≤ dp + 1 := hd
          show 1 ≤ va_up fr (dp + 1) (sz + 1) d ∧ va_up fr (dp + 1) (sz + 1) d ≤ 1 + 100 * d
          by_cases e : d = dp + 1
          · rw [e, fu]; omega
          · rw [fo d (by omega)]; exact b6 d (by omega)
        · have hd' : d ≤ dp + 1 := hd
          show va_up fr (dp + 1) (sz + 1) d ≤ va_up fr (dp + 1) (sz + 1) (dp + 1)
          rw [fu]
          by_cases e : d = dp + 1
          · rw [e, fu]; omega
          · rw [fo d (by omega)]
            have := b7 d (by omega)
            omega
        · have h2' : d' ≤ dp + 1 := h2
          show va_up fr (dp + 1) (sz + 1) d ≤ va_up fr (dp + 1) (sz + 1) d'
          by_cases e : d' = dp + 1
          · rw [e, fu]
            by_cases e2 : d = dp + 1
            · rw [e2, fu]; omega
            · rw [fo d (by omega)]
              have := b7 d (by omega)
              omega
          · rw [fo d (by omega), fo d' (by omega)]; exact b8 d d' h1 (by omega)
        · show sz + 1 = va_up fr (dp + 1) (sz + 1) (dp + 1)
          rw [fu]
      · rw [if_neg v]
        refine ⟨⟨b1, b2, b3⟩, ⟨c1, c2, c3, c4, c5⟩, b4, b5, b6, b7, b8, w9, w0, fun e => (by cases e), fun _ => ⟨i1, i2, by show sz + 1 = fr dp + (ga + 1); omega, ?_⟩, b13⟩
        show ga + 1 < (LRd D ch dp (tk dp - 1)).2.1
        rw [← eR]; omega
