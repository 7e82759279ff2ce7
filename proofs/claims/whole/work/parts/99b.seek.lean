/-! PURE: the search, so many turns -/
theorem Nle_M {c : Nat} (hc : c < 2 ^ 31) : (1000000 : Int32) ≤ nI c ↔ 1000000 ≤ c := nI_leI (a := 1000000) (by decide) hc
def skB (n : Nat) (D : Nat → Md) (ch : Nat → Nat) (len wd pat : Nat) (S : SS) : Nat × SS := stB n D ch len wd pat S.1 S.2.1 S.2.2.1 S.2.2.2.1 S.2.2.2.2.1 S.2.2.2.2.2.2.1 S.2.2.2.2.2.2.2
def skA (D : Nat → Md) (cc : Nat) (ch : Nat → Nat) (S : SS) : Nat × SS × List Nat := stA D cc ch S.1 S.2.1 S.2.2.1 S.2.2.2.1 S.2.2.2.2.1 S.2.2.2.2.2.2.2
def sk (n : Nat) (D : Nat → Md) (cc : Nat) (ch : Nat → Nat) (len wd pat : Nat) : Nat → Nat → SS → Nat × SS × Nat × List Nat
  | 0, _, S => (2, S, 0, [])
  | f + 1, left, S => if S.2.2.2.2.2.1 = true then (if left = 0 then (2, S, 0, []) else
      if (skB n D ch len wd pat S).1 = 2 then ((sk n D cc ch len wd pat f (left - 1) (skB n D ch len wd pat S).2).1, (sk n D cc ch len wd pat f (left - 1) (skB n D ch len wd pat S).2).2.1, 1 + (sk n D cc ch len wd pat f (left - 1) (skB n D ch len wd pat S).2).2.2.1, (sk n D cc ch len wd pat f (left - 1) (skB n D ch len wd pat S).2).2.2.2)
      else ((skB n D ch len wd pat S).1, (skB n D ch len wd pat S).2, 1, []))
    else if (skA D cc ch S).1 = 2 then ((sk n D cc ch len wd pat f left (skA D cc ch S).2.1).1, (sk n D cc ch len wd pat f left (skA D cc ch S).2.1).2.1, (sk n D cc ch len wd pat f left (skA D cc ch S).2.1).2.2.1, (skA D cc ch S).2.2 ++ (sk n D cc ch len wd pat f left (skA D cc ch S).2.1).2.2.2)
      else ((skA D cc ch S).1, (skA D cc ch S).2.1, 0, (skA D cc ch S).2.2)
theorem TR_t {h h1 h2 : Hp} {n mc : Nat} {D : Nat → Md} {bs : Nat → Nat} {cc : Nat} {ch : Nat → Nat} {len wd pat o1 o2 : Nat} {S1 S2 : SS} {r1 r2 : Nat} {T1 T2 : List Nat} (a : TR h h1 n mc D bs cc ch len wd pat o1 S1 r1 T1) (b : TR h1 h2 n mc D bs cc ch len wd pat o2 S2 r2 T2) : TR h h2 n mc D bs cc ch len wd pat o2 S2 (r1 + r2) (T1 ++ T2) := by
  obtain ⟨a1, a2, a3, a4, a5, a6, a7, a8, a9, a10⟩ := a
  obtain ⟨b1, b2, b3, b4, b5, b6, b7, b8, b9, b10⟩ := b
  exact ⟨Gx_t a1 b1, by rw [b2, a2, bm_app], by rw [b3, a3, Int32.add_assoc, nI_add], b4, b5, b6, b7, GS_t a8 b8, b9, b10⟩
theorem stA_o {D : Nat → Md} {cc : Nat} {ch : Nat → Nat} {dp : Nat} {tk fr : Nat → Nat} {sz : Nat} {w : Nat → Nat} {kn : Nat → Nat → Nat} : (stA D cc ch dp tk fr sz w kn).1 = 2 ∨ (stA D cc ch dp tk fr sz w kn).1 = 0 := by
  unfold stA
  by_cases q : tk dp < cc
  · rw [if_pos q]; exact Or.inl rfl
  · rw [if_neg q]
    by_cases u : dp = 0
    · rw [if_pos u]; exact Or.inr rfl
    · rw [if_neg u]; exact Or.inl rfl
theorem stB_o {n : Nat} {D : Nat → Md} {ch : Nat → Nat} {len wd pat dp : Nat} {tk fr : Nat → Nat} {sz : Nat} {w : Nat → Nat} {ga : Nat} {kn : Nat → Nat → Nat} : (stB n D ch len wd pat dp tk fr sz w ga kn).1 = 2 ∨ (stB n D ch len wd pat dp tk fr sz w ga kn).1 = 1 := by
  unfold stB
  (repeat' split) <;> first | exact Or.inl rfl | exact Or.inr rfl
theorem Lay_S {mc : Nat} {bs : Nat → Nat} {h h' : Hp} (L : Lay h) (f : Gx (PS mc bs) QS RL h h') : Lay h' := Gx_Lay f L (fun a k c u => by unfold Rc at c; unfold RL at u; omega)
theorem Cs_S {n mc : Nat} {D : Nat → Md} {bs : Nat → Nat} {h h' : Hp} (C : Cs h n mc D bs) (z : 64 ≤ hz h) (f : Gx (PS mc bs) QS RL h h') : Cs h' n mc D bs := Cs_G C z f (fun a k q => ⟨by unfold PS at q; omega, fun u => PS_nb q u⟩) (fun a k q => by unfold RL at q; omega)
theorem TR_0 {h : Hp} {n mc : Nat} {D : Nat → Md} {bs : Nat → Nat} {cc : Nat} {ch : Nat → Nat} {len wd pat : Nat} {S : SS} (Sh : Sl h mc bs) (w : LWs n mc D cc ch len wd pat S) (c : LCs h n D bs cc ch len wd pat S) (e17 : hI h 17 17 = nI 2) : TR h h n mc D bs cc ch len wd pat 2 S 0 [] := by
  have z1 : 0 < S.2.2.2.1 := by
    obtain ⟨dp, tk, fr, sz, w', inn, ga, kn⟩ := S
    have f1 := w.2.2.2.2.1 dp (Nat.le_refl _)
    cases inn with
    | false => have := w.2.2.2.2.2.2.2.2.2.1 rfl; dsimp only at this f1 ⊢; omega
    | true => have := (w.2.2.2.2.2.2.2.2.2.2.1 rfl).2.2.1; dsimp only at this f1 ⊢; omega
  exact ⟨Gx_r _ _ _ _, rfl, (Int32.add_zero _).symm, e17, Sh, by rw [c.2.2.2.2.2.2.1 0 z1]; rfl, ⟨_, _, c.2.2.2.2.2.1⟩, GS_r h, fun _ => c, fun u => absurd u (by decide)⟩
theorem seek_C {N n mc : Nat} {D : Nat → Md} {bs : Nat → Nat} {cc : Nat} {ch : Nat → Nat} {len wd pat : Nat} (hN : 3000 < N) (hn : n ≤ 12) : ∀ (f g left turn : Nat) (S : SS) (h : Hp), turn + f = 1000000 → f < g → left < 2 ^ 31 → Lay h → Cs h n mc D bs → Sl h mc bs → LWs n mc D cc ch len wd pat S → LCs h n D bs cc ch len wd pat S → hI h 17 17 = nI 2 → ∃ h', Search_seek_4 N g (some 17) (nI left) (nI turn) h = some (nI (sk n D cc ch len wd pat f left S).1, h') ∧ TR h h' n mc D bs cc ch len wd pat (sk n D cc ch len wd pat f left S).1 (sk n D cc ch len wd pat f left S).2.1 (sk n D cc ch len wd pat f left S).2.2.1 (sk n D cc ch len wd pat f left S).2.2.2 ∧ ((sk n D cc ch len wd pat f left S).1 = 2 → LWs n mc D cc ch len wd pat (sk n D cc ch len wd pat f left S).2.1) := by
  have p98 : ∀ (h : Hp) (o : Nat), Lay h → hI h 17 17 = nI o → Search_seek_98 N (some 17) h = some (nI o, h) := fun h o L e => by
    unfold Search_seek_98
    rw [gi_s (o17 L), e]
  intro f
  induction f with
  | zero =>
    intro g left turn S h ht hg hl L C Sh w c e17
    obtain ⟨g, rfl⟩ : ∃ q, g = q + 1 := ⟨g - 1, by omega⟩
    refine ⟨h, ?_, TR_0 Sh w c e17, fun _ => w⟩
    rw [Search_seek_4]
    rw [if_pos (by rw [show turn = 1000000 by omega]; decide)]
    exact p98 h 2 L e17
  | succ f ih =>
    intro g left turn S h ht hg hl L C Sh w c e17
    obtain ⟨g, rfl⟩ : ∃ q, g = q + 1 := ⟨g - 1, by omega⟩
    have hw : ∀ m, m < mc → Wm n m D := fun m hm => (C.2.2.1 m hm).2.2
    have pre : Search_seek_4 N (g + 1) (some 17) (nI left) (nI turn) h = if hR h 17 15 = none then (Search_seek_32 N (Search_seek_4 N g) (some 17) (nI left) (nI turn) h) else (if nI left = 0 then (Search_seek_98 N (some 17) h) else (Search_seek_32 N (Search_seek_4 N g) (some 17) (nI left) (nI turn) h)) := by
      rw [Search_seek_4]
      rw [if_neg (fun u => absurd ((Nle_M (by omega)).mp u) (by omega)), gi_s (o17 L), e17, if_pos (show nI 2 = 2 from rfl), gr_s (o17 L)]
    /- what comes behind a turn -/
    have next : ∀ (h1 : Hp) (l' o r : Nat) (S1 : SS) (T : List Nat), l' < 2 ^ 31 → TR h h1 n mc D bs cc ch len wd pat o S1 r T → (o = 2 → LWs n mc D cc ch len wd pat S1) → (o ≠ 2 → o < 2) → ∃ h', Search_seek_92 N (Search_seek_4 N g) (some 17) (nI l') (nI turn) h1 = some (nI (if o = 2 then (sk n D cc ch len wd pat f l' S1).1 else o), h') ∧ TR h h' n mc D bs cc ch len wd pat (if o = 2 then (sk n D cc ch len wd pat f l' S1).1 else o) (if o = 2 then (sk n D cc ch len wd pat f l' S1).2.1 else S1) (if o = 2 then r + (sk n D cc ch len wd pat f l' S1).2.2.1 else r) (if o = 2 then T ++ (sk n D cc ch len wd pat f l' S1).2.2.2 else T) ∧ ((if o = 2 then (sk n D cc ch len wd pat f l' S1).1 else o) = 2 → LWs n mc D cc ch len wd pat (if o = 2 then (sk n D cc ch len wd pat f l' S1).2.1 else S1)) := by
      intro h1 l' o r S1 T hl' t1 w1 o2
      have L1 := Lay_S L t1.1
      have C1 := Cs_S C L.1 t1.1
      unfold Search_seek_92
      rw [nmE, aN_1]
      by_cases q : o = 2
      · rw [if_pos q, if_pos q, if_pos q, if_pos q]
        obtain ⟨h', e, t2, w2⟩ := ih g l' (turn + 1) S1 h1 (by omega) (by omega) hl' L1 C1 t1.2.2.2.2.1 (w1 q) (t1.2.2.2.2.2.2.2.2.1 q) (by rw [t1.2.2.2.1, q])
        exact ⟨h', e, TR_t t1 t2, w2⟩
      · rw [if_neg q, if_neg q, if_neg q, if_neg q]
        obtain ⟨g', eg⟩ : ∃ g', g = g' + 1 ∨ g = 0 := ⟨g - 1, by omega⟩
        rcases eg with eg | eg
        · refine ⟨h1, ?_, t1, fun u => absurd u q⟩
          rw [eg, Search_seek_4]
          by_cases v : 1000000 ≤ turn + 1
          · rw [if_pos ((Nle_M (by omega)).mpr v)]; exact p98 h1 o L1 t1.2.2.2.1
          · rw [if_neg (fun u => v ((Nle_M (by omega)).mp u)), gi_s (o17 L1), t1.2.2.2.1, if_neg (fun u => q ((eN_2 (by have := o2 q; omega)).mp u))]
            exact p98 h1 o L1 t1.2.2.2.1
        · omega
    obtain ⟨dp, tk, fr, sz, w', inn, ga, kn⟩ := S
    rw [pre, sk]
    cases inn with
    | true =>
      have r15 : hR h 17 15 ≠ none := by
        have x := w.2.2.2.2.2.2.2.2.2.2.1 rfl
        obtain ⟨q1, q2, -⟩ := c.2.2.2.2.2.2.2.2.1 dp (tk dp - 1) (by have := w.2.1; dsimp only at this; omega) (by have := w.2.2.2.1; have := x.1; dsimp only at *; omega) x.2.1
        have y := (c.2.2.2.2.2.2.2.2.2.2 rfl).1
        dsimp only at y
        rw [y, q2]; simp
      rw [if_neg r15, if_pos rfl]
      by_cases l0 : left = 0
      · rw [if_pos ((eN_0 hl).mpr l0), if_pos l0]
        exact ⟨h, p98 h 2 L e17, TR_0 Sh w c e17, fun _ => w⟩
      · rw [if_neg (fun u => l0 ((eN_0 hl).mp u)), if_neg l0]
        obtain ⟨left, rfl⟩ : ∃ q, left = q + 1 := ⟨left - 1, by omega⟩
        have w0 : LW n mc D cc ch len wd pat dp tk fr sz w' true ga kn := w
        have c0 : LC h n D bs cc ch len wd pat dp tk fr sz w' true ga kn := c
        obtain ⟨h1, e1, t1⟩ := turnB (N := N) (re := Search_seek_4 N g) (left := left) (y := nI turn) hN hn L C Sh w0 c0 e17
        rw [e1]
        obtain ⟨h', e2, t2, w2⟩ := next h1 left _ 1 _ _ (by omega) t1 (fun _ => LW_B hw w0) (fun u => by have := stB_o (n := n) (D := D) (ch := ch) (len := len) (wd := wd) (pat := pat) (dp := dp) (tk := tk) (fr := fr) (sz := sz) (w := w') (ga := ga) (kn := kn); omega)
        refine ⟨h', ?_⟩
        show _ ∧ _ ∧ _
        have es : skB n D ch len wd pat (dp, tk, fr, sz, w', true, ga, kn) = stB n D ch len wd pat dp tk fr sz w' ga kn := rfl
        rw [es, Nat.add_sub_cancel]
        by_cases q : (stB n D ch len wd pat dp tk fr sz w' ga kn).1 = 2
        · rw [if_pos q] at e2 t2 w2 ⊢
          rw [if_pos q, if_pos q] at t2
          rw [if_pos q] at t2
          rw [if_pos q] at w2
          exact ⟨e2, t2, w2⟩
        · rw [if_neg q] at e2 t2 w2 ⊢
          rw [if_neg q, if_neg q] at t2
          rw [if_neg q] at t2
          rw [if_neg q] at w2
          exact ⟨e2, t2, w2⟩
    | false =>
      have r15 : hR h 17 15 = none := c.2.2.2.2.2.2.2.2.2.1 rfl
      rw [if_pos r15, if_neg (show ¬ false = true by decide)]
      have w0 : LW n mc D cc ch len wd pat dp tk fr sz w' false ga kn := w
      have c0 : LC h n D bs cc ch len wd pat dp tk fr sz w' false ga kn := c
      obtain ⟨h1, e1, t1⟩ := turnA (N := N) (re := Search_seek_4 N g) (x := nI left) (y := nI turn) hN L C Sh w0 c0 e17
      rw [e1]
      obtain ⟨h', e2, t2, w2⟩ := next h1 left _ 0 _ _ hl t1 (fun o => LW_A w0 o) (fun u => by have := stA_o (D := D) (cc := cc) (ch := ch) (dp := dp) (tk := tk) (fr := fr) (sz := sz) (w := w') (kn := kn); omega)
      refine ⟨h', ?_⟩
      show _ ∧ _ ∧ _
      have es : skA D cc ch (dp, tk, fr, sz, w', false, ga, kn) = stA D cc ch dp tk fr sz w' kn := rfl
      rw [es]
      by_cases q : (stA D cc ch dp tk fr sz w' kn).1 = 2
      · rw [if_pos q] at e2 t2 w2 ⊢
        rw [if_pos q, if_pos q] at t2
        rw [if_pos q] at t2
        rw [if_pos q] at w2
        rw [Nat.zero_add] at t2
        exact ⟨e2, t2, w2⟩
      · rw [if_neg q] at e2 t2 w2 ⊢
        rw [if_neg q, if_neg q] at t2
        rw [if_neg q] at t2
        rw [if_neg q] at w2
        exact ⟨e2, t2, w2⟩
/-! how many turns there may be -/
def phi (cc : Nat) (tk : Nat → Nat) : Nat → Nat
  | 0 => cc - tk 0 + 1
  | d + 1 => phi cc tk d + (cc - tk (d + 1) + 1)
theorem phi_c {cc : Nat} {tk tk' : Nat → Nat} : ∀ d, (∀ i, i ≤ d → tk i = tk' i) → phi cc tk d = phi cc tk' d
  | 0, h => by rw [phi, phi, h 0 (by omega)]
  | d + 1, h => by rw [phi, phi, phi_c d (fun i hi => h i (by omega)), h (d + 1) (by omega)]
theorem phi_pos {cc : Nat} {tk : Nat → Nat} : ∀ d, 1 ≤ phi cc tk d
  | 0 => by rw [phi]; omega
  | d + 1 => by rw [phi]; have := phi_pos (cc := cc) (tk := tk) d; omega
theorem phi_le {cc : Nat} {tk : Nat → Nat} : ∀ d, phi cc tk d ≤ (cc + 1) * (d + 1)
  | 0 => by rw [phi]; omega
  | d + 1 => by
    rw [phi, Nat.mul_succ]
    have := phi_le (cc := cc) (tk := tk) d
    omega
theorem phi_up {cc : Nat} {tk : Nat → Nat} : ∀ d, tk d < cc → phi cc (va_up tk d (tk d + 1)) d + 1 = phi cc tk d
  | 0, h => by rw [phi, phi, up_at, if_pos rfl]; omega
  | d + 1, h => by
    rw [phi, phi, up_at, if_pos rfl, phi_c d (fun i hi => by rw [up_at, if_neg (by omega)] : ∀ i, i ≤ d → va_up tk (d + 1) (tk (d + 1) + 1) i = tk i)]
    omega
def mu (cc : Nat) (left : Nat) (S : SS) : Nat := phi cc S.2.1 S.1 + 93 * left
theorem mu_A {D : Nat → Md} {cc : Nat} {ch : Nat → Nat} {dp : Nat} {tk fr : Nat → Nat} {sz : Nat} {w : Nat → Nat} {ga : Nat} {kn : Nat → Nat → Nat} {left : Nat} (o : (stA D cc ch dp tk fr sz w kn).1 = 2) : mu cc left (stA D cc ch dp tk fr sz w kn).2.1 < mu cc left (dp, tk, fr, sz, w, false, ga, kn) := by
  unfold stA at o ⊢
  unfold mu
  by_cases q : tk dp < cc
  · rw [if_pos q]
    have := phi_up dp q
    show phi cc (va_up tk dp (tk dp + 1)) dp + 93 * left < phi cc tk dp + 93 * left
    omega
  · rw [if_neg q] at o ⊢
    by_cases u : dp = 0
    · rw [if_pos u] at o; exact absurd (show (0 : Nat) = 2 from o) (by decide)
    · rw [if_neg u]
      show phi cc tk (dp - 1) + 93 * left < phi cc tk dp + 93 * left
      obtain ⟨d, rfl⟩ : ∃ d, dp = d + 1 := ⟨dp - 1, by omega⟩
      rw [phi, Nat.add_sub_cancel]
      omega
theorem mu_B {n : Nat} {D : Nat → Md} {cc : Nat} {ch : Nat → Nat} {len wd pat dp : Nat} {tk fr : Nat → Nat} {sz : Nat} {w : Nat → Nat} {ga : Nat} {kn : Nat → Nat → Nat} {left : Nat} (h90 : cc ≤ 90) : mu cc left (stB n D ch len wd pat dp tk fr sz w ga kn).2 < mu cc (left + 1) (dp, tk, fr, sz, w, true, ga, kn) := by
  have e : phi cc (va_up tk (dp + 1) 0) (dp + 1) = phi cc tk dp + (cc - 0 + 1) := by
    rw [phi, up_at, if_pos rfl, phi_c dp (fun i hi => by rw [up_at, if_neg (by omega)] : ∀ i, i ≤ dp → va_up tk (dp + 1) 0 i = tk i)]
  unfold stB mu
  (repeat' split) <;> first | (show phi cc tk dp + 93 * left < phi cc tk dp + 93 * (left + 1); omega) | (show phi cc (va_up tk (dp + 1) 0) (dp + 1) + 93 * left < phi cc tk dp + 93 * (left + 1); omega)
