/-! PURE: what holds between two calls -/
/-- a frame that lets the heap grow: below the old size, ints change by P alone, longs by Q, references by R -/
def Gx (P Q R : Nat → Nat → Prop) (h h' : Hp) : Prop :=
  hz h ≤ hz h' ∧ (∀ a, a < hz h → hK h' a = hK h a) ∧ (∀ a k, a < hz h → ¬ P a k → hI h' a k = hI h a k) ∧ (∀ a k, a < hz h → ¬ Q a k → hL h' a k = hL h a k) ∧ ∀ a k, a < hz h → ¬ R a k → hR h' a k = hR h a k
theorem Gx_F {P Q : Nat → Nat → Prop} {h h' : Hp} (f : Fx P Q h h') : Gx P Q nF h h' :=
  ⟨Nat.le_of_eq (Fx_z f).symm, fun a _ => by rw [Fx_K f], fun a k _ n => Fx_I f n, fun a k _ n => Fx_L f n, fun a k _ _ => by rw [Fx_R f]⟩
theorem Gx_r (P Q R : Nat → Nat → Prop) (h : Hp) : Gx P Q R h h := ⟨Nat.le_refl _, fun _ _ => rfl, fun _ _ _ _ => rfl, fun _ _ _ _ => rfl, fun _ _ _ _ => rfl⟩
theorem Gx_t {P Q R : Nat → Nat → Prop} {h h1 h2 : Hp} (f : Gx P Q R h h1) (g : Gx P Q R h1 h2) : Gx P Q R h h2 :=
  ⟨Nat.le_trans f.1 g.1, fun a l => by rw [g.2.1 a (Nat.lt_of_lt_of_le l f.1), f.2.1 a l],
   fun a k l n => by rw [g.2.2.1 a k (Nat.lt_of_lt_of_le l f.1) n, f.2.2.1 a k l n],
   fun a k l n => by rw [g.2.2.2.1 a k (Nat.lt_of_lt_of_le l f.1) n, f.2.2.2.1 a k l n],
   fun a k l n => by rw [g.2.2.2.2 a k (Nat.lt_of_lt_of_le l f.1) n, f.2.2.2.2 a k l n]⟩
theorem Gx_m {P Q R P' Q' R' : Nat → Nat → Prop} {h h1 : Hp} (f : Gx P Q R h h1) (p : ∀ a k, a < hz h → P a k → P' a k) (q : ∀ a k, a < hz h → Q a k → Q' a k) (r : ∀ a k, a < hz h → R a k → R' a k) : Gx P' Q' R' h h1 :=
  ⟨f.1, f.2.1, fun a k l n => f.2.2.1 a k l (fun c => n (p a k l c)), fun a k l n => f.2.2.2.1 a k l (fun c => n (q a k l c)), fun a k l n => f.2.2.2.2 a k l (fun c => n (r a k l c))⟩
theorem Gx_I {P Q R : Nat → Nat → Prop} {h h' : Hp} (f : Gx P Q R h h') (L : 64 ≤ hz h) {a k : Nat} (ha : a < 64) (n : ¬ P a k) : hI h' a k = hI h a k := f.2.2.1 a k (by omega) n
theorem Gx_L {P Q R : Nat → Nat → Prop} {h h' : Hp} (f : Gx P Q R h h') (L : 64 ≤ hz h) {a k : Nat} (ha : a < 64) (n : ¬ Q a k) : hL h' a k = hL h a k := f.2.2.2.1 a k (by omega) n
theorem Gx_R {P Q R : Nat → Nat → Prop} {h h' : Hp} (f : Gx P Q R h h') (L : 64 ≤ hz h) {a k : Nat} (ha : a < 64) (n : ¬ R a k) : hR h' a k = hR h a k := f.2.2.2.2 a k (by omega) n
/-- references that never change -/
def Rc (a k : Nat) : Prop := a ≤ 4 ∨ a = 6 ∨ 8 ≤ a ∧ a ≤ 16 ∨ a = 17 ∧ k ≠ 15 ∨ a = 18 ∨ 21 ≤ a ∧ a ≤ 63
theorem rft_c : ∀ q, q ∈ rft → q.1 < 64 ∧ Rc q.1 q.2.1 := by unfold rft Rc; decide
theorem Gx_Lay {P Q R : Nat → Nat → Prop} {h h' : Hp} (f : Gx P Q R h h') (L : Lay h) (r : ∀ a k, Rc a k → ¬ R a k) : Lay h' :=
  ⟨Nat.le_trans L.1 f.1, fun a ha => by rw [f.2.1 a (by have := L.1; omega)]; exact L.2.1 a ha, fun q hq => by rw [Gx_R f L.1 (rft_c q hq).1 (r _ _ (rft_c q hq).2)]; exact L.2.2 q hq⟩
/-! the parts of what holds -/
def Bs (h : Hp) (n : Nat) : Prop := Lay h ∧ (hI h 0 4 = nI n ∧ hI h 35 2 = nI n) ∧ 4 ≤ n ∧ n ≤ 12
def Tr (h : Hp) : Prop := hI h 4 = hI h 37 ∧ hI h 35 16 = 1
def Fdn (h : Hp) : Prop := hI h 0 6 = hI h 35 3
def Tp (h : Hp) : Prop := ∃ t, t ≤ 300 ∧ hI h 1 1 = nI t ∧ hI h 35 1 = nI t ∧ ∀ k, k < t → ∃ b, b < 256 ∧ hI h 36 k = nI b ∧ hI h 2 k = Int8.toInt32 (Int32.toInt8 (nI b))
def Rg (h : Hp) (n : Nat) : Prop := ∃ r, r < 2 ^ n ∧ hI h 0 5 = nI r ∧ ∀ b, 1 ≤ b → b ≤ n → hI h 52 b = if r.testBit (b - 1) = true then 0 else 1
def ItC (h : Hp) (mc : Nat) (bs : Nat → Nat) (ic : Nat) (im ik : Nat → Nat) : Prop := hI h 6 2 = nI ic ∧ ∀ j, j < ic → hR h 7 j = some (bs (im j)) ∧ hI h 8 j = nI (ik j)
def ItM (h : Hp) (ic : Nat) (im ik : Nat → Nat) : Prop := hI h 35 19 = nI ic ∧ ∀ j, j < ic → hI h 46 j = nI (im j) ∧ hI h 47 j = nI (ik j)
def It (h : Hp) (mc : Nat) (bs : Nat → Nat) (ic : Nat) (im ik : Nat → Nat) : Prop := ic ≤ 100 ∧ (∀ j, j < ic → im j < mc ∧ ik j ≤ 2) ∧ ItC h mc bs ic im ik ∧ ItM h ic im ik
/-- how many rows are meant -/
def mnt (rc : Nat) : Option Nat → Nat
  | none => rc
  | some c => c
def TW (n ic rc : Nat) (rw : Nat → Nat) (st : Bool) (cm : Option Nat) (ni cn ca : Nat) (cf : Nat → Nat) : Prop :=
  (1 ≤ rc ∧ rc ≤ 2001) ∧ (∀ j, j < rc → Rw n (rw j)) ∧ rw 0 = rd n ∧ (∀ c, cm = some c → 1 ≤ c ∧ c + 1 = rc ∧ rw c = rd n ∧ st = true) ∧
  (∀ j, 1 ≤ j → j < rc → rw j = rd n → cm = some j) ∧ (rc = 2001 → st = true) ∧ (st = false → ni ≤ ic ∧ ca ≤ cn ∧ cn ≤ 100 ∧ ∀ k, k < cn → Ch n (cf k))
def cnt (f : Nat → Nat) (x : Nat) : Nat → Nat
  | 0 => 0
  | m + 1 => cnt f x m + if f m = x then 1 else 0
/-- v is f put in order, the first m -/
def Srt (f v : Nat → Nat) (m : Nat) : Prop := (∀ i j, i < j → j < m → v i ≤ v j) ∧ ∀ x, cnt v x m = cnt f x m
/-- what the class keeps of the first row that was there before -/
def Ff (x : Int32) (rw : Nat → Nat) (m : Nat) : Prop :=
  (x = -1 ∧ ∀ i j, i < j → j < m → rw i ≠ rw j) ∨ (∃ j i, i < j ∧ j < m ∧ rw i = rw j ∧ x = nI (10000 * j + i) ∧ ∀ i' j', i' < j' → j' < j → rw i' ≠ rw j')
def TC (h : Hp) (n rc : Nat) (rw : Nat → Nat) (st : Bool) (cm : Option Nat) (ni cn ca : Nat) (cf : Nat → Nat) : Prop :=
  Hs h 9 10 11 12 2001 rc (fun j => lN (rw j)) ∧ (hI h 6 3 = nI n ∧ hL h 6 4 = lN (rd n)) ∧ hI h 6 9 = qI st ∧ hI h 6 10 = oI cm ∧ Ff (hI h 6 11) rw (mnt rc cm) ∧
  (∃ q, q ≤ rc ∧ hI h 6 13 = nI q ∧ (q = rc → ∃ v, Srt (fun j => num n (rw j) n) v (mnt rc cm) ∧ ∀ j, j < mnt rc cm → hI h 15 j = nI (v j))) ∧
  (st = false → hI h 6 8 = nI ni ∧ hI h 13 1 = nI cn ∧ hI h 6 7 = nI ca ∧ ∀ k, k < cn → hI h 14 k = nI (cf k))
def TM (h : Hp) (rc : Nat) (rw : Nat → Nat) (st : Bool) (cm : Option Nat) (ni cn ca : Nat) (cf : Nat → Nat) : Prop :=
  (∀ j, j < rc → hL h 48 j = lN (rw j)) ∧ hI h 35 21 = nI rc ∧ hI h 35 26 = qI st ∧ hI h 35 27 = oI cm ∧
  (st = false → hI h 35 22 = nI ni ∧ hI h 35 24 = nI cn ∧ hI h 35 25 = nI ca ∧ ∀ k, k < cn → hI h 49 k = nI (cf k))
def Tc (h : Hp) (n ic : Nat) : Prop := ∃ rc rw st cm ni cn ca cf, TW n ic rc rw st cm ni cn ca cf ∧ TC h n rc rw st cm ni cn ca cf ∧ TM h rc rw st cm ni cn ca cf
def Pf (h : Hp) : Prop := ∃ p, p ≤ 2001 ∧ hI h 6 15 = nI p ∧ hI h 35 30 = (if p = 0 then -1 else nI p) ∧ ∀ j, j < p → hI h 16 j = hI h 50 j
def Ot (h : Hp) : Prop := ∃ sz w, Hs h 31 32 33 34 100 sz w
/-! the search -/
def Sl (h : Hp) (mc : Nat) (bs : Nat → Nat) : Prop := ∀ i, i < 1080 → ∀ c, hR h 20 i = some c → (64 ≤ c ∧ c + 2 ≤ hz h) ∧ (hK h c = (0, nfl 0) ∧ hK h (c + 1) = (13, 100)) ∧ hR h c 0 = some (c + 1) ∧
  (∀ m, m < mc → c + 2 ≤ bs m ∨ bs m + 5 ≤ c) ∧ ∀ j, j < 1080 → j ≠ i → ∀ c', hR h 20 j = some c' → c + 2 ≤ c' ∨ c' + 2 ≤ c
/-- how many of the rows 1 .. j fit -/
def fcn (n pat : Nat) (w : Nat → Nat) : Nat → Nat
  | 0 => 0
  | j + 1 => fcn n pat w j + if (w (j + 1)) &&& tld pat 12 = pat then 1 else 0
/-- the lead that choice j is at depth d -/
def LRd (D : Nat → Md) (ch : Nat → Nat) (d j : Nat) : Nat × Nat × (Nat → Nat) := CR D (ch j / 3) d (ch j % 3)
def LW (n mc : Nat) (D : Nat → Md) (cc : Nat) (ch : Nat → Nat) (len wd pat dp : Nat) (tk fr : Nat → Nat) (sz : Nat) (w : Nat → Nat) (inn : Bool) (ga : Nat) (kn : Nat → Nat → Nat) : Prop :=
  (cc ≤ 90 ∧ (∀ j, j < cc → ch j < 3 * mc) ∧ ∀ i j, i < cc → j < cc → ch i = ch j → i = j) ∧ (1 ≤ len ∧ len ≤ 12 ∧ dp < len ∧ wd < 2 ^ 31 ∧ Pt n pat) ∧
  (∀ d, d < dp → 1 ≤ tk d ∧ tk d ≤ cc) ∧ tk dp ≤ cc ∧ (∀ d, d ≤ dp → 1 ≤ fr d ∧ fr d ≤ 1 + 100 * d) ∧ (∀ d, d ≤ dp → fr d ≤ fr dp) ∧ (∀ d d', d ≤ d' → d' ≤ dp → fr d ≤ fr d') ∧ (∀ j, j < sz → Rw n (w j)) ∧ w 0 = rd n ∧
  (inn = false → sz = fr dp) ∧ (inn = true → 1 ≤ tk dp ∧ kn dp (tk dp - 1) = 1 ∧ sz = fr dp + ga ∧ ga < (LRd D ch dp (tk dp - 1)).2.1) ∧
  ∀ d j, d < 12 → j < cc → kn d j ≤ 2 ∧ (kn d j = 1 → (LRd D ch d j).1 = 0 ∧ 0 < (LRd D ch d j).2.1) ∧ (kn d j = 2 → ¬ ((LRd D ch d j).1 = 0 ∧ 0 < (LRd D ch d j).2.1))
def LC (h : Hp) (n : Nat) (D : Nat → Md) (bs : Nat → Nat) (cc : Nat) (ch : Nat → Nat) (len wd pat dp : Nat) (tk fr : Nat → Nat) (sz : Nat) (w : Nat → Nat) (inn : Bool) (ga : Nat) (kn : Nat → Nat → Nat) : Prop :=
  hI h 17 2 = nI cc ∧ (∀ j, j < cc → hI h 18 j = nI (ch j) ∧ hR h 19 j = some (bs (ch j / 3))) ∧ (hI h 17 3 = nI len ∧ hI h 17 4 = nI wd ∧ hI h 17 14 = nI dp) ∧ (hL h 17 5 = lN pat ∧ hL h 17 6 = lN (tld pat 12) ∧ hL h 17 7 = lN (rd n)) ∧
  (∀ d, d ≤ dp → hI h 27 d = nI (tk d) - 1 ∧ hI h 28 d = nI (fr d)) ∧ Hs h 22 23 24 25 1201 sz (fun j => lN (w j)) ∧ (∀ j, j < sz → hI h 26 j = nI (fcn n pat w j)) ∧
  (∀ d j, d < 12 → j < cc → hI h 21 (90 * d + ch j) = nI (kn d j)) ∧
  (∀ d j, d < 12 → j < cc → kn d j = 1 → ∃ c, hR h 20 (90 * d + ch j) = some c ∧ hI h c 1 = nI (LRd D ch d j).2.1 ∧ ∀ k, k < (LRd D ch d j).2.1 → hI h (c + 1) k = nI ((LRd D ch d j).2.2 k)) ∧
  (inn = false → hR h 17 15 = none) ∧ (inn = true → hR h 17 15 = hR h 20 (90 * dp + ch (tk dp - 1)) ∧ hI h 17 16 = nI ga)
def LM (h : Hp) (D : Nat → Md) (cc : Nat) (ch : Nat → Nat) (len wd pat dp : Nat) (tk fr : Nat → Nat) (sz : Nat) (w : Nat → Nat) (inn : Bool) (ga : Nat) (kn : Nat → Nat → Nat) : Prop :=
  hI h 35 41 = nI cc ∧ (∀ j, j < cc → hI h 54 j = nI (ch j)) ∧ (hI h 35 36 = nI len ∧ hI h 35 37 = nI wd ∧ hI h 35 43 = nI dp) ∧ hL h 35 38 = lN pat ∧
  (∀ d, d ≤ dp → hI h 56 d = nI (tk d) - 1 ∧ hI h 57 d = nI (fr d)) ∧ (∀ j, j < sz → hL h 58 j = lN (w j)) ∧ (∀ d j, d < 12 → j < cc → hI h 55 (90 * d + j) = nI (kn d j)) ∧ hI h 35 44 = qI inn ∧
  (inn = true → hI h 35 48 = nI sz ∧ hI h 35 51 = nI ga ∧ hI h 35 50 = nI (LRd D ch dp (tk dp - 1)).2.1 ∧ ∀ k, k < (LRd D ch dp (tk dp - 1)).2.1 → hI h 59 k = nI ((LRd D ch dp (tk dp - 1)).2.2 k))
def Lv (h : Hp) (n mc : Nat) (D : Nat → Md) (bs : Nat → Nat) : Prop := ∃ cc ch len wd pat dp tk fr sz w ga kn,
  LW n mc D cc ch len wd pat dp tk fr sz w true ga kn ∧ LC h n D bs cc ch len wd pat dp tk fr sz w true ga kn ∧ LM h D cc ch len wd pat dp tk fr sz w true ga kn
def Sn (h : Hp) (n mc : Nat) (D : Nat → Md) (bs : Nat → Nat) : Prop :=
  (hI h 17 17 = -1 ∧ hI h 35 33 = 0 ∧ hI h 35 53 = 0) ∨
  (hI h 35 33 = 1 ∧ hI h 35 35 = hI h 17 17 ∧ hI h 17 19 = hI h 35 34 ∧
    ((hI h 17 17 = 0 ∧ hI h 35 53 = 0) ∨ (hI h 17 17 = 1 ∧ ∃ len, len ≤ 12 ∧ hI h 17 3 = nI len ∧ hI h 35 53 = nI len ∧ ∀ i, i < len → ∃ t, t < 90 ∧ hI h 27 i = nI t ∧ hI h 18 t = hI h 60 i) ∨
     (hI h 17 17 = 2 ∧ hI h 35 53 = 0 ∧ (hI h 17 19 = 0 → Lv h n mc D bs))))
def Sr (h : Hp) (n mc : Nat) (D : Nat → Md) (bs : Nat → Nat) : Prop := Sl h mc bs ∧ (hI h 26 0 = 0 ∧ hI h 17 18 = hI h 35 39) ∧ (∃ sz w, Hs h 22 23 24 25 1201 sz w) ∧ Sn h n mc D bs
/-- all of it -/
def Inv (h : Hp) : Prop := ∃ n mc D bs ic im ik, Bs h n ∧ Tr h ∧ Fdn h ∧ Tp h ∧ Ms h n mc D ∧ Cs h n mc D bs ∧ Rg h n ∧ It h mc bs ic im ik ∧ Tc h n ic ∧ Pf h ∧ Ot h ∧ Sr h n mc D bs
/-! rooms -/
def nn (h : Hp) : Nat := ((List.range 1080).filter (fun i => (hR h 20 i).isNone)).length
def Gr (h h' : Hp) : Prop := hz h' + 2 * nn h' ≤ hz h + 2 * nn h + 12 ∧ hs h' + 103 * nn h' ≤ hs h + 103 * nn h + 200
theorem Gr_F {P Q : Nat → Nat → Prop} {h h' : Hp} (f : Fx P Q h h') : Gr h h' := by
  unfold Gr nn
  rw [Fx_R f, Fx_z f, Fx_s f]
  omega
/-- a call is answered alike on both sides, and all holds again -/
def Op {α : Type} (C M : Hp → Option (α × Hp)) (h : Hp) : Prop := ∃ r h1 h2, C h = some (r, h1) ∧ M h1 = some (r, h2) ∧ Inv h2 ∧ Gr h h2 ∧ Lay h1
theorem Inv_Lay {h : Hp} (I : Inv h) : Lay h := by
  obtain ⟨n, mc, D, bs, ic, im, ik, i1, -⟩ := I
  exact i1.1
/-! each part stays where its cells stay -/
theorem Bs_g {P Q R : Nat → Nat → Prop} {h h' : Hp} {n : Nat} (b : Bs h n) (f : Gx P Q R h h') (p : ∀ a k, (a = 0 ∧ k = 4 ∨ a = 35 ∧ k = 2) → ¬ P a k) (r : ∀ a k, Rc a k → ¬ R a k) : Bs h' n := by
  obtain ⟨L, ⟨b1, b2⟩, b3⟩ := b
  exact ⟨Gx_Lay f L r, ⟨by rw [Gx_I f L.1 (by omega) (p _ _ (by omega))]; exact b1, by rw [Gx_I f L.1 (by omega) (p _ _ (by omega))]; exact b2⟩, b3⟩
theorem Tr_g {P Q R : Nat → Nat → Prop} {h h' : Hp} (b : Tr h) (z : 64 ≤ hz h) (f : Gx P Q R h h') (p : ∀ a k, (a = 4 ∨ a = 37 ∨ a = 35 ∧ k = 16) → ¬ P a k) : Tr h' := by
  refine ⟨funext fun k => ?_, ?_⟩
  · rw [Gx_I f z (by omega) (p _ _ (by omega)), Gx_I f z (by omega) (p _ _ (by omega)), b.1]
  · rw [Gx_I f z (by omega) (p _ _ (by omega))]; exact b.2
theorem Fdn_g {P Q R : Nat → Nat → Prop} {h h' : Hp} (b : Fdn h) (z : 64 ≤ hz h) (f : Gx P Q R h h') (p : ∀ a k, (a = 0 ∧ k = 6 ∨ a = 35 ∧ k = 3) → ¬ P a k) : Fdn h' := by
  unfold Fdn
  rw [Gx_I f z (by omega) (p _ _ (by omega)), Gx_I f z (by omega) (p _ _ (by omega))]; exact b
theorem Tp_g {P Q R : Nat → Nat → Prop} {h h' : Hp} (b : Tp h) (z : 64 ≤ hz h) (f : Gx P Q R h h') (p : ∀ a k, (a = 1 ∧ k = 1 ∨ a = 35 ∧ k = 1 ∨ a = 36 ∨ a = 2) → ¬ P a k) : Tp h' := by
  obtain ⟨t, t0, t1, t2, t3⟩ := b
  refine ⟨t, t0, ?_, ?_, fun k hk => ?_⟩
  · rw [Gx_I f z (by omega) (p _ _ (by omega))]; exact t1
  · rw [Gx_I f z (by omega) (p _ _ (by omega))]; exact t2
  · obtain ⟨b, b1, b2, b3⟩ := t3 k hk
    exact ⟨b, b1, by rw [Gx_I f z (by omega) (p _ _ (by omega))]; exact b2, by rw [Gx_I f z (by omega) (p _ _ (by omega))]; exact b3⟩
theorem MM_g {P Q R : Nat → Nat → Prop} {h h' : Hp} {m : Nat} {d : Md} (M : MM h m d) (z : 64 ≤ hz h) (f : Gx P Q R h h') (p : ∀ a k, (38 ≤ a ∧ a ≤ 44 ∨ a = 53) → ¬ P a k) : MM h' m d :=
  MM_f M (fun a ha => funext fun k => Gx_I f z (by omega) (p a k ha))
theorem Ms_g {P Q R : Nat → Nat → Prop} {h h' : Hp} {n mc : Nat} {D : Nat → Md} (M : Ms h n mc D) (z : 64 ≤ hz h) (f : Gx P Q R h h') (p : ∀ a k, (38 ≤ a ∧ a ≤ 44 ∨ a = 53 ∨ a = 35 ∧ k = 5) → ¬ P a k) : Ms h' n mc D :=
  Ms_f M (fun a ha => funext fun k => Gx_I f z (by omega) (p a k (by omega))) (Gx_I f z (by omega) (p _ _ (by omega)))
theorem CM_g {P Q R : Nat → Nat → Prop} {h h' : Hp} {b n : Nat} {d : Md} {bs : Nat → Nat} (c : CM h b n d bs) (f : Gx P Q R h h') (p : ∀ a k, b ≤ a → a < b + 5 → ¬ P a k) (r : ∀ a k, b ≤ a → a < b + 6 → ¬ R a k) : CM h' b n d bs := by
  obtain ⟨⟨c1, c2⟩, ⟨k0, k1, k2, k3, k4, k5⟩, ⟨q1, q2, q3, q4, q5, q6⟩, ⟨i0, i1⟩, l1, l2, ⟨a1, a2⟩, a3, a4⟩ := c
  have hb : b + 5 ≤ hz h := by unfold bw at c2; split at c2 <;> omega
  have eI : ∀ a k, b ≤ a → a < b + 5 → hI h' a k = hI h a k := fun a k x y => f.2.2.1 a k (by omega) (p a k x y)
  have eR : ∀ a k, b ≤ a → a < b + 5 → hR h' a k = hR h a k := fun a k x y => f.2.2.2.2 a k (by omega) (r a k x (by omega))
  have eK : ∀ a, a < b + 5 → hK h' a = hK h a := fun a x => f.2.1 a (by omega)
  have e5 : kd d = 5 → b + 6 ≤ hz h := fun k => by rw [bw, if_pos k] at c2; exact c2
  refine ⟨⟨c1, Nat.le_trans c2 f.1⟩, ⟨?_, ?_, ?_, ?_, ?_, fun k => ?_⟩, ⟨?_, ?_, ?_, ?_, ?_, fun k => ?_⟩, ⟨?_, ?_⟩, fun M hM => ⟨?_, ?_, fun k hk => ?_⟩, fun hl => ⟨?_, ?_⟩, ⟨?_, fun c h1 h2 => ?_⟩, fun c h1 h2 h3 => ?_, fun k => ⟨?_, fun i hi => ?_⟩⟩
  · rw [eK _ (by omega)]; exact k0
  · rw [eK _ (by omega)]; exact k1
  · rw [eK _ (by omega)]; exact k2
  · rw [eK _ (by omega)]; exact k3
  · rw [eK _ (by omega)]; exact k4
  · rw [f.2.1 _ (by have := e5 k; omega)]; exact k5 k
  · rw [eR _ _ (by omega) (by omega)]; exact q1
  · rw [eR _ _ (by omega) (by omega)]; exact q2
  · rw [eR _ _ (by omega) (by omega)]; exact q3
  · rw [eR _ _ (by omega) (by omega)]; exact q4
  · rw [eR _ _ (by omega) (by omega)]; exact q5
  · rw [eR _ _ (by omega) (by omega)]; exact q6 k
  · rw [eI _ _ (by omega) (by omega)]; exact i0
  · rw [eI _ _ (by omega) (by omega)]; exact i1
  · rw [eI _ _ (by omega) (by omega)]; exact (l1 M hM).1
  · rw [eI _ _ (by omega) (by omega)]; exact (l1 M hM).2.1
  · rw [eI _ _ (by omega) (by omega)]; exact (l1 M hM).2.2 k hk
  · rw [eI _ _ (by omega) (by omega)]; exact (l2 hl).1
  · rw [eI _ _ (by omega) (by omega)]; exact (l2 hl).2
  · rw [eI _ _ (by omega) (by omega)]; exact a1
  · rw [eI _ _ (by omega) (by omega)]; exact a2 c h1 h2
  · rw [eI _ _ (by omega) (by omega)]; exact a3 c h1 h2 h3
  · rw [eI _ _ (by omega) (by omega)]; exact (a4 k).1
  · rw [f.2.2.2.2 _ _ (by have := e5 k; omega) (r _ _ (by omega) (by omega))]; exact (a4 k).2 i hi
theorem Cs_g {P Q R : Nat → Nat → Prop} {h h' : Hp} {n mc : Nat} {D : Nat → Md} {bs : Nat → Nat} (c : Cs h n mc D bs) (z : 64 ≤ hz h) (f : Gx P Q R h h') (p : ∀ a k, (a = 0 ∧ k = 3 ∨ 64 ≤ a) → ¬ P a k) (r : ∀ a k, (a = 5 ∨ 64 ≤ a) → ¬ R a k) : Cs h' n mc D bs := by
  obtain ⟨c1, c2, c3, c4⟩ := c
  refine ⟨by rw [Gx_I f z (by omega) (p _ _ (by omega))]; exact c1, c2, fun m hm => ⟨?_, ?_, (c3 m hm).2.2⟩, c4⟩
  · rw [Gx_R f z (by omega) (r _ _ (by omega))]; exact (c3 m hm).1
  · have := CM_64 (c3 m hm).2.1
    exact CM_g (c3 m hm).2.1 f (fun a k h1 h2 => p a k (by omega)) (fun a k h1 h2 => r a k (by omega))
theorem Rg_g {P Q R : Nat → Nat → Prop} {h h' : Hp} {n : Nat} (b : Rg h n) (z : 64 ≤ hz h) (f : Gx P Q R h h') (p : ∀ a k, (a = 0 ∧ k = 5 ∨ a = 52) → ¬ P a k) : Rg h' n := by
  obtain ⟨r, r1, r2, r3⟩ := b
  exact ⟨r, r1, by rw [Gx_I f z (by omega) (p _ _ (by omega))]; exact r2, fun b h1 h2 => by rw [Gx_I f z (by omega) (p _ _ (by omega))]; exact r3 b h1 h2⟩
theorem ItC_g {P Q R : Nat → Nat → Prop} {h h' : Hp} {mc : Nat} {bs : Nat → Nat} {ic : Nat} {im ik : Nat → Nat} (b : ItC h mc bs ic im ik) (z : 64 ≤ hz h) (f : Gx P Q R h h') (p : ∀ a k, (a = 6 ∧ k = 2 ∨ a = 8) → ¬ P a k) (r : ∀ a k, a = 7 → ¬ R a k) : ItC h' mc bs ic im ik :=
  ⟨by rw [Gx_I f z (by omega) (p _ _ (by omega))]; exact b.1, fun j hj => ⟨by rw [Gx_R f z (by omega) (r _ _ rfl)]; exact (b.2 j hj).1, by rw [Gx_I f z (by omega) (p _ _ (by omega))]; exact (b.2 j hj).2⟩⟩
theorem ItM_g {P Q R : Nat → Nat → Prop} {h h' : Hp} {ic : Nat} {im ik : Nat → Nat} (b : ItM h ic im ik) (z : 64 ≤ hz h) (f : Gx P Q R h h') (p : ∀ a k, (a = 35 ∧ k = 19 ∨ a = 46 ∨ a = 47) → ¬ P a k) : ItM h' ic im ik :=
  ⟨by rw [Gx_I f z (by omega) (p _ _ (by omega))]; exact b.1, fun j hj => ⟨by rw [Gx_I f z (by omega) (p _ _ (by omega))]; exact (b.2 j hj).1, by rw [Gx_I f z (by omega) (p _ _ (by omega))]; exact (b.2 j hj).2⟩⟩
theorem It_g {P Q R : Nat → Nat → Prop} {h h' : Hp} {mc : Nat} {bs : Nat → Nat} {ic : Nat} {im ik : Nat → Nat} (b : It h mc bs ic im ik) (z : 64 ≤ hz h) (f : Gx P Q R h h') (p : ∀ a k, (a = 6 ∧ k = 2 ∨ a = 8 ∨ a = 35 ∧ k = 19 ∨ a = 46 ∨ a = 47) → ¬ P a k) (r : ∀ a k, a = 7 → ¬ R a k) : It h' mc bs ic im ik :=
  ⟨b.1, b.2.1, ItC_g b.2.2.1 z f (fun a k c => p a k (by omega)) r, ItM_g b.2.2.2 z f (fun a k c => p a k (by omega))⟩
theorem Hs_g {P Q R : Nat → Nat → Prop} {h h' : Hp} {r hd co lk cap sz : Nat} {w : Nat → Int64} (H : Hs h r hd co lk cap sz w) (z : 64 ≤ hz h) (f : Gx P Q R h h') (d : r < 64 ∧ hd < 64 ∧ co < 64 ∧ lk < 64) (p0 : ¬ P r 3) (p1 : ∀ k, ¬ P hd k) (p2 : ∀ k, ¬ P lk k) (q : ∀ k, ¬ Q co k) : Hs h' r hd co lk cap sz w := by
  obtain ⟨h1, h2, h3, h4, h5⟩ := H
  refine ⟨?_, h2, fun j hj => ?_, fun s hs => ?_, fun j hj => ?_⟩
  · rw [Gx_I f z d.1 p0]; exact h1
  · rw [Gx_L f z d.2.2.1 (q j)]; exact h3 j hj
  · rw [Gx_I f z d.2.1 (p1 s)]; exact h4 s hs
  · rw [Gx_I f z d.2.2.2 (p2 j)]; exact h5 j hj
theorem TC_g {P Q R : Nat → Nat → Prop} {h h' : Hp} {n rc : Nat} {rw : Nat → Nat} {st : Bool} {cm : Option Nat} {ni cn ca : Nat} {cf : Nat → Nat} (b : TC h n rc rw st cm ni cn ca cf) (z : 64 ≤ hz h) (f : Gx P Q R h h') (p : ∀ a k, (a = 6 ∧ k ≠ 2 ∧ k ≠ 15 ∨ 9 ≤ a ∧ a ≤ 15) → ¬ P a k) (q : ∀ a k, (a = 6 ∨ a = 11) → ¬ Q a k) : TC h' n rc rw st cm ni cn ca cf := by
  obtain ⟨b1, ⟨b2, b3⟩, b4, b5, b6, ⟨q', q0, q1, q2⟩, b7⟩ := b
  refine ⟨Hs_g b1 z f ⟨by omega, by omega, by omega, by omega⟩ (p _ _ (by omega)) (fun k => p _ _ (by omega)) (fun k => p _ _ (by omega)) (fun k => q _ _ (by omega)), ⟨?_, ?_⟩, ?_, ?_, ?_, ⟨q', q0, ?_, fun e => ?_⟩, fun e => ?_⟩
  · rw [Gx_I f z (by omega) (p _ _ (by omega))]; exact b2
  · rw [Gx_L f z (by omega) (q _ _ (by omega))]; exact b3
  · rw [Gx_I f z (by omega) (p _ _ (by omega))]; exact b4
  · rw [Gx_I f z (by omega) (p _ _ (by omega))]; exact b5
  · rw [Gx_I f z (by omega) (p _ _ (by omega))]; exact b6
  · rw [Gx_I f z (by omega) (p _ _ (by omega))]; exact q1
  · obtain ⟨v, v1, v2⟩ := q2 e
    exact ⟨v, v1, fun j hj => by rw [Gx_I f z (by omega) (p _ _ (by omega))]; exact v2 j hj⟩
  · obtain ⟨s1, s2, s3, s4⟩ := b7 e
    refine ⟨?_, ?_, ?_, fun k hk => ?_⟩
    · rw [Gx_I f z (by omega) (p _ _ (by omega))]; exact s1
    · rw [Gx_I f z (by omega) (p _ _ (by omega))]; exact s2
    · rw [Gx_I f z (by omega) (p _ _ (by omega))]; exact s3
    · rw [Gx_I f z (by omega) (p _ _ (by omega))]; exact s4 k hk
theorem TM_g {P Q R : Nat → Nat → Prop} {h h' : Hp} {rc : Nat} {rw : Nat → Nat} {st : Bool} {cm : Option Nat} {ni cn ca : Nat} {cf : Nat → Nat} (b : TM h rc rw st cm ni cn ca cf) (z : 64 ≤ hz h) (f : Gx P Q R h h') (p : ∀ a k, (a = 35 ∧ 21 ≤ k ∧ k ≤ 27 ∨ a = 49) → ¬ P a k) (q : ∀ a k, a = 48 → ¬ Q a k) : TM h' rc rw st cm ni cn ca cf := by
  obtain ⟨b1, b2, b3, b4, b5⟩ := b
  refine ⟨fun j hj => ?_, ?_, ?_, ?_, fun e => ?_⟩
  · rw [Gx_L f z (by omega) (q _ _ rfl)]; exact b1 j hj
  · rw [Gx_I f z (by omega) (p _ _ (by omega))]; exact b2
  · rw [Gx_I f z (by omega) (p _ _ (by omega))]; exact b3
  · rw [Gx_I f z (by omega) (p _ _ (by omega))]; exact b4
  · obtain ⟨s1, s2, s3, s4⟩ := b5 e
    refine ⟨?_, ?_, ?_, fun k hk => ?_⟩
    · rw [Gx_I f z (by omega) (p _ _ (by omega))]; exact s1
    · rw [Gx_I f z (by omega) (p _ _ (by omega))]; exact s2
    · rw [Gx_I f z (by omega) (p _ _ (by omega))]; exact s3
    · rw [Gx_I f z (by omega) (p _ _ (by omega))]; exact s4 k hk
theorem Tc_g {P Q R : Nat → Nat → Prop} {h h' : Hp} {n ic : Nat} (b : Tc h n ic) (z : 64 ≤ hz h) (f : Gx P Q R h h') (p : ∀ a k, (a = 6 ∧ k ≠ 2 ∧ k ≠ 15 ∨ 9 ≤ a ∧ a ≤ 15 ∨ a = 35 ∧ 21 ≤ k ∧ k ≤ 27 ∨ a = 49) → ¬ P a k) (q : ∀ a k, (a = 6 ∨ a = 11 ∨ a = 48) → ¬ Q a k) : Tc h' n ic := by
  obtain ⟨rc, rw, st, cm, ni, cn, ca, cf, b1, b2, b3⟩ := b
  exact ⟨rc, rw, st, cm, ni, cn, ca, cf, b1, TC_g b2 z f (fun a k c => p a k (by omega)) (fun a k c => q a k (by omega)), TM_g b3 z f (fun a k c => p a k (by omega)) (fun a k c => q a k (by omega))⟩
theorem Pf_g {P Q R : Nat → Nat → Prop} {h h' : Hp} (b : Pf h) (z : 64 ≤ hz h) (f : Gx P Q R h h') (p : ∀ a k, (a = 6 ∧ k = 15 ∨ a = 35 ∧ k = 30 ∨ a = 16 ∨ a = 50) → ¬ P a k) : Pf h' := by
  obtain ⟨x, b0, b1, b2, b3⟩ := b
  refine ⟨x, b0, ?_, ?_, fun j hj => ?_⟩
  · rw [Gx_I f z (by omega) (p _ _ (by omega))]; exact b1
  · rw [Gx_I f z (by omega) (p _ _ (by omega))]; exact b2
  · rw [Gx_I f z (by omega) (p _ _ (by omega)), Gx_I f z (by omega) (p _ _ (by omega))]; exact b3 j hj
theorem Ot_g {P Q R : Nat → Nat → Prop} {h h' : Hp} (b : Ot h) (z : 64 ≤ hz h) (f : Gx P Q R h h') (p : ∀ a k, (31 ≤ a ∧ a ≤ 34) → ¬ P a k) (q : ∀ a k, a = 33 → ¬ Q a k) : Ot h' := by
  obtain ⟨s, w, H⟩ := b
  exact ⟨s, w, Hs_g H z f ⟨by omega, by omega, by omega, by omega⟩ (p _ _ (by omega)) (fun k => p _ _ (by omega)) (fun k => p _ _ (by omega)) (fun k => q _ _ (by omega))⟩
theorem Sl_g {P Q R : Nat → Nat → Prop} {h h' : Hp} {mc : Nat} {bs : Nat → Nat} (b : Sl h mc bs) (z : 64 ≤ hz h) (f : Gx P Q R h h') (r : ∀ a k, (a = 20 ∨ 64 ≤ a) → ¬ R a k) : Sl h' mc bs := by
  intro i hi c hc
  rw [Gx_R f z (by omega) (r _ _ (by omega))] at hc
  obtain ⟨⟨s1, s2⟩, ⟨s3, s4⟩, s5, s6, s7⟩ := b i hi c hc
  refine ⟨⟨s1, Nat.le_trans s2 f.1⟩, ⟨by rw [f.2.1 _ (by omega)]; exact s3, by rw [f.2.1 _ (by omega)]; exact s4⟩, by rw [f.2.2.2.2 _ _ (by omega) (r _ _ (by omega))]; exact s5, s6, fun j hj hn c' hc' => ?_⟩
  rw [Gx_R f z (by omega) (r _ _ (by omega))] at hc'
  exact s7 j hj hn c' hc'
theorem LC_g {P Q R : Nat → Nat → Prop} {h h' : Hp} {n mc : Nat} {D : Nat → Md} {bs : Nat → Nat} {cc : Nat} {ch : Nat → Nat} {len wd pat dp : Nat} {tk fr : Nat → Nat} {sz : Nat} {w : Nat → Nat} {inn : Bool} {ga : Nat} {kn : Nat → Nat → Nat}
    (b : LC h n D bs cc ch len wd pat dp tk fr sz w inn ga kn) (s : Sl h mc bs) (c90 : ∀ j, j < cc → ch j < 90) (z : 64 ≤ hz h) (f : Gx P Q R h h') (p : ∀ a k, (17 ≤ a ∧ a ≤ 28 ∨ 64 ≤ a) → ¬ P a k) (q : ∀ a k, (a = 17 ∨ a = 24) → ¬ Q a k) (r : ∀ a k, (17 ≤ a ∧ a ≤ 20 ∨ 64 ≤ a) → ¬ R a k) : LC h' n D bs cc ch len wd pat dp tk fr sz w inn ga kn := by
  obtain ⟨b1, b2, ⟨b3, b4, b5⟩, ⟨b6, b7, b8⟩, b9, b10, b11, b12, b13, b14, b15⟩ := b
  refine ⟨?_, fun j hj => ⟨?_, ?_⟩, ⟨?_, ?_, ?_⟩, ⟨?_, ?_, ?_⟩, fun d hd => ⟨?_, ?_⟩, Hs_g b10 z f ⟨by omega, by omega, by omega, by omega⟩ (p _ _ (by omega)) (fun k => p _ _ (by omega)) (fun k => p _ _ (by omega)) (fun k => q _ _ (by omega)), fun j hj => ?_, fun d j hd hj => ?_, fun d j hd hj hk => ?_, fun e => ?_, fun e => ⟨?_, ?_⟩⟩
  · rw [Gx_I f z (by omega) (p _ _ (by omega))]; exact b1
  · rw [Gx_I f z (by omega) (p _ _ (by omega))]; exact (b2 j hj).1
  · rw [Gx_R f z (by omega) (r _ _ (by omega))]; exact (b2 j hj).2
  · rw [Gx_I f z (by omega) (p _ _ (by omega))]; exact b3
  · rw [Gx_I f z (by omega) (p _ _ (by omega))]; exact b4
  · rw [Gx_I f z (by omega) (p _ _ (by omega))]; exact b5
  · rw [Gx_L f z (by omega) (q _ _ (by omega))]; exact b6
  · rw [Gx_L f z (by omega) (q _ _ (by omega))]; exact b7
  · rw [Gx_L f z (by omega) (q _ _ (by omega))]; exact b8
  · rw [Gx_I f z (by omega) (p _ _ (by omega))]; exact (b9 d hd).1
  · rw [Gx_I f z (by omega) (p _ _ (by omega))]; exact (b9 d hd).2
  · rw [Gx_I f z (by omega) (p _ _ (by omega))]; exact b11 j hj
  · rw [Gx_I f z (by omega) (p _ _ (by omega))]; exact b12 d j hd hj
  · obtain ⟨c, c1, c2, c3⟩ := b13 d j hd hj hk
    have h90 := c90 j hj
    obtain ⟨⟨s1, s2⟩, -⟩ := s (90 * d + ch j) (by omega) c c1
    exact ⟨c, by rw [Gx_R f z (by omega) (r _ _ (by omega))]; exact c1, by rw [f.2.2.1 _ _ (by omega) (p _ _ (by omega))]; exact c2, fun k hk => by rw [f.2.2.1 _ _ (by omega) (p _ _ (by omega))]; exact c3 k hk⟩
  · rw [Gx_R f z (by omega) (r _ _ (by omega))]; exact b14 e
  · rw [Gx_R f z (by omega) (r _ _ (by omega)), Gx_R f z (by omega) (r _ _ (by omega))]; exact (b15 e).1
  · rw [Gx_I f z (by omega) (p _ _ (by omega))]; exact (b15 e).2
theorem LM_g {P Q R : Nat → Nat → Prop} {h h' : Hp} {D : Nat → Md} {cc : Nat} {ch : Nat → Nat} {len wd pat dp : Nat} {tk fr : Nat → Nat} {sz : Nat} {w : Nat → Nat} {inn : Bool} {ga : Nat} {kn : Nat → Nat → Nat}
    (b : LM h D cc ch len wd pat dp tk fr sz w inn ga kn) (z : 64 ≤ hz h) (f : Gx P Q R h h') (p : ∀ a k, (a = 35 ∧ 36 ≤ k ∧ k ≤ 51 ∧ k ≠ 39 ∨ 54 ≤ a ∧ a ≤ 59) → ¬ P a k) (q : ∀ a k, (a = 35 ∨ a = 58) → ¬ Q a k) : LM h' D cc ch len wd pat dp tk fr sz w inn ga kn := by
  obtain ⟨b1, b2, ⟨b3, b4, b5⟩, b6, b7, b8, b9, b10, b11⟩ := b
  refine ⟨?_, fun j hj => ?_, ⟨?_, ?_, ?_⟩, ?_, fun d hd => ⟨?_, ?_⟩, fun j hj => ?_, fun d j hd hj => ?_, ?_, fun e => ⟨?_, ?_, ?_, fun k hk => ?_⟩⟩
  · rw [Gx_I f z (by omega) (p _ _ (by omega))]; exact b1
  · rw [Gx_I f z (by omega) (p _ _ (by omega))]; exact b2 j hj
  · rw [Gx_I f z (by omega) (p _ _ (by omega))]; exact b3
  · rw [Gx_I f z (by omega) (p _ _ (by omega))]; exact b4
  · rw [Gx_I f z (by omega) (p _ _ (by omega))]; exact b5
  · rw [Gx_L f z (by omega) (q _ _ (by omega))]; exact b6
  · rw [Gx_I f z (by omega) (p _ _ (by omega))]; exact (b7 d hd).1
  · rw [Gx_I f z (by omega) (p _ _ (by omega))]; exact (b7 d hd).2
  · rw [Gx_L f z (by omega) (q _ _ (by omega))]; exact b8 j hj
  · rw [Gx_I f z (by omega) (p _ _ (by omega))]; exact b9 d j hd hj
  · rw [Gx_I f z (by omega) (p _ _ (by omega))]; exact b10
  · rw [Gx_I f z (by omega) (p _ _ (by omega))]; exact (b11 e).1
  · rw [Gx_I f z (by omega) (p _ _ (by omega))]; exact (b11 e).2.1
  · rw [Gx_I f z (by omega) (p _ _ (by omega))]; exact (b11 e).2.2.1
  · rw [Gx_I f z (by omega) (p _ _ (by omega))]; exact (b11 e).2.2.2 k hk
theorem LW_90 {n mc : Nat} {D : Nat → Md} {cc : Nat} {ch : Nat → Nat} {len wd pat dp : Nat} {tk fr : Nat → Nat} {sz : Nat} {w : Nat → Nat} {inn : Bool} {ga : Nat} {kn : Nat → Nat → Nat} (b : LW n mc D cc ch len wd pat dp tk fr sz w inn ga kn) (hm : mc ≤ 30) : ∀ j, j < cc → ch j < 90 := fun j hj => by have := b.1.2.1 j hj; omega
theorem Sr_g {P Q R : Nat → Nat → Prop} {h h' : Hp} {n mc : Nat} {D : Nat → Md} {bs : Nat → Nat} (b : Sr h n mc D bs) (hm : mc ≤ 30) (z : 64 ≤ hz h) (f : Gx P Q R h h') (p : ∀ a k, (17 ≤ a ∧ a ≤ 28 ∨ 64 ≤ a ∨ a = 35 ∧ 33 ≤ k ∧ k ≤ 53 ∨ 54 ≤ a ∧ a ≤ 60) → ¬ P a k) (q : ∀ a k, (a = 17 ∨ a = 24 ∨ a = 35 ∨ a = 58) → ¬ Q a k) (r : ∀ a k, (17 ≤ a ∧ a ≤ 20 ∨ 64 ≤ a) → ¬ R a k) : Sr h' n mc D bs := by
  obtain ⟨s1, ⟨s2, s3⟩, ⟨sz, w, s4⟩, s5⟩ := b
  have e : ∀ a k, a < 64 → (17 ≤ a ∧ a ≤ 28 ∨ a = 35 ∧ 33 ≤ k ∧ k ≤ 53 ∨ 54 ≤ a ∧ a ≤ 60) → hI h' a k = hI h a k := fun a k h1 h2 => Gx_I f z h1 (p a k (by omega))
  refine ⟨Sl_g s1 z f (fun a k c => r a k (by omega)), ⟨?_, ?_⟩, ⟨sz, w, Hs_g s4 z f ⟨by omega, by omega, by omega, by omega⟩ (p _ _ (by omega)) (fun k => p _ _ (by omega)) (fun k => p _ _ (by omega)) (fun k => q _ _ (by omega))⟩, ?_⟩
  · rw [e _ _ (by omega) (by omega)]; exact s2
  · rw [e 17 _ (by omega) (by omega), e 35 _ (by omega) (by omega)]; exact s3
  · unfold Sn at s5 ⊢
    rw [e 17 17 (by omega) (by omega), e 35 33 (by omega) (by omega), e 35 53 (by omega) (by omega), e 35 35 (by omega) (by omega), e 17 19 (by omega) (by omega), e 35 34 (by omega) (by omega), e 17 3 (by omega) (by omega)]
    rcases s5 with s5 | ⟨t1, t2, t3, t4⟩
    · exact Or.inl s5
    refine Or.inr ⟨t1, t2, t3, ?_⟩
    rcases t4 with t4 | ⟨t4, len, l1, l2, l3, l4⟩ | ⟨t4, t5, t6⟩
    · exact Or.inl t4
    · refine Or.inr (Or.inl ⟨t4, len, l1, l2, l3, fun i hi => ?_⟩)
      obtain ⟨t, a1, a2, a3⟩ := l4 i hi
      exact ⟨t, a1, by rw [e 27 _ (by omega) (by omega)]; exact a2, by rw [e 18 _ (by omega) (by omega), e 60 _ (by omega) (by omega)]; exact a3⟩
    · refine Or.inr (Or.inr ⟨t4, t5, fun v => ?_⟩)
      obtain ⟨cc, ch, len, wd, pat, dp, tk, fr, sz, w, ga, kn, x1, x2, x3⟩ := t6 v
      exact ⟨cc, ch, len, wd, pat, dp, tk, fr, sz, w, ga, kn, x1, LC_g x2 s1 (LW_90 x1 hm) z f (fun a k c => p a k (by omega)) (fun a k c => q a k (by omega)) r, LM_g x3 z f (fun a k c => p a k (by omega)) (fun a k c => q a k (by omega))⟩
/-- what is left where only the finding, the trace, the other rows and cells of no meaning change -/
theorem Inv_x {P Q : Nat → Nat → Prop} {h h' : Hp} (I : Inv h) (f : Gx P Q nF h h')
    (p : ∀ a k, a < hz h → P a k → (a = 0 ∧ k = 6 ∨ a = 35 ∧ (k = 3 ∨ k = 14 ∨ k = 15 ∨ k = 55 ∨ k = 56) ∨ a = 4 ∨ a = 37 ∨ a = 3 ∨ a = 1 ∧ k ≠ 1 ∨ 29 ≤ a ∧ a ≤ 34 ∨ a = 45 ∨ a = 51 ∨ a = 61 ∨ a = 62))
    (q : ∀ a k, a < hz h → Q a k → a = 33 ∨ a = 63) (T : Tr h') (F : Fdn h') (O : Ot h') : Inv h' := by
  obtain ⟨n, mc, D, bs, ic, im, ik, i1, i2, i3, i4, i5, i6, i7, i8, i9, i10, i11, i12⟩ := I
  have z := i1.1.1
  have f := Gx_m f p q (fun a k _ c => c)
  have r : ∀ (X : Nat → Nat → Prop) a k, X a k → ¬ nF a k := fun _ _ _ _ c => c
  refine ⟨n, mc, D, bs, ic, im, ik, Bs_g i1 f ?_ (r _), T, F, Tp_g i4 z f ?_, Ms_g i5 z f ?_, Cs_g i6 z f ?_ (r _), Rg_g i7 z f ?_, It_g i8 z f ?_ (r _), Tc_g i9 z f ?_ ?_, Pf_g i10 z f ?_, O, Sr_g i12 i6.2.1 z f ?_ ?_ (r _)⟩ <;> (intro a k c d; omega)
def F2 (h : Hp) (c : Int32) : Hp := sI (sI h 0 6 c) 35 3 c
theorem F2_x (h : Hp) (c : Int32) : Fi (fun a k => a = 0 ∧ k = 6 ∨ a = 35 ∧ k = 3) h (F2 h c) := Fx_t (Fx_sI h _ (by omega)) (Fx_sI _ _ (by omega))
theorem F2_g (h : Hp) (c : Int32) : Gr h (F2 h c) := Gr_F (F2_x h c)
theorem F2_fd (h : Hp) (c : Int32) : Fdn (F2 h c) := by
  unfold Fdn F2
  rw [sI_at, sI_ne (by omega), sI_at]
theorem Inv_F {h : Hp} (I : Inv h) (c : Int32) : Inv (F2 h c) := by
  have f := Gx_F (F2_x h c)
  have I' := I
  obtain ⟨n, mc, D, bs, ic, im, ik, i1, i2, i3, i4, i5, i6, i7, i8, i9, i10, i11, i12⟩ := I
  exact Inv_x I' f (fun a k _ c => by omega) (fun a k _ c => c.elim) (Tr_g i2 i1.1.1 f (by omega)) (F2_fd h c) (Ot_g i11 i1.1.1 f (by omega) (fun a k _ c => c))
