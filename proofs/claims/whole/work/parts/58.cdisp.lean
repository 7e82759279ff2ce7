/-! PURE: the class's acts, by kind -/
/-- all methods, as the class has them -/
def Cs (h : Hp) (n mc : Nat) (D : Nat → Md) (bs : Nat → Nat) : Prop := hI h 0 3 = nI mc ∧ mc ≤ 30 ∧ (∀ m, m < mc → hR h 5 m = some (bs m) ∧ CM h (bs m) n (D m) bs ∧ Wm n m D) ∧ ∀ m m', m < m' → m' < mc → bs m + bw (D m) ≤ bs m'
theorem Cs_f {h h' : Hp} {n mc : Nat} {D : Nat → Md} {bs : Nat → Nat} (c : Cs h n mc D bs) {P Q : Nat → Nat → Prop} (f : Fx P Q h h') (e0 : ¬ P 0 3) (e : ∀ m, m < mc → ∀ a, bs m ≤ a → a < bs m + 5 → ∀ k, ¬ P a k) : Cs h' n mc D bs :=
  ⟨by rw [Fx_I f e0]; exact c.1, c.2.1, fun m hm => ⟨by rw [Fx_R f]; exact (c.2.2.1 m hm).1, CM_f (c.2.2.1 m hm).2.1 f (e m hm), (c.2.2.1 m hm).2.2⟩, c.2.2.2⟩
theorem Cs_4 {h h' : Hp} {n mc : Nat} {D : Nat → Md} {bs : Nat → Nat} (c : Cs h n mc D bs) (f : Fi P4 h h') : Cs h' n mc D bs :=
  Cs_f c f (by unfold P4; omega) (fun m hm a h1 h2 k => by have := CM_64 (c.2.2.1 m hm).2.1; unfold P4; omega)
/-- a lead that can be written to -/
def Wr (h : Hp) (mc : Nat) (bs : Nat → Nat) (o oc : Nat) : Prop := LO h o oc ∧ (o ≠ 4 ∧ oc ≠ 4) ∧ ∀ m, m < mc → Dj (bs m) o ∧ Dj (bs m) oc
theorem Wr_f {h h' : Hp} {mc : Nat} {bs : Nat → Nat} {o oc : Nat} (w : Wr h mc bs o oc) {P Q : Nat → Nat → Prop} (f : Fx P Q h h') : Wr h' mc bs o oc := ⟨LO_f w.1 f, w.2⟩
theorem Rdy_of {h : Hp} {n mc : Nat} {D : Nat → Md} {bs : Nat → Nat} {o oc m : Nat} (L : Lay h) (c : Cs h n mc D bs) (w : Wr h mc bs o oc) (hm : m < mc) : Rdy h (bs m) n (D m) bs o oc := by
  obtain ⟨-, c2, c3⟩ := c.2.2.1 m hm
  exact ⟨L, c2, fun M hM => (c3.2.1 M hM).1, w.1, w.2.1, (w.2.2 m hm).1, (w.2.2 m hm).2, fun c p hp => (c3.2.2.1 c p hp).1⟩
theorem called_5 {N b n c o oc : Nat} {i : Int32} {d : Md} {bs : Nat → Nat} {h : Hp} (r : Rdy h b n d bs o oc) (hk : kd d < 5) (hc : c ≤ 2) : ∃ x h', dl [(1, Little_calledOf N (some b) i (nI c) (some o) h), (2, Plain_calledOf N (some b) i (nI c) (some o) h), (3, Principle_calledOf N (some b) i (nI c) (some o) h), (7, Surprise_calledOf N (some b) i (nI c) (some o) h), (10, Plain_calledOf N (some b) i (nI c) (some o) h)] (kc' (kd d)) = some (x, h') ∧ KT o oc (cT d c) (cR d c) h h' x := by
  have : kd d = 0 ∨ kd d = 1 ∨ kd d = 2 ∨ kd d = 3 ∨ kd d = 4 := by omega
  rcases this with q | q | q | q | q <;> rw [q]
  · exact plain_called_s r (Or.inl q) hc
  · exact little_called_s r q hc
  · exact plain_called_s r (Or.inr q) hc
  · exact surprise_called_s r q hc
  · exact princ_called_s r q hc
theorem called_6 {β : Type} {A B C S D E : Option β} {k : Nat} (hk : k < 5) : dl [(1, A), (2, B), (3, C), (6, S), (7, D), (10, E)] (kc' k) = dl [(1, A), (2, B), (3, C), (7, D), (10, E)] (kc' k) := by
  have : k = 0 ∨ k = 1 ∨ k = 2 ∨ k = 3 ∨ k = 4 := by omega
  rcases this with q | q | q | q | q <;> subst q <;> rfl
theorem partOf_0 {N m n mc : Nat} {i : Int32} {D : Nat → Md} {bs : Nat → Nat} {h : Hp} (c : Cs h n mc D bs) (hm : m < mc) (k5 : kd (D m) = 5) (hp : (pt (D m)).length = 0) : Spliced_partOf N (some (bs m)) i h = some (none, h) := by
  obtain ⟨-, c2, -⟩ := c.2.2.1 m hm
  have okb : ok h [6] (bs m) = true := CM_ok c2 (by rw [k5]; decide)
  obtain ⟨p1, -⟩ := c2.2.2.2.2.2.2.2.2 k5
  unfold Spliced_partOf
  rw [gi_s okb, p1, hp, if_pos (cN_0)]
theorem partOf_1 {N m n mc i : Nat} {D : Nat → Md} {bs : Nat → Nat} {h : Hp} (c : Cs h n mc D bs) (hm : m < mc) (k5 : kd (D m) = 5) (hi : i < 2 ^ 31) (hp : 0 < (pt (D m)).length) : Spliced_partOf N (some (bs m)) (nI i) h = some (some (bs ((pt (D m)).getD (i % (pt (D m)).length) 0)), h) := by
  obtain ⟨-, c2, c3⟩ := c.2.2.1 m hm
  have okb : ok h [6] (bs m) = true := CM_ok c2 (by rw [k5]; decide)
  obtain ⟨p1, p2⟩ := c2.2.2.2.2.2.2.2.2 k5
  have K5 := c2.2.1.2.2.2.2.2 k5
  have z := c2.1.2
  rw [bw, if_pos k5] at z
  have ok5 : ok h [18] (bs m + 5) = true := ok_K (by omega) K5
  have l6 := c3.2.2.2.1
  have hlt := Nat.mod_lt i hp
  have l6' : i % (pt (D m)).length < 6 := by omega
  unfold Spliced_partOf nz
  rw [gi_s okb, p1, if_neg (fun q => by have := (nI_eq0 (by omega)).mp q; omega)]
  simp only [gr_s, okb, c2.2.2.1.2.2.2.2.2 k5, gi_s, p1]
  rw [if_neg (fun q => by have := (nI_eq0 (by omega)).mp q; omega), nI_mod (by omega) hi hp, lr_s ok5 (by rw [K5]; exact l6') (by rw [K5]; decide), p2 _ hlt]
theorem Dc_s {N m i c n mc o oc : Nat} {D : Nat → Md} {bs : Nat → Nat} {h : Hp} (L : Lay h) (C : Cs h n mc D bs) (w : Wr h mc bs o oc) (hm : m < mc) (hi : i < 2 ^ 31) (hc : c ≤ 2) : ∃ x h', ds [(1, Little_calledOf N (some (bs m)) (nI i) (nI c) (some o) h), (2, Plain_calledOf N (some (bs m)) (nI i) (nI c) (some o) h), (3, Principle_calledOf N (some (bs m)) (nI i) (nI c) (some o) h), (6, Spliced_calledOf N (some (bs m)) (nI i) (nI c) (some o) h), (7, Surprise_calledOf N (some (bs m)) (nI i) (nI c) (some o) h), (10, Plain_calledOf N (some (bs m)) (nI i) (nI c) (some o) h)] (some (bs m)) h = some (x, h') ∧ KT o oc (CT D m i c) (CR D m i c) h h' x := by
  obtain ⟨-, c2, c3⟩ := C.2.2.1 m hm
  have bz : bs m < hz h := ok_lt (CM_ok c2 kc_in)
  rw [ds_a bz c2.2.1.1]
  by_cases k5 : kd (D m) = 5
  · rw [k5]
    show ∃ x h', Spliced_calledOf N (some (bs m)) (nI i) (nI c) (some o) h = some (x, h') ∧ _
    have okb : ok h [6] (bs m) = true := CM_ok c2 (by rw [k5]; decide)
    unfold Spliced_calledOf
    simp only [gr_s, okb, c2.2.2.1.1, li_16, si_16, o4, k4, L, Nat.reducePow, Nat.reduceLT]
    obtain ⟨f1, t1⟩ := bump_s (h := h) (j := 16)
    generalize sI h 4 16 (hI h 4 16 + 1) = h1 at f1 t1
    have L1 := Fx_Lay f1 L
    have C1 := Cs_4 C f1
    have w1 := Wr_f w f1
    have okb1 : ok h1 [6] (bs m) = true := CM_ok (C1.2.2.1 m hm).2.1 (by rw [k5]; decide)
    rw [ds_1 okb1]
    unfold CT CR rs
    simp only [k5, if_true]
    by_cases hp : (pt (D m)).length = 0
    · rw [partOf_0 C1 hm k5 hp, cl_s, if_pos rfl, if_pos hp]
      exact ⟨_, _, rfl, KT_pre f1 t1 ⟨⟨Fx_r _ _ _, rfl, by simp⟩, rfl⟩⟩
    · rw [partOf_1 C1 hm k5 hi (by omega), cl_s, if_neg (by simp), if_neg hp]
      have hlt := Nat.mod_lt i (show 0 < (pt (D m)).length by omega)
      obtain ⟨p1, p2⟩ := c3.2.2.2.2.1 _ hlt
      generalize (pt (D m)).getD (i % (pt (D m)).length) 0 = p at p1 p2
      have hpm : p < mc := by omega
      obtain ⟨-, d2, d3⟩ := C1.2.2.1 p hpm
      rw [ds_a (ok_lt (CM_ok d2 kc_in)) d2.2.1.1]
      have := d3.1
      obtain ⟨x, h', e1, e2⟩ := called_5 (N := N) (i := nI i) (Rdy_of L1 C1 w1 hpm) (by omega) hc
      rw [e1, cl_s]
      exact ⟨x, h', rfl, KT_pre f1 t1 e2⟩
  · have := c3.1
    rw [called_6 (by omega), CR_a k5, CT_a k5]
    exact called_5 (Rdy_of L C w hm) (by omega) hc
/-- the lead that an act of the class hands out -/
def LD (h : Hp) (y yc : Nat) (R : Nat × Nat × (Nat → Nat)) : Prop := ok h [0] y = true ∧ ok h [13] yc = true ∧ hK h yc = (13, 100) ∧ hR h y 0 = some yc ∧ hI h y 2 = nI R.1 ∧ hI h y 1 = nI R.2.1 ∧ R.2.1 ≤ 100 ∧ ∀ k, k < R.2.1 → hI h yc k = nI (R.2.2 k)
theorem LD_own {h : Hp} {b n : Nat} {d : Md} {bs : Nat → Nat} (c : CM h b n d bs) (w : ∀ M, ln d = some M → M ≤ 100) (k5 : kd d ≠ 5) : LD h (b + 1) (b + 2) (lR d) := by
  have z := c.1.2
  have h2 : 5 ≤ bw d := by unfold bw; split <;> omega
  have o1 : ok h [0] (b + 1) = true := ok_K (by omega) c.2.1.2.1
  have o2 : ok h [13] (b + 2) = true := ok_K (by omega) c.2.1.2.2.1
  unfold lR
  cases hl : ln d with
  | none =>
    have := c.2.2.2.2.2.1 hl
    rw [if_neg k5] at this
    exact ⟨o1, o2, c.2.1.2.2.1, c.2.2.1.2.2.2.2.1, this.2, this.1, by simp, by simp⟩
  | some M =>
    have := c.2.2.2.2.1 M hl
    exact ⟨o1, o2, c.2.1.2.2.1, c.2.2.1.2.2.2.2.1, this.1, this.2.1, w M hl, this.2.2⟩
theorem lead_5 {N b n : Nat} {i : Int32} {d : Md} {bs : Nat → Nat} {h : Hp} (L : Lay h) (c : CM h b n d bs) (w : ∀ M, ln d = some M → M ≤ 100) (hk : kd d < 5) : ∃ h', dl [(1, Plain_leadOf N (some b) i h), (2, Plain_leadOf N (some b) i h), (3, Principle_leadOf N (some b) i h), (7, Plain_leadOf N (some b) i h), (10, Plain_leadOf N (some b) i h)] (kc' (kd d)) = some (some (b + 1), h') ∧ Fi P4 h h' ∧ hI h' 4 = bm (hI h 4) (lT d) := by
  have : kd d ≤ 3 ∨ kd d = 4 := by omega
  unfold lT
  rcases this with q | q
  · rw [if_neg (by omega)]
    refine ⟨sI h 4 0 (hI h 4 0 + 1), ?_, bump_s⟩
    have : dl [(1, Plain_leadOf N (some b) i h), (2, Plain_leadOf N (some b) i h), (3, Principle_leadOf N (some b) i h), (7, Plain_leadOf N (some b) i h), (10, Plain_leadOf N (some b) i h)] (kc' (kd d)) = Plain_leadOf N (some b) i h := by
      rcases kc_le3 q with z | z | z | z <;> rw [z] <;> rfl
    rw [this]
    exact plain_lead_s L c q
  · rw [if_pos q, q]
    exact ⟨sI h 4 12 (hI h 4 12 + 1), princ_lead_s (N := N) (i := i) L c q, bump_s⟩
theorem Dl_s {N m i n mc : Nat} {D : Nat → Md} {bs : Nat → Nat} {h : Hp} (L : Lay h) (C : Cs h n mc D bs) (hm : m < mc) (hi : i < 2 ^ 31) : ∃ y yc h', ds [(1, Plain_leadOf N (some (bs m)) (nI i) h), (2, Plain_leadOf N (some (bs m)) (nI i) h), (3, Principle_leadOf N (some (bs m)) (nI i) h), (6, Spliced_leadOf N (some (bs m)) (nI i) h), (7, Plain_leadOf N (some (bs m)) (nI i) h), (10, Plain_leadOf N (some (bs m)) (nI i) h)] (some (bs m)) h = some (some y, h') ∧ Fi P4 h h' ∧ hI h' 4 = bm (hI h 4) (LT D m i) ∧ LD h' y yc (LR D m i) ∧ 64 ≤ y ∧ 64 ≤ yc := by
  obtain ⟨-, c2, c3⟩ := C.2.2.1 m hm
  have bz : bs m < hz h := ok_lt (CM_ok c2 kc_in)
  rw [ds_a bz c2.2.1.1]
  by_cases k5 : kd (D m) = 5
  · rw [k5]
    show ∃ y yc h', Spliced_leadOf N (some (bs m)) (nI i) h = some (some y, h') ∧ _
    have okb : ok h [6] (bs m) = true := CM_ok c2 (by rw [k5]; decide)
    unfold Spliced_leadOf
    simp only [gr_s, okb, c2.2.2.1.1, li_15, si_15, o4, k4, L, Nat.reducePow, Nat.reduceLT]
    obtain ⟨f1, t1⟩ := bump_s (h := h) (j := 15)
    generalize sI h 4 15 (hI h 4 15 + 1) = h1 at f1 t1
    have L1 := Fx_Lay f1 L
    have C1 := Cs_4 C f1
    obtain ⟨-, e2, -⟩ := C1.2.2.1 m hm
    have okb1 : ok h1 [6] (bs m) = true := CM_ok e2 (by rw [k5]; decide)
    rw [ds_1 okb1]
    unfold LT LR rs
    simp only [k5, if_true]
    by_cases hp : (pt (D m)).length = 0
    · rw [partOf_0 C1 hm k5 hp, cl_s, if_pos rfl, if_pos hp, gr_s okb1, e2.2.2.1.2.1]
      have z := e2.1.2
      rw [bw, if_pos k5] at z
      have l0 : ln (D m) = none := c3.2.2.2.2.2.2 k5
      have l1 := e2.2.2.2.2.2.1 l0
      rw [if_pos k5] at l1
      have := e2.1.1
      exact ⟨bs m + 1, bs m + 2, h1, rfl, f1, t1, ⟨ok_K (by omega) e2.2.1.2.1, ok_K (by omega) e2.2.1.2.2.1, e2.2.1.2.2.1, e2.2.2.1.2.2.2.2.1, l1.2, l1.1, by simp, by simp⟩, by omega, by omega⟩
    · rw [partOf_1 C1 hm k5 hi (by omega), cl_s, if_neg (by simp), if_neg hp]
      have hlt := Nat.mod_lt i (show 0 < (pt (D m)).length by omega)
      obtain ⟨p1, p2⟩ := c3.2.2.2.2.1 _ hlt
      generalize (pt (D m)).getD (i % (pt (D m)).length) 0 = p at p1 p2
      have hpm : p < mc := by omega
      obtain ⟨-, d2, d3⟩ := C1.2.2.1 p hpm
      rw [ds_a (ok_lt (CM_ok d2 kc_in)) d2.2.1.1]
      have := d3.1
      obtain ⟨h', e1, e2, e3⟩ := lead_5 (N := N) (i := nI i) L1 d2 (fun M hM => (d3.2.1 M hM).1) (by omega)
      rw [e1, cl_s]
      have C2 := Cs_4 C1 e2
      have d64 := d2.1.1
      exact ⟨bs p + 1, bs p + 2, h', rfl, Fx_t f1 e2, by rw [e3, t1, ← bm_app], LD_own (C2.2.2.1 p hpm).2.1 (fun M hM => (d3.2.1 M hM).1) p2, by omega, by omega⟩
  · have := c3.1
    rw [called_6 (by omega), LR_a k5, LT_a k5]
    obtain ⟨h', e1, e2, e3⟩ := lead_5 (N := N) (i := nI i) L c2 (fun M hM => (c3.2.1 M hM).1) (by omega)
    have C2 := Cs_4 C e2
    have d64 := c2.1.1
    exact ⟨bs m + 1, bs m + 2, h', e1, e2, e3, LD_own (C2.2.2.1 m hm).2.1 (fun M hM => (c3.2.1 M hM).1) k5, by omega, by omega⟩
