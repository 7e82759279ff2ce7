/-! PURE: methods as plain data -/
abbrev Md : Type := Nat × Option Nat × (Nat → Nat) × (Nat → Option Nat) × (Nat → Nat) × List Nat × Nat
def kd (d : Md) : Nat := d.1
def ln (d : Md) : Option Nat := d.2.1
def ld (d : Md) : Nat → Nat := d.2.2.1
def cp (d : Md) : Nat → Option Nat := d.2.2.2.1
def cc (d : Md) : Nat → Nat := d.2.2.2.2.1
def pt (d : Md) : List Nat := d.2.2.2.2.2.1
def aw (d : Md) : Nat := d.2.2.2.2.2.2
def oI : Option Nat → Int32
  | none => -1
  | some k => nI k
/-- a method as the model has it -/
def MM (h : Hp) (m : Nat) (d : Md) : Prop :=
  hI h 38 m = nI (kd d) ∧ hI h 39 m = oI (ln d) ∧ (∀ L, ln d = some L → ∀ k, k < L → hI h 40 (100 * m + k) = nI (ld d k)) ∧
  (∀ c, 1 ≤ c → c ≤ 2 → hI h 41 (3 * m + c) = oI (cp d c)) ∧ (∀ c, 1 ≤ c → c ≤ 2 → cp d c ≠ none → hI h 42 (3 * m + c) = nI (cc d c)) ∧
  hI h 43 m = nI (pt d).length ∧ (∀ i, i < (pt d).length → hI h 44 (6 * m + i) = nI ((pt d).getD i 0)) ∧ hI h 53 m = nI (aw d)
/-- what holds of its data -/
def Wm (n m : Nat) (D : Nat → Md) : Prop :=
  kd (D m) < 6 ∧ (∀ L, ln (D m) = some L → L ≤ 100 ∧ ∀ k, k < L → Ch n (ld (D m) k)) ∧ (∀ c p, cp (D m) c = some p → p < 2 ^ 31 ∧ Ch n (cc (D m) c)) ∧
  (pt (D m)).length ≤ 6 ∧ (∀ i, i < (pt (D m)).length → (pt (D m)).getD i 0 < m ∧ kd (D ((pt (D m)).getD i 0)) ≠ 5) ∧ aw (D m) < 8 ∧ (kd (D m) = 5 → ln (D m) = none)
/-! the trace -/
def bm (t : Nat → Int32) : List Nat → Nat → Int32
  | [] => t
  | j :: l => bm (va_up t j (t j + 1)) l
def bq (q : Bool) (t : Nat → Int32) (l : List Nat) : Nat → Int32 := if q = true then bm t l else t
theorem bq_nil (q : Bool) (t : Nat → Int32) : bq q t [] = t := by cases q <;> rfl
theorem bm_app (t : Nat → Int32) (l r : List Nat) : bm t (l ++ r) = bm (bm t l) r := by
  induction l generalizing t with
  | nil => rfl
  | cons j l ih => exact ih _
theorem bq_app (q : Bool) (t : Nat → Int32) (l r : List Nat) : bq q t (l ++ r) = bq q (bq q t l) r := by
  cases q
  · rfl
  · exact bm_app t l r
theorem bq_cons (q : Bool) (t : Nat → Int32) (j : Nat) (r : List Nat) : bq q t (j :: r) = bq q (bq q t [j]) r := bq_app q t [j] r
def qI (q : Bool) : Int32 := if q = true then 1 else 0
theorem sI_row (h : Hp) (a k : Nat) (x : Int32) : hI (sI h a k x) a = va_up (hI h a) k x := by rw [hI_sI, if_pos rfl]
theorem sI_row' {h : Hp} {a k b : Nat} {x : Int32} (e : b ≠ a) : hI (sI h a k x) b = hI h b := by rw [hI_sI, if_neg e]
/-- cells that an act of the model's writes -/
def PM (a k : Nat) : Prop := a = 37 ∨ a = 45 ∨ a = 35 ∧ (k = 14 ∨ k = 15)
theorem M_count_s {N k c : Nat} {q : Bool} {h : Hp} (L : Lay h) (hq : hI h 35 16 = qI q) (hk : 3 * k + c < 18) : ∃ h', M_count N (some 35) (nI k) (nI c) h = some ((), h') ∧ Fi PM h h' ∧ hI h' 37 = bq q (hI h 37) [3 * k + c] ∧ (∀ a, a ≠ 37 → hI h' a = hI h a) := by
  unfold M_count
  simp only [gi_s, gl_s, gr_s, pi_s, pl_s, cl_s, ds_1, ck_s, nmE, ok_sI, ok_sL, hK_sI, hK_sL, hR_sI, hR_sL, hL_sI, Lay_sI, Lay_sL, r35_0, r35_4, r35_6, r35_7, r35_8, r35_9, r35_10, r35_11, r35_12, r35_13, r35_17, r35_18, r35_20, r35_23, r35_28, r35_29, r35_31, r35_32, r35_40, r35_42, r35_45, r35_46, r35_47, r35_49, r35_52, r35_54, r35_57, r35_58, o35, o36, o37, o38, o39, o40, o41, o42, o43, o44, o45, o46, o47, o48, o49, o50, o51, o52, o53, o54, o55, o56, o57, o58, o59, o60, o61, o62, o63, L, hq]
  cases q with
  | false => exact ⟨h, by simp [qI], Fx_r _ _ _, rfl, fun _ _ => rfl⟩
  | true =>
    have e : (3 : Int32) * nI k + nI c = nI (3 * k + c) := by
      rw [show (3 : Int32) * nI k = nI (3 * k) from pk_mul 3 k, nI_add]
    rw [if_neg (by decide)]
    refine ⟨_, ?_, Fx_sI h (a := 37) (k := 3 * k + c) (hI h 37 (3 * k + c) + 1) (Or.inl rfl), ?_, ?_⟩
    · simp only [gi_s, gl_s, gr_s, pi_s, pl_s, cl_s, ds_1, ck_s, nmE, ok_sI, ok_sL, hK_sI, hK_sL, hR_sI, hR_sL, hL_sI, Lay_sI, Lay_sL, r35_0, r35_4, r35_6, r35_7, r35_8, r35_9, r35_10, r35_11, r35_12, r35_13, r35_17, r35_18, r35_20, r35_23, r35_28, r35_29, r35_31, r35_32, r35_40, r35_42, r35_45, r35_46, r35_47, r35_49, r35_52, r35_54, r35_57, r35_58, o35, o36, o37, o38, o39, o40, o41, o42, o43, o44, o45, o46, o47, o48, o49, o50, o51, o52, o53, o54, o55, o56, o57, o58, o59, o60, o61, o62, o63, L, e, li_s, si_s, k36, k37, k38, k39, k40, k41, k42, k43, k44, k45, k46, k47, k48, k49, k50, k51, k52, k53, k54, k55, k56, k57, k58, k59, k60, k61, k62, k63, hk, Nat.reducePow, Nat.reduceLT]
    · exact sI_row ..
    · intro a ha; exact sI_row' ha
