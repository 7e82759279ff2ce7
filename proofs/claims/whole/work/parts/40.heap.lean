/-! PURE: reading and writing of the heap -/
theorem hK_sI (h : Hp) (a k : Nat) (x : Int32) : hK (sI h a k x) = hK h := rfl
theorem hz_sI (h : Hp) (a k : Nat) (x : Int32) : hz (sI h a k x) = hz h := rfl
theorem hs_sI (h : Hp) (a k : Nat) (x : Int32) : hs (sI h a k x) = hs h := rfl
theorem hL_sI (h : Hp) (a k : Nat) (x : Int32) : hL (sI h a k x) = hL h := rfl
theorem hR_sI (h : Hp) (a k : Nat) (x : Int32) : hR (sI h a k x) = hR h := rfl
theorem hK_sL (h : Hp) (a k : Nat) (x : Int64) : hK (sL h a k x) = hK h := rfl
theorem hz_sL (h : Hp) (a k : Nat) (x : Int64) : hz (sL h a k x) = hz h := rfl
theorem hs_sL (h : Hp) (a k : Nat) (x : Int64) : hs (sL h a k x) = hs h := rfl
theorem hI_sL (h : Hp) (a k : Nat) (x : Int64) : hI (sL h a k x) = hI h := rfl
theorem hR_sL (h : Hp) (a k : Nat) (x : Int64) : hR (sL h a k x) = hR h := rfl
theorem hK_sR (h : Hp) (a k : Nat) (x : Option Nat) : hK (sR h a k x) = hK h := rfl
theorem hz_sR (h : Hp) (a k : Nat) (x : Option Nat) : hz (sR h a k x) = hz h := rfl
theorem hs_sR (h : Hp) (a k : Nat) (x : Option Nat) : hs (sR h a k x) = hs h := rfl
theorem hI_sR (h : Hp) (a k : Nat) (x : Option Nat) : hI (sR h a k x) = hI h := rfl
theorem hL_sR (h : Hp) (a k : Nat) (x : Option Nat) : hL (sR h a k x) = hL h := rfl
theorem hK_sC (h : Hp) (a : Nat) (f : Nat → Int32) : hK (sC h a f) = hK h := rfl
theorem hz_sC (h : Hp) (a : Nat) (f : Nat → Int32) : hz (sC h a f) = hz h := rfl
theorem hs_sC (h : Hp) (a : Nat) (f : Nat → Int32) : hs (sC h a f) = hs h := rfl
theorem hL_sC (h : Hp) (a : Nat) (f : Nat → Int32) : hL (sC h a f) = hL h := rfl
theorem hR_sC (h : Hp) (a : Nat) (f : Nat → Int32) : hR (sC h a f) = hR h := rfl
theorem hI_sI (h : Hp) (a k b : Nat) (x : Int32) : hI (sI h a k x) b = if b = a then va_up (hI h a) k x else hI h b := by
  show va_up (hI h) a (va_up (hI h a) k x) b = _; rfl
theorem hL_sL (h : Hp) (a k b : Nat) (x : Int64) : hL (sL h a k x) b = if b = a then va_up (hL h a) k x else hL h b := by
  show va_up (hL h) a (va_up (hL h a) k x) b = _; rfl
theorem hR_sR (h : Hp) (a k b : Nat) (x : Option Nat) : hR (sR h a k x) b = if b = a then va_up (hR h a) k x else hR h b := by
  show va_up (hR h) a (va_up (hR h a) k x) b = _; rfl
theorem hI_sC (h : Hp) (a b : Nat) (f : Nat → Int32) : hI (sC h a f) b = if b = a then f else hI h b := by
  show va_up (hI h) a f b = _; rfl
theorem up_at {α : Type} (f : Nat → α) (k j : Nat) (x : α) : va_up f k x j = if j = k then x else f j := rfl
theorem ok_sI (h : Hp) (a k : Nat) (x : Int32) : ok (sI h a k x) = ok h := rfl
theorem ok_sL (h : Hp) (a k : Nat) (x : Int64) : ok (sL h a k x) = ok h := rfl
theorem ok_sR (h : Hp) (a k : Nat) (x : Option Nat) : ok (sR h a k x) = ok h := rfl
theorem ok_sC (h : Hp) (a : Nat) (f : Nat → Int32) : ok (sC h a f) = ok h := rfl
/-! the steps, where they go through -/
theorem gi_s {β : Type} {ts : List Nat} {k a : Nat} {h : Hp} {f : Int32 → Option β} (o : ok h ts a = true) : gi ts k (some a) h f = f (hI h a k) := by simp [gi, o]
theorem gl_s {β : Type} {ts : List Nat} {k a : Nat} {h : Hp} {f : Int64 → Option β} (o : ok h ts a = true) : gl ts k (some a) h f = f (hL h a k) := by simp [gl, o]
theorem gr_s {β : Type} {ts : List Nat} {k a : Nat} {h : Hp} {f : Option Nat → Option β} (o : ok h ts a = true) : gr ts k (some a) h f = f (hR h a k) := by simp [gr, o]
theorem pi_s {β : Type} {ts : List Nat} {k a : Nat} {x : Int32} {h : Hp} {f : Hp → Option β} (o : ok h ts a = true) : pi ts k (some a) x h f = f (sI h a k x) := by simp [pi, o]
theorem pz_s {β : Type} {ts : List Nat} {k a : Nat} {x : Int32} {h : Hp} {f : Hp → Option β} (o : ok h ts a = true) (hx : x = 0 ∨ x = 1) : pz ts k (some a) x h f = f (sI h a k x) := by simp [pz, o, hx]
theorem pl_s {β : Type} {ts : List Nat} {k a : Nat} {x : Int64} {h : Hp} {f : Hp → Option β} (o : ok h ts a = true) : pl ts k (some a) x h f = f (sL h a k x) := by simp [pl, o]
theorem pr_s {β : Type} {ts : List Nat} {k a : Nat} {x : Option Nat} {h : Hp} {f : Hp → Option β} (o : ok h ts a = true) : pr ts k (some a) x h f = f (sR h a k x) := by simp [pr, o]
theorem ix_ok {n j : Nat} (h : j < n) (hn : n < 2 ^ 31) : ¬ (nI j < 0 ∨ n ≤ (nI j).toNatClampNeg) := by
  rw [nI_clamp (by omega)]
  rintro (q | q)
  · exact nI_pos (by omega) q
  · omega
theorem li_s {β : Type} {t a j : Nat} {h : Hp} {f : Int32 → Option β} (o : ok h [t] a = true) (hj : j < (hK h a).2) (hn : (hK h a).2 < 2 ^ 31) : li t (some a) (nI j) h f = f (hI h a j) := by
  simp only [li]; rw [if_pos ⟨o, ix_ok hj hn⟩, nI_clamp (by omega)]
theorem ll_s {β : Type} {a j : Nat} {h : Hp} {f : Int64 → Option β} (o : ok h [14] a = true) (hj : j < (hK h a).2) (hn : (hK h a).2 < 2 ^ 31) : ll (some a) (nI j) h f = f (hL h a j) := by
  simp only [ll]; rw [if_pos ⟨o, ix_ok hj hn⟩, nI_clamp (by omega)]
theorem lr_s {β : Type} {t a j : Nat} {h : Hp} {f : Option Nat → Option β} (o : ok h [t] a = true) (hj : j < (hK h a).2) (hn : (hK h a).2 < 2 ^ 31) : lr t (some a) (nI j) h f = f (hR h a j) := by
  simp only [lr]; rw [if_pos ⟨o, ix_ok hj hn⟩, nI_clamp (by omega)]
theorem si_s {β : Type} {a j : Nat} {x : Int32} {h : Hp} {f : Hp → Option β} (o : ok h [13] a = true) (hj : j < (hK h a).2) (hn : (hK h a).2 < 2 ^ 31) : si (some a) (nI j) x h f = f (sI h a j x) := by
  simp only [si]; rw [if_pos ⟨o, ix_ok hj hn⟩, nI_clamp (by omega)]
theorem sb_s {β : Type} {a j : Nat} {x : Int32} {h : Hp} {f : Hp → Option β} (o : ok h [15] a = true) (hj : j < (hK h a).2) (hn : (hK h a).2 < 2 ^ 31) : sb (some a) (nI j) x h f = f (sI h a j (vp_nar .byte x)) := by
  simp only [sb]; rw [if_pos ⟨o, ix_ok hj hn⟩, nI_clamp (by omega)]
theorem sz_s {β : Type} {a j : Nat} {x : Int32} {h : Hp} {f : Hp → Option β} (o : ok h [16] a = true) (hj : j < (hK h a).2) (hn : (hK h a).2 < 2 ^ 31) : sz (some a) (nI j) x h f = f (sI h a j (vp_nar .boolean x)) := by
  simp only [sz]; rw [if_pos ⟨o, ix_ok hj hn⟩, nI_clamp (by omega)]
theorem sl_s {β : Type} {a j : Nat} {x : Int64} {h : Hp} {f : Hp → Option β} (o : ok h [14] a = true) (hj : j < (hK h a).2) (hn : (hK h a).2 < 2 ^ 31) : sl (some a) (nI j) x h f = f (sL h a j x) := by
  simp only [sl]; rw [if_pos ⟨o, ix_ok hj hn⟩, nI_clamp (by omega)]
theorem sr_s {β : Type} {t a j : Nat} {us : List Nat} {x : Option Nat} {h : Hp} {f : Hp → Option β} (o : ok h [t] a = true) (hj : j < (hK h a).2) (hn : (hK h a).2 < 2 ^ 31) (hx : ∀ b, x = some b → ok h us b = true) : sr t us (some a) (nI j) x h f = f (sR h a j x) := by
  simp only [sr]; rw [if_pos ⟨⟨o, ix_ok hj hn⟩, hx⟩, nI_clamp (by omega)]
theorem cl_s {α β : Type} {r : α} {h : Hp} {f : α → Hp → Option β} : cl (some (r, h)) f = f r h := rfl
theorem ds_1 {β : Type} {t a : Nat} {h : Hp} {F : Option β} (o : ok h [t] a = true) : ds [(t, F)] (some a) h = F := by
  have h1 := ok_lt o
  have h2 : (hK h a).1 = t := by simpa using ok_tag o
  simp [ds, dl, h1, h2]
theorem ck_s {β : Type} {ts : List Nat} {a : Nat} {h : Hp} {F : Option β} (o : ok h ts a = true) : ck ts (some a) h F = F := by simp [ck, o]
