/-! A pure heap: kinds (tag, length), how many cells, how many slots, ints, longs, references by address and place -/
abbrev Hp : Type := (Nat → Nat × Nat) × Nat × Nat × (Nat → Nat → Int32) × (Nat → Nat → Int64) × (Nat → Nat → Option Nat)
def hK (h : Hp) : Nat → Nat × Nat := h.1
def hz (h : Hp) : Nat := h.2.1
def hs (h : Hp) : Nat := h.2.2.1
def hI (h : Hp) : Nat → Nat → Int32 := h.2.2.2.1
def hL (h : Hp) : Nat → Nat → Int64 := h.2.2.2.2.1
def hR (h : Hp) : Nat → Nat → Option Nat := h.2.2.2.2.2
def up2 {α : Type} (f : Nat → Nat → α) (a k : Nat) (x : α) : Nat → Nat → α := va_up f a (va_up (f a) k x)
def sI (h : Hp) (a k : Nat) (x : Int32) : Hp := (hK h, hz h, hs h, up2 (hI h) a k x, hL h, hR h)
def sL (h : Hp) (a k : Nat) (x : Int64) : Hp := (hK h, hz h, hs h, hI h, up2 (hL h) a k x, hR h)
def sR (h : Hp) (a k : Nat) (x : Option Nat) : Hp := (hK h, hz h, hs h, hI h, hL h, up2 (hR h) a k x)
def sC (h : Hp) (a : Nat) (f : Nat → Int32) : Hp := (hK h, hz h, hs h, va_up (hI h) a f, hL h, hR h)
def nwO (h : Hp) (t n : Nat) : Hp := (va_up (hK h) (hz h) (t, n), hz h + 1, hs h + n, va_up (hI h) (hz h) (fun _ => 0), va_up (hL h) (hz h) (fun _ => 0), va_up (hR h) (hz h) (fun _ => none))
/-- address a is a cell of one of these kinds -/
def ok (h : Hp) (ts : List Nat) (a : Nat) : Bool := decide (a < hz h) && ts.contains (hK h a).1
theorem ok_lt {h : Hp} {ts : List Nat} {a : Nat} (e : ok h ts a = true) : a < hz h := by simp [ok] at e; exact e.1
theorem ok_tag {h : Hp} {ts : List Nat} {a : Nat} (e : ok h ts a = true) : (hK h a).1 ∈ ts := by simp [ok] at e; exact e.2
/-! the steps of a pure program; each goes on with what it read and the heap behind it -/
def gi {β : Type} (ts : List Nat) (k : Nat) (r : Option Nat) (h : Hp) (f : Int32 → Option β) : Option β := match r with
  | none => none
  | some a => if ok h ts a = true then f (hI h a k) else none
def gl {β : Type} (ts : List Nat) (k : Nat) (r : Option Nat) (h : Hp) (f : Int64 → Option β) : Option β := match r with
  | none => none
  | some a => if ok h ts a = true then f (hL h a k) else none
def gr {β : Type} (ts : List Nat) (k : Nat) (r : Option Nat) (h : Hp) (f : Option Nat → Option β) : Option β := match r with
  | none => none
  | some a => if ok h ts a = true then f (hR h a k) else none
def pi {β : Type} (ts : List Nat) (k : Nat) (r : Option Nat) (x : Int32) (h : Hp) (f : Hp → Option β) : Option β := match r with
  | none => none
  | some a => if ok h ts a = true then f (sI h a k x) else none
def pz {β : Type} (ts : List Nat) (k : Nat) (r : Option Nat) (x : Int32) (h : Hp) (f : Hp → Option β) : Option β := match r with
  | none => none
  | some a => if ok h ts a = true ∧ (x = 0 ∨ x = 1) then f (sI h a k x) else none
def pl {β : Type} (ts : List Nat) (k : Nat) (r : Option Nat) (x : Int64) (h : Hp) (f : Hp → Option β) : Option β := match r with
  | none => none
  | some a => if ok h ts a = true then f (sL h a k x) else none
def pr {β : Type} (ts : List Nat) (k : Nat) (r : Option Nat) (x : Option Nat) (h : Hp) (f : Hp → Option β) : Option β := match r with
  | none => none
  | some a => if ok h ts a = true then f (sR h a k x) else none
def li {β : Type} (t : Nat) (r : Option Nat) (i : Int32) (h : Hp) (f : Int32 → Option β) : Option β := match r with
  | none => none
  | some a => if ok h [t] a = true ∧ ¬ (i < 0 ∨ (hK h a).2 ≤ i.toNatClampNeg) then f (hI h a i.toNatClampNeg) else none
def ll {β : Type} (r : Option Nat) (i : Int32) (h : Hp) (f : Int64 → Option β) : Option β := match r with
  | none => none
  | some a => if ok h [14] a = true ∧ ¬ (i < 0 ∨ (hK h a).2 ≤ i.toNatClampNeg) then f (hL h a i.toNatClampNeg) else none
def lr {β : Type} (t : Nat) (r : Option Nat) (i : Int32) (h : Hp) (f : Option Nat → Option β) : Option β := match r with
  | none => none
  | some a => if ok h [t] a = true ∧ ¬ (i < 0 ∨ (hK h a).2 ≤ i.toNatClampNeg) then f (hR h a i.toNatClampNeg) else none
def si {β : Type} (r : Option Nat) (i : Int32) (x : Int32) (h : Hp) (f : Hp → Option β) : Option β := match r with
  | none => none
  | some a => if ok h [13] a = true ∧ ¬ (i < 0 ∨ (hK h a).2 ≤ i.toNatClampNeg) then f (sI h a i.toNatClampNeg x) else none
def sb {β : Type} (r : Option Nat) (i : Int32) (x : Int32) (h : Hp) (f : Hp → Option β) : Option β := match r with
  | none => none
  | some a => if ok h [15] a = true ∧ ¬ (i < 0 ∨ (hK h a).2 ≤ i.toNatClampNeg) then f (sI h a i.toNatClampNeg (vp_nar .byte x)) else none
def sz {β : Type} (r : Option Nat) (i : Int32) (x : Int32) (h : Hp) (f : Hp → Option β) : Option β := match r with
  | none => none
  | some a => if ok h [16] a = true ∧ ¬ (i < 0 ∨ (hK h a).2 ≤ i.toNatClampNeg) then f (sI h a i.toNatClampNeg (vp_nar .boolean x)) else none
def sl {β : Type} (r : Option Nat) (i : Int32) (x : Int64) (h : Hp) (f : Hp → Option β) : Option β := match r with
  | none => none
  | some a => if ok h [14] a = true ∧ ¬ (i < 0 ∨ (hK h a).2 ≤ i.toNatClampNeg) then f (sL h a i.toNatClampNeg x) else none
/-- a reference goes into an array of kind t; it is null, or of a kind among us -/
def sr {β : Type} (t : Nat) (us : List Nat) (r : Option Nat) (i : Int32) (x : Option Nat) (h : Hp) (f : Hp → Option β) : Option β := match r with
  | none => none
  | some a => if (ok h [t] a = true ∧ ¬ (i < 0 ∨ (hK h a).2 ≤ i.toNatClampNeg)) ∧ (∀ b, x = some b → ok h us b = true) then f (sR h a i.toNatClampNeg x) else none
def al {β : Type} (r : Option Nat) (h : Hp) (f : Int32 → Option β) : Option β := match r with
  | none => none
  | some a => if ok h [13, 14, 15, 16, 17, 18] a = true then f (Int32.ofNat (hK h a).2) else none
def nw {β : Type} (t : Nat) (h : Hp) (f : Option Nat → Hp → Option β) : Option β := f (some (hz h)) (nwO h t (nfl t))
def na {β : Type} (t : Nat) (n : Int32) (h : Hp) (f : Option Nat → Hp → Option β) : Option β := if ¬ n < 0 ∧ n.toNatClampNeg ≤ 1000000 then f (some (hz h)) (nwO h t n.toNatClampNeg) else none
def nz {β : Type} (y : Int32) (f : Option β) : Option β := if y = 0 then none else f
def nm {α β : Type} (x : α) (f : α → Option β) : Option β := f x
def cl {α β : Type} (x : Option (α × Hp)) (f : α → Hp → Option β) : Option β := match x with
  | none => none
  | some q => f q.1 q.2
/-- instanceof a class whose objects have kind t, of a reference of kind among us -/
def io {β : Type} (t : Nat) (us : List Nat) (r : Option Nat) (h : Hp) (f : Int32 → Option β) : Option β := match r with
  | none => f 0
  | some a => if ok h us a = true then f (if (hK h a).1 = t then 1 else 0) else none
/-- a cast to that class -/
def kc {β : Type} (t : Nat) (r : Option Nat) (h : Hp) (f : Option β) : Option β := match r with
  | none => f
  | some a => if ok h [t] a = true then f else none
/-- copying of ints from one array to another -/
def ac {β : Type} (r : Option Nat) (sp : Int32) (q : Option Nat) (dp n : Int32) (h : Hp) (f : Hp → Option β) : Option β := match r, q with
  | some a, some b => if (ok h [13] a = true ∧ ok h [13] b = true) ∧ (¬ sp < 0 ∧ ¬ dp < 0 ∧ ¬ n < 0) ∧ sp.toNatClampNeg + n.toNatClampNeg ≤ (hK h a).2 ∧ dp.toNatClampNeg + n.toNatClampNeg ≤ (hK h b).2 then f (sC h b (va_cpy (hI h a) (hI h b) sp.toNatClampNeg dp.toNatClampNeg n.toNatClampNeg)) else none
  | _, _ => none
/-! the pure heap as the machine's -/
def rv (B : Nat) (r : Option Nat) : Value := va_rf (r.map (fun a => B + a))
def fvl (B : Nat) (h : Hp) (a t k : Nat) : Value := if t = 0 then .int (hI h a k) else if t = 1 then .long (hL h a k) else rv B (hR h a k)
def flds (B : Nat) (h : Hp) (a t : Nat) : List Value := (List.range (nfl t)).map (fun k => fvl B h a (fty t k) k)
def cel (B : Nat) (dA : Nat → ClassId) (h : Hp) (a : Nat) : va_E :=
  if (hK h a).1 < 13 then .inr ((hK h a).1, flds B h a (hK h a).1)
  else if (hK h a).1 = 13 then .inl (dA 0, (hK h a).2, .inl (hI h a))
  else if (hK h a).1 = 14 then .inl (dA 1, (hK h a).2, .inr (.inl (hL h a)))
  else if (hK h a).1 = 15 then .inl (dA 2, (hK h a).2, .inl (hI h a))
  else if (hK h a).1 = 16 then .inl (dA 3, (hK h a).2, .inl (hI h a))
  else if (hK h a).1 = 17 then .inl (dA 4, (hK h a).2, .inr (.inr (.inr (.inr (fun j => (hR h a j).map (fun a => B + a))))))
  else .inl (dA 5, (hK h a).2, .inr (.inr (.inr (.inr (fun j => (hR h a j).map (fun a => B + a))))))
def wl (B : Nat) (dA : Nat → ClassId) (h : Hp) : va_W := (List.range (hz h)).map (fun a => (B + a, cel B dA h a))
def tyl (dA : Nat → ClassId) : List (ClassId × FieldType) := [(dA 0, .int), (dA 1, .long), (dA 2, .byte), (dA 3, .boolean), (dA 4, .object "RingingChamber$Lead"), (dA 5, .object "RingingChamber$Method")]
def Wd (D : va_G) (B : Nat) (dA : Nat → ClassId) (h : Hp) (H : Heap) : Prop := va_P D kCL (wl B dA h) H ∧ H.size = B + hz h
theorem wl_at {B : Nat} {dA : Nat → ClassId} {h : Hp} {a : Nat} (ha : a < hz h) : (wl B dA h)[a]? = some (B + a, cel B dA h a) := by
  simp [wl, ha]
theorem wl_len {B : Nat} {dA : Nat → ClassId} {h : Hp} : (wl B dA h).length = hz h := by simp [wl]
theorem wl_D (B : Nat) (dA : Nat → ClassId) (h : Hp) : va_D (fun q => B ≤ q) (wl B dA h) := by
  constructor
  · intro i j p q hi hj e
    have h1 : i < hz h := by rw [← wl_len (B := B) (dA := dA) (h := h)]; exact (List.getElem?_eq_some_iff.mp hi).1
    have h2 : j < hz h := by rw [← wl_len (B := B) (dA := dA) (h := h)]; exact (List.getElem?_eq_some_iff.mp hj).1
    rw [wl_at h1] at hi
    rw [wl_at h2] at hj
    cases hi; cases hj
    dsimp only at e
    omega
  · intro k q hk
    have h1 : k < hz h := by rw [← wl_len (B := B) (dA := dA) (h := h)]; exact (List.getElem?_eq_some_iff.mp hk).1
    rw [wl_at h1] at hk
    cases hk
    exact Nat.le_add_right B k
theorem wl_ext {B : Nat} {dA : Nat → ClassId} {h h1 : Hp} (hz1 : hz h1 = hz h) {b : Nat} {e : va_E} (he : cel B dA h1 b = e) (ho : ∀ a, a ≠ b → cel B dA h1 a = cel B dA h a) : (wl B dA h).set b (B + b, e) = wl B dA h1 := by
  apply List.ext_getElem?
  intro a
  by_cases ha : a < hz h
  · rw [wl_at (h := h1) (by rw [hz1]; exact ha)]
    by_cases hb : b = a
    · subst hb
      rw [List.getElem?_set_self (by rw [wl_len]; exact ha), he]
    · rw [List.getElem?_set_ne hb, wl_at ha, ho a (fun q => hb q.symm)]
  · rw [List.getElem?_eq_none (by rw [List.length_set, wl_len]; omega), List.getElem?_eq_none (by rw [wl_len, hz1]; omega)]
theorem cel_congr {B : Nat} {dA : Nat → ClassId} {h h1 : Hp} {a : Nat} (e0 : hK h1 a = hK h a) (e1 : hI h1 a = hI h a) (e2 : hL h1 a = hL h a) (e3 : hR h1 a = hR h a) : cel B dA h1 a = cel B dA h a := by
  unfold cel flds fvl
  rw [e0, e1, e2, e3]
theorem up2_ne {α : Type} {f : Nat → Nat → α} {a k b : Nat} {x : α} (e : b ≠ a) : up2 f a k x b = f b := by simp [up2, va_up, e]
theorem up2_self {α : Type} {f : Nat → Nat → α} {a k : Nat} {x : α} : up2 f a k x a = va_up (f a) k x := by simp [up2, va_up]
theorem sI_o {B : Nat} {dA : Nat → ClassId} {h : Hp} {a k b : Nat} {x : Int32} (e : b ≠ a) : cel B dA (sI h a k x) b = cel B dA h b := cel_congr rfl (up2_ne e) rfl rfl
theorem sL_o {B : Nat} {dA : Nat → ClassId} {h : Hp} {a k b : Nat} {x : Int64} (e : b ≠ a) : cel B dA (sL h a k x) b = cel B dA h b := cel_congr rfl rfl (up2_ne e) rfl
theorem sR_o {B : Nat} {dA : Nat → ClassId} {h : Hp} {a k b : Nat} {x : Option Nat} (e : b ≠ a) : cel B dA (sR h a k x) b = cel B dA h b := cel_congr rfl rfl rfl (up2_ne e)
theorem sC_o {B : Nat} {dA : Nat → ClassId} {h : Hp} {a b : Nat} {f : Nat → Int32} (e : b ≠ a) : cel B dA (sC h a f) b = cel B dA h b := cel_congr rfl (by simp [hI, sC, va_up, e]) rfl rfl
theorem flds_at {B : Nat} {h : Hp} {a t k : Nat} (hk : k < nfl t) : (flds B h a t)[k]? = some (fvl B h a (fty t k) k) := by simp [flds, hk]
theorem flds_len {B : Nat} {h : Hp} {a t : Nat} : (flds B h a t).length = nfl t := by simp [flds]
theorem flds_set {B : Nat} {h h1 : Hp} {a t k : Nat} {v : Value} (hk : k < nfl t) (hv : fvl B h1 a (fty t k) k = v) (ho : ∀ j, j ≠ k → fvl B h1 a (fty t j) j = fvl B h a (fty t j) j) : (flds B h a t).set k v = flds B h1 a t := by
  apply List.ext_getElem?
  intro j
  by_cases hj : j < nfl t
  · rw [flds_at (h := h1) hj]
    by_cases e : k = j
    · subst e
      rw [List.getElem?_set_self (by rw [flds_len]; exact hk), hv]
    · rw [List.getElem?_set_ne e, flds_at hj, ho j (fun q => e q.symm)]
  · rw [List.getElem?_eq_none (by rw [List.length_set, flds_len]; omega), List.getElem?_eq_none (by rw [flds_len]; omega)]
theorem cel_obj {B : Nat} {dA : Nat → ClassId} {h : Hp} {a t : Nat} (e : (hK h a).1 = t) (ht : t < 13) : cel B dA h a = .inr (t, flds B h a t) := by subst e; simp [cel, ht]
theorem cel_13 {B : Nat} {dA : Nat → ClassId} {h : Hp} {a : Nat} (e : (hK h a).1 = 13) : cel B dA h a = .inl (dA 0, (hK h a).2, .inl (hI h a)) := by simp [cel, e]
theorem cel_14 {B : Nat} {dA : Nat → ClassId} {h : Hp} {a : Nat} (e : (hK h a).1 = 14) : cel B dA h a = .inl (dA 1, (hK h a).2, .inr (.inl (hL h a))) := by simp [cel, e]
theorem cel_15 {B : Nat} {dA : Nat → ClassId} {h : Hp} {a : Nat} (e : (hK h a).1 = 15) : cel B dA h a = .inl (dA 2, (hK h a).2, .inl (hI h a)) := by simp [cel, e]
theorem cel_16 {B : Nat} {dA : Nat → ClassId} {h : Hp} {a : Nat} (e : (hK h a).1 = 16) : cel B dA h a = .inl (dA 3, (hK h a).2, .inl (hI h a)) := by simp [cel, e]
theorem cel_17 {B : Nat} {dA : Nat → ClassId} {h : Hp} {a : Nat} (e : (hK h a).1 = 17) : cel B dA h a = .inl (dA 4, (hK h a).2, .inr (.inr (.inr (.inr (fun j => (hR h a j).map (fun a => B + a)))))) := by simp [cel, e]
theorem cel_18 {B : Nat} {dA : Nat → ClassId} {h : Hp} {a : Nat} (e : (hK h a).1 = 18) : cel B dA h a = .inl (dA 5, (hK h a).2, .inr (.inr (.inr (.inr (fun j => (hR h a j).map (fun a => B + a)))))) := by simp [cel, e]
def rz (x : Int32) (h : Hp) : Option (Int32 × Hp) := if x = 0 ∨ x = 1 then some (x, h) else none
/-- the receiver's kind is looked at -/
def ck {β : Type} (ts : List Nat) (r : Option Nat) (h : Hp) (f : Option β) : Option β := match r with
  | none => none
  | some a => if ok h ts a = true then f else none
def dl {β : Type} : List (Nat × Option β) → Nat → Option β
  | [], _ => none
  | q :: r, k => if k = q.1 then q.2 else dl r k
/-- which program it is, by the receiver's kind -/
def ds {β : Type} (cs : List (Nat × Option β)) (r : Option Nat) (h : Hp) : Option β := match r with
  | none => none
  | some a => if a < hz h then dl cs (hK h a).1 else none
def kn {β : Type} (r : Option Nat) (f : Option β) : Option β := match r with
  | none => none
  | some _ => f
def sw {β : Type} (x : Int32) : List (Int32 × Option β) → Option β → Option β
  | [], d => d
  | q :: r, d => if x = q.1 then q.2 else sw x r d
def jmax (x y : Int32) : Int32 := if x < y then y else x
def jmin (x y : Int32) : Int32 := if y < x then y else x
/-- reading the law's script -/
def sld {β : Type} (xs : Nat → Int32) (L : Nat) (i : Int32) (f : Int32 → Option β) : Option β := if ¬ (i < 0 ∨ L ≤ i.toNatClampNeg) then f (xs i.toNatClampNeg) else none
