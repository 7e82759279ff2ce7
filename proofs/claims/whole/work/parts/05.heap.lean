theorem Cx.x {p : Program} {R : Room} {s : State} {m : MethodId} {args : Array Value} {meth : Method} {c : Code} {cc : ByteArray} {nL : Nat} {own : String} {fr lo : Nat} {ret : Option FieldType} {nme : String} {D : va_G} {dA : Nat → ClassId} {B n0 : Nat} (X : Cx p R s m args meth c cc nL own fr lo ret nme D dA B n0) : p.tables.exec = Jvm.exec := X.1
theorem Cx.b {p : Program} {R : Room} {s : State} {m : MethodId} {args : Array Value} {meth : Method} {c : Code} {cc : ByteArray} {nL : Nat} {own : String} {fr lo : Nat} {ret : Option FieldType} {nme : String} {D : va_G} {dA : Nat → ClassId} {B n0 : Nat} (X : Cx p R s m args meth c cc nL own fr lo ret nme D dA B n0) : c.code = cc := X.2.1
theorem Cx.ml {p : Program} {R : Room} {s : State} {m : MethodId} {args : Array Value} {meth : Method} {c : Code} {cc : ByteArray} {nL : Nat} {own : String} {fr lo : Nat} {ret : Option FieldType} {nme : String} {D : va_G} {dA : Nat → ClassId} {B n0 : Nat} (X : Cx p R s m args meth c cc nL own fr lo ret nme D dA B n0) : c.maxLocals = nL := X.2.2.1
theorem Cx.own {p : Program} {R : Room} {s : State} {m : MethodId} {args : Array Value} {meth : Method} {c : Code} {cc : ByteArray} {nL : Nat} {own : String} {fr lo : Nat} {ret : Option FieldType} {nme : String} {D : va_G} {dA : Nat → ClassId} {B n0 : Nat} (X : Cx p R s m args meth c cc nL own fr lo ret nme D dA B n0) : s.vm.findClass own = some m.cls := X.2.2.2.1
theorem Cx.ts {p : Program} {R : Room} {s : State} {m : MethodId} {args : Array Value} {meth : Method} {c : Code} {cc : ByteArray} {nL : Nat} {own : String} {fr lo : Nat} {ret : Option FieldType} {nme : String} {D : va_G} {dA : Nat → ClassId} {B n0 : Nat} (X : Cx p R s m args meth c cc nL own fr lo ret nme D dA B n0) : ∀ w ∈ GT, w.before args s = true := X.2.2.2.2.1
theorem Cx.k {p : Program} {R : Room} {s : State} {m : MethodId} {args : Array Value} {meth : Method} {c : Code} {cc : ByteArray} {nL : Nat} {own : String} {fr lo : Nat} {ret : Option FieldType} {nme : String} {D : va_G} {dA : Nat → ClassId} {B n0 : Nat} (X : Cx p R s m args meth c cc nL own fr lo ret nme D dA B n0) : Kx D dA s := X.2.2.2.2.2.1
theorem Cx.lk {p : Program} {R : Room} {s : State} {m : MethodId} {args : Array Value} {meth : Method} {c : Code} {cc : ByteArray} {nL : Nat} {own : String} {fr lo : Nat} {ret : Option FieldType} {nme : String} {D : va_G} {dA : Nat → ClassId} {B n0 : Nat} (X : Cx p R s m args meth c cc nL own fr lo ret nme D dA B n0) : meth.locks = false := X.2.2.2.2.2.2.1
theorem Cx.sz {p : Program} {R : Room} {s : State} {m : MethodId} {args : Array Value} {meth : Method} {c : Code} {cc : ByteArray} {nL : Nat} {own : String} {fr lo : Nat} {ret : Option FieldType} {nme : String} {D : va_G} {dA : Nat → ClassId} {B n0 : Nat} (X : Cx p R s m args meth c cc nL own fr lo ret nme D dA B n0) : s.heap.size = B + n0 := X.2.2.2.2.2.2.2.1
theorem Cx.fr {p : Program} {R : Room} {s : State} {m : MethodId} {args : Array Value} {meth : Method} {c : Code} {cc : ByteArray} {nL : Nat} {own : String} {fr lo : Nat} {ret : Option FieldType} {nme : String} {D : va_G} {dA : Nat → ClassId} {B n0 : Nat} (X : Cx p R s m args meth c cc nL own fr lo ret nme D dA B n0) : R.frames = fr := X.2.2.2.2.2.2.2.2.1
theorem Cx.lo {p : Program} {R : Room} {s : State} {m : MethodId} {args : Array Value} {meth : Method} {c : Code} {cc : ByteArray} {nL : Nat} {own : String} {fr lo : Nat} {ret : Option FieldType} {nme : String} {D : va_G} {dA : Nat → ClassId} {B n0 : Nat} (X : Cx p R s m args meth c cc nL own fr lo ret nme D dA B n0) : R.locals = lo := X.2.2.2.2.2.2.2.2.2.1
theorem Cx.rt {p : Program} {R : Room} {s : State} {m : MethodId} {args : Array Value} {meth : Method} {c : Code} {cc : ByteArray} {nL : Nat} {own : String} {fr lo : Nat} {ret : Option FieldType} {nme : String} {D : va_G} {dA : Nat → ClassId} {B n0 : Nat} (X : Cx p R s m args meth c cc nL own fr lo ret nme D dA B n0) : meth.sig.returnType = ret := X.2.2.2.2.2.2.2.2.2.2.1
theorem Cx.nm {p : Program} {R : Room} {s : State} {m : MethodId} {args : Array Value} {meth : Method} {c : Code} {cc : ByteArray} {nL : Nat} {own : String} {fr lo : Nat} {ret : Option FieldType} {nme : String} {D : va_G} {dA : Nat → ClassId} {B n0 : Nat} (X : Cx p R s m args meth c cc nL own fr lo ret nme D dA B n0) : meth.name = nme := X.2.2.2.2.2.2.2.2.2.2.2
/-- a field's entry in a class's pool: its words, and where it stands in the objects of the kinds ts -/
def FLr (own : String) (idx : Nat) (ts : List Nat) (k ty : Nat) (fin : Bool) (ft : FieldType) : Prop := ∃ ref decl name desc : String, Cond.fieldLink own idx ref name desc ∈ GT ∧ (ref = decl ∨ Cond.sameField ref decl name desc ∈ GT) ∧ ∀ t ∈ ts, ∃ r : vw_C, kCL[t]? = some r ∧ r.2.1 k = (decl, name, desc, fin) ∧ k < nfl t ∧ fty t k = ty ∧ kTY t k = ft
def FL (own : String) (idx : Nat) (ts : List Nat) (k ty : Nat) (fin : Bool) (ft : FieldType) : Prop := ∃ ref decl name desc : String, Cond.fieldLink own idx ref name desc ∈ GT ∧ (ref = decl ∨ Cond.sameField ref decl name desc ∈ GT) ∧ (fin = true → decl = own) ∧ ∀ t ∈ ts, ∃ r : vw_C, kCL[t]? = some r ∧ r.2.1 k = (decl, name, desc, fin) ∧ k < nfl t ∧ fty t k = ty ∧ kTY t k = ft
theorem FL.r {own : String} {idx : Nat} {ts : List Nat} {k ty : Nat} {fin : Bool} {ft : FieldType} (F : FL own idx ts k ty fin ft) : FLr own idx ts k ty fin ft := by
  obtain ⟨a, b, c, d, h1, h2, -, h3⟩ := F
  exact ⟨a, b, c, d, h1, h2, h3⟩
theorem gt_at {w : Cond} (i : Nat) (h : lw_tbl[i]? = some w) (g : goodWord w = true) : w ∈ GT := gt_mem (List.mem_of_getElem? h) g
def flB (ts : List Nat) (k ty : Nat) (decl name desc : String) (fin : Bool) (ft : FieldType) : Bool := ts.all (fun t => match kCL[t]? with
  | some r => decide (r.2.1 k = (decl, name, desc, fin)) && (decide (k < nfl t) && (decide (fty t k = ty) && decide (kTY t k = ft)))
  | none => false)
theorem fl_all {ts : List Nat} {k ty : Nat} {decl name desc : String} {fin : Bool} {ft : FieldType} (h : flB ts k ty decl name desc fin ft = true) : ∀ t ∈ ts, ∃ r : vw_C, kCL[t]? = some r ∧ r.2.1 k = (decl, name, desc, fin) ∧ k < nfl t ∧ fty t k = ty ∧ kTY t k = ft := by
  intro t ht
  have h1 := List.all_eq_true.mp h t ht
  cases hr : kCL[t]? with
  | none => rw [hr] at h1; cases h1
  | some r =>
    rw [hr] at h1
    simp only [Bool.and_eq_true, decide_eq_true_eq] at h1
    exact ⟨r, rfl, h1.1, h1.2.1, h1.2.2.1, h1.2.2.2⟩
theorem f_same {args : Array Value} {s : State} {ref owner name desc : String} (hts : ∀ w ∈ GT, w.before args s = true) (h : ref = owner ∨ Cond.sameField ref owner name desc ∈ GT) : ∀ q, s.fieldFound? owner name desc = some q → s.fieldFound? ref name desc = some q := by
  intro q hq
  rcases h with rfl | h
  · exact hq
  · have h := hts _ h
    cases hr : s.fieldFound? ref name desc with
    | none => simp [Cond.before, Cond.holds, Cond.value, hr] at h
    | some q' =>
      obtain ⟨c1, k1, i1, f1⟩ := q'
      rw [← hq, Cond.sameField_spec hr h]
section RH
variable {α : Type} {p : Program} {l : Launch} {e : Env} {R : Room} {s : State} {m : MethodId} {args : Array Value} {below : List Frame} {meth : Method} {c : Code} {cc : ByteArray} {nL : Nat} {own : String} {fr lo : Nat} {ret : Option FieldType} {nme : String} {D : va_G} {dA : Nat → ClassId} {B n0 s0 : Nat} {Q : α → Hp → State → Prop} {pc : Nat} {lv : List (Nat × AV)} {st : List AV} {h : Hp} {f : Option (α × Hp)}
theorem get_core {H : Heap} {locs : List Loc} {ls : Array Slot} {cells slots : Nat} {Q1 : State → Prop} {rest : List Value} (X : Cx p R s m args meth c cc nL own fr lo ret nme D dA B n0) {idx k ty a : Nat} {ts : List Nat} {fin : Bool} {ft : FieldType} (hdg : decode cc pc = .ok (.getfield idx, 3)) (F : FLr own idx ts k ty fin ft) (ho : ok h ts a = true) (w1 : va_P D kCL (wl B dA h) H)
    (kk : W p l e R s m args below meth c H locs cells slots Q1 (F0 m (pc + 3) ls (fvl B h a ty k :: rest))) : W p l e R s m args below meth c H locs cells slots Q1 (F0 m pc ls (.ref (B + a) :: rest)) := by
  obtain ⟨ref, decl, name, desc, q1, q2, q3⟩ := F
  obtain ⟨⟨C, T, N⟩, t1, t2, t3, t4, -⟩ := q3 _ (ok_tag ho)
  have he : (wl B dA h)[a]? = some (B + a, .inr ((hK h a).1, flds B h a (hK h a).1)) := by rw [wl_at (ok_lt ho), cel_obj rfl (k_lt _ _ t1)]
  have t2 : T k = (decl, name, desc, fin) := t2
  refine va_get (own := own) (ref := ref) (C := C) (T := T) (N := N) X.x X.b X.ts (k_in _ _ t1) X.own X.k.1 w1 a he t1 k (by rw [show N = nfl (hK h a).1 from k_n _ _ t1]; exact t3) (by rw [t2]; exact X.ts _ q1) (by rw [t2]; exact f_same X.ts q2) (v := fvl B h a ty k) (by rw [flds_at t3, t4]) hdg kk
theorem j_getI {idx k : Nat} {ts : List Nat} {fin : Bool} {ft : FieldType} {r : Option Nat} {g : Int32 → Option (α × Hp)} (hdg : decode cc pc = .ok (.getfield idx, 3)) (F : FLr own idx ts k 0 fin ft) (kk : ∀ x : Int32, J p l e R s m args below meth c cc nL own fr lo ret nme D dA B n0 s0 Q (pc + 3) lv (vi x :: st) h (g x)) : J p l e R s m args below meth c cc nL own fr lo ret nme D dA B n0 s0 Q pc lv (vr r :: st) h (gi ts k r h g) := by
  intro r' h' ef
  cases r with
  | none => cases ef
  | some a =>
    unfold gi at ef
    dsimp only at ef
    by_cases ho : ok h ts a = true
    · rw [if_pos ho] at ef
      exact ⟨(kk _ r' h' ef).1, fun X c1 c2 H locs ls n1 n2 e1 e2 w1 w2 w3 => get_core X hdg F ho w1 ((kk _ r' h' ef).2 X c1 c2 H locs ls n1 n2 e1 e2 w1 w2 w3)⟩
    · rw [if_neg ho] at ef; cases ef
theorem j_getL {idx k : Nat} {ts : List Nat} {fin : Bool} {ft : FieldType} {r : Option Nat} {g : Int64 → Option (α × Hp)} (hdg : decode cc pc = .ok (.getfield idx, 3)) (F : FLr own idx ts k 1 fin ft) (kk : ∀ x : Int64, J p l e R s m args below meth c cc nL own fr lo ret nme D dA B n0 s0 Q (pc + 3) lv (vl x :: st) h (g x)) : J p l e R s m args below meth c cc nL own fr lo ret nme D dA B n0 s0 Q pc lv (vr r :: st) h (gl ts k r h g) := by
  intro r' h' ef
  cases r with
  | none => cases ef
  | some a =>
    unfold gl at ef
    dsimp only at ef
    by_cases ho : ok h ts a = true
    · rw [if_pos ho] at ef
      exact ⟨(kk _ r' h' ef).1, fun X c1 c2 H locs ls n1 n2 e1 e2 w1 w2 w3 => get_core X hdg F ho w1 ((kk _ r' h' ef).2 X c1 c2 H locs ls n1 n2 e1 e2 w1 w2 w3)⟩
    · rw [if_neg ho] at ef; cases ef
theorem j_getR {idx k : Nat} {ts : List Nat} {fin : Bool} {ft : FieldType} {r : Option Nat} {g : Option Nat → Option (α × Hp)} (hdg : decode cc pc = .ok (.getfield idx, 3)) (F : FLr own idx ts k 2 fin ft) (kk : ∀ x : Option Nat, J p l e R s m args below meth c cc nL own fr lo ret nme D dA B n0 s0 Q (pc + 3) lv (vr x :: st) h (g x)) : J p l e R s m args below meth c cc nL own fr lo ret nme D dA B n0 s0 Q pc lv (vr r :: st) h (gr ts k r h g) := by
  intro r' h' ef
  cases r with
  | none => cases ef
  | some a =>
    unfold gr at ef
    dsimp only at ef
    by_cases ho : ok h ts a = true
    · rw [if_pos ho] at ef
      exact ⟨(kk _ r' h' ef).1, fun X c1 c2 H locs ls n1 n2 e1 e2 w1 w2 w3 => get_core X hdg F ho w1 ((kk _ r' h' ef).2 X c1 c2 H locs ls n1 n2 e1 e2 w1 w2 w3)⟩
    · rw [if_neg ho] at ef; cases ef
theorem put_core {H : Heap} {locs : List Loc} {ls : Array Slot} {cells slots : Nat} {Q1 : State → Prop} {rest : List Value} (X : Cx p R s m args meth c cc nL own fr lo ret nme D dA B n0) {idx k ty a : Nat} {ts : List Nat} {fin : Bool} {ft : FieldType} {v : Value} {h1 : Hp} (hdg : decode cc pc = .ok (.putfield idx, 3)) (F : FL own idx ts k ty fin ft) (hfin : fin = false ∨ nme = "<init>") (ho : ok h ts a = true) (w1 : va_P D kCL (wl B dA h) H) (w2 : va_S (fun q => B ≤ q) s.heap H locs) (hn : narrow ft v = v) (hfit : fits ft v = true)
    (e0 : hK h1 = hK h) (ez : hz h1 = hz h) (ev : fvl B h1 a ty k = v) (eo : ∀ j t, j ≠ k → fvl B h1 a t j = fvl B h a t j) (ec : ∀ b, b ≠ a → cel B dA h1 b = cel B dA h b)
    (kk : ∀ (H1 : Heap) (locs1 : List Loc), va_P D kCL (wl B dA h1) H1 → va_S (fun q => B ≤ q) s.heap H1 locs1 → W p l e R s m args below meth c H1 locs1 cells slots Q1 (F0 m (pc + 3) ls rest)) : W p l e R s m args below meth c H locs cells slots Q1 (F0 m pc ls (v :: .ref (B + a) :: rest)) := by
  obtain ⟨ref, decl, name, desc, q1, q2, q4, q3⟩ := F
  obtain ⟨⟨C, T, N⟩, t1, t2, t3, t4, t5⟩ := q3 _ (ok_tag ho)
  have he : (wl B dA h)[a]? = some (B + a, .inr ((hK h a).1, flds B h a (hK h a).1)) := by rw [wl_at (ok_lt ho), cel_obj rfl (k_lt _ _ t1)]
  have t2 : T k = (decl, name, desc, fin) := t2
  have hN : N = nfl (hK h a).1 := k_n _ _ t1
  have hkN : k < N := by rw [hN]; exact t3
  have hd : parseFieldDescriptor (T k).2.2.1 = some ft := by rw [← t5]; exact k_ty _ _ t1 k hkN
  have hset : (wl B dA h).set a (B + a, .inr ((hK h a).1, (flds B h a (hK h a).1).set k v)) = wl B dA h1 := by
    refine wl_ext ez ?_ ec
    rw [cel_obj (h := h1) (t := (hK h a).1) (by rw [e0]) (k_lt _ _ t1), flds_set t3 (by rw [t4]; exact ev) (fun j hj => eo j _ hj)]
  cases fin with
  | false =>
    refine va_put (own := own) (ref := ref) (C := C) (T := T) (N := N) X.x X.b X.ts (k_in _ _ t1) (kTY (hK h a).1) (k_ty _ _ t1) (k_nm _ _ t1) X.own X.k.1 w1 (wl_D B dA h) w2 a he t1 k hkN (by rw [t2]; exact X.ts _ q1) (by rw [t2]; exact f_same X.ts q2) (by rw [t2]) hd hn hfit (by rw [flds_len]; exact t3) hdg fun H1 locs1 g1 g2 g3 => ?_
    rw [hset] at g1
    exact kk H1 locs1 g1 g3
  | true =>
    have hi : meth.name = "<init>" := by
      rcases hfin with q | q
      · cases q
      · rw [X.nm]; exact q
    refine va_putF (own := own) (ref := ref) (C := C) (T := T) (N := N) X.x X.b X.ts (k_in _ _ t1) (kTY (hK h a).1) (k_ty _ _ t1) (k_nm _ _ t1) X.own X.k.1 w1 (wl_D B dA h) w2 a he t1 k hkN (by rw [t2]; exact X.ts _ q1) (by rw [t2]; exact f_same X.ts q2) (by rw [t2]) hi (by rw [t2]; exact q4 rfl) hd hn hfit (by rw [flds_len]; exact t3) hdg fun H1 locs1 g1 g2 g3 => ?_
    rw [hset] at g1
    exact kk H1 locs1 g1 g3
theorem fvl_I {a k : Nat} {x : Int32} : fvl B (sI h a k x) a 0 k = .int x := by simp [fvl, sI, hI, up2, va_up]
theorem fvl_L {a k : Nat} {x : Int64} : fvl B (sL h a k x) a 1 k = .long x := by simp [fvl, sL, hL, up2, va_up]
theorem fvl_R {a k : Nat} {x : Option Nat} : fvl B (sR h a k x) a 2 k = rv B x := by simp [fvl, sR, hR, up2, va_up]
theorem fvl_Io {a k : Nat} {x : Int32} (j t : Nat) (e : j ≠ k) : fvl B (sI h a k x) a t j = fvl B h a t j := by simp [fvl, sI, hI, hL, hR, up2, va_up, e]
theorem fvl_Lo {a k : Nat} {x : Int64} (j t : Nat) (e : j ≠ k) : fvl B (sL h a k x) a t j = fvl B h a t j := by simp [fvl, sL, hI, hL, hR, up2, va_up, e]
theorem fvl_Ro {a k : Nat} {x : Option Nat} (j t : Nat) (e : j ≠ k) : fvl B (sR h a k x) a t j = fvl B h a t j := by simp [fvl, sR, hI, hL, hR, up2, va_up, e]
theorem j_putI {idx k : Nat} {ts : List Nat} {fin : Bool} {r : Option Nat} {x : Int32} {g : Hp → Option (α × Hp)} (hdg : decode cc pc = .ok (.putfield idx, 3)) (F : FL own idx ts k 0 fin .int) (hfin : fin = false ∨ nme = "<init>") (kk : ∀ h1, J p l e R s m args below meth c cc nL own fr lo ret nme D dA B n0 s0 Q (pc + 3) lv st h1 (g h1)) : J p l e R s m args below meth c cc nL own fr lo ret nme D dA B n0 s0 Q pc lv (vi x :: vr r :: st) h (pi ts k r x h g) := by
  intro r' h' ef
  cases r with
  | none => cases ef
  | some a =>
    unfold pi at ef
    dsimp only at ef
    by_cases ho : ok h ts a = true
    · rw [if_pos ho] at ef
      exact ⟨(kk _ r' h' ef).1, fun X c1 c2 H locs ls n1 n2 e1 e2 w1 w2 w3 => put_core X hdg F hfin ho w1 w2 rfl rfl (h1 := sI h a k x) rfl rfl fvl_I fvl_Io (fun b hb => sI_o hb) (fun H1 locs1 g1 g2 => (kk _ r' h' ef).2 X c1 c2 H1 locs1 ls n1 n2 e1 e2 g1 g2 w3)⟩
    · rw [if_neg ho] at ef; cases ef
theorem j_putZ {idx k : Nat} {ts : List Nat} {fin : Bool} {r : Option Nat} {x : Int32} {g : Hp → Option (α × Hp)} (hdg : decode cc pc = .ok (.putfield idx, 3)) (F : FL own idx ts k 0 fin .boolean) (hfin : fin = false ∨ nme = "<init>") (kk : ∀ h1, J p l e R s m args below meth c cc nL own fr lo ret nme D dA B n0 s0 Q (pc + 3) lv st h1 (g h1)) : J p l e R s m args below meth c cc nL own fr lo ret nme D dA B n0 s0 Q pc lv (vi x :: vr r :: st) h (pz ts k r x h g) := by
  intro r' h' ef
  cases r with
  | none => cases ef
  | some a =>
    unfold pz at ef
    dsimp only at ef
    by_cases ho : ok h ts a = true ∧ (x = 0 ∨ x = 1)
    · rw [if_pos ho] at ef
      have n1 : narrow .boolean (.int x) = .int x := by rcases ho.2 with rfl | rfl <;> decide
      have n2 : fits .boolean (.int x) = true := by rcases ho.2 with rfl | rfl <;> decide
      exact ⟨(kk _ r' h' ef).1, fun X c1 c2 H locs ls m1 m2 e1 e2 w1 w2 w3 => put_core X hdg F hfin ho.1 w1 w2 n1 n2 (h1 := sI h a k x) rfl rfl fvl_I fvl_Io (fun b hb => sI_o hb) (fun H1 locs1 g1 g2 => (kk _ r' h' ef).2 X c1 c2 H1 locs1 ls m1 m2 e1 e2 g1 g2 w3)⟩
    · rw [if_neg ho] at ef; cases ef
theorem j_putL {idx k : Nat} {ts : List Nat} {fin : Bool} {r : Option Nat} {x : Int64} {g : Hp → Option (α × Hp)} (hdg : decode cc pc = .ok (.putfield idx, 3)) (F : FL own idx ts k 1 fin .long) (hfin : fin = false ∨ nme = "<init>") (kk : ∀ h1, J p l e R s m args below meth c cc nL own fr lo ret nme D dA B n0 s0 Q (pc + 3) lv st h1 (g h1)) : J p l e R s m args below meth c cc nL own fr lo ret nme D dA B n0 s0 Q pc lv (vl x :: vr r :: st) h (pl ts k r x h g) := by
  intro r' h' ef
  cases r with
  | none => cases ef
  | some a =>
    unfold pl at ef
    dsimp only at ef
    by_cases ho : ok h ts a = true
    · rw [if_pos ho] at ef
      exact ⟨(kk _ r' h' ef).1, fun X c1 c2 H locs ls n1 n2 e1 e2 w1 w2 w3 => put_core X hdg F hfin ho w1 w2 rfl rfl (h1 := sL h a k x) rfl rfl fvl_L fvl_Lo (fun b hb => sL_o hb) (fun H1 locs1 g1 g2 => (kk _ r' h' ef).2 X c1 c2 H1 locs1 ls n1 n2 e1 e2 g1 g2 w3)⟩
    · rw [if_neg ho] at ef; cases ef
theorem rv_fit (ft : FieldType) (hft : (∃ C, ft = .object C) ∨ ∃ t, ft = .array t) (x : Option Nat) : narrow ft (rv B x) = rv B x ∧ fits ft (rv B x) = true := by
  rcases hft with ⟨C, rfl⟩ | ⟨t, rfl⟩ <;> cases x <;> exact ⟨rfl, rfl⟩
theorem j_putR {idx k : Nat} {ts : List Nat} {fin : Bool} {ft : FieldType} {r x : Option Nat} {g : Hp → Option (α × Hp)} (hdg : decode cc pc = .ok (.putfield idx, 3)) (F : FL own idx ts k 2 fin ft) (hfin : fin = false ∨ nme = "<init>") (hft : (∃ C, ft = .object C) ∨ ∃ t, ft = .array t) (kk : ∀ h1, J p l e R s m args below meth c cc nL own fr lo ret nme D dA B n0 s0 Q (pc + 3) lv st h1 (g h1)) : J p l e R s m args below meth c cc nL own fr lo ret nme D dA B n0 s0 Q pc lv (vr x :: vr r :: st) h (pr ts k r x h g) := by
  intro r' h' ef
  cases r with
  | none => cases ef
  | some a =>
    unfold pr at ef
    dsimp only at ef
    by_cases ho : ok h ts a = true
    · rw [if_pos ho] at ef
      exact ⟨(kk _ r' h' ef).1, fun X c1 c2 H locs ls n1 n2 e1 e2 w1 w2 w3 => put_core X hdg F hfin ho w1 w2 (rv_fit ft hft x).1 (rv_fit ft hft x).2 (h1 := sR h a k x) rfl rfl fvl_R fvl_Ro (fun b hb => sR_o hb) (fun H1 locs1 g1 g2 => (kk _ r' h' ef).2 X c1 c2 H1 locs1 ls n1 n2 e1 e2 g1 g2 w3)⟩
    · rw [if_neg ho] at ef; cases ef
end RH
