/-! values on the stack and in the locals: an int, a long, a reference -/
abbrev AV : Type := Int32 ⊕ Int64 ⊕ Option Nat ⊕ Nat
abbrev vi (x : Int32) : AV := .inl x
abbrev vl (x : Int64) : AV := .inr (.inl x)
abbrev vr (r : Option Nat) : AV := .inr (.inr (.inl r))
/-- a cell that was there before -/
abbrev vb (b : Nat) : AV := .inr (.inr (.inr b))
def val (B : Nat) : AV → Value
  | .inl x => .int x
  | .inr (.inl x) => .long x
  | .inr (.inr (.inl r)) => rv B r
  | .inr (.inr (.inr b)) => .ref b
def isL : AV → Bool
  | .inr (.inl _) => true
  | _ => false
def cat : AV → Nat
  | .inr (.inl _) => 2
  | _ => 1
theorem rv_cat (B : Nat) (r : Option Nat) : (rv B r).category = 1 := by cases r <;> rfl
theorem val_cat (B : Nat) (v : AV) : (val B v).category = cat v := by
  rcases v with x | x | r | b
  · rfl
  · rfl
  · exact rv_cat B r
  · rfl
theorem val_isL (B : Nat) (v : AV) : ((val B v).category == 2) = isL v := by
  rcases v with x | x | r | b
  · rfl
  · rfl
  · show ((rv B r).category == 2) = false
    rw [rv_cat]; rfl
  · rfl
abbrev ml (B : Nat) (lv : List (Nat × AV)) : List (Nat × Value) := lv.map (fun q => (q.1, val B q.2))
theorem ml_at {B : Nat} {lv : List (Nat × AV)} {k i : Nat} {v : AV} (h : lv[k]? = some (i, v)) : (ml B lv)[k]? = some (i, val B v) := by
  rw [List.getElem?_map, h]; rfl
theorem ml_set1 {B : Nat} {lv lv' : List (Nat × AV)} {i : Nat} {v : AV} (h : (i, v) :: lv.filter (fun q => !(q.1 == i) && !(q.1 + 1 == i && isL q.2)) = lv') : (i, val B v) :: (ml B lv).filter (fun q => !(q.1 == i) && !(q.1 + 1 == i && q.2.category == 2)) = ml B lv' := by
  subst h
  unfold ml
  rw [List.map_cons, List.filter_map]
  congr 3
  funext q
  show (!(q.1 == i) && !(q.1 + 1 == i && (val B q.2).category == 2)) = _
  rw [val_isL]
theorem ml_set2 {B : Nat} {lv lv' : List (Nat × AV)} {i : Nat} {v : AV} (h : (i, v) :: lv.filter (fun q => !(q.1 == i) && (!(q.1 == i + 1) && !(q.1 + 1 == i && isL q.2))) = lv') : (i, val B v) :: (ml B lv).filter (fun q => !(q.1 == i) && (!(q.1 == i + 1) && !(q.1 + 1 == i && q.2.category == 2))) = ml B lv' := by
  subst h
  unfold ml
  rw [List.map_cons, List.filter_map]
  congr 3
  funext q
  show (!(q.1 == i) && (!(q.1 == i + 1) && !(q.1 + 1 == i && (val B q.2).category == 2))) = _
  rw [val_isL]
theorem ml_pick {B : Nat} {lv lv' : List (Nat × AV)} (ks : List Nat) (h : ks.filterMap (fun k => lv[k]?) = lv') : lv_pick (ml B lv) ks = ml B lv' := by
  subst h
  unfold ml lv_pick
  rw [List.map_filterMap]
  congr 1
  funext k
  rw [List.getElem?_map]
theorem cat_sum (B : Nat) (st : List AV) : (st.map (val B)).map (fun v => v.category) = st.map cat := by
  rw [List.map_map]
  congr 1
  funext v
  exact val_cat B v
/-! what the tables say, beside the words of GT -/
def isSoft : Cond → Bool
  | .castable _ _ => true
  | .declares _ => true
  | _ => false
theorem soft_moved {w : Cond} {u U : State} (hs : isSoft w = true) (hvm : u.vm.Alike U.vm) (h : va_Nw w u) : va_Nw w U := by
  cases w <;> first | (simp [isSoft] at hs; done) | skip
  · exact va_tabs rfl (rfl : (u.setVm U.vm).vm = U.vm) (by rw [Cond.declares_setVm hvm]; exact h)
  · exact va_tabs rfl (rfl : (u.setVm U.vm).vm = U.vm) (by rw [Cond.castable_setVm hvm]; exact h)
def Kx (D : va_G) (dA : Nat → ClassId) (U : State) : Prop := va_K D kCL (tyl dA) U ∧ va_AO "RingingChamber$Lead" U ∧ va_AO "RingingChamber$Method" U ∧ (∀ t r, t ∈ [1, 2, 3, 7, 10] → kCL[t]? = some r → va_Nc r.1 "RingingChamber$Spliced" U) ∧ ∀ w ∈ lw_tbl, isSoft w = true → va_Nw w U
theorem Kx.moved {D : va_G} {dA : Nat → ClassId} {u U : State} (hvm : u.vm.Alike U.vm) (h : Kx D dA u) : Kx D dA U := ⟨va_K.moved hvm h.1, va_AO.moved hvm h.2.1, va_AO.moved hvm h.2.2.1, fun t r h1 h2 => va_Nc.moved hvm (h.2.2.2.1 t r h1 h2), fun w h1 h2 => soft_moved h2 hvm (h.2.2.2.2 w h1 h2)⟩
def Wk (D : va_G) (dA : Nat → ClassId) (B : Nat) (h : Hp) (U : State) : Prop := U.heap.size = B + hz h ∧ va_P D kCL (wl B dA h) U.heap ∧ Kx D dA U
abbrev Qv (D : va_G) (dA : Nat → ClassId) (B : Nat) (v : Option Value) (h : Hp) : Array Value → State → Outcome → State → Prop := fun _ st oc t => oc = .returned v ∧ (va_P D kCL (wl B dA h) t.heap ∧ Kx D dA t) ∧ va_F (fun q => B ≤ q) st t
/-- a method's walk: what doesn't change -/
def Cx (p : Program) (R : Room) (s : State) (m : MethodId) (args : Array Value) (meth : Method) (c : Code) (cc : ByteArray) (nL : Nat) (own : String) (fr lo : Nat) (ret : Option FieldType) (nme : String) (D : va_G) (dA : Nat → ClassId) (B n0 : Nat) : Prop :=
  p.tables.exec = Jvm.exec ∧ c.code = cc ∧ c.maxLocals = nL ∧ s.vm.findClass own = some m.cls ∧ (∀ w ∈ GT, w.before args s = true) ∧ Kx D dA s ∧ meth.locks = false ∧ s.heap.size = B + n0 ∧ R.frames = fr ∧ R.locals = lo ∧ meth.sig.returnType = ret ∧ meth.name = nme
/-- from here the machine comes to the end that the pure program f tells, if it tells one -/
def J {α : Type} (p : Program) (l : Launch) (e : Env) (R : Room) (s : State) (m : MethodId) (args : Array Value) (below : List Frame) (meth : Method) (c : Code) (cc : ByteArray) (nL : Nat) (own : String) (fr lo : Nat) (ret : Option FieldType) (nme : String) (D : va_G) (dA : Nat → ClassId) (B n0 s0 : Nat) (Q : α → Hp → State → Prop) (pc : Nat) (lv : List (Nat × AV)) (st : List AV) (h : Hp) (f : Option (α × Hp)) : Prop :=
  ∀ (r : α) (h' : Hp), f = some (r, h') → (hz h ≤ hz h' ∧ hs h ≤ hs h') ∧ (Cx p R s m args meth c cc nL own fr lo ret nme D dA B n0 → hz h' ≤ n0 + R.cells → hs h' ≤ s0 + R.slots → ∀ (H : Heap) (locs : List Loc) (ls : Array Slot) (cells slots : Nat), cells + n0 = hz h → slots + s0 = hs h →
    va_P D kCL (wl B dA h) H → va_S (fun q => B ≤ q) s.heap H locs → lv_has ls nL (ml B lv) → W p l e R s m args below meth c H locs cells slots (Q r h') (F0 m pc ls (st.map (val B))))
section RJ
variable {α : Type} {p : Program} {l : Launch} {e : Env} {R : Room} {s : State} {m : MethodId} {args : Array Value} {below : List Frame} {meth : Method} {c : Code} {cc : ByteArray} {nL : Nat} {own : String} {fr lo : Nat} {ret : Option FieldType} {nme : String} {D : va_G} {dA : Nat → ClassId} {B n0 s0 : Nat} {Q : α → Hp → State → Prop} {pc pc' : Nat} {lv lv' : List (Nat × AV)} {st st' : List AV} {h : Hp} {f f1 f2 : Option (α × Hp)}
theorem J.none : J p l e R s m args below meth c cc nL own fr lo ret nme D dA B n0 s0 Q pc lv st h (none : Option (α × Hp)) := fun _ _ e => by cases e
theorem J.go (hh : ∀ (X : Cx p R s m args meth c cc nL own fr lo ret nme D dA B n0) (H : Heap) (locs : List Loc) (ls : Array Slot) (cells slots : Nat) (Q1 : State → Prop), lv_has ls nL (ml B lv) → W p l e R s m args below meth c H locs cells slots Q1 (F0 m pc' ls (st'.map (val B))) → W p l e R s m args below meth c H locs cells slots Q1 (F0 m pc ls (st.map (val B)))) (k : J p l e R s m args below meth c cc nL own fr lo ret nme D dA B n0 s0 Q pc' lv st' h f) : J p l e R s m args below meth c cc nL own fr lo ret nme D dA B n0 s0 Q pc lv st h f :=
  fun r h' ef => ⟨(k r h' ef).1, fun X c1 c2 H locs ls n1 n2 e1 e2 w1 w2 w3 => hh X H locs ls n1 n2 _ w3 ((k r h' ef).2 X c1 c2 H locs ls n1 n2 e1 e2 w1 w2 w3)⟩
theorem J.goS (hh : ∀ (X : Cx p R s m args meth c cc nL own fr lo ret nme D dA B n0) (H : Heap) (locs : List Loc) (ls : Array Slot) (cells slots : Nat) (Q1 : State → Prop), lv_has ls nL (ml B lv) → (∀ ls', lv_has ls' nL (ml B lv') → W p l e R s m args below meth c H locs cells slots Q1 (F0 m pc' ls' (st'.map (val B)))) → W p l e R s m args below meth c H locs cells slots Q1 (F0 m pc ls (st.map (val B)))) (k : J p l e R s m args below meth c cc nL own fr lo ret nme D dA B n0 s0 Q pc' lv' st' h f) : J p l e R s m args below meth c cc nL own fr lo ret nme D dA B n0 s0 Q pc lv st h f :=
  fun r h' ef => ⟨(k r h' ef).1, fun X c1 c2 H locs ls n1 n2 e1 e2 w1 w2 w3 => hh X H locs ls n1 n2 _ w3 (fun ls' w3 => (k r h' ef).2 X c1 c2 H locs ls' n1 n2 e1 e2 w1 w2 w3)⟩
theorem J.go2 {pc1 pc2 : Nat} {st1 st2 : List AV} {cnd : Prop} {dc : Decidable cnd} (hh : ∀ (X : Cx p R s m args meth c cc nL own fr lo ret nme D dA B n0) (H : Heap) (locs : List Loc) (ls : Array Slot) (cells slots : Nat) (Q1 : State → Prop), lv_has ls nL (ml B lv) → (cnd → W p l e R s m args below meth c H locs cells slots Q1 (F0 m pc1 ls (st1.map (val B)))) → (¬ cnd → W p l e R s m args below meth c H locs cells slots Q1 (F0 m pc2 ls (st2.map (val B)))) → W p l e R s m args below meth c H locs cells slots Q1 (F0 m pc ls (st.map (val B)))) (k1 : J p l e R s m args below meth c cc nL own fr lo ret nme D dA B n0 s0 Q pc1 lv st1 h f1) (k2 : J p l e R s m args below meth c cc nL own fr lo ret nme D dA B n0 s0 Q pc2 lv st2 h f2) : J p l e R s m args below meth c cc nL own fr lo ret nme D dA B n0 s0 Q pc lv st h (@ite _ cnd dc f1 f2) := by
  intro r h' ef
  by_cases hc : cnd
  · rw [if_pos hc] at ef
    exact ⟨(k1 r h' ef).1, fun X c1 c2 H locs ls n1 n2 e1 e2 w1 w2 w3 => hh X H locs ls n1 n2 _ w3 (fun _ => (k1 r h' ef).2 X c1 c2 H locs ls n1 n2 e1 e2 w1 w2 w3) (fun q => absurd hc q)⟩
  · rw [if_neg hc] at ef
    exact ⟨(k2 r h' ef).1, fun X c1 c2 H locs ls n1 n2 e1 e2 w1 w2 w3 => hh X H locs ls n1 n2 _ w3 (fun q => absurd q hc) (fun _ => (k2 r h' ef).2 X c1 c2 H locs ls n1 n2 e1 e2 w1 w2 w3)⟩
theorem J.sub (ks : List Nat) (hl : ks.filterMap (fun k => lv[k]?) = lv') (k : J p l e R s m args below meth c cc nL own fr lo ret nme D dA B n0 s0 Q pc lv' st h f) : J p l e R s m args below meth c cc nL own fr lo ret nme D dA B n0 s0 Q pc lv st h f :=
  fun r h' ef => ⟨(k r h' ef).1, fun X c1 c2 H locs ls n1 n2 e1 e2 w1 w2 w3 => (k r h' ef).2 X c1 c2 H locs ls n1 n2 e1 e2 w1 w2 (lv_sub w3 ks (ml_pick ks hl))⟩
theorem j_iconst  {n : Int} {v : Int32} (hdg : decode cc pc = .ok (.iconst n, 1)) (hv : Int32.ofInt n = v) (k : J p l e R s m args below meth c cc nL own fr lo ret nme D dA B n0 s0 Q (pc + 1) lv (vi v :: st) h f) : J p l e R s m args below meth c cc nL own fr lo ret nme D dA B n0 s0 Q pc lv st h f :=
  J.go (fun X _ _ _ _ _ _ w3 w => lv_iconst X.1 X.2.1 hdg hv w) k
theorem j_bipush  {n : Int} {v : Int32} (hdg : decode cc pc = .ok (.bipush n, 2)) (hv : (Int8.ofInt n).toInt32 = v) (k : J p l e R s m args below meth c cc nL own fr lo ret nme D dA B n0 s0 Q (pc + 2) lv (vi v :: st) h f) : J p l e R s m args below meth c cc nL own fr lo ret nme D dA B n0 s0 Q pc lv st h f :=
  J.go (fun X _ _ _ _ _ _ w3 w => lv_bipush X.1 X.2.1 hdg hv w) k
theorem j_sipush  {n : Int} {v : Int32} (hdg : decode cc pc = .ok (.sipush n, 3)) (hv : (Int16.ofInt n).toInt32 = v) (k : J p l e R s m args below meth c cc nL own fr lo ret nme D dA B n0 s0 Q (pc + 3) lv (vi v :: st) h f) : J p l e R s m args below meth c cc nL own fr lo ret nme D dA B n0 s0 Q pc lv st h f :=
  J.go (fun X _ _ _ _ _ _ w3 w => lv_sipush X.1 X.2.1 hdg hv w) k
theorem j_lconst  {n : Fin 2} {v : Int64} (hdg : decode cc pc = .ok (.lconst n, 1)) (hv : Int64.ofNat (n : Nat) = v) (k : J p l e R s m args below meth c cc nL own fr lo ret nme D dA B n0 s0 Q (pc + 1) lv (vl v :: st) h f) : J p l e R s m args below meth c cc nL own fr lo ret nme D dA B n0 s0 Q pc lv st h f :=
  J.go (fun X _ _ _ _ _ _ w3 w => lv_lconst X.1 X.2.1 hdg hv w) k
theorem j_null   (hdg : decode cc pc = .ok (.aconst_null, 1))  (k : J p l e R s m args below meth c cc nL own fr lo ret nme D dA B n0 s0 Q (pc + 1) lv (vr none :: st) h f) : J p l e R s m args below meth c cc nL own fr lo ret nme D dA B n0 s0 Q pc lv st h f :=
  J.go (fun X _ _ _ _ _ _ w3 w => lv_null X.1 X.2.1 hdg w) k
theorem j_ldc  {i : Nat} {v : Int32} (hdg : decode cc pc = .ok (.ldc i, 2)) (hc : Cond.constant own i v ∈ GT) (k : J p l e R s m args below meth c cc nL own fr lo ret nme D dA B n0 s0 Q (pc + 2) lv (vi v :: st) h f) : J p l e R s m args below meth c cc nL own fr lo ret nme D dA B n0 s0 Q pc lv st h f :=
  J.go (fun X _ _ _ _ _ _ w3 w => lv_ldc X.1 X.2.1 X.2.2.2.1 (X.2.2.2.2.1 _ hc) hdg w) k
theorem j_ldcw  {i : Nat} {v : Int32} (hdg : decode cc pc = .ok (.ldc_w i, 3)) (hc : Cond.constant own i v ∈ GT) (k : J p l e R s m args below meth c cc nL own fr lo ret nme D dA B n0 s0 Q (pc + 3) lv (vi v :: st) h f) : J p l e R s m args below meth c cc nL own fr lo ret nme D dA B n0 s0 Q pc lv st h f :=
  J.go (fun X _ _ _ _ _ _ w3 w => lv_ldcw X.1 X.2.1 X.2.2.2.1 (X.2.2.2.2.1 _ hc) hdg w) k
theorem j_ldc2  {i : Nat} {v : Int64} (hdg : decode cc pc = .ok (.ldc2_w i, 3)) (hc : Cond.constantLong own i v ∈ GT) (k : J p l e R s m args below meth c cc nL own fr lo ret nme D dA B n0 s0 Q (pc + 3) lv (vl v :: st) h f) : J p l e R s m args below meth c cc nL own fr lo ret nme D dA B n0 s0 Q pc lv st h f :=
  J.go (fun X _ _ _ _ _ _ w3 w => lv_ldc2 X.1 X.2.1 X.2.2.2.1 (X.2.2.2.2.1 _ hc) hdg w) k
theorem j_iload_n  {q : Fin 4} {i : Nat} {x : Int32} (hdg : decode cc pc = .ok (.iload_n q, 1)) (n : Nat) (hi : (q : Nat) = i) (hk : lv[n]? = some (i, vi x)) (k : J p l e R s m args below meth c cc nL own fr lo ret nme D dA B n0 s0 Q (pc + 1) lv (vi x :: st) h f) : J p l e R s m args below meth c cc nL own fr lo ret nme D dA B n0 s0 Q pc lv st h f :=
  J.go (fun X _ _ _ _ _ _ w3 w => lv_iload_n X.1 X.2.1 hdg hi (lv_at w3 n (ml_at hk)) w) k
theorem j_iload  {i : Nat} {x : Int32} (hdg : decode cc pc = .ok (.iload i, 2)) (n : Nat) (hk : lv[n]? = some (i, vi x)) (k : J p l e R s m args below meth c cc nL own fr lo ret nme D dA B n0 s0 Q (pc + 2) lv (vi x :: st) h f) : J p l e R s m args below meth c cc nL own fr lo ret nme D dA B n0 s0 Q pc lv st h f :=
  J.go (fun X _ _ _ _ _ _ w3 w => lv_iload X.1 X.2.1 hdg (lv_at w3 n (ml_at hk)) w) k
theorem j_lload_n  {q : Fin 4} {i : Nat} {x : Int64} (hdg : decode cc pc = .ok (.lload_n q, 1)) (n : Nat) (hi : (q : Nat) = i) (hk : lv[n]? = some (i, vl x)) (k : J p l e R s m args below meth c cc nL own fr lo ret nme D dA B n0 s0 Q (pc + 1) lv (vl x :: st) h f) : J p l e R s m args below meth c cc nL own fr lo ret nme D dA B n0 s0 Q pc lv st h f :=
  J.go (fun X _ _ _ _ _ _ w3 w => lv_lload_n X.1 X.2.1 hdg hi (lv_at w3 n (ml_at hk)) w) k
theorem j_lload  {i : Nat} {x : Int64} (hdg : decode cc pc = .ok (.lload i, 2)) (n : Nat) (hk : lv[n]? = some (i, vl x)) (k : J p l e R s m args below meth c cc nL own fr lo ret nme D dA B n0 s0 Q (pc + 2) lv (vl x :: st) h f) : J p l e R s m args below meth c cc nL own fr lo ret nme D dA B n0 s0 Q pc lv st h f :=
  J.go (fun X _ _ _ _ _ _ w3 w => lv_lload X.1 X.2.1 hdg (lv_at w3 n (ml_at hk)) w) k
theorem j_aload_n  {q : Fin 4} {i : Nat} {x : Option Nat} (hdg : decode cc pc = .ok (.aload_n q, 1)) (n : Nat) (hi : (q : Nat) = i) (hk : lv[n]? = some (i, vr x)) (k : J p l e R s m args below meth c cc nL own fr lo ret nme D dA B n0 s0 Q (pc + 1) lv (vr x :: st) h f) : J p l e R s m args below meth c cc nL own fr lo ret nme D dA B n0 s0 Q pc lv st h f := by
  refine J.go (fun X _ _ _ _ _ _ w3 w => ?_) k
  have h1 := lv_at w3 n (ml_at hk)
  cases x with
  | none => exact lv_aload_nN X.1 X.2.1 hdg hi h1 w
  | some a => exact lv_aload_n X.1 X.2.1 hdg hi h1 w
theorem j_aload  {i : Nat} {x : Option Nat} (hdg : decode cc pc = .ok (.aload i, 2)) (n : Nat) (hk : lv[n]? = some (i, vr x)) (k : J p l e R s m args below meth c cc nL own fr lo ret nme D dA B n0 s0 Q (pc + 2) lv (vr x :: st) h f) : J p l e R s m args below meth c cc nL own fr lo ret nme D dA B n0 s0 Q pc lv st h f := by
  refine J.go (fun X _ _ _ _ _ _ w3 w => ?_) k
  have h1 := lv_at w3 n (ml_at hk)
  cases x with
  | none => exact lv_aloadN X.1 X.2.1 hdg h1 w
  | some a => exact lv_aload X.1 X.2.1 hdg h1 w
theorem j_istore_n  {q : Fin 4} {i : Nat} {x : Int32} (hdg : decode cc pc = .ok (.istore_n q, 1)) (hi : (q : Nat) = i) (hn : i < nL) (hl : (i, vi x) :: lv.filter (fun q => !(q.1 == i) && !(q.1 + 1 == i && isL q.2)) = lv') (k : J p l e R s m args below meth c cc nL own fr lo ret nme D dA B n0 s0 Q (pc + 1) lv' st h f) : J p l e R s m args below meth c cc nL own fr lo ret nme D dA B n0 s0 Q pc lv (vi x :: st) h f :=
  J.goS (fun X _ _ _ _ _ _ w3 w => lv_istore_n X.1 X.2.1 hdg hi w3 hn (ml_set1 hl) w) k
theorem j_istore  {i : Nat} {x : Int32} (hdg : decode cc pc = .ok (.istore i, 2)) (hn : i < nL) (hl : (i, vi x) :: lv.filter (fun q => !(q.1 == i) && !(q.1 + 1 == i && isL q.2)) = lv') (k : J p l e R s m args below meth c cc nL own fr lo ret nme D dA B n0 s0 Q (pc + 2) lv' st h f) : J p l e R s m args below meth c cc nL own fr lo ret nme D dA B n0 s0 Q pc lv (vi x :: st) h f :=
  J.goS (fun X _ _ _ _ _ _ w3 w => lv_istore X.1 X.2.1 hdg w3 hn (ml_set1 hl) w) k
theorem j_lstore_n  {q : Fin 4} {i : Nat} {x : Int64} (hdg : decode cc pc = .ok (.lstore_n q, 1)) (hi : (q : Nat) = i) (hn : i + 1 < nL) (hl : (i, vl x) :: lv.filter (fun q => !(q.1 == i) && (!(q.1 == i + 1) && !(q.1 + 1 == i && isL q.2))) = lv') (k : J p l e R s m args below meth c cc nL own fr lo ret nme D dA B n0 s0 Q (pc + 1) lv' st h f) : J p l e R s m args below meth c cc nL own fr lo ret nme D dA B n0 s0 Q pc lv (vl x :: st) h f :=
  J.goS (fun X _ _ _ _ _ _ w3 w => lv_lstore_n X.1 X.2.1 hdg hi w3 hn (ml_set2 hl) w) k
theorem j_lstore  {i : Nat} {x : Int64} (hdg : decode cc pc = .ok (.lstore i, 2)) (hn : i + 1 < nL) (hl : (i, vl x) :: lv.filter (fun q => !(q.1 == i) && (!(q.1 == i + 1) && !(q.1 + 1 == i && isL q.2))) = lv') (k : J p l e R s m args below meth c cc nL own fr lo ret nme D dA B n0 s0 Q (pc + 2) lv' st h f) : J p l e R s m args below meth c cc nL own fr lo ret nme D dA B n0 s0 Q pc lv (vl x :: st) h f :=
  J.goS (fun X _ _ _ _ _ _ w3 w => lv_lstore X.1 X.2.1 hdg w3 hn (ml_set2 hl) w) k
theorem j_astore_n  {q : Fin 4} {i : Nat} {x : Option Nat} (hdg : decode cc pc = .ok (.astore_n q, 1)) (hi : (q : Nat) = i) (hn : i < nL) (hl : (i, vr x) :: lv.filter (fun q => !(q.1 == i) && !(q.1 + 1 == i && isL q.2)) = lv') (k : J p l e R s m args below meth c cc nL own fr lo ret nme D dA B n0 s0 Q (pc + 1) lv' st h f) : J p l e R s m args below meth c cc nL own fr lo ret nme D dA B n0 s0 Q pc lv (vr x :: st) h f:= by
  refine J.goS (fun X _ _ _ _ _ _ w3 w => ?_) k
  have h1 := ml_set1 (B := B) hl
  cases x with
  | none => exact lv_astore_nN X.1 X.2.1 hdg hi w3 hn h1 w
  | some a => exact lv_astore_n X.1 X.2.1 hdg hi w3 hn h1 w
theorem j_astore  {i : Nat} {x : Option Nat} (hdg : decode cc pc = .ok (.astore i, 2)) (hn : i < nL) (hl : (i, vr x) :: lv.filter (fun q => !(q.1 == i) && !(q.1 + 1 == i && isL q.2)) = lv') (k : J p l e R s m args below meth c cc nL own fr lo ret nme D dA B n0 s0 Q (pc + 2) lv' st h f) : J p l e R s m args below meth c cc nL own fr lo ret nme D dA B n0 s0 Q pc lv (vr x :: st) h f:= by
  refine J.goS (fun X _ _ _ _ _ _ w3 w => ?_) k
  have h1 := ml_set1 (B := B) hl
  cases x with
  | none => exact lv_astoreN X.1 X.2.1 hdg w3 hn h1 w
  | some a => exact lv_astore X.1 X.2.1 hdg w3 hn h1 w
theorem j_iinc  {i : Nat} {z : Int} {x v0 : Int32} {lvv : Int32 → List (Nat × AV)} {g : Int32 → Option (α × Hp)} (hdg : decode cc pc = .ok (.iinc i z, 3)) (n : Nat) (hk : lv[n]? = some (i, vi x)) (hv : x + Int32.ofInt z = v0) (hn : i < nL) (hl : ∀ v, (i, vi v) :: lv.filter (fun q => !(q.1 == i) && !(q.1 + 1 == i && isL q.2)) = lvv v) (k : ∀ v : Int32, J p l e R s m args below meth c cc nL own fr lo ret nme D dA B n0 s0 Q (pc + 3) (lvv v) st h (g v)) : J p l e R s m args below meth c cc nL own fr lo ret nme D dA B n0 s0 Q pc lv st h (nm v0 g) :=
  J.goS (lv' := lvv v0) (fun X _ _ _ _ _ _ w3 w => lv_iinc X.1 X.2.1 hdg w3 (ml_at hk) hv hn (ml_set1 (hl v0)) w) (k v0)
theorem j_aload_nA  {q : Fin 4} {i b : Nat} (hdg : decode cc pc = .ok (.aload_n q, 1)) (n : Nat) (hi : (q : Nat) = i) (hk : lv[n]? = some (i, vb b)) (k : J p l e R s m args below meth c cc nL own fr lo ret nme D dA B n0 s0 Q (pc + 1) lv (vb b :: st) h f) : J p l e R s m args below meth c cc nL own fr lo ret nme D dA B n0 s0 Q pc lv st h f :=
  J.go (fun X _ _ _ _ _ _ w3 w => lv_aload_n X.1 X.2.1 hdg hi (lv_at w3 n (ml_at hk)) w) k
theorem j_iadd  {x y : Int32} (hdg : decode cc pc = .ok (.iadd, 1))  (k : J p l e R s m args below meth c cc nL own fr lo ret nme D dA B n0 s0 Q (pc + 1) lv (vi (x + y) :: st) h f) : J p l e R s m args below meth c cc nL own fr lo ret nme D dA B n0 s0 Q pc lv (vi y :: vi x :: st) h f :=
  J.go (fun X _ _ _ _ _ _ w3 w => lv_iadd X.1 X.2.1 hdg w) k
theorem j_isub  {x y : Int32} (hdg : decode cc pc = .ok (.isub, 1))  (k : J p l e R s m args below meth c cc nL own fr lo ret nme D dA B n0 s0 Q (pc + 1) lv (vi (x - y) :: st) h f) : J p l e R s m args below meth c cc nL own fr lo ret nme D dA B n0 s0 Q pc lv (vi y :: vi x :: st) h f :=
  J.go (fun X _ _ _ _ _ _ w3 w => lv_isub X.1 X.2.1 hdg w) k
theorem j_imul  {x y : Int32} (hdg : decode cc pc = .ok (.imul, 1))  (k : J p l e R s m args below meth c cc nL own fr lo ret nme D dA B n0 s0 Q (pc + 1) lv (vi (x * y) :: st) h f) : J p l e R s m args below meth c cc nL own fr lo ret nme D dA B n0 s0 Q pc lv (vi y :: vi x :: st) h f :=
  J.go (fun X _ _ _ _ _ _ w3 w => lv_imul X.1 X.2.1 hdg w) k
theorem j_iand  {x y : Int32} (hdg : decode cc pc = .ok (.iand, 1))  (k : J p l e R s m args below meth c cc nL own fr lo ret nme D dA B n0 s0 Q (pc + 1) lv (vi (x &&& y) :: st) h f) : J p l e R s m args below meth c cc nL own fr lo ret nme D dA B n0 s0 Q pc lv (vi y :: vi x :: st) h f :=
  J.go (fun X _ _ _ _ _ _ w3 w => lv_iand X.1 X.2.1 hdg w) k
theorem j_ior  {x y : Int32} (hdg : decode cc pc = .ok (.ior, 1))  (k : J p l e R s m args below meth c cc nL own fr lo ret nme D dA B n0 s0 Q (pc + 1) lv (vi (x ||| y) :: st) h f) : J p l e R s m args below meth c cc nL own fr lo ret nme D dA B n0 s0 Q pc lv (vi y :: vi x :: st) h f :=
  J.go (fun X _ _ _ _ _ _ w3 w => lv_ior X.1 X.2.1 hdg w) k
theorem j_ixor  {x y : Int32} (hdg : decode cc pc = .ok (.ixor, 1))  (k : J p l e R s m args below meth c cc nL own fr lo ret nme D dA B n0 s0 Q (pc + 1) lv (vi (x ^^^ y) :: st) h f) : J p l e R s m args below meth c cc nL own fr lo ret nme D dA B n0 s0 Q pc lv (vi y :: vi x :: st) h f :=
  J.go (fun X _ _ _ _ _ _ w3 w => lv_ixor X.1 X.2.1 hdg w) k
theorem j_ishl  {x y : Int32} (hdg : decode cc pc = .ok (.ishl, 1))  (k : J p l e R s m args below meth c cc nL own fr lo ret nme D dA B n0 s0 Q (pc + 1) lv (vi (x <<< (y &&& 31)) :: st) h f) : J p l e R s m args below meth c cc nL own fr lo ret nme D dA B n0 s0 Q pc lv (vi y :: vi x :: st) h f :=
  J.go (fun X _ _ _ _ _ _ w3 w => lv_ishl X.1 X.2.1 hdg w) k
theorem j_ishr  {x y : Int32} (hdg : decode cc pc = .ok (.ishr, 1))  (k : J p l e R s m args below meth c cc nL own fr lo ret nme D dA B n0 s0 Q (pc + 1) lv (vi (x >>> (y &&& 31)) :: st) h f) : J p l e R s m args below meth c cc nL own fr lo ret nme D dA B n0 s0 Q pc lv (vi y :: vi x :: st) h f :=
  J.go (fun X _ _ _ _ _ _ w3 w => lv_ishr X.1 X.2.1 hdg w) k
theorem j_iushr  {x y : Int32} (hdg : decode cc pc = .ok (.iushr, 1))  (k : J p l e R s m args below meth c cc nL own fr lo ret nme D dA B n0 s0 Q (pc + 1) lv (vi ((x.toUInt32 >>> (y.toUInt32 &&& Int32.toUInt32 31)).toInt32) :: st) h f) : J p l e R s m args below meth c cc nL own fr lo ret nme D dA B n0 s0 Q pc lv (vi y :: vi x :: st) h f :=
  J.go (fun X _ _ _ _ _ _ w3 w => lv_iushr X.1 X.2.1 hdg rfl w) k
theorem j_ineg  {x : Int32} (hdg : decode cc pc = .ok (.ineg, 1))  (k : J p l e R s m args below meth c cc nL own fr lo ret nme D dA B n0 s0 Q (pc + 1) lv (vi (-x) :: st) h f) : J p l e R s m args below meth c cc nL own fr lo ret nme D dA B n0 s0 Q pc lv (vi x :: st) h f :=
  J.go (fun X _ _ _ _ _ _ w3 w => lv_ineg X.1 X.2.1 hdg w) k
theorem j_ladd  {x y : Int64} (hdg : decode cc pc = .ok (.ladd, 1))  (k : J p l e R s m args below meth c cc nL own fr lo ret nme D dA B n0 s0 Q (pc + 1) lv (vl (x + y) :: st) h f) : J p l e R s m args below meth c cc nL own fr lo ret nme D dA B n0 s0 Q pc lv (vl y :: vl x :: st) h f :=
  J.go (fun X _ _ _ _ _ _ w3 w => lv_ladd X.1 X.2.1 hdg w) k
theorem j_lsub  {x y : Int64} (hdg : decode cc pc = .ok (.lsub, 1))  (k : J p l e R s m args below meth c cc nL own fr lo ret nme D dA B n0 s0 Q (pc + 1) lv (vl (x - y) :: st) h f) : J p l e R s m args below meth c cc nL own fr lo ret nme D dA B n0 s0 Q pc lv (vl y :: vl x :: st) h f :=
  J.go (fun X _ _ _ _ _ _ w3 w => lv_lsub X.1 X.2.1 hdg w) k
theorem j_lmul  {x y : Int64} (hdg : decode cc pc = .ok (.lmul, 1))  (k : J p l e R s m args below meth c cc nL own fr lo ret nme D dA B n0 s0 Q (pc + 1) lv (vl (x * y) :: st) h f) : J p l e R s m args below meth c cc nL own fr lo ret nme D dA B n0 s0 Q pc lv (vl y :: vl x :: st) h f :=
  J.go (fun X _ _ _ _ _ _ w3 w => lv_lmul X.1 X.2.1 hdg w) k
theorem j_land  {x y : Int64} (hdg : decode cc pc = .ok (.land, 1))  (k : J p l e R s m args below meth c cc nL own fr lo ret nme D dA B n0 s0 Q (pc + 1) lv (vl (x &&& y) :: st) h f) : J p l e R s m args below meth c cc nL own fr lo ret nme D dA B n0 s0 Q pc lv (vl y :: vl x :: st) h f :=
  J.go (fun X _ _ _ _ _ _ w3 w => lv_land X.1 X.2.1 hdg w) k
theorem j_lor  {x y : Int64} (hdg : decode cc pc = .ok (.lor, 1))  (k : J p l e R s m args below meth c cc nL own fr lo ret nme D dA B n0 s0 Q (pc + 1) lv (vl (x ||| y) :: st) h f) : J p l e R s m args below meth c cc nL own fr lo ret nme D dA B n0 s0 Q pc lv (vl y :: vl x :: st) h f :=
  J.go (fun X _ _ _ _ _ _ w3 w => lv_lor X.1 X.2.1 hdg w) k
theorem j_lxor  {x y : Int64} (hdg : decode cc pc = .ok (.lxor, 1))  (k : J p l e R s m args below meth c cc nL own fr lo ret nme D dA B n0 s0 Q (pc + 1) lv (vl (x ^^^ y) :: st) h f) : J p l e R s m args below meth c cc nL own fr lo ret nme D dA B n0 s0 Q pc lv (vl y :: vl x :: st) h f :=
  J.go (fun X _ _ _ _ _ _ w3 w => lv_lxor X.1 X.2.1 hdg w) k
theorem j_lshl  {x : Int64} {y : Int32} (hdg : decode cc pc = .ok (.lshl, 1))  (k : J p l e R s m args below meth c cc nL own fr lo ret nme D dA B n0 s0 Q (pc + 1) lv (vl (x <<< (y.toInt64 &&& 63)) :: st) h f) : J p l e R s m args below meth c cc nL own fr lo ret nme D dA B n0 s0 Q pc lv (vi y :: vl x :: st) h f :=
  J.go (fun X _ _ _ _ _ _ w3 w => lv_lshl X.1 X.2.1 hdg rfl w) k
theorem j_lshr  {x : Int64} {y : Int32} (hdg : decode cc pc = .ok (.lshr, 1))  (k : J p l e R s m args below meth c cc nL own fr lo ret nme D dA B n0 s0 Q (pc + 1) lv (vl (x >>> (y.toInt64 &&& 63)) :: st) h f) : J p l e R s m args below meth c cc nL own fr lo ret nme D dA B n0 s0 Q pc lv (vi y :: vl x :: st) h f :=
  J.go (fun X _ _ _ _ _ _ w3 w => lv_lshr X.1 X.2.1 hdg rfl w) k
theorem j_lushr  {x : Int64} {y : Int32} (hdg : decode cc pc = .ok (.lushr, 1))  (k : J p l e R s m args below meth c cc nL own fr lo ret nme D dA B n0 s0 Q (pc + 1) lv (vl ((x.toUInt64 >>> (y.toInt64.toUInt64 &&& Int64.toUInt64 63)).toInt64) :: st) h f) : J p l e R s m args below meth c cc nL own fr lo ret nme D dA B n0 s0 Q pc lv (vi y :: vl x :: st) h f :=
  J.go (fun X _ _ _ _ _ _ w3 w => lv_lushr X.1 X.2.1 hdg rfl w) k
theorem j_lcmp  {x y : Int64} (hdg : decode cc pc = .ok (.lcmp, 1))  (k : J p l e R s m args below meth c cc nL own fr lo ret nme D dA B n0 s0 Q (pc + 1) lv (vi (lg_cmp x y) :: st) h f) : J p l e R s m args below meth c cc nL own fr lo ret nme D dA B n0 s0 Q pc lv (vl y :: vl x :: st) h f :=
  J.go (fun X _ _ _ _ _ _ w3 w => W.lcmp X.1 X.2.1 hdg w) k
theorem j_i2l  {x : Int32} (hdg : decode cc pc = .ok (.i2l, 1))  (k : J p l e R s m args below meth c cc nL own fr lo ret nme D dA B n0 s0 Q (pc + 1) lv (vl x.toInt64 :: st) h f) : J p l e R s m args below meth c cc nL own fr lo ret nme D dA B n0 s0 Q pc lv (vi x :: st) h f :=
  J.go (fun X _ _ _ _ _ _ w3 w => lv_i2l X.1 X.2.1 hdg rfl w) k
theorem j_l2i  {x : Int64} (hdg : decode cc pc = .ok (.l2i, 1))  (k : J p l e R s m args below meth c cc nL own fr lo ret nme D dA B n0 s0 Q (pc + 1) lv (vi x.toInt32 :: st) h f) : J p l e R s m args below meth c cc nL own fr lo ret nme D dA B n0 s0 Q pc lv (vl x :: st) h f :=
  J.go (fun X _ _ _ _ _ _ w3 w => lv_l2i X.1 X.2.1 hdg rfl w) k
theorem j_i2b  {x : Int32} (hdg : decode cc pc = .ok (.i2b, 1))  (k : J p l e R s m args below meth c cc nL own fr lo ret nme D dA B n0 s0 Q (pc + 1) lv (vi x.toInt8.toInt32 :: st) h f) : J p l e R s m args below meth c cc nL own fr lo ret nme D dA B n0 s0 Q pc lv (vi x :: st) h f :=
  J.go (fun X _ _ _ _ _ _ w3 w => lv_i2b X.1 X.2.1 hdg rfl w) k
theorem j_dup  {v : AV} (hdg : decode cc pc = .ok (.dup, 1)) (hv : cat v = 1) (k : J p l e R s m args below meth c cc nL own fr lo ret nme D dA B n0 s0 Q (pc + 1) lv (v :: v :: st) h f) : J p l e R s m args below meth c cc nL own fr lo ret nme D dA B n0 s0 Q pc lv (v :: st) h f :=
  J.go (fun X _ _ _ _ _ _ w3 w => lv_dup X.1 X.2.1 hdg ((val_cat B v).trans hv) w) k
theorem j_dup2_11  {v u : AV} (hdg : decode cc pc = .ok (.dup2, 1)) (hv : cat v = 1) (hu : cat u = 1) (k : J p l e R s m args below meth c cc nL own fr lo ret nme D dA B n0 s0 Q (pc + 1) lv (v :: u :: v :: u :: st) h f) : J p l e R s m args below meth c cc nL own fr lo ret nme D dA B n0 s0 Q pc lv (v :: u :: st) h f :=
  J.go (fun X _ _ _ _ _ _ w3 w => lv_dup2_11 X.1 X.2.1 hdg ((val_cat B v).trans hv) ((val_cat B u).trans hu) w) k
theorem j_dup2_2  {v : AV} (hdg : decode cc pc = .ok (.dup2, 1)) (hv : cat v = 2) (k : J p l e R s m args below meth c cc nL own fr lo ret nme D dA B n0 s0 Q (pc + 1) lv (v :: v :: st) h f) : J p l e R s m args below meth c cc nL own fr lo ret nme D dA B n0 s0 Q pc lv (v :: st) h f :=
  J.go (fun X _ _ _ _ _ _ w3 w => lv_dup2_2 X.1 X.2.1 hdg ((val_cat B v).trans hv) w) k
theorem j_pop  {v : AV} (hdg : decode cc pc = .ok (.pop, 1)) (hv : cat v = 1) (k : J p l e R s m args below meth c cc nL own fr lo ret nme D dA B n0 s0 Q (pc + 1) lv st h f) : J p l e R s m args below meth c cc nL own fr lo ret nme D dA B n0 s0 Q pc lv (v :: st) h f :=
  J.go (fun X _ _ _ _ _ _ w3 w => lv_pop X.1 X.2.1 hdg ((val_cat B v).trans hv) w) k
theorem j_idiv  {x y : Int32} (hdg : decode cc pc = .ok (.idiv, 1)) (k : J p l e R s m args below meth c cc nL own fr lo ret nme D dA B n0 s0 Q (pc + 1) lv (vi (x / y) :: st) h f) : J p l e R s m args below meth c cc nL own fr lo ret nme D dA B n0 s0 Q pc lv (vi y :: vi x :: st) h (nz y f) := by
  by_cases hy : y = 0
  · intro r h' ef; rw [nz, if_pos hy] at ef; cases ef
  · rw [nz, if_neg hy]
    exact J.go (fun X _ _ _ _ _ _ w3 w => lv_idiv X.1 X.2.1 hdg hy w) k
theorem j_irem  {x y : Int32} (hdg : decode cc pc = .ok (.irem, 1)) (k : J p l e R s m args below meth c cc nL own fr lo ret nme D dA B n0 s0 Q (pc + 1) lv (vi (x - x / y * y) :: st) h f) : J p l e R s m args below meth c cc nL own fr lo ret nme D dA B n0 s0 Q pc lv (vi y :: vi x :: st) h (nz y f) := by
  by_cases hy : y = 0
  · intro r h' ef; rw [nz, if_pos hy] at ef; cases ef
  · rw [nz, if_neg hy]
    exact J.go (fun X _ _ _ _ _ _ w3 w => lv_irem X.1 X.2.1 hdg hy w) k
theorem j_nm {γ : Type} {x : γ} {g : γ → Option (α × Hp)} (k : J p l e R s m args below meth c cc nL own fr lo ret nme D dA B n0 s0 Q pc lv st h (g x)) : J p l e R s m args below meth c cc nL own fr lo ret nme D dA B n0 s0 Q pc lv st h (nm x g) := k
theorem j_nmi {x : Int32} {g : Int32 → Option (α × Hp)} (k : ∀ y : Int32, J p l e R s m args below meth c cc nL own fr lo ret nme D dA B n0 s0 Q pc lv (vi y :: st) h (g y)) : J p l e R s m args below meth c cc nL own fr lo ret nme D dA B n0 s0 Q pc lv (vi x :: st) h (nm x g) := k x
theorem j_nml {x : Int64} {g : Int64 → Option (α × Hp)} (k : ∀ y : Int64, J p l e R s m args below meth c cc nL own fr lo ret nme D dA B n0 s0 Q pc lv (vl y :: st) h (g y)) : J p l e R s m args below meth c cc nL own fr lo ret nme D dA B n0 s0 Q pc lv (vl x :: st) h (nm x g) := k x
theorem j_goto  {off : Int} {tgt : Nat} (hdg : decode cc pc = .ok (.goto off, 3)) (ht : (pc : Int) + off = (tgt : Int)) (k : J p l e R s m args below meth c cc nL own fr lo ret nme D dA B n0 s0 Q tgt lv st h f) : J p l e R s m args below meth c cc nL own fr lo ret nme D dA B n0 s0 Q pc lv st h f :=
  J.go (fun X _ _ _ _ _ _ _ w => lv_goto X.1 X.2.1 hdg ht w) k
theorem j_icmp_eq  {x y : Int32} {off : Int} {tgt : Nat} {dc : Decidable (x = y)} (hdg : decode cc pc = .ok (.if_icmp .eq off, 3)) (ht : (pc : Int) + off = (tgt : Int)) (k1 : J p l e R s m args below meth c cc nL own fr lo ret nme D dA B n0 s0 Q tgt lv st h f1) (k2 : J p l e R s m args below meth c cc nL own fr lo ret nme D dA B n0 s0 Q (pc + 3) lv st h f2) : J p l e R s m args below meth c cc nL own fr lo ret nme D dA B n0 s0 Q pc lv (vi y :: vi x :: st) h (@ite _ (x = y) dc f1 f2) :=
  J.go2 (fun X _ _ _ _ _ _ _ w1 w2 => lv_icmp_eq X.1 X.2.1 hdg ht w1 w2) k1 k2
theorem j_if_eq  {x : Int32} {off : Int} {tgt : Nat} {dc : Decidable (x = 0)} (hdg : decode cc pc = .ok (.ifCond .eq off, 3)) (ht : (pc : Int) + off = (tgt : Int)) (k1 : J p l e R s m args below meth c cc nL own fr lo ret nme D dA B n0 s0 Q tgt lv st h f1) (k2 : J p l e R s m args below meth c cc nL own fr lo ret nme D dA B n0 s0 Q (pc + 3) lv st h f2) : J p l e R s m args below meth c cc nL own fr lo ret nme D dA B n0 s0 Q pc lv (vi x :: st) h (@ite _ (x = 0) dc f1 f2) :=
  J.go2 (fun X _ _ _ _ _ _ _ w1 w2 => lv_if_eq X.1 X.2.1 hdg ht w1 w2) k1 k2
theorem j_icmp_ne  {x y : Int32} {off : Int} {tgt : Nat} {dc : Decidable (x = y)} (hdg : decode cc pc = .ok (.if_icmp .ne off, 3)) (ht : (pc : Int) + off = (tgt : Int)) (k2 : J p l e R s m args below meth c cc nL own fr lo ret nme D dA B n0 s0 Q (pc + 3) lv st h f1) (k1 : J p l e R s m args below meth c cc nL own fr lo ret nme D dA B n0 s0 Q tgt lv st h f2) : J p l e R s m args below meth c cc nL own fr lo ret nme D dA B n0 s0 Q pc lv (vi y :: vi x :: st) h (@ite _ (x = y) dc f1 f2) :=
  J.go2 (fun X _ _ _ _ _ _ _ w1 w2 => lv_icmp_ne X.1 X.2.1 hdg ht w2 w1) k2 k1
theorem j_if_ne  {x : Int32} {off : Int} {tgt : Nat} {dc : Decidable (x = 0)} (hdg : decode cc pc = .ok (.ifCond .ne off, 3)) (ht : (pc : Int) + off = (tgt : Int)) (k2 : J p l e R s m args below meth c cc nL own fr lo ret nme D dA B n0 s0 Q (pc + 3) lv st h f1) (k1 : J p l e R s m args below meth c cc nL own fr lo ret nme D dA B n0 s0 Q tgt lv st h f2) : J p l e R s m args below meth c cc nL own fr lo ret nme D dA B n0 s0 Q pc lv (vi x :: st) h (@ite _ (x = 0) dc f1 f2) :=
  J.go2 (fun X _ _ _ _ _ _ _ w1 w2 => lv_if_ne X.1 X.2.1 hdg ht w2 w1) k2 k1
theorem j_icmp_lt  {x y : Int32} {off : Int} {tgt : Nat} {dc : Decidable (x < y)} (hdg : decode cc pc = .ok (.if_icmp .lt off, 3)) (ht : (pc : Int) + off = (tgt : Int)) (k1 : J p l e R s m args below meth c cc nL own fr lo ret nme D dA B n0 s0 Q tgt lv st h f1) (k2 : J p l e R s m args below meth c cc nL own fr lo ret nme D dA B n0 s0 Q (pc + 3) lv st h f2) : J p l e R s m args below meth c cc nL own fr lo ret nme D dA B n0 s0 Q pc lv (vi y :: vi x :: st) h (@ite _ (x < y) dc f1 f2) :=
  J.go2 (fun X _ _ _ _ _ _ _ w1 w2 => lv_icmp_lt X.1 X.2.1 hdg ht w1 w2) k1 k2
theorem j_if_lt  {x : Int32} {off : Int} {tgt : Nat} {dc : Decidable (x < 0)} (hdg : decode cc pc = .ok (.ifCond .lt off, 3)) (ht : (pc : Int) + off = (tgt : Int)) (k1 : J p l e R s m args below meth c cc nL own fr lo ret nme D dA B n0 s0 Q tgt lv st h f1) (k2 : J p l e R s m args below meth c cc nL own fr lo ret nme D dA B n0 s0 Q (pc + 3) lv st h f2) : J p l e R s m args below meth c cc nL own fr lo ret nme D dA B n0 s0 Q pc lv (vi x :: st) h (@ite _ (x < 0) dc f1 f2) :=
  J.go2 (fun X _ _ _ _ _ _ _ w1 w2 => lv_if_lt X.1 X.2.1 hdg ht w1 w2) k1 k2
theorem j_icmp_ge  {x y : Int32} {off : Int} {tgt : Nat} {dc : Decidable (y ≤ x)} (hdg : decode cc pc = .ok (.if_icmp .ge off, 3)) (ht : (pc : Int) + off = (tgt : Int)) (k1 : J p l e R s m args below meth c cc nL own fr lo ret nme D dA B n0 s0 Q tgt lv st h f1) (k2 : J p l e R s m args below meth c cc nL own fr lo ret nme D dA B n0 s0 Q (pc + 3) lv st h f2) : J p l e R s m args below meth c cc nL own fr lo ret nme D dA B n0 s0 Q pc lv (vi y :: vi x :: st) h (@ite _ (y ≤ x) dc f1 f2) :=
  J.go2 (fun X _ _ _ _ _ _ _ w1 w2 => lv_icmp_ge X.1 X.2.1 hdg ht w1 w2) k1 k2
theorem j_if_ge  {x : Int32} {off : Int} {tgt : Nat} {dc : Decidable (0 ≤ x)} (hdg : decode cc pc = .ok (.ifCond .ge off, 3)) (ht : (pc : Int) + off = (tgt : Int)) (k1 : J p l e R s m args below meth c cc nL own fr lo ret nme D dA B n0 s0 Q tgt lv st h f1) (k2 : J p l e R s m args below meth c cc nL own fr lo ret nme D dA B n0 s0 Q (pc + 3) lv st h f2) : J p l e R s m args below meth c cc nL own fr lo ret nme D dA B n0 s0 Q pc lv (vi x :: st) h (@ite _ (0 ≤ x) dc f1 f2) :=
  J.go2 (fun X _ _ _ _ _ _ _ w1 w2 => lv_if_ge X.1 X.2.1 hdg ht w1 w2) k1 k2
theorem j_icmp_gt  {x y : Int32} {off : Int} {tgt : Nat} {dc : Decidable (y < x)} (hdg : decode cc pc = .ok (.if_icmp .gt off, 3)) (ht : (pc : Int) + off = (tgt : Int)) (k1 : J p l e R s m args below meth c cc nL own fr lo ret nme D dA B n0 s0 Q tgt lv st h f1) (k2 : J p l e R s m args below meth c cc nL own fr lo ret nme D dA B n0 s0 Q (pc + 3) lv st h f2) : J p l e R s m args below meth c cc nL own fr lo ret nme D dA B n0 s0 Q pc lv (vi y :: vi x :: st) h (@ite _ (y < x) dc f1 f2) :=
  J.go2 (fun X _ _ _ _ _ _ _ w1 w2 => lv_icmp_gt X.1 X.2.1 hdg ht w1 w2) k1 k2
theorem j_if_gt  {x : Int32} {off : Int} {tgt : Nat} {dc : Decidable (0 < x)} (hdg : decode cc pc = .ok (.ifCond .gt off, 3)) (ht : (pc : Int) + off = (tgt : Int)) (k1 : J p l e R s m args below meth c cc nL own fr lo ret nme D dA B n0 s0 Q tgt lv st h f1) (k2 : J p l e R s m args below meth c cc nL own fr lo ret nme D dA B n0 s0 Q (pc + 3) lv st h f2) : J p l e R s m args below meth c cc nL own fr lo ret nme D dA B n0 s0 Q pc lv (vi x :: st) h (@ite _ (0 < x) dc f1 f2) :=
  J.go2 (fun X _ _ _ _ _ _ _ w1 w2 => lv_if_gt X.1 X.2.1 hdg ht w1 w2) k1 k2
theorem j_icmp_le  {x y : Int32} {off : Int} {tgt : Nat} {dc : Decidable (x ≤ y)} (hdg : decode cc pc = .ok (.if_icmp .le off, 3)) (ht : (pc : Int) + off = (tgt : Int)) (k1 : J p l e R s m args below meth c cc nL own fr lo ret nme D dA B n0 s0 Q tgt lv st h f1) (k2 : J p l e R s m args below meth c cc nL own fr lo ret nme D dA B n0 s0 Q (pc + 3) lv st h f2) : J p l e R s m args below meth c cc nL own fr lo ret nme D dA B n0 s0 Q pc lv (vi y :: vi x :: st) h (@ite _ (x ≤ y) dc f1 f2) :=
  J.go2 (fun X _ _ _ _ _ _ _ w1 w2 => lv_icmp_le X.1 X.2.1 hdg ht w1 w2) k1 k2
theorem j_if_le  {x : Int32} {off : Int} {tgt : Nat} {dc : Decidable (x ≤ 0)} (hdg : decode cc pc = .ok (.ifCond .le off, 3)) (ht : (pc : Int) + off = (tgt : Int)) (k1 : J p l e R s m args below meth c cc nL own fr lo ret nme D dA B n0 s0 Q tgt lv st h f1) (k2 : J p l e R s m args below meth c cc nL own fr lo ret nme D dA B n0 s0 Q (pc + 3) lv st h f2) : J p l e R s m args below meth c cc nL own fr lo ret nme D dA B n0 s0 Q pc lv (vi x :: st) h (@ite _ (x ≤ 0) dc f1 f2) :=
  J.go2 (fun X _ _ _ _ _ _ _ w1 w2 => lv_if_le X.1 X.2.1 hdg ht w1 w2) k1 k2
theorem j_ifnull  {x : Option Nat} {off : Int} {tgt : Nat} {dc : Decidable (x = none)} (hdg : decode cc pc = .ok (.ifnull off, 3)) (ht : (pc : Int) + off = (tgt : Int)) (k1 : J p l e R s m args below meth c cc nL own fr lo ret nme D dA B n0 s0 Q tgt lv st h f1) (k2 : J p l e R s m args below meth c cc nL own fr lo ret nme D dA B n0 s0 Q (pc + 3) lv st h f2) : J p l e R s m args below meth c cc nL own fr lo ret nme D dA B n0 s0 Q pc lv (vr x :: st) h (@ite _ (x = none) dc f1 f2) := by
  refine J.go2 (fun X _ _ _ _ _ _ _ w1 w2 => ?_) k1 k2
  cases x with
  | none => exact lv_ifnullN X.1 X.2.1 hdg ht (w1 rfl)
  | some a => exact lv_ifnull X.1 X.2.1 hdg (w2 (fun q => by cases q))
theorem j_ifnonnull  {x : Option Nat} {off : Int} {tgt : Nat} {dc : Decidable (x = none)} (hdg : decode cc pc = .ok (.ifnonnull off, 3)) (ht : (pc : Int) + off = (tgt : Int)) (k1 : J p l e R s m args below meth c cc nL own fr lo ret nme D dA B n0 s0 Q (pc + 3) lv st h f1) (k2 : J p l e R s m args below meth c cc nL own fr lo ret nme D dA B n0 s0 Q tgt lv st h f2) : J p l e R s m args below meth c cc nL own fr lo ret nme D dA B n0 s0 Q pc lv (vr x :: st) h (@ite _ (x = none) dc f1 f2) := by
  refine J.go2 (fun X _ _ _ _ _ _ _ w1 w2 => ?_) k1 k2
  cases x with
  | none => exact lv_ifnonnullN X.1 X.2.1 hdg (w1 rfl)
  | some a => exact lv_ifnonnull X.1 X.2.1 hdg ht (w2 (fun q => by cases q))
end RJ
