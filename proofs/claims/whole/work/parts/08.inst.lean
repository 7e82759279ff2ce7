def swt (x : Int32) : List (Int32 × Nat) → Nat → Nat
  | [], d => d
  | q :: r, d => if x = q.1 then q.2 else swt x r d
def allQ {α : Type} (P : α → Prop) : List α → Prop
  | [] => True
  | q :: r => P q ∧ allQ P r
theorem allQ.nil {α : Type} {P : α → Prop} : allQ P [] := trivial
theorem allQ.cons {α : Type} {P : α → Prop} {q : α} {r : List α} (hq : P q) (hr : allQ P r) : allQ P (q :: r) := ⟨hq, hr⟩
theorem allQ_mem {α : Type} {P : α → Prop} : ∀ {l : List α}, allQ P l → ∀ q ∈ l, P q := by
  intro l
  induction l with
  | nil => intro _ q hq; cases hq
  | cons a r ih =>
    intro h q hq
    rcases List.mem_cons.mp hq with rfl | hq
    · exact h.1
    · exact ih h.2 q hq
theorem dl_mem {β : Type} : ∀ {cs : List (Nat × Option β)} {k : Nat}, dl cs k ≠ none → ∃ f, (k, f) ∈ cs ∧ dl cs k = f := by
  intro cs
  induction cs with
  | nil => intro k h; exact absurd rfl h
  | cons a r ih =>
    intro k h
    unfold dl at h ⊢
    by_cases e : k = a.1
    · rw [if_pos e] at h ⊢
      exact ⟨a.2, List.mem_cons.mpr (Or.inl (by rw [e])), rfl⟩
    · rw [if_neg e] at h ⊢
      obtain ⟨f, h1, h2⟩ := ih h
      exact ⟨f, List.mem_cons_of_mem _ h1, h2⟩
section RI
variable {α : Type} {p : Program} {l : Launch} {e : Env} {R : Room} {s : State} {m : MethodId} {args : Array Value} {below : List Frame} {meth : Method} {c : Code} {cc : ByteArray} {nL : Nat} {own : String} {fr lo : Nat} {ret : Option FieldType} {nme : String} {D : va_G} {dA : Nat → ClassId} {B n0 s0 : Nat} {Q : α → Hp → State → Prop} {pc : Nat} {lv : List (Nat × AV)} {st : List AV} {h : Hp} {f : Option (α × Hp)}
theorem sel_priv {y : MethodName} {C : String} {n n' : Nat} (hy : y.cls ≠ "java/lang/invoke/MethodHandle" ∧ y.cls ≠ "java/lang/invoke/VarHandle") (hC : (Cond.instantiable C n).before args s = true) (hins : (Cond.instantiable y.cls n').before args s = true) (hpriv : (Cond.privateMethod y).before args s = true) (hinst : (Cond.instanceMethod y).before args s = true) : (Cond.selects C y y).before args s = true := by
  obtain ⟨c1, k1, hc1, -, -, -, -, -⟩ := Cond.instantiable_spec hC
  obtain ⟨c2, k2, hc2, hk2, -, hn2, -, -⟩ := Cond.instantiable_spec hins
  obtain ⟨mk, mm, hnamed, hmm, -, -⟩ := Cond.instanceMethod_spec hinst
  have hfound : s.methodFound? y.cls y.name y.desc = some mk := State.methodFound?_of_named hnamed hy
  have hcls : mk.cls = c2 := Option.some.inj ((findClass_of_methodNamed hnamed).symm.trans hc2)
  have hsel : selectMethod {} s.vm c1 mk = .method mk := selectMethod_private hmm (Cond.privateMethod_at hpriv mk mm hnamed hmm)
  have hni : k2.isInterface = false := (Bool.or_eq_false_iff.mp hn2).1
  simp only [Cond.before, Cond.holds, Cond.value, hc1, hfound, hnamed, hsel, hcls, hk2]
  simp; exact hni
/-- a virtual call's words, for a receiver of kind t: the entry names x, the code is y's -/
def VT (own : String) (idx n t : Nat) (x y : MethodName) (b : ByteArray) (mL : Nat) (rt : Option FieldType) : Prop := ∃ r : vw_C, kCL[t]? = some r ∧
  ((x = y ∧ SL own idx y b mL rt n ∧ Cond.instanceMethod y ∈ GT ∧ (Cond.selects r.1 y y ∈ GT ∨ (Cond.privateMethod y ∈ GT ∧ ∃ n', Cond.instantiable y.cls n' ∈ GT))) ∨
   (∃ owner : String, Cond.code y b mL rt ∈ GT ∧ Cond.initialized y.cls ∈ GT ∧ (owner ≠ "java/lang/invoke/MethodHandle" ∧ owner ≠ "java/lang/invoke/VarHandle") ∧ (parseMethodDescriptor x.desc).map (fun d => d.parameters.length) = some n ∧ Cond.methodLink own idx x ∈ GT ∧ Cond.sameMethod x.cls owner x.name x.desc ∈ GT ∧ Cond.declares ⟨owner, x.name, x.desc⟩ ∈ lw_tbl ∧ Cond.selects r.1 x y ∈ GT ∧ Cond.instanceMethod y ∈ GT))
theorem vt_run {y x : MethodName} {b : ByteArray} {mL idx fr' lo' n t a0 cs sl' : Nat} {rt : Option FieldType} {as : List AV} {Qc : Array Value → State → Outcome → State → Prop} {H : Heap} {locs : List Loc} {ls : Array Slot} {cells slots : Nat} (X : Cx p R s m args meth c cc nL own fr lo ret nme D dA B n0) (V : VT own idx n t x y b mL rt) (hfr : fr' + 1 ≤ fr) (hlo : 8 + (mL + 11) + lo' ≤ lo) (hdg : decode cc pc = .ok (.invokevirtual idx, 3)) (ha : a0 < hz h) (ht : (hK h a0).1 = t) (hn : as.length = n)
    (hM : Met l y (Cond.code y b mL rt :: GT) (rmo fr' lo' cs sl') (va_Pc ((vr (some a0) :: as).map (val B)) (Wk D dA B h)) Qc cs sl' (fun q => B ≤ q)) (w1 : va_P D kCL (wl B dA h) H) (wk : ∀ U : State, U.heap = H → s.WarmedH U.vm → Wk D dA B h U) (w3 : ls.size = nL) (h8 : (st.map cat).sum ≤ 8) (hf : cells + cs ≤ R.cells ∧ slots + sl' ≤ R.slots) :
    va_Run p l e R s m args below meth c H locs cells slots cs sl' (F0 m pc ls ((as.map (val B)).reverse ++ .ref (B + a0) :: st.map (val B))) (st.map (val B)) (Qc ((vr (some a0) :: as).map (val B)).toArray) (fun q => B ≤ q) := by
  obtain ⟨r, hr, V⟩ := V
  have hrec := recv_at (B := B) (dA := dA) X.k.1 w1 ha ht hr
  rcases V with ⟨rfl, S, S2, S3⟩ | ⟨owner, S1, S2, S3, S4, S5, S6, S7, S8, S9⟩
  · have hsel : (Cond.selects r.1 x x).before args s = true := by
      rcases S3 with S3 | ⟨S3, n', S4⟩
      · exact X.ts _ S3
      · exact sel_priv ⟨S.2.2.2.1, S.2.2.2.2.1⟩ (X.ts _ (k_inst _ _ hr).1) (X.ts _ S4) (X.ts _ S3) (X.ts _ S2)
    exact va_runV (C := r.1) (b := B + a0) (As := as.map (val B)) ⟨X.x, X.b, X.ml, X.own, X.ts⟩ hM ⟨sl_B X S hfr hlo, X.ts _ S2, hsel⟩ ⟨wk_blind, hrec, fun U hU hW => ⟨rfl, wk U hU hW⟩⟩ rfl (by rw [List.length_map]; exact hn) w3 rfl (rest_ok h8) hdg hf
  · have cu : va_CU R s args own r.1 owner idx x y b mL rt (Cond.code y b mL rt :: GT) (rmo fr' lo' cs sl') cs sl' n := by
      refine ⟨⟨rfl, rfl, by rw [X.fr]; exact hfr, by rw [X.lo]; exact hlo, pay_in X.ts (good_ws S1), List.mem_cons_self⟩, X.ts _ S1, X.ts _ S2, S3, fun sig h => ?_, X.ts _ S5, X.ts _ S6, va_Decl.abs (X.k.2.2.2.2 _ S7 rfl), X.ts _ S8, X.ts _ S9⟩
      rw [h] at S4
      exact (Option.some.inj S4).symm
    exact va_runU (C := r.1) (b := B + a0) (As := as.map (val B)) ⟨X.x, X.b, X.ml, X.own, X.ts⟩ hM cu ⟨wk_blind, hrec, fun U hU hW => ⟨rfl, wk U hU hW⟩⟩ rfl (by rw [List.length_map]; exact hn) w3 rfl (rest_ok h8) hdg hf
/-- one kind's share of a virtual call -/
def VD {β : Type} (l : Launch) (own : String) (idx n fr lo : Nat) (D : va_G) (dA : Nat → ClassId) (B : Nat) (x : MethodName) (av : List AV) (h : Hp) (vo : β → Option AV) (q : Nat × Option (β × Hp)) : Prop := ∃ (y : MethodName) (b : ByteArray) (mL : Nat) (rt : Option FieldType) (fr' lo' : Nat), VT own idx n q.1 x y b mL rt ∧ Ct l y b mL rt fr' lo' D dA B av h vo q.2 ∧ fr' + 1 ≤ fr ∧ 8 + (mL + 11) + lo' ≤ lo
theorem VD.mk {β : Type} {x y : MethodName} {b : ByteArray} {idx n t mL fr' lo' : Nat} {rt : Option FieldType} {av : List AV} {vo : β → Option AV} {F : Option (β × Hp)} (V : VT own idx n t x y b mL rt) (C : Ct l y b mL rt fr' lo' D dA B av h vo F) (c1 : fr' + 1 ≤ fr) (c2 : 8 + (mL + 11) + lo' ≤ lo) : VD l own idx n fr lo D dA B x av h vo (t, F) := ⟨y, b, mL, rt, fr', lo', V, C, c1, c2⟩
theorem j_none {β : Type} {g : β → Hp → Option (α × Hp)} : J p l e R s m args below meth c cc nL own fr lo ret nme D dA B n0 s0 Q pc lv st h (cl none g) := fun _ _ ef => by cases ef
theorem j_ds {β : Type} {x : MethodName} {idx n : Nat} {as : List AV} {r0 : Option Nat} {vo : β → Option AV} {cs : List (Nat × Option (β × Hp))} {g : β → Hp → Option (α × Hp)} {st0 : List AV} (hdg : decode cc pc = .ok (.invokevirtual idx, 3)) (hall : allQ (VD l own idx n fr lo D dA B x (vr r0 :: as) h vo) cs) (hn : as.length = n) (h8 : (st.map cat).sum ≤ 8) (hst : st0 = as.reverse ++ vr r0 :: st) (kk : ∀ r1 h1, J p l e R s m args below meth c cc nL own fr lo ret nme D dA B n0 s0 Q (pc + 3) lv ((vo r1).toList ++ st) h1 (g r1 h1)) : J p l e R s m args below meth c cc nL own fr lo ret nme D dA B n0 s0 Q pc lv st0 h (cl (ds cs r0 h) g) := by
  cases r0 with
  | none => exact j_none
  | some a0 =>
    by_cases ha : a0 < hz h
    · have e0 : ds cs (some a0) h = dl cs (hK h a0).1 := by show (if a0 < hz h then _ else _) = _; rw [if_pos ha]
      rw [e0]
      by_cases hd : dl cs (hK h a0).1 = none
      · rw [hd]; exact j_none
      · obtain ⟨f1, h1, h2⟩ := dl_mem hd
        rw [h2]
        obtain ⟨y, b, mL, rt, fr', lo', V, C, c1, c2⟩ := allQ_mem hall _ h1
        refine j_run C (as := ((vr (some a0) :: as).map (val B)).toArray) (fun X r1 h1 H locs ls n1 n2 hM w1 wk w3 hf => ?_) kk
        rw [hst, List.map_append, List.map_reverse]
        exact vt_run X V c1 c2 hdg ha rfl hn hM w1 wk w3 h8 hf
    · have e0 : ds cs (some a0) h = none := by show (if a0 < hz h then _ else _) = _; rw [if_neg ha]
      rw [e0]; exact j_none
theorem j_ini {x : MethodName} {b : ByteArray} {idx n mL fr' lo' : Nat} {ts : List Nat} {as : List AV} {r0 : Option Nat} {F : Option (Unit × Hp)} {g : Unit → Hp → Option (α × Hp)} {st0 : List AV} (hdg : decode cc pc = .ok (.invokespecial idx, 3)) (S : SL own idx x b mL none n) (S2 : x.name = "<init>" ∧ Cond.instanceMethod x ∈ GT) (hC : Ct l x b mL none fr' lo' D dA B (vr r0 :: as) h vU F) (hfr : fr' + 1 ≤ fr) (hlo : 8 + (mL + 11) + lo' ≤ lo) (hn : as.length = n) (h8 : (st.map cat).sum ≤ 8) (hst : st0 = as.reverse ++ vr r0 :: st) (kk : ∀ r1 h1, J p l e R s m args below meth c cc nL own fr lo ret nme D dA B n0 s0 Q (pc + 3) lv st h1 (g r1 h1)) : J p l e R s m args below meth c cc nL own fr lo ret nme D dA B n0 s0 Q pc lv st0 h (cl (ck ts r0 h F) g) := by
  cases r0 with
  | none => exact j_none
  | some a0 =>
    by_cases ha : ok h ts a0 = true
    · have e0 : ck ts (some a0) h F = F := by show (if ok h ts a0 = true then _ else _) = _; rw [if_pos ha]
      rw [e0]
      refine j_run hC (as := ((vr (some a0) :: as).map (val B)).toArray) (fun X r1 h1 H locs ls n1 n2 hM w1 wk w3 hf => ?_) kk
      rw [hst, List.map_append, List.map_reverse]
      exact va_runI (b := B + a0) (As := as.map (val B)) ⟨X.x, X.b, X.ml, X.own, X.ts⟩ hM ⟨sl_B X S hfr hlo, S2.1, X.ts _ S2.2⟩ ⟨wk_blind, fun U hU hW => ⟨rfl, wk U hU hW⟩⟩ rfl (by rw [List.length_map]; exact hn) w3 rfl (rest_ok h8) hdg hf
    · have e0 : ck ts (some a0) h F = none := by show (if ok h ts a0 = true then _ else _) = _; rw [if_neg ha]
      rw [e0]; exact j_none
/-- a call of the class above -/
theorem j_sup {β : Type} {vo : β → Option AV} {x : MethodName} {b : ByteArray} {idx n mL fr' lo' : Nat} {rt : Option FieldType} {ts : List Nat} {as : List AV} {r0 : Option Nat} {F : Option (β × Hp)} {g : β → Hp → Option (α × Hp)} {st0 : List AV} (hdg : decode cc pc = .ok (.invokespecial idx, 3)) (S : SL own idx x b mL rt n) (S2 : (Cond.sameMethod x.cls x.cls x.name x.desc ∈ GT ∧ Cond.superclass own x.cls ∈ GT) ∧ x.name ≠ "<init>" ∧ Cond.instanceMethod x ∈ GT) (hts : ∀ t ∈ ts, t < 13) (hC : Ct l x b mL rt fr' lo' D dA B (vr r0 :: as) h vo F) (hfr : fr' + 1 ≤ fr) (hlo : 8 + (mL + 11) + lo' ≤ lo) (hn : as.length = n) (h8 : (st.map cat).sum ≤ 8) (hst : st0 = as.reverse ++ vr r0 :: st) (kk : ∀ r1 h1, J p l e R s m args below meth c cc nL own fr lo ret nme D dA B n0 s0 Q (pc + 3) lv ((vo r1).toList ++ st) h1 (g r1 h1)) : J p l e R s m args below meth c cc nL own fr lo ret nme D dA B n0 s0 Q pc lv st0 h (cl (ck ts r0 h F) g) := by
  cases r0 with
  | none => exact j_none
  | some a0 =>
    by_cases ha : ok h ts a0 = true
    · have e0 : ck ts (some a0) h F = F := by show (if ok h ts a0 = true then _ else _) = _; rw [if_pos ha]
      rw [e0]
      refine j_run hC (as := ((vr (some a0) :: as).map (val B)).toArray) (fun X r1 h1 H locs ls n1 n2 hM w1 wk w3 hf => ?_) kk
      rw [hst, List.map_append, List.map_reverse]
      obtain ⟨r, hr⟩ := k_at (hts _ (ok_tag ha))
      have hrec := recv_at (B := B) (dA := dA) X.k.1 w1 (ok_lt ha) rfl hr
      have cs : va_CS R s args own idx x b mL rt (Cond.code x b mL rt :: GT) (rmo fr' lo' (hz h1 - hz h) (hs h1 - hs h)) (hz h1 - hz h) (hs h1 - hs h) n := by
        refine ⟨⟨rfl, rfl, by rw [X.fr]; exact hfr, by rw [X.lo]; exact hlo, pay_in X.ts (good_ws S.1), List.mem_cons_self⟩, X.ts _ S.2.2.1, X.ts _ S2.1.1, X.ts _ S2.1.2, X.ts _ S2.2.2, X.ts _ S.2.1, X.ts _ S.1, S2.2.1, fun sig hq => ?_⟩
        have h5 := S.2.2.2.2.2
        rw [hq] at h5
        exact (Option.some.inj h5).symm
      exact va_runSU (C := r.1) (b := B + a0) (As := as.map (val B)) ((X.k.1.1 _ _ hr).2) ⟨X.x, X.b, X.ml, X.own, X.ts⟩ hM cs ⟨wk_blind, hrec, fun U hU hW => ⟨rfl, wk U hU hW⟩⟩ rfl (by rw [List.length_map]; exact hn) w3 rfl (rest_ok h8) hdg hf
    · have e0 : ck ts (some a0) h F = none := by show (if ok h ts a0 = true then _ else _) = _; rw [if_neg ha]
      rw [e0]; exact j_none
theorem j_vI0 {x0 : MethodName} {idx : Nat} {r0 : Option Nat} {cs : List (Nat × Option (Int32 × Hp))} {g : Int32 → Hp → Option (α × Hp)} (hdg : decode cc pc = .ok (.invokevirtual idx, 3)) (hall : allQ (VD l own idx 0 fr lo D dA B x0 [vr r0] h vI) cs) (h8 : (st.map cat).sum ≤ 8) (kk : ∀ (x : Int32) (h1 : Hp), J p l e R s m args below meth c cc nL own fr lo ret nme D dA B n0 s0 Q (pc + 3) lv (vi x :: st) h1 (g x h1)) : J p l e R s m args below meth c cc nL own fr lo ret nme D dA B n0 s0 Q pc lv (vr r0 :: st) h (cl (ds cs r0 h) g) := j_ds (as := []) hdg hall rfl h8 rfl kk
theorem j_vL0 {x0 : MethodName} {idx : Nat} {r0 : Option Nat} {cs : List (Nat × Option (Int64 × Hp))} {g : Int64 → Hp → Option (α × Hp)} (hdg : decode cc pc = .ok (.invokevirtual idx, 3)) (hall : allQ (VD l own idx 0 fr lo D dA B x0 [vr r0] h vL) cs) (h8 : (st.map cat).sum ≤ 8) (kk : ∀ (x : Int64) (h1 : Hp), J p l e R s m args below meth c cc nL own fr lo ret nme D dA B n0 s0 Q (pc + 3) lv (vl x :: st) h1 (g x h1)) : J p l e R s m args below meth c cc nL own fr lo ret nme D dA B n0 s0 Q pc lv (vr r0 :: st) h (cl (ds cs r0 h) g) := j_ds (as := []) hdg hall rfl h8 rfl kk
theorem j_vR0 {x0 : MethodName} {idx : Nat} {r0 : Option Nat} {cs : List (Nat × Option (Option Nat × Hp))} {g : Option Nat → Hp → Option (α × Hp)} (hdg : decode cc pc = .ok (.invokevirtual idx, 3)) (hall : allQ (VD l own idx 0 fr lo D dA B x0 [vr r0] h vR) cs) (h8 : (st.map cat).sum ≤ 8) (kk : ∀ (x : Option Nat) (h1 : Hp), J p l e R s m args below meth c cc nL own fr lo ret nme D dA B n0 s0 Q (pc + 3) lv (vr x :: st) h1 (g x h1)) : J p l e R s m args below meth c cc nL own fr lo ret nme D dA B n0 s0 Q pc lv (vr r0 :: st) h (cl (ds cs r0 h) g) := j_ds (as := []) hdg hall rfl h8 rfl kk
theorem j_vU0 {x0 : MethodName} {idx : Nat} {r0 : Option Nat} {cs : List (Nat × Option (Unit × Hp))} {g : Unit → Hp → Option (α × Hp)} (hdg : decode cc pc = .ok (.invokevirtual idx, 3)) (hall : allQ (VD l own idx 0 fr lo D dA B x0 [vr r0] h vU) cs) (h8 : (st.map cat).sum ≤ 8) (kk : ∀ (x : Unit) (h1 : Hp), J p l e R s m args below meth c cc nL own fr lo ret nme D dA B n0 s0 Q (pc + 3) lv st h1 (g x h1)) : J p l e R s m args below meth c cc nL own fr lo ret nme D dA B n0 s0 Q pc lv (vr r0 :: st) h (cl (ds cs r0 h) g) := j_ds (as := []) hdg hall rfl h8 rfl kk
theorem j_i0 {x : MethodName} {b : ByteArray} {idx mL fr' lo' : Nat} {ts : List Nat} {r0 : Option Nat} {F : Option (Unit × Hp)} {g : Unit → Hp → Option (α × Hp)} (hdg : decode cc pc = .ok (.invokespecial idx, 3)) (S : SL own idx x b mL none 0) (S2 : x.name = "<init>" ∧ Cond.instanceMethod x ∈ GT) (hC : Ct l x b mL none fr' lo' D dA B [vr r0] h vU F) (hfr : fr' + 1 ≤ fr) (hlo : 8 + (mL + 11) + lo' ≤ lo) (h8 : (st.map cat).sum ≤ 8) (kk : ∀ (x : Unit) (h1 : Hp), J p l e R s m args below meth c cc nL own fr lo ret nme D dA B n0 s0 Q (pc + 3) lv st h1 (g x h1)) : J p l e R s m args below meth c cc nL own fr lo ret nme D dA B n0 s0 Q pc lv (vr r0 :: st) h (cl (ck ts r0 h F) g) := j_ini (as := []) hdg S S2 hC hfr hlo rfl h8 rfl kk
theorem j_vI1 {x0 : MethodName} {idx : Nat} {a1 : AV} {r0 : Option Nat} {cs : List (Nat × Option (Int32 × Hp))} {g : Int32 → Hp → Option (α × Hp)} (hdg : decode cc pc = .ok (.invokevirtual idx, 3)) (hall : allQ (VD l own idx 1 fr lo D dA B x0 [vr r0, a1] h vI) cs) (h8 : (st.map cat).sum ≤ 8) (kk : ∀ (x : Int32) (h1 : Hp), J p l e R s m args below meth c cc nL own fr lo ret nme D dA B n0 s0 Q (pc + 3) lv (vi x :: st) h1 (g x h1)) : J p l e R s m args below meth c cc nL own fr lo ret nme D dA B n0 s0 Q pc lv (a1 :: vr r0 :: st) h (cl (ds cs r0 h) g) := j_ds (as := [a1]) hdg hall rfl h8 rfl kk
theorem j_vL1 {x0 : MethodName} {idx : Nat} {a1 : AV} {r0 : Option Nat} {cs : List (Nat × Option (Int64 × Hp))} {g : Int64 → Hp → Option (α × Hp)} (hdg : decode cc pc = .ok (.invokevirtual idx, 3)) (hall : allQ (VD l own idx 1 fr lo D dA B x0 [vr r0, a1] h vL) cs) (h8 : (st.map cat).sum ≤ 8) (kk : ∀ (x : Int64) (h1 : Hp), J p l e R s m args below meth c cc nL own fr lo ret nme D dA B n0 s0 Q (pc + 3) lv (vl x :: st) h1 (g x h1)) : J p l e R s m args below meth c cc nL own fr lo ret nme D dA B n0 s0 Q pc lv (a1 :: vr r0 :: st) h (cl (ds cs r0 h) g) := j_ds (as := [a1]) hdg hall rfl h8 rfl kk
theorem j_vR1 {x0 : MethodName} {idx : Nat} {a1 : AV} {r0 : Option Nat} {cs : List (Nat × Option (Option Nat × Hp))} {g : Option Nat → Hp → Option (α × Hp)} (hdg : decode cc pc = .ok (.invokevirtual idx, 3)) (hall : allQ (VD l own idx 1 fr lo D dA B x0 [vr r0, a1] h vR) cs) (h8 : (st.map cat).sum ≤ 8) (kk : ∀ (x : Option Nat) (h1 : Hp), J p l e R s m args below meth c cc nL own fr lo ret nme D dA B n0 s0 Q (pc + 3) lv (vr x :: st) h1 (g x h1)) : J p l e R s m args below meth c cc nL own fr lo ret nme D dA B n0 s0 Q pc lv (a1 :: vr r0 :: st) h (cl (ds cs r0 h) g) := j_ds (as := [a1]) hdg hall rfl h8 rfl kk
theorem j_vU1 {x0 : MethodName} {idx : Nat} {a1 : AV} {r0 : Option Nat} {cs : List (Nat × Option (Unit × Hp))} {g : Unit → Hp → Option (α × Hp)} (hdg : decode cc pc = .ok (.invokevirtual idx, 3)) (hall : allQ (VD l own idx 1 fr lo D dA B x0 [vr r0, a1] h vU) cs) (h8 : (st.map cat).sum ≤ 8) (kk : ∀ (x : Unit) (h1 : Hp), J p l e R s m args below meth c cc nL own fr lo ret nme D dA B n0 s0 Q (pc + 3) lv st h1 (g x h1)) : J p l e R s m args below meth c cc nL own fr lo ret nme D dA B n0 s0 Q pc lv (a1 :: vr r0 :: st) h (cl (ds cs r0 h) g) := j_ds (as := [a1]) hdg hall rfl h8 rfl kk
theorem j_i1 {x : MethodName} {b : ByteArray} {idx mL fr' lo' : Nat} {ts : List Nat} {a1 : AV} {r0 : Option Nat} {F : Option (Unit × Hp)} {g : Unit → Hp → Option (α × Hp)} (hdg : decode cc pc = .ok (.invokespecial idx, 3)) (S : SL own idx x b mL none 1) (S2 : x.name = "<init>" ∧ Cond.instanceMethod x ∈ GT) (hC : Ct l x b mL none fr' lo' D dA B [vr r0, a1] h vU F) (hfr : fr' + 1 ≤ fr) (hlo : 8 + (mL + 11) + lo' ≤ lo) (h8 : (st.map cat).sum ≤ 8) (kk : ∀ (x : Unit) (h1 : Hp), J p l e R s m args below meth c cc nL own fr lo ret nme D dA B n0 s0 Q (pc + 3) lv st h1 (g x h1)) : J p l e R s m args below meth c cc nL own fr lo ret nme D dA B n0 s0 Q pc lv (a1 :: vr r0 :: st) h (cl (ck ts r0 h F) g) := j_ini (as := [a1]) hdg S S2 hC hfr hlo rfl h8 rfl kk
theorem j_vI2 {x0 : MethodName} {idx : Nat} {a1 a2 : AV} {r0 : Option Nat} {cs : List (Nat × Option (Int32 × Hp))} {g : Int32 → Hp → Option (α × Hp)} (hdg : decode cc pc = .ok (.invokevirtual idx, 3)) (hall : allQ (VD l own idx 2 fr lo D dA B x0 [vr r0, a1, a2] h vI) cs) (h8 : (st.map cat).sum ≤ 8) (kk : ∀ (x : Int32) (h1 : Hp), J p l e R s m args below meth c cc nL own fr lo ret nme D dA B n0 s0 Q (pc + 3) lv (vi x :: st) h1 (g x h1)) : J p l e R s m args below meth c cc nL own fr lo ret nme D dA B n0 s0 Q pc lv (a2 :: a1 :: vr r0 :: st) h (cl (ds cs r0 h) g) := j_ds (as := [a1, a2]) hdg hall rfl h8 rfl kk
theorem j_vL2 {x0 : MethodName} {idx : Nat} {a1 a2 : AV} {r0 : Option Nat} {cs : List (Nat × Option (Int64 × Hp))} {g : Int64 → Hp → Option (α × Hp)} (hdg : decode cc pc = .ok (.invokevirtual idx, 3)) (hall : allQ (VD l own idx 2 fr lo D dA B x0 [vr r0, a1, a2] h vL) cs) (h8 : (st.map cat).sum ≤ 8) (kk : ∀ (x : Int64) (h1 : Hp), J p l e R s m args below meth c cc nL own fr lo ret nme D dA B n0 s0 Q (pc + 3) lv (vl x :: st) h1 (g x h1)) : J p l e R s m args below meth c cc nL own fr lo ret nme D dA B n0 s0 Q pc lv (a2 :: a1 :: vr r0 :: st) h (cl (ds cs r0 h) g) := j_ds (as := [a1, a2]) hdg hall rfl h8 rfl kk
theorem j_vR2 {x0 : MethodName} {idx : Nat} {a1 a2 : AV} {r0 : Option Nat} {cs : List (Nat × Option (Option Nat × Hp))} {g : Option Nat → Hp → Option (α × Hp)} (hdg : decode cc pc = .ok (.invokevirtual idx, 3)) (hall : allQ (VD l own idx 2 fr lo D dA B x0 [vr r0, a1, a2] h vR) cs) (h8 : (st.map cat).sum ≤ 8) (kk : ∀ (x : Option Nat) (h1 : Hp), J p l e R s m args below meth c cc nL own fr lo ret nme D dA B n0 s0 Q (pc + 3) lv (vr x :: st) h1 (g x h1)) : J p l e R s m args below meth c cc nL own fr lo ret nme D dA B n0 s0 Q pc lv (a2 :: a1 :: vr r0 :: st) h (cl (ds cs r0 h) g) := j_ds (as := [a1, a2]) hdg hall rfl h8 rfl kk
theorem j_vU2 {x0 : MethodName} {idx : Nat} {a1 a2 : AV} {r0 : Option Nat} {cs : List (Nat × Option (Unit × Hp))} {g : Unit → Hp → Option (α × Hp)} (hdg : decode cc pc = .ok (.invokevirtual idx, 3)) (hall : allQ (VD l own idx 2 fr lo D dA B x0 [vr r0, a1, a2] h vU) cs) (h8 : (st.map cat).sum ≤ 8) (kk : ∀ (x : Unit) (h1 : Hp), J p l e R s m args below meth c cc nL own fr lo ret nme D dA B n0 s0 Q (pc + 3) lv st h1 (g x h1)) : J p l e R s m args below meth c cc nL own fr lo ret nme D dA B n0 s0 Q pc lv (a2 :: a1 :: vr r0 :: st) h (cl (ds cs r0 h) g) := j_ds (as := [a1, a2]) hdg hall rfl h8 rfl kk
theorem j_i2 {x : MethodName} {b : ByteArray} {idx mL fr' lo' : Nat} {ts : List Nat} {a1 a2 : AV} {r0 : Option Nat} {F : Option (Unit × Hp)} {g : Unit → Hp → Option (α × Hp)} (hdg : decode cc pc = .ok (.invokespecial idx, 3)) (S : SL own idx x b mL none 2) (S2 : x.name = "<init>" ∧ Cond.instanceMethod x ∈ GT) (hC : Ct l x b mL none fr' lo' D dA B [vr r0, a1, a2] h vU F) (hfr : fr' + 1 ≤ fr) (hlo : 8 + (mL + 11) + lo' ≤ lo) (h8 : (st.map cat).sum ≤ 8) (kk : ∀ (x : Unit) (h1 : Hp), J p l e R s m args below meth c cc nL own fr lo ret nme D dA B n0 s0 Q (pc + 3) lv st h1 (g x h1)) : J p l e R s m args below meth c cc nL own fr lo ret nme D dA B n0 s0 Q pc lv (a2 :: a1 :: vr r0 :: st) h (cl (ck ts r0 h F) g) := j_ini (as := [a1, a2]) hdg S S2 hC hfr hlo rfl h8 rfl kk
theorem j_vI3 {x0 : MethodName} {idx : Nat} {a1 a2 a3 : AV} {r0 : Option Nat} {cs : List (Nat × Option (Int32 × Hp))} {g : Int32 → Hp → Option (α × Hp)} (hdg : decode cc pc = .ok (.invokevirtual idx, 3)) (hall : allQ (VD l own idx 3 fr lo D dA B x0 [vr r0, a1, a2, a3] h vI) cs) (h8 : (st.map cat).sum ≤ 8) (kk : ∀ (x : Int32) (h1 : Hp), J p l e R s m args below meth c cc nL own fr lo ret nme D dA B n0 s0 Q (pc + 3) lv (vi x :: st) h1 (g x h1)) : J p l e R s m args below meth c cc nL own fr lo ret nme D dA B n0 s0 Q pc lv (a3 :: a2 :: a1 :: vr r0 :: st) h (cl (ds cs r0 h) g) := j_ds (as := [a1, a2, a3]) hdg hall rfl h8 rfl kk
theorem j_vL3 {x0 : MethodName} {idx : Nat} {a1 a2 a3 : AV} {r0 : Option Nat} {cs : List (Nat × Option (Int64 × Hp))} {g : Int64 → Hp → Option (α × Hp)} (hdg : decode cc pc = .ok (.invokevirtual idx, 3)) (hall : allQ (VD l own idx 3 fr lo D dA B x0 [vr r0, a1, a2, a3] h vL) cs) (h8 : (st.map cat).sum ≤ 8) (kk : ∀ (x : Int64) (h1 : Hp), J p l e R s m args below meth c cc nL own fr lo ret nme D dA B n0 s0 Q (pc + 3) lv (vl x :: st) h1 (g x h1)) : J p l e R s m args below meth c cc nL own fr lo ret nme D dA B n0 s0 Q pc lv (a3 :: a2 :: a1 :: vr r0 :: st) h (cl (ds cs r0 h) g) := j_ds (as := [a1, a2, a3]) hdg hall rfl h8 rfl kk
theorem j_vR3 {x0 : MethodName} {idx : Nat} {a1 a2 a3 : AV} {r0 : Option Nat} {cs : List (Nat × Option (Option Nat × Hp))} {g : Option Nat → Hp → Option (α × Hp)} (hdg : decode cc pc = .ok (.invokevirtual idx, 3)) (hall : allQ (VD l own idx 3 fr lo D dA B x0 [vr r0, a1, a2, a3] h vR) cs) (h8 : (st.map cat).sum ≤ 8) (kk : ∀ (x : Option Nat) (h1 : Hp), J p l e R s m args below meth c cc nL own fr lo ret nme D dA B n0 s0 Q (pc + 3) lv (vr x :: st) h1 (g x h1)) : J p l e R s m args below meth c cc nL own fr lo ret nme D dA B n0 s0 Q pc lv (a3 :: a2 :: a1 :: vr r0 :: st) h (cl (ds cs r0 h) g) := j_ds (as := [a1, a2, a3]) hdg hall rfl h8 rfl kk
theorem j_vU3 {x0 : MethodName} {idx : Nat} {a1 a2 a3 : AV} {r0 : Option Nat} {cs : List (Nat × Option (Unit × Hp))} {g : Unit → Hp → Option (α × Hp)} (hdg : decode cc pc = .ok (.invokevirtual idx, 3)) (hall : allQ (VD l own idx 3 fr lo D dA B x0 [vr r0, a1, a2, a3] h vU) cs) (h8 : (st.map cat).sum ≤ 8) (kk : ∀ (x : Unit) (h1 : Hp), J p l e R s m args below meth c cc nL own fr lo ret nme D dA B n0 s0 Q (pc + 3) lv st h1 (g x h1)) : J p l e R s m args below meth c cc nL own fr lo ret nme D dA B n0 s0 Q pc lv (a3 :: a2 :: a1 :: vr r0 :: st) h (cl (ds cs r0 h) g) := j_ds (as := [a1, a2, a3]) hdg hall rfl h8 rfl kk
theorem j_i3 {x : MethodName} {b : ByteArray} {idx mL fr' lo' : Nat} {ts : List Nat} {a1 a2 a3 : AV} {r0 : Option Nat} {F : Option (Unit × Hp)} {g : Unit → Hp → Option (α × Hp)} (hdg : decode cc pc = .ok (.invokespecial idx, 3)) (S : SL own idx x b mL none 3) (S2 : x.name = "<init>" ∧ Cond.instanceMethod x ∈ GT) (hC : Ct l x b mL none fr' lo' D dA B [vr r0, a1, a2, a3] h vU F) (hfr : fr' + 1 ≤ fr) (hlo : 8 + (mL + 11) + lo' ≤ lo) (h8 : (st.map cat).sum ≤ 8) (kk : ∀ (x : Unit) (h1 : Hp), J p l e R s m args below meth c cc nL own fr lo ret nme D dA B n0 s0 Q (pc + 3) lv st h1 (g x h1)) : J p l e R s m args below meth c cc nL own fr lo ret nme D dA B n0 s0 Q pc lv (a3 :: a2 :: a1 :: vr r0 :: st) h (cl (ck ts r0 h F) g) := j_ini (as := [a1, a2, a3]) hdg S S2 hC hfr hlo rfl h8 rfl kk
theorem j_vI4 {x0 : MethodName} {idx : Nat} {a1 a2 a3 a4 : AV} {r0 : Option Nat} {cs : List (Nat × Option (Int32 × Hp))} {g : Int32 → Hp → Option (α × Hp)} (hdg : decode cc pc = .ok (.invokevirtual idx, 3)) (hall : allQ (VD l own idx 4 fr lo D dA B x0 [vr r0, a1, a2, a3, a4] h vI) cs) (h8 : (st.map cat).sum ≤ 8) (kk : ∀ (x : Int32) (h1 : Hp), J p l e R s m args below meth c cc nL own fr lo ret nme D dA B n0 s0 Q (pc + 3) lv (vi x :: st) h1 (g x h1)) : J p l e R s m args below meth c cc nL own fr lo ret nme D dA B n0 s0 Q pc lv (a4 :: a3 :: a2 :: a1 :: vr r0 :: st) h (cl (ds cs r0 h) g) := j_ds (as := [a1, a2, a3, a4]) hdg hall rfl h8 rfl kk
theorem j_vL4 {x0 : MethodName} {idx : Nat} {a1 a2 a3 a4 : AV} {r0 : Option Nat} {cs : List (Nat × Option (Int64 × Hp))} {g : Int64 → Hp → Option (α × Hp)} (hdg : decode cc pc = .ok (.invokevirtual idx, 3)) (hall : allQ (VD l own idx 4 fr lo D dA B x0 [vr r0, a1, a2, a3, a4] h vL) cs) (h8 : (st.map cat).sum ≤ 8) (kk : ∀ (x : Int64) (h1 : Hp), J p l e R s m args below meth c cc nL own fr lo ret nme D dA B n0 s0 Q (pc + 3) lv (vl x :: st) h1 (g x h1)) : J p l e R s m args below meth c cc nL own fr lo ret nme D dA B n0 s0 Q pc lv (a4 :: a3 :: a2 :: a1 :: vr r0 :: st) h (cl (ds cs r0 h) g) := j_ds (as := [a1, a2, a3, a4]) hdg hall rfl h8 rfl kk
theorem j_vR4 {x0 : MethodName} {idx : Nat} {a1 a2 a3 a4 : AV} {r0 : Option Nat} {cs : List (Nat × Option (Option Nat × Hp))} {g : Option Nat → Hp → Option (α × Hp)} (hdg : decode cc pc = .ok (.invokevirtual idx, 3)) (hall : allQ (VD l own idx 4 fr lo D dA B x0 [vr r0, a1, a2, a3, a4] h vR) cs) (h8 : (st.map cat).sum ≤ 8) (kk : ∀ (x : Option Nat) (h1 : Hp), J p l e R s m args below meth c cc nL own fr lo ret nme D dA B n0 s0 Q (pc + 3) lv (vr x :: st) h1 (g x h1)) : J p l e R s m args below meth c cc nL own fr lo ret nme D dA B n0 s0 Q pc lv (a4 :: a3 :: a2 :: a1 :: vr r0 :: st) h (cl (ds cs r0 h) g) := j_ds (as := [a1, a2, a3, a4]) hdg hall rfl h8 rfl kk
theorem j_vU4 {x0 : MethodName} {idx : Nat} {a1 a2 a3 a4 : AV} {r0 : Option Nat} {cs : List (Nat × Option (Unit × Hp))} {g : Unit → Hp → Option (α × Hp)} (hdg : decode cc pc = .ok (.invokevirtual idx, 3)) (hall : allQ (VD l own idx 4 fr lo D dA B x0 [vr r0, a1, a2, a3, a4] h vU) cs) (h8 : (st.map cat).sum ≤ 8) (kk : ∀ (x : Unit) (h1 : Hp), J p l e R s m args below meth c cc nL own fr lo ret nme D dA B n0 s0 Q (pc + 3) lv st h1 (g x h1)) : J p l e R s m args below meth c cc nL own fr lo ret nme D dA B n0 s0 Q pc lv (a4 :: a3 :: a2 :: a1 :: vr r0 :: st) h (cl (ds cs r0 h) g) := j_ds (as := [a1, a2, a3, a4]) hdg hall rfl h8 rfl kk
theorem j_i4 {x : MethodName} {b : ByteArray} {idx mL fr' lo' : Nat} {ts : List Nat} {a1 a2 a3 a4 : AV} {r0 : Option Nat} {F : Option (Unit × Hp)} {g : Unit → Hp → Option (α × Hp)} (hdg : decode cc pc = .ok (.invokespecial idx, 3)) (S : SL own idx x b mL none 4) (S2 : x.name = "<init>" ∧ Cond.instanceMethod x ∈ GT) (hC : Ct l x b mL none fr' lo' D dA B [vr r0, a1, a2, a3, a4] h vU F) (hfr : fr' + 1 ≤ fr) (hlo : 8 + (mL + 11) + lo' ≤ lo) (h8 : (st.map cat).sum ≤ 8) (kk : ∀ (x : Unit) (h1 : Hp), J p l e R s m args below meth c cc nL own fr lo ret nme D dA B n0 s0 Q (pc + 3) lv st h1 (g x h1)) : J p l e R s m args below meth c cc nL own fr lo ret nme D dA B n0 s0 Q pc lv (a4 :: a3 :: a2 :: a1 :: vr r0 :: st) h (cl (ck ts r0 h F) g) := j_ini (as := [a1, a2, a3, a4]) hdg S S2 hC hfr hlo rfl h8 rfl kk
theorem j_vI5 {x0 : MethodName} {idx : Nat} {a1 a2 a3 a4 a5 : AV} {r0 : Option Nat} {cs : List (Nat × Option (Int32 × Hp))} {g : Int32 → Hp → Option (α × Hp)} (hdg : decode cc pc = .ok (.invokevirtual idx, 3)) (hall : allQ (VD l own idx 5 fr lo D dA B x0 [vr r0, a1, a2, a3, a4, a5] h vI) cs) (h8 : (st.map cat).sum ≤ 8) (kk : ∀ (x : Int32) (h1 : Hp), J p l e R s m args below meth c cc nL own fr lo ret nme D dA B n0 s0 Q (pc + 3) lv (vi x :: st) h1 (g x h1)) : J p l e R s m args below meth c cc nL own fr lo ret nme D dA B n0 s0 Q pc lv (a5 :: a4 :: a3 :: a2 :: a1 :: vr r0 :: st) h (cl (ds cs r0 h) g) := j_ds (as := [a1, a2, a3, a4, a5]) hdg hall rfl h8 rfl kk
theorem j_vL5 {x0 : MethodName} {idx : Nat} {a1 a2 a3 a4 a5 : AV} {r0 : Option Nat} {cs : List (Nat × Option (Int64 × Hp))} {g : Int64 → Hp → Option (α × Hp)} (hdg : decode cc pc = .ok (.invokevirtual idx, 3)) (hall : allQ (VD l own idx 5 fr lo D dA B x0 [vr r0, a1, a2, a3, a4, a5] h vL) cs) (h8 : (st.map cat).sum ≤ 8) (kk : ∀ (x : Int64) (h1 : Hp), J p l e R s m args below meth c cc nL own fr lo ret nme D dA B n0 s0 Q (pc + 3) lv (vl x :: st) h1 (g x h1)) : J p l e R s m args below meth c cc nL own fr lo ret nme D dA B n0 s0 Q pc lv (a5 :: a4 :: a3 :: a2 :: a1 :: vr r0 :: st) h (cl (ds cs r0 h) g) := j_ds (as := [a1, a2, a3, a4, a5]) hdg hall rfl h8 rfl kk
theorem j_vR5 {x0 : MethodName} {idx : Nat} {a1 a2 a3 a4 a5 : AV} {r0 : Option Nat} {cs : List (Nat × Option (Option Nat × Hp))} {g : Option Nat → Hp → Option (α × Hp)} (hdg : decode cc pc = .ok (.invokevirtual idx, 3)) (hall : allQ (VD l own idx 5 fr lo D dA B x0 [vr r0, a1, a2, a3, a4, a5] h vR) cs) (h8 : (st.map cat).sum ≤ 8) (kk : ∀ (x : Option Nat) (h1 : Hp), J p l e R s m args below meth c cc nL own fr lo ret nme D dA B n0 s0 Q (pc + 3) lv (vr x :: st) h1 (g x h1)) : J p l e R s m args below meth c cc nL own fr lo ret nme D dA B n0 s0 Q pc lv (a5 :: a4 :: a3 :: a2 :: a1 :: vr r0 :: st) h (cl (ds cs r0 h) g) := j_ds (as := [a1, a2, a3, a4, a5]) hdg hall rfl h8 rfl kk
theorem j_vU5 {x0 : MethodName} {idx : Nat} {a1 a2 a3 a4 a5 : AV} {r0 : Option Nat} {cs : List (Nat × Option (Unit × Hp))} {g : Unit → Hp → Option (α × Hp)} (hdg : decode cc pc = .ok (.invokevirtual idx, 3)) (hall : allQ (VD l own idx 5 fr lo D dA B x0 [vr r0, a1, a2, a3, a4, a5] h vU) cs) (h8 : (st.map cat).sum ≤ 8) (kk : ∀ (x : Unit) (h1 : Hp), J p l e R s m args below meth c cc nL own fr lo ret nme D dA B n0 s0 Q (pc + 3) lv st h1 (g x h1)) : J p l e R s m args below meth c cc nL own fr lo ret nme D dA B n0 s0 Q pc lv (a5 :: a4 :: a3 :: a2 :: a1 :: vr r0 :: st) h (cl (ds cs r0 h) g) := j_ds (as := [a1, a2, a3, a4, a5]) hdg hall rfl h8 rfl kk
theorem j_i5 {x : MethodName} {b : ByteArray} {idx mL fr' lo' : Nat} {ts : List Nat} {a1 a2 a3 a4 a5 : AV} {r0 : Option Nat} {F : Option (Unit × Hp)} {g : Unit → Hp → Option (α × Hp)} (hdg : decode cc pc = .ok (.invokespecial idx, 3)) (S : SL own idx x b mL none 5) (S2 : x.name = "<init>" ∧ Cond.instanceMethod x ∈ GT) (hC : Ct l x b mL none fr' lo' D dA B [vr r0, a1, a2, a3, a4, a5] h vU F) (hfr : fr' + 1 ≤ fr) (hlo : 8 + (mL + 11) + lo' ≤ lo) (h8 : (st.map cat).sum ≤ 8) (kk : ∀ (x : Unit) (h1 : Hp), J p l e R s m args below meth c cc nL own fr lo ret nme D dA B n0 s0 Q (pc + 3) lv st h1 (g x h1)) : J p l e R s m args below meth c cc nL own fr lo ret nme D dA B n0 s0 Q pc lv (a5 :: a4 :: a3 :: a2 :: a1 :: vr r0 :: st) h (cl (ck ts r0 h F) g) := j_ini (as := [a1, a2, a3, a4, a5]) hdg S S2 hC hfr hlo rfl h8 rfl kk
theorem j_pI0 {x : MethodName} {b : ByteArray} {idx mL fr' lo' : Nat} {rt : Option FieldType} {ts : List Nat} {r0 : Option Nat} {F : Option (Int32 × Hp)} {g : Int32 → Hp → Option (α × Hp)} (hdg : decode cc pc = .ok (.invokespecial idx, 3)) (S : SL own idx x b mL rt 0) (S2 : (Cond.sameMethod x.cls x.cls x.name x.desc ∈ GT ∧ Cond.superclass own x.cls ∈ GT) ∧ x.name ≠ "<init>" ∧ Cond.instanceMethod x ∈ GT) (hts : ∀ t ∈ ts, t < 13) (hC : Ct l x b mL rt fr' lo' D dA B [vr r0] h vI F) (hfr : fr' + 1 ≤ fr) (hlo : 8 + (mL + 11) + lo' ≤ lo) (h8 : (st.map cat).sum ≤ 8) (kk : ∀ (x : Int32) (h1 : Hp), J p l e R s m args below meth c cc nL own fr lo ret nme D dA B n0 s0 Q (pc + 3) lv (vi x :: st) h1 (g x h1)) : J p l e R s m args below meth c cc nL own fr lo ret nme D dA B n0 s0 Q pc lv (vr r0 :: st) h (cl (ck ts r0 h F) g) := j_sup (as := []) hdg S S2 hts hC hfr hlo rfl h8 rfl kk
theorem j_retI {x : Int32} (hdg : decode cc pc = .ok (.ireturn, 1)) : J p l e R s m args below meth c cc nL own fr lo (some .int) nme D dA B n0 s0 (QM below args s D dA B n0 s0 vI) pc lv [vi x] h (some (x, h)) := by
  intro r' h' ef
  cases ef
  refine ⟨⟨Nat.le_refl _, Nat.le_refl _⟩, fun X c1 c2 H locs ls n1 n2 e1 e2 w1 w2 w3 => ?_⟩
  obtain rfl : n1 = hz h - n0 := by omega
  obtain rfl : n2 = hs h - s0 := by omega
  exact W.iret X.x X.b X.rt (fun t ht hW => ⟨rfl, ⟨by rw [ht]; exact w1, Kx.moved hW.alike X.k⟩, w2.F ht⟩) w2.2.2 hdg X.lk
theorem j_retL {x : Int64} (hdg : decode cc pc = .ok (.lreturn, 1)) : J p l e R s m args below meth c cc nL own fr lo (some .long) nme D dA B n0 s0 (QM below args s D dA B n0 s0 vL) pc lv [vl x] h (some (x, h)) := by
  intro r' h' ef
  cases ef
  refine ⟨⟨Nat.le_refl _, Nat.le_refl _⟩, fun X c1 c2 H locs ls n1 n2 e1 e2 w1 w2 w3 => ?_⟩
  obtain rfl : n1 = hz h - n0 := by omega
  obtain rfl : n2 = hs h - s0 := by omega
  exact W.lret X.x X.b X.rt (fun t ht hW => ⟨rfl, ⟨by rw [ht]; exact w1, Kx.moved hW.alike X.k⟩, w2.F ht⟩) w2.2.2 hdg X.lk
theorem j_retU (hdg : decode cc pc = .ok (.return_, 1)) : J p l e R s m args below meth c cc nL own fr lo none nme D dA B n0 s0 (QM below args s D dA B n0 s0 vU) pc lv [] h (some ((), h)) := by
  intro r' h' ef
  cases ef
  refine ⟨⟨Nat.le_refl _, Nat.le_refl _⟩, fun X c1 c2 H locs ls n1 n2 e1 e2 w1 w2 w3 => ?_⟩
  obtain rfl : n1 = hz h - n0 := by omega
  obtain rfl : n2 = hs h - s0 := by omega
  exact W.vret X.x X.b X.rt (fun t ht hW => ⟨rfl, ⟨by rw [ht]; exact w1, Kx.moved hW.alike X.k⟩, w2.F ht⟩) w2.2.2 hdg X.lk
theorem j_retR {x : Option Nat} {ft : FieldType} (hft : (∃ n, ft = .object n) ∨ ∃ t, ft = .array t) (hdg : decode cc pc = .ok (.areturn, 1)) : J p l e R s m args below meth c cc nL own fr lo (some ft) nme D dA B n0 s0 (QM below args s D dA B n0 s0 vR) pc lv [vr x] h (some (x, h)) := by
  intro r' h' ef
  cases ef
  refine ⟨⟨Nat.le_refl _, Nat.le_refl _⟩, fun X c1 c2 H locs ls n1 n2 e1 e2 w1 w2 w3 => ?_⟩
  obtain rfl : n1 = hz h - n0 := by omega
  obtain rfl : n2 = hs h - s0 := by omega
  exact W.aret X.x X.b X.rt hft (by cases x with | none => exact Or.inl rfl | some a => exact Or.inr ⟨_, rfl⟩) (fun t ht hW => ⟨rfl, ⟨by rw [ht]; exact w1, Kx.moved hW.alike X.k⟩, w2.F ht⟩) w2.2.2 hdg X.lk
theorem j_retZ {x : Int32} (hdg : decode cc pc = .ok (.ireturn, 1)) : J p l e R s m args below meth c cc nL own fr lo (some .boolean) nme D dA B n0 s0 (QM below args s D dA B n0 s0 vI) pc lv [vi x] h (rz x h) := by
  by_cases hx : x = 0 ∨ x = 1
  · rw [rz, if_pos hx]
    have hn : narrow .boolean (.int x) = .int x := by rcases hx with rfl | rfl <;> decide
    intro r' h' ef
    cases ef
    refine ⟨⟨Nat.le_refl _, Nat.le_refl _⟩, fun X c1 c2 H locs ls n1 n2 e1 e2 w1 w2 w3 => ?_⟩
    obtain rfl : n1 = hz h - n0 := by omega
    obtain rfl : n2 = hs h - s0 := by omega
    exact W.zret X.x X.b X.rt hn (fun t ht hW => ⟨rfl, ⟨by rw [ht]; exact w1, Kx.moved hW.alike X.k⟩, w2.F ht⟩) w2.2.2 hdg X.lk
  · rw [rz, if_neg hx]; exact J.none
theorem j_obj {idx : Nat} {r : Option Nat} (hdg : decode cc pc = .ok (.invokespecial idx, 3)) (hl : Cond.methodLink own idx objectInit ∈ GT) (hi : Cond.instanceMethod objectInit ∈ GT) (hcd : Cond.code objectInit ⟨#[0xb1]⟩ 1 none ∈ GT) (hfr : 1 ≤ fr) (hlo : 20 ≤ lo) (h8 : (st.map cat).sum ≤ 8) (k : J p l e R s m args below meth c cc nL own fr lo ret nme D dA B n0 s0 Q (pc + 3) lv st h f) : J p l e R s m args below meth c cc nL own fr lo ret nme D dA B n0 s0 Q pc lv (vr r :: st) h (kn r f) := by
  cases r with
  | none => exact fun _ _ ef => by cases ef
  | some a =>
    refine J.go (fun X H locs ls n1 n2 Q1 w3 w => ?_) k
    refine W.objInit X.x X.b X.own (X.ts _ hl) (X.ts _ hi) (X.ts _ hcd) rfl (by rw [X.ml]; exact w3.1) rfl hdg (by rw [X.fr]; exact hfr) (by rw [X.lo]; exact Nat.le_trans (Nat.add_le_add_right (rest_ok h8) 12) hlo) w
theorem j_io {idx : Nat} {r : Option Nat} {g : Int32 → Option (α × Hp)} (hdg : decode cc pc = .ok (.instanceof idx, 3)) (hl : Cond.classLink own idx "RingingChamber$Spliced" ∈ GT) (kk : ∀ x : Int32, J p l e R s m args below meth c cc nL own fr lo ret nme D dA B n0 s0 Q (pc + 3) lv (vi x :: st) h (g x)) : J p l e R s m args below meth c cc nL own fr lo ret nme D dA B n0 s0 Q pc lv (vr r :: st) h (io 6 [1, 2, 3, 6, 7, 10] r h g) := by
  cases r with
  | none => exact J.go (fun X _ _ _ _ _ _ w3 w => lv_instN X.x X.b hdg w) (kk 0)
  | some a =>
    intro r' h' ef
    unfold io at ef
    dsimp only at ef
    by_cases ho : ok h [1, 2, 3, 6, 7, 10] a = true
    · rw [if_pos ho] at ef
      refine ⟨(kk _ r' h' ef).1, fun X c1 c2 H locs ls n1 n2 e1 e2 w1 w2 w3 => ?_⟩
      obtain ⟨r, hr⟩ := k_at (k_us (ok_tag ho))
      have hrec := recv_at (B := B) (dA := dA) X.k.1 w1 (ok_lt ho) rfl hr
      have w := (kk _ r' h' ef).2 X c1 c2 H locs ls n1 n2 e1 e2 w1 w2 w3
      by_cases ht : (hK h a).1 = 6
      · rw [if_pos ht] at w
        rw [ht] at hr
        cases hr
        exact va_instS X.x X.b X.own (X.ts _ hl) ((X.k.1.1 6 _ rfl).2) hrec hdg w
      · rw [if_neg ht] at w
        refine va_instNo X.x X.b X.own (X.ts _ hl) (X.k.2.2.2.1 _ _ ?_ hr) hrec hdg w
        have := ok_tag ho
        simp only [List.mem_cons, List.not_mem_nil, or_false] at this ⊢
        omega
    · rw [if_neg ho] at ef; cases ef
theorem j_kc {idx : Nat} {r : Option Nat} (hdg : decode cc pc = .ok (.checkcast idx, 3)) (hl : Cond.classLink own idx "RingingChamber$Spliced" ∈ GT) (k : J p l e R s m args below meth c cc nL own fr lo ret nme D dA B n0 s0 Q (pc + 3) lv (vr r :: st) h f) : J p l e R s m args below meth c cc nL own fr lo ret nme D dA B n0 s0 Q pc lv (vr r :: st) h (kc 6 r h f) := by
  cases r with
  | none => exact J.go (fun X _ _ _ _ _ _ w3 w => lv_castN X.x X.b hdg w) k
  | some a =>
    intro r' h' ef
    unfold kc at ef
    dsimp only at ef
    by_cases ho : ok h [6] a = true
    · rw [if_pos ho] at ef
      refine ⟨(k r' h' ef).1, fun X c1 c2 H locs ls n1 n2 e1 e2 w1 w2 w3 => ?_⟩
      have ht : (hK h a).1 = 6 := by simpa using ok_tag ho
      have hrec := recv_at (B := B) (dA := dA) (r := ("RingingChamber$Spliced", kT6, 8)) X.k.1 w1 (ok_lt ho) ht rfl
      exact va_castS X.x X.b X.own (X.ts _ hl) ((X.k.1.1 6 _ rfl).2) hrec hdg ((k r' h' ef).2 X c1 c2 H locs ls n1 n2 e1 e2 w1 w2 w3)
    · rw [if_neg ho] at ef; cases ef
theorem j_ac {idx : Nat} {r q : Option Nat} {sp dp n : Int32} {g : Hp → Option (α × Hp)} (hdg : decode cc pc = .ok (.invokestatic idx, 3)) (hl : Cond.methodLink own idx arraycopyName ∈ GT) (hnat : Cond.native arraycopyName ∈ GT) (hst : Cond.static arraycopyName ∈ GT) (hini : Cond.initialized "java/lang/System" ∈ GT) (hfr : 1 ≤ fr) (hlo : 30 ≤ lo) (h8 : (st.map cat).sum ≤ 8) (kk : ∀ h1, J p l e R s m args below meth c cc nL own fr lo ret nme D dA B n0 s0 Q (pc + 3) lv st h1 (g h1)) : J p l e R s m args below meth c cc nL own fr lo ret nme D dA B n0 s0 Q pc lv (vi n :: vi dp :: vr q :: vi sp :: vr r :: st) h (ac r sp q dp n h g) := by
  intro r' h' ef
  cases r with
  | none => cases ef
  | some a =>
    cases q with
    | none => cases ef
    | some b =>
      unfold ac at ef
      dsimp only at ef
      by_cases ho : (ok h [13] a = true ∧ ok h [13] b = true) ∧ (¬ sp < 0 ∧ ¬ dp < 0 ∧ ¬ n < 0) ∧ sp.toNatClampNeg + n.toNatClampNeg ≤ (hK h a).2 ∧ dp.toNatClampNeg + n.toNatClampNeg ≤ (hK h b).2
      · rw [if_pos ho] at ef
        obtain ⟨⟨o1, o2⟩, ⟨o3, o4, o5⟩, o6, o7⟩ := ho
        have t1 : (hK h a).1 = 13 := by simpa using ok_tag o1
        have t2 : (hK h b).1 = 13 := by simpa using ok_tag o2
        refine ⟨(kk _ r' h' ef).1, fun X c1 c2 H locs ls n1 n2 e1 e2 w1 w2 w3 => ?_⟩
        have he1 := wl_at (B := B) (dA := dA) (ok_lt o1)
        have he2 := wl_at (B := B) (dA := dA) (ok_lt o2)
        rw [cel_13 t1] at he1
        rw [cel_13 t2] at he2
        refine va_copyi X.x X.b (by rw [X.ml]; exact w3.1.symm) X.own (X.ts _ hl) (X.ts _ hnat) (X.ts _ hst) (X.ts _ hini) X.k.1 w1 (wl_D B dA h) w2 a b 0 0 he1 he2 rfl rfl rfl o3 o4 o5 o6 o7 (fun i hi => rfl) (by rw [X.fr]; exact hfr) ?_ hdg fun H1 locs1 g1 g2 g3 => ?_
        · rw [X.lo, cat_sum]
          have h9 : nativeFrameWords "java/lang/System" "arraycopy" 5 = 7 := by decide
          rw [h9]
          omega
        · have hset : (wl B dA h).set b (B + b, .inl (dA 0, (hK h b).2, .inl (va_cpy (hI h a) (hI h b) sp.toNatClampNeg dp.toNatClampNeg n.toNatClampNeg))) = wl B dA (sC h b (va_cpy (hI h a) (hI h b) sp.toNatClampNeg dp.toNatClampNeg n.toNatClampNeg)) := wl_ext (h := h) (h1 := sC h b (va_cpy (hI h a) (hI h b) sp.toNatClampNeg dp.toNatClampNeg n.toNatClampNeg)) rfl (by rw [cel_13 (h := sC h b (va_cpy (hI h a) (hI h b) sp.toNatClampNeg dp.toNatClampNeg n.toNatClampNeg)) t2]; show (Sum.inl (dA 0, (hK h b).2, Sum.inl (va_up (hI h) b (va_cpy (hI h a) (hI h b) sp.toNatClampNeg dp.toNatClampNeg n.toNatClampNeg) b)) : va_E) = _; rw [va_up, if_pos rfl]) (fun b' hb => sC_o hb)
          rw [hset] at g1
          exact (kk _ r' h' ef).2 X c1 c2 H1 locs1 ls n1 n2 e1 e2 g1 g3 w3
      · rw [if_neg ho] at ef; cases ef
theorem sw_none {β : Type} {x : Int32} : ∀ {cs : List (Int32 × Option β)} {d : Option β}, (∃ f, (x, f) ∈ cs ∧ sw x cs d = f) ∨ ((∀ q ∈ cs, x ≠ q.1) ∧ sw x cs d = d) := by
  intro cs
  induction cs with
  | nil => intro d; exact Or.inr ⟨fun q hq => (by cases hq), rfl⟩
  | cons a r ih =>
    intro d
    unfold sw
    by_cases e : x = a.1
    · rw [if_pos e]
      exact Or.inl ⟨a.2, List.mem_cons.mpr (Or.inl (by rw [e])), rfl⟩
    · rw [if_neg e]
      rcases ih (d := d) with ⟨f, h1, h2⟩ | ⟨h1, h2⟩
      · exact Or.inl ⟨f, List.mem_cons_of_mem _ h1, h2⟩
      · exact Or.inr ⟨fun q hq => by rcases List.mem_cons.mp hq with rfl | hq; exact e; exact h1 q hq, h2⟩
theorem swt_out {x : Int32} : ∀ {cs : List (Int32 × Nat)} {d : Nat}, (∀ q ∈ cs, x ≠ q.1) → swt x cs d = d := by
  intro cs
  induction cs with
  | nil => intro d _; rfl
  | cons a r ih =>
    intro d h
    unfold swt
    rw [if_neg (h a List.mem_cons_self)]
    exact ih fun q hq => h q (List.mem_cons_of_mem _ hq)
theorem sw_case {k : Int32} {t d : Nat} {ts : List (Int32 × Nat)} {F : Option (α × Hp)} (e1 : swt k ts d = t) (kk : J p l e R s m args below meth c cc nL own fr lo ret nme D dA B n0 s0 Q t lv st h F) : J p l e R s m args below meth c cc nL own fr lo ret nme D dA B n0 s0 Q (swt (k, F).1 ts d) lv st h (k, F).2 := by
  show J p l e R s m args below meth c cc nL own fr lo ret nme D dA B n0 s0 Q (swt k ts d) lv st h F
  rw [e1]; exact kk
/-- a switch, by where it goes -/
theorem j_sw {x : Int32} {cs : List (Int32 × Option (α × Hp))} {ts : List (Int32 × Nat)} {d : Nat} {fd : Option (α × Hp)} (hgo : ∀ (X : Cx p R s m args meth c cc nL own fr lo ret nme D dA B n0) (H : Heap) (locs : List Loc) (ls : Array Slot) (n1 n2 : Nat) (Q1 : State → Prop), W p l e R s m args below meth c H locs n1 n2 Q1 (F0 m (swt x ts d) ls (st.map (val B))) → W p l e R s m args below meth c H locs n1 n2 Q1 (F0 m pc ls (.int x :: st.map (val B)))) (hkeys : cs.map Prod.fst = ts.map Prod.fst) (hall : allQ (fun q => J p l e R s m args below meth c cc nL own fr lo ret nme D dA B n0 s0 Q (swt q.1 ts d) lv st h q.2) cs) (hd : J p l e R s m args below meth c cc nL own fr lo ret nme D dA B n0 s0 Q d lv st h fd) : J p l e R s m args below meth c cc nL own fr lo ret nme D dA B n0 s0 Q pc lv (vi x :: st) h (sw x cs fd) := by
  have key : J p l e R s m args below meth c cc nL own fr lo ret nme D dA B n0 s0 Q (swt x ts d) lv st h (sw x cs fd) := by
    rcases sw_none (x := x) (cs := cs) (d := fd) with ⟨f, h1, h2⟩ | ⟨h1, h2⟩
    · rw [h2]; exact allQ_mem hall _ h1
    · rw [h2, swt_out fun q hq => ?_]
      · exact hd
      · have : q.1 ∈ cs.map Prod.fst := by rw [hkeys]; exact List.mem_map_of_mem hq
        obtain ⟨q', hq', e'⟩ := List.mem_map.mp this
        rw [← e']; exact h1 q' hq'
  exact J.go (fun X H locs ls n1 n2 Q1 w3 w => hgo X H locs ls n1 n2 Q1 w) key
theorem j_tsw {x : Int32} {cs : List (Int32 × Option (α × Hp))} {ts : List (Int32 × Nat)} {d len : Nat} {dflt lo1 hi : Int} {offs : Array Int} {fd : Option (α × Hp)} (hdg : decode cc pc = .ok (.tableswitch dflt lo1 hi offs, len)) (hin : ∀ i : Nat, i < (hi - lo1 + 1).toNat → (offs[i]?).map (fun o => (pc : Int) + o) = some ((swt (Int32.ofInt (lo1 + i)) ts d : Nat) : Int)) (hbd : -2147483648 ≤ lo1 ∧ hi ≤ 2147483647) (hout : ts.all (fun q => decide (lo1 ≤ q.1.toInt) && decide (q.1.toInt ≤ hi)) = true) (hdf : (pc : Int) + dflt = (d : Int)) (hkeys : cs.map Prod.fst = ts.map Prod.fst) (hall : allQ (fun q => J p l e R s m args below meth c cc nL own fr lo ret nme D dA B n0 s0 Q (swt q.1 ts d) lv st h q.2) cs) (hd : J p l e R s m args below meth c cc nL own fr lo ret nme D dA B n0 s0 Q d lv st h fd) : J p l e R s m args below meth c cc nL own fr lo ret nme D dA B n0 s0 Q pc lv (vi x :: st) h (sw x cs fd) := by
  refine j_sw (fun X H locs ls n1 n2 Q1 w => ?_) hkeys hall hd
  by_cases h1 : x.toInt < lo1 ∨ hi < x.toInt
  · refine lv_tableOut X.x X.b hdg h1 hdf ?_
    rw [swt_out fun q hq e => ?_] at w
    · exact w
    · have := List.all_eq_true.mp hout q hq
      rw [Bool.and_eq_true, decide_eq_true_eq, decide_eq_true_eq, ← e] at this
      omega
  · have h2 : ¬ x.toInt < lo1 := fun q => h1 (Or.inl q)
    have h3 : ¬ hi < x.toInt := fun q => h1 (Or.inr q)
    have h4 := hin (x.toInt - lo1).toNat (by omega)
    have h5 : Int32.ofInt (lo1 + ((x.toInt - lo1).toNat : Nat)) = x := by
      rw [show lo1 + (((x.toInt - lo1).toNat : Nat) : Int) = x.toInt by omega]
      exact Int32.ofInt_toInt x
    rw [h5] at h4
    cases ho : offs[(x.toInt - lo1).toNat]? with
    | none => rw [ho] at h4; cases h4
    | some off =>
      rw [ho] at h4
      exact lv_tableIn X.x X.b hdg h2 h3 ho (Option.some.inj h4) w
theorem j_lsw {x : Int32} {cs : List (Int32 × Option (α × Hp))} {ts : List (Int32 × Nat)} {d len : Nat} {dflt : Int} {ps : Array (Int × Int)} {fd : Option (α × Hp)} (hdg : decode cc pc = .ok (.lookupswitch dflt ps, len)) (hp : (ps.toList.zip (ps.toList.drop 1)).all (fun (a, next) => a.1 < next.1) = true) (hgo : ∀ y : Int32, (pc : Int) + Op.lookupswitch.offset ps.toList dflt y.toInt = ((swt y ts d : Nat) : Int)) (hkeys : cs.map Prod.fst = ts.map Prod.fst) (hall : allQ (fun q => J p l e R s m args below meth c cc nL own fr lo ret nme D dA B n0 s0 Q (swt q.1 ts d) lv st h q.2) cs) (hd : J p l e R s m args below meth c cc nL own fr lo ret nme D dA B n0 s0 Q d lv st h fd) : J p l e R s m args below meth c cc nL own fr lo ret nme D dA B n0 s0 Q pc lv (vi x :: st) h (sw x cs fd) :=
  j_sw (fun X H locs ls n1 n2 Q1 w => lv_lookup X.x X.b hdg hp rfl (hgo x) w) hkeys hall hd
end RI
