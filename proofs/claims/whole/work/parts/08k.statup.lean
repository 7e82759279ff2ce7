/-! A static call whose pool entry names a class below the one that declares the method. What an entry that isn't resolved yet costs: nothing but the notes of its class and its method. -/
section SU
variable {Qs : Unit → Pre} {E : CtlPost} {e : Env} {d : Bool} {acts : List Action} {s t : State} {f : JFrame}
set_option maxRecDepth 20000 in
theorem su_first {index ci n c : Nat} {m : MethodId} {dk ck : Class} {cf : ClassFile} {name desc : String} (ht : t.topJava?.isSome) (hp : e.platform.polymorphicOnlyByInvokevirtual = true) (hW : s.WarmedH t.vm) (hE : s.MethodEntryUp e t.vm f.method.cls index c m ci)
    (h1 : s.vm.classes[f.method.cls]? = some dk) (h2 : dk.cf = some cf) (h3 : cf.constantPool[index]? = some (.methodref ci n)) (h4 : cf.constantPool.nameAndType? n = some (name, desc)) (hck : s.vm.classes[c]? = some ck) (hno : (ck.methods.any fun x => x.name == name && !x.isStatic && signaturePolymorphic ck x) = false) :
    wp (invokestatic.sem index) Qs E e d acts (t.setTop f) ↔ wp (invokestatic.sem index) Qs E e d acts ((t.setVm (t.vm.calledUp f.method.cls ci index c m)).setTop f) := by
  obtain ⟨g1, g2, g3, g4⟩ := hE.classFirst
  have h3' : cf.constantPool[index]? = some (if false then .interfaceMethodref ci n else .methodref ci n) := h3
  obtain ⟨ka, a1, a2⟩ := hW.alike.2.2 _ _ h1
  obtain ⟨kb, b1, b2⟩ := hE.warmed.alike.2.2 _ _ h1
  obtain ⟨kc', c1, c2⟩ := g3.alike.2.2 _ _ hck
  obtain ⟨kd, d1, d2⟩ := hE.warmed.alike.2.2 _ _ hck
  have m1 := memberRef_ask_via (e := e) a1 (by rw [a2]; exact h2) h3' h4
  have m2 := memberRef_ask_via (e := e) b1 (by rw [b2]; exact h2) h3' h4
  have n1 : (kc'.methods.any fun x => x.name == name && !x.isStatic && signaturePolymorphic kc' x) = false := by rw [c2]; exact hno
  have n2 : (kd.methods.any fun x => x.name == name && !x.isStatic && signaturePolymorphic kd x) = false := by rw [d2]; exact hno
  have t1 : (t.setVm (t.vm.noted f.method.cls ci (.cls c))).topJava?.isSome := ht
  have t2 : (t.setVm (t.vm.calledUp f.method.cls ci index c m)).topJava?.isSome := ht
  have r1 : ∀ {Q' : ClassId → Pre} {d' : Bool} {acts' : List Action}, wp (Jvm.resolveClassAt ci) Q' E e d' acts' (t.setTop f) ↔ Q' c d' acts' ((t.setVm (t.vm.noted f.method.cls ci (.cls c))).setTop f) := W.resolveClassAt_links (t := t.setTop f) (State.method?_setTop f ht) g1
  have r2 : ∀ {Q' : MethodId → Pre} {d' : Bool} {acts' : List Action}, wp (Jvm.resolveMethodAt index) Q' E e d' acts' ((t.setVm (t.vm.noted f.method.cls ci (.cls c))).setTop f) ↔ Q' m d' acts' ((t.setVm (t.vm.calledUp f.method.cls ci index c m)).setTop f) := W.resolveMethodAt_links (t := (t.setVm (t.vm.noted f.method.cls ci (.cls c))).setTop f) (State.method?_setTop f t1) g4
  have r3 := fun {Q' : ClassId → Pre} {d' : Bool} {acts' : List Action} => W.resolveClassAt_ready (Q := Q') (E := E) (e := e) (d := d') (acts := acts') (s := (t.setVm (t.vm.calledUp f.method.cls ci index c m)).setTop f) (State.method?_setTop f t2) hE.classReady
  have r4 := fun {Q' : MethodId → Pre} {d' : Bool} {acts' : List Action} => W.resolveMethodAt_ready (Q := Q') (E := E) (e := e) (d := d') (acts := acts') (s := (t.setVm (t.vm.calledUp f.method.cls ci index c m)).setTop f) (State.method?_setTop f t2) hE.ready
  simp [invokestatic.sem, hp, Seam.memberRefOf, State.method?_setTop f ht, State.method?_setTop f t2, m1, m2, r1, r2, r3, r4, c1, d1, n1, n2, -Array.any_eq_true]
end SU
section SV
variable {p : Program} {l : Launch} {e : Env} {R : Room} {s : State} {m : MethodId} {args : Array Value} {below : List Frame} {meth : Method} {c : Code} {T : State} {locs : List Loc} {cells slots : Nat}
set_option maxRecDepth 20000 in
theorem su_step (X : Stand p l e R s m args below meth c T locs cells slots) (hexec : p.tables.exec = Jvm.exec) {own owner : String} {index : Nat} {x : MethodName} (hown : s.vm.findClass own = some m.cls) (hlink : (Cond.methodLink own index x).before args s = true) (hsame : (Cond.sameMethod x.cls owner x.name x.desc).before args s = true) (howner : owner ≠ "java/lang/invoke/MethodHandle" ∧ owner ≠ "java/lang/invoke/VarHandle")
    {m' : MethodId} {meth' : Method} {k' : Class} (hn : s.methodNamed? ⟨owner, x.name, x.desc⟩ = some m') (hm' : s.vm.method? m' = some meth') (hstatic : meth'.isStatic = true) (hk' : s.vm.classes[m'.cls]? = some k') (hinit : k'.init = .initialized)
    {g : JFrame} (hg : g.method = m) {argsL rest : List Value} (hlen : argsL.length = meth'.sig.parameters.length) (hstack : g.stack = argsL.reverse ++ rest) (hdg : decode c.code g.pc = .ok (.invokestatic index, 3)) :
    ∃ vm', Stand p l e R s m args below meth c (T.setVm vm') locs cells slots ∧ ∀ target, (∀ acts, Steps p.tables e below (doInvoke e ((T.setVm vm').setTop { g with stack := rest }) acts m' argsL.toArray).1 target) → Steps p.tables e below (T.setTop g) target := by
  have ep := X.admits.platform
  obtain ⟨cn, ck, r1, q1, q2, q3, q4, q5⟩ := Cond.sameMethod_found hsame
  cases hn.symm.trans q5
  obtain ⟨ci, hl, hright⟩ := Cond.methodLink_specUp hown q1 q2 q3 q4 hlink e.platform (by rw [ep]) (by rw [ep])
  have hE : s.MethodEntryUp e T.vm m.cls index cn m' ci := State.methodEntryUp X.warmed hl hright
  obtain ⟨kx, z1, z2⟩ := className_of_methodNamed hn
  cases hk'.symm.trans z1
  obtain ⟨dk, cfile, nt, mname, mdesc, ck', _, _, y1, y2, y3, y4, -, -, y5, -, y6, -⟩ := hl.here
  cases q2.symm.trans y5
  obtain ⟨dk2, u1, u2⟩ := hE.warmed.alike.2.2 _ _ y1
  obtain ⟨k2, v1, v2⟩ := hE.warmed.alike.2.2 _ _ hk'
  obtain ⟨ck2, w1, w2⟩ := hE.warmed.alike.2.2 _ _ q2
  have n1 : (ck.methods.any fun y => y.name == mname && !y.isStatic && signaturePolymorphic ck y) = false := by simp [y6]
  have n2 : (ck2.methods.any fun y => y.name == mname && !y.isStatic && signaturePolymorphic ck2 y) = false := by rw [w2]; exact n1
  have y3' : cfile.constantPool[index]? = some (if false then .interfaceMethodref ci nt else .methodref ci nt) := y3
  refine ⟨T.vm.calledUp m.cls ci index cn m', X.noted hE.warmed, fun target hrest => ?_⟩
  subst hg
  jvm_step X.here [hexec, hdg, su_first (e := e) (t := T) (s := s) (f := g) X.here.top (by rw [ep]) X.warmed hE y1 y2 y3 y4 q2 n1,
    invokestatic.wp_ready (e := e) (s := T.setVm (T.vm.calledUp g.method.cls ci index cn m')) (k := k2) (meth := meth') (m := m') (args := argsL) (rest := rest) (f := g) X.here.top ⟨ci, mname, mdesc, false, cn, ck2, memberRef_ask_via (e := e) u1 (by rw [u2]; exact y2) y3' y4, hE.classReady, w1, n2⟩ hE.ready v1 (by show (T.vm.calledUp g.method.cls ci index cn m').method? m' = some meth'; rw [hE.warmed.alike.method?]; exact hm') (by rw [v2]; show signaturePolymorphic k' meth' = false; simp [signaturePolymorphic, z2, howner.1, howner.2]) hstatic (by rw [v2]; exact hinit) hlen hstack]
  exact fun acts => hrest _
end SV
