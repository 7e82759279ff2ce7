section RM
variable {α : Type} {p : Program} {l : Launch} {e : Env} {R : Room} {s : State} {m : MethodId} {args : Array Value} {below : List Frame} {meth : Method} {c : Code} {cc : ByteArray} {nL : Nat} {own : String} {fr lo : Nat} {ret : Option FieldType} {nme : String} {D : va_G} {dA : Nat → ClassId} {B n0 s0 : Nat} {Q : α → Hp → State → Prop} {pc : Nat} {lv : List (Nat × AV)} {st : List AV} {h : Hp} {f : Option (α × Hp)}
theorem j_mmax {idx : Nat} {x y : Int32} (hdg : decode cc pc = .ok (.invokestatic idx, 3)) (hl : Cond.methodLink own idx Lib.Math.max.name ∈ GT) (hs1 : Cond.static Lib.Math.max.name ∈ GT) (hi : Cond.initialized "java/lang/Math" ∈ GT) (hcd : Cond.code Lib.Math.max.name Lib.Math.max.code 2 (some .int) ∈ GT) (hfr : 1 ≤ fr) (hlo : 21 ≤ lo) (h8 : (st.map cat).sum ≤ 8) (k : J p l e R s m args below meth c cc nL own fr lo ret nme D dA B n0 s0 Q (pc + 3) lv (vi (jmax x y) :: st) h f) : J p l e R s m args below meth c cc nL own fr lo ret nme D dA B n0 s0 Q pc lv (vi y :: vi x :: st) h f := by
  intro r h' ef
  have k1 := k r h' ef
  refine ⟨k1.1, fun X c1 c2 H locs ls n1 n2 e1 e2 w1 w2 w3 => ?_⟩
  refine va_mmax X.x X.b (by rw [X.ml]; exact w3.1.symm) X.own (X.ts _ hl) (X.ts _ hs1) (X.ts _ hi) (X.ts _ hcd) (by rw [X.fr]; exact hfr) (by rw [X.lo, cat_sum]; omega) (by have := k1.1.1; omega) (by have := k1.1.2; omega) hdg ?_
  exact k1.2 X c1 c2 H locs ls n1 n2 e1 e2 w1 w2 w3
theorem j_mmin {idx : Nat} {x y : Int32} (hdg : decode cc pc = .ok (.invokestatic idx, 3)) (hl : Cond.methodLink own idx Lib.Math.min.name ∈ GT) (hs1 : Cond.static Lib.Math.min.name ∈ GT) (hi : Cond.initialized "java/lang/Math" ∈ GT) (hcd : Cond.code Lib.Math.min.name Lib.Math.min.code 2 (some .int) ∈ GT) (hfr : 1 ≤ fr) (hlo : 21 ≤ lo) (h8 : (st.map cat).sum ≤ 8) (k : J p l e R s m args below meth c cc nL own fr lo ret nme D dA B n0 s0 Q (pc + 3) lv (vi (jmin x y) :: st) h f) : J p l e R s m args below meth c cc nL own fr lo ret nme D dA B n0 s0 Q pc lv (vi y :: vi x :: st) h f := by
  intro r h' ef
  have k1 := k r h' ef
  refine ⟨k1.1, fun X c1 c2 H locs ls n1 n2 e1 e2 w1 w2 w3 => ?_⟩
  refine va_mmin X.x X.b (by rw [X.ml]; exact w3.1.symm) X.own (X.ts _ hl) (X.ts _ hs1) (X.ts _ hi) (X.ts _ hcd) (by rw [X.fr]; exact hfr) (by rw [X.lo, cat_sum]; omega) (by have := k1.1.1; omega) (by have := k1.1.2; omega) hdg ?_
  exact k1.2 X c1 c2 H locs ls n1 n2 e1 e2 w1 w2 w3
theorem j_sld {xs : Nat → Int32} {L b : Nat} (hX : va_X b L xs s s.heap) (hbl : b < s.heap.size) (hbA : ¬ B ≤ b) {i : Int32} {g : Int32 → Option (α × Hp)} (hdg : decode cc pc = .ok (.iaload, 1)) (kk : ∀ x : Int32, J p l e R s m args below meth c cc nL own fr lo ret nme D dA B n0 s0 Q (pc + 1) lv (vi x :: st) h (g x)) : J p l e R s m args below meth c cc nL own fr lo ret nme D dA B n0 s0 Q pc lv (vi i :: vb b :: st) h (sld xs L i g) := by
  intro r h' ef
  unfold sld at ef
  by_cases ho : ¬ (i < 0 ∨ L ≤ i.toNatClampNeg)
  · rw [if_pos ho] at ef
    exact ⟨(kk _ r h' ef).1, fun X c1 c2 H locs ls n1 n2 e1 e2 w1 w2 w3 => va_sld X.x X.b hX hbl hbA w2 ho hdg ((kk _ r h' ef).2 X c1 c2 H locs ls n1 n2 e1 e2 w1 w2 w3)⟩
  · rw [if_neg ho] at ef; cases ef
theorem j_slen {xs : Nat → Int32} {L b : Nat} (hX : va_X b L xs s s.heap) (hbl : b < s.heap.size) (hbA : ¬ B ≤ b) (hdg : decode cc pc = .ok (.arraylength, 1)) (k : J p l e R s m args below meth c cc nL own fr lo ret nme D dA B n0 s0 Q (pc + 1) lv (vi (Int32.ofNat L) :: st) h f) : J p l e R s m args below meth c cc nL own fr lo ret nme D dA B n0 s0 Q pc lv (vb b :: st) h f := by
  intro r h' ef
  exact ⟨(k r h' ef).1, fun X c1 c2 H locs ls n1 n2 e1 e2 w1 w2 w3 => va_slen X.x X.b hX hbl hbA w2 hdg ((k r h' ef).2 X c1 c2 H locs ls n1 n2 e1 e2 w1 w2 w3)⟩
/-- a static call through a class below -/
def SUp (own : String) (idx : Nat) (x y : MethodName) (b : ByteArray) (mL : Nat) (rt : Option FieldType) (n : Nat) : Prop := Cond.code y b mL rt ∈ GT ∧ Cond.initialized y.cls ∈ GT ∧ Cond.methodLink own idx x ∈ GT ∧ Cond.sameMethod x.cls y.cls x.name x.desc ∈ GT ∧ y = ⟨y.cls, x.name, x.desc⟩ ∧ (y.cls ≠ "java/lang/invoke/MethodHandle" ∧ y.cls ≠ "java/lang/invoke/VarHandle" ∧ (parseMethodDescriptor y.desc).map (fun d => d.parameters.length) = some n)
theorem runSUp {x y : MethodName} {bytes : ByteArray} {maxL mc ms n index fr' lo' : Nat} {rt : Option FieldType} {Pc : Array Value → State → Prop} {Qc : Array Value → State → Outcome → State → Prop} {free : Addr → Prop} {As rest : List Value} {g : JFrame} {H : Heap} {locs : List Loc} {cells slots : Nat} (X : Cx p R s m args meth c cc nL own fr lo ret nme D dA B n0) (S : SUp own index x y bytes maxL rt n) (S2 : Cond.static y ∈ GT) (hM : Met l y (Cond.code y bytes maxL rt :: GT) (rmo fr' lo' mc ms) Pc Qc mc ms free) (hfr : fr' + 1 ≤ fr) (hlo : 8 + (maxL + 11) + lo' ≤ lo) (hp : PreS s H Pc As)
    (hg : g.method = m) (hn : As.length = n) (hsize : g.locals.size = nL) (hstack : g.stack = As.reverse ++ rest) (hW : 2 * g.monitorRoom + (rest.map fun v => v.category).sum ≤ 8) (hdg : decode cc g.pc = .ok (.invokestatic index, 3)) (hf : cells + mc ≤ R.cells ∧ slots + ms ≤ R.slots) :
    va_Run p l e R s m args below meth c H locs cells slots mc ms g rest (Qc As.toArray) free := by
  obtain ⟨S1, S3, S4, S5, S6, S7, S8, S9⟩ := S
  have hK : Back l R p e below s args y 3 8 (PreOf R mc ms Pc) (PostOf Qc mc ms free) := back_of hM hp.1 rfl rfl (by rw [X.fr]; exact hfr) (by rw [X.lo]; exact hlo) (pay_in X.ts (good_ws S1)) List.mem_cons_self (fun a' U hU => word_at hU (good_of_word (gt_good S3)) (X.ts _ S3))
  intro T hT Y
  have hcode := X.ts _ S1
  obtain ⟨mk, hnamed⟩ := Cond.code_named hcode
  obtain ⟨methM, cM, hmethM, -, -, -, -, -, -, hsigM⟩ := Cond.code_spec hnamed hcode
  have hstatic : methM.isStatic = true := Cond.static_spec hnamed hmethM (X.ts _ S2)
  obtain ⟨kP, hkP, -⟩ := className_of_methodNamed hnamed
  have hinitP : kP.init = .initialized := Cond.initialized_spec (findClass_of_methodNamed hnamed) hkP (X.ts _ S3)
  have hlen : As.length = methM.sig.parameters.length := by
    rw [hsigM] at S9
    rw [hn]; exact (Option.some.inj S9).symm
  have hnamed' := hnamed
  rw [S6] at hnamed'
  obtain ⟨vm₁, X₁, hstep₁⟩ := su_step Y X.x X.own (X.ts _ S4) (X.ts _ S5) ⟨S7, S8⟩ hnamed' hmethM hstatic hkP hinitP hg hlen hstack (by rw [X.b]; exact hdg)
  obtain ⟨v, ⟨U', l2, c2, s2⟩, X', ⟨g', mk', t, L, e1, e2, hq, h1, hL, h2, h3⟩, hsteps⟩ := hK m meth c ⟨T.setVm vm₁, locs, cells, slots⟩ { g with stack := rest } (.invokestatic index) mk As.toArray X₁ hg (hsize.trans X.ml.symm) (by rw [X.b]; exact hdg) hW (X₁.named hnamed) ⟨hf.1, hf.2, hp.2 (T.setVm vm₁) hT X₁.warmed⟩
  dsimp only [Pt.U, Pt.locs, Pt.cells, Pt.slots] at X' e1 e2 h1 h2 h3 hsteps
  subst h1; subst h2; subst h3
  exact ⟨v, (T.setVm vm₁).calling g' mk' As.toArray, t, U', L, hT, X', hL, e1, e2, hq, fun target h => hstep₁ _ fun acts => by rw [doInvoke_state]; exact hsteps.trans h⟩
theorem j_uSI2 {x y : MethodName} {b : ByteArray} {mL idx fr' lo' : Nat} {rt : Option FieldType} {a1 a2 : AV} {F : Option (Int32 × Hp)} {g : Int32 → Hp → Option (α × Hp)} (hdg : decode cc pc = .ok (.invokestatic idx, 3)) (S : SUp own idx x y b mL rt 2) (S2 : Cond.static y ∈ GT) (hC : Ct l y b mL rt fr' lo' D dA B [a1, a2] h vI F) (hfr : fr' + 1 ≤ fr) (hlo : 8 + (mL + 11) + lo' ≤ lo) (h8 : (st.map cat).sum ≤ 8) (kk : ∀ (x : Int32) (h1 : Hp), J p l e R s m args below meth c cc nL own fr lo ret nme D dA B n0 s0 Q (pc + 3) lv (vi x :: st) h1 (g x h1)) : J p l e R s m args below meth c cc nL own fr lo ret nme D dA B n0 s0 Q pc lv (a2 :: a1 :: st) h (cl F g) := by
  refine j_run hC (as := ([a1, a2].map (val B)).toArray) (fun X r1 h1 H locs ls n1 n2 hM w1 wk w3 hf => runSUp (As := [a1, a2].map (val B)) X S S2 hM hfr hlo ⟨wk_blind, fun U hU hW => ⟨rfl, wk U hU hW⟩⟩ rfl rfl w3 rfl (rest_ok h8) hdg hf) kk
end RM
