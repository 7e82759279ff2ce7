section RA
variable {α : Type} {p : Program} {l : Launch} {e : Env} {R : Room} {s : State} {m : MethodId} {args : Array Value} {below : List Frame} {meth : Method} {c : Code} {cc : ByteArray} {nL : Nat} {own : String} {fr lo : Nat} {ret : Option FieldType} {nme : String} {D : va_G} {dA : Nat → ClassId} {B n0 s0 : Nat} {Q : α → Hp → State → Prop} {pc : Nat} {lv : List (Nat × AV)} {st : List AV} {h : Hp} {f : Option (α × Hp)}
theorem j_iald  {r : Option Nat} {i : Int32} {g : Int32 → Option (α × Hp)} (hdg : decode cc pc = .ok (.iaload, 1)) (kk : ∀ x : Int32, J p l e R s m args below meth c cc nL own fr lo ret nme D dA B n0 s0 Q (pc + 1) lv (vi x :: st) h (g x)) : J p l e R s m args below meth c cc nL own fr lo ret nme D dA B n0 s0 Q pc lv (vi i :: vr r :: st) h (li 13 r i h g) := by
  intro r' h' ef
  cases r with
  | none => cases ef
  | some a =>
    unfold li at ef
    dsimp only at ef
    by_cases ho : ok h [13] a = true ∧ ¬ (i < 0 ∨ (hK h a).2 ≤ i.toNatClampNeg)
    · rw [if_pos ho] at ef
      have ht : (hK h a).1 = 13 := by simpa using ok_tag ho.1
      refine ⟨(kk _ r' h' ef).1, fun X c1 c2 H locs ls n1 n2 e1 e2 w1 w2 w3 => ?_⟩
      have he := wl_at (B := B) (dA := dA) (ok_lt ho.1)
      rw [cel_13 ht] at he
      exact va_iald X.x X.b X.k.1 w1 a 0 he rfl ho.2 hdg ((kk _ r' h' ef).2 X c1 c2 H locs ls n1 n2 e1 e2 w1 w2 w3)
    · rw [if_neg ho] at ef; cases ef
theorem j_bald  {r : Option Nat} {i : Int32} {g : Int32 → Option (α × Hp)} (hdg : decode cc pc = .ok (.baload, 1)) (kk : ∀ x : Int32, J p l e R s m args below meth c cc nL own fr lo ret nme D dA B n0 s0 Q (pc + 1) lv (vi x :: st) h (g x)) : J p l e R s m args below meth c cc nL own fr lo ret nme D dA B n0 s0 Q pc lv (vi i :: vr r :: st) h (li 15 r i h g) := by
  intro r' h' ef
  cases r with
  | none => cases ef
  | some a =>
    unfold li at ef
    dsimp only at ef
    by_cases ho : ok h [15] a = true ∧ ¬ (i < 0 ∨ (hK h a).2 ≤ i.toNatClampNeg)
    · rw [if_pos ho] at ef
      have ht : (hK h a).1 = 15 := by simpa using ok_tag ho.1
      refine ⟨(kk _ r' h' ef).1, fun X c1 c2 H locs ls n1 n2 e1 e2 w1 w2 w3 => ?_⟩
      have he := wl_at (B := B) (dA := dA) (ok_lt ho.1)
      rw [cel_15 ht] at he
      exact va_bald X.x X.b X.k.1 w1 a 2 he rfl ho.2 hdg ((kk _ r' h' ef).2 X c1 c2 H locs ls n1 n2 e1 e2 w1 w2 w3)
    · rw [if_neg ho] at ef; cases ef
theorem j_zald  {r : Option Nat} {i : Int32} {g : Int32 → Option (α × Hp)} (hdg : decode cc pc = .ok (.baload, 1)) (kk : ∀ x : Int32, J p l e R s m args below meth c cc nL own fr lo ret nme D dA B n0 s0 Q (pc + 1) lv (vi x :: st) h (g x)) : J p l e R s m args below meth c cc nL own fr lo ret nme D dA B n0 s0 Q pc lv (vi i :: vr r :: st) h (li 16 r i h g) := by
  intro r' h' ef
  cases r with
  | none => cases ef
  | some a =>
    unfold li at ef
    dsimp only at ef
    by_cases ho : ok h [16] a = true ∧ ¬ (i < 0 ∨ (hK h a).2 ≤ i.toNatClampNeg)
    · rw [if_pos ho] at ef
      have ht : (hK h a).1 = 16 := by simpa using ok_tag ho.1
      refine ⟨(kk _ r' h' ef).1, fun X c1 c2 H locs ls n1 n2 e1 e2 w1 w2 w3 => ?_⟩
      have he := wl_at (B := B) (dA := dA) (ok_lt ho.1)
      rw [cel_16 ht] at he
      exact va_zald X.x X.b X.k.1 w1 a 3 he rfl ho.2 hdg ((kk _ r' h' ef).2 X c1 c2 H locs ls n1 n2 e1 e2 w1 w2 w3)
    · rw [if_neg ho] at ef; cases ef
theorem j_lald  {r : Option Nat} {i : Int32} {g : Int64 → Option (α × Hp)} (hdg : decode cc pc = .ok (.laload, 1)) (kk : ∀ x : Int64, J p l e R s m args below meth c cc nL own fr lo ret nme D dA B n0 s0 Q (pc + 1) lv (vl x :: st) h (g x)) : J p l e R s m args below meth c cc nL own fr lo ret nme D dA B n0 s0 Q pc lv (vi i :: vr r :: st) h (ll r i h g) := by
  intro r' h' ef
  cases r with
  | none => cases ef
  | some a =>
    unfold ll at ef
    dsimp only at ef
    by_cases ho : ok h [14] a = true ∧ ¬ (i < 0 ∨ (hK h a).2 ≤ i.toNatClampNeg)
    · rw [if_pos ho] at ef
      have ht : (hK h a).1 = 14 := by simpa using ok_tag ho.1
      refine ⟨(kk _ r' h' ef).1, fun X c1 c2 H locs ls n1 n2 e1 e2 w1 w2 w3 => ?_⟩
      have he := wl_at (B := B) (dA := dA) (ok_lt ho.1)
      rw [cel_14 ht] at he
      exact va_lald X.x X.b X.k.1 w1 a 1 he rfl ho.2 hdg ((kk _ r' h' ef).2 X c1 c2 H locs ls n1 n2 e1 e2 w1 w2 w3)
    · rw [if_neg ho] at ef; cases ef
theorem j_ald17  {r : Option Nat} {i : Int32} {g : Option Nat → Option (α × Hp)} (hdg : decode cc pc = .ok (.aaload, 1)) (kk : ∀ x : Option Nat, J p l e R s m args below meth c cc nL own fr lo ret nme D dA B n0 s0 Q (pc + 1) lv (vr x :: st) h (g x)) : J p l e R s m args below meth c cc nL own fr lo ret nme D dA B n0 s0 Q pc lv (vi i :: vr r :: st) h (lr 17 r i h g) := by
  intro r' h' ef
  cases r with
  | none => cases ef
  | some a =>
    unfold lr at ef
    dsimp only at ef
    by_cases ho : ok h [17] a = true ∧ ¬ (i < 0 ∨ (hK h a).2 ≤ i.toNatClampNeg)
    · rw [if_pos ho] at ef
      have ht : (hK h a).1 = 17 := by simpa using ok_tag ho.1
      refine ⟨(kk _ r' h' ef).1, fun X c1 c2 H locs ls n1 n2 e1 e2 w1 w2 w3 => ?_⟩
      have he := wl_at (B := B) (dA := dA) (ok_lt ho.1)
      rw [cel_17 ht] at he
      exact va_aldq X.x X.b X.k.1 w1 a 4 he rfl ho.2 hdg ((kk _ r' h' ef).2 X c1 c2 H locs ls n1 n2 e1 e2 w1 w2 w3)
    · rw [if_neg ho] at ef; cases ef
theorem j_ald18  {r : Option Nat} {i : Int32} {g : Option Nat → Option (α × Hp)} (hdg : decode cc pc = .ok (.aaload, 1)) (kk : ∀ x : Option Nat, J p l e R s m args below meth c cc nL own fr lo ret nme D dA B n0 s0 Q (pc + 1) lv (vr x :: st) h (g x)) : J p l e R s m args below meth c cc nL own fr lo ret nme D dA B n0 s0 Q pc lv (vi i :: vr r :: st) h (lr 18 r i h g) := by
  intro r' h' ef
  cases r with
  | none => cases ef
  | some a =>
    unfold lr at ef
    dsimp only at ef
    by_cases ho : ok h [18] a = true ∧ ¬ (i < 0 ∨ (hK h a).2 ≤ i.toNatClampNeg)
    · rw [if_pos ho] at ef
      have ht : (hK h a).1 = 18 := by simpa using ok_tag ho.1
      refine ⟨(kk _ r' h' ef).1, fun X c1 c2 H locs ls n1 n2 e1 e2 w1 w2 w3 => ?_⟩
      have he := wl_at (B := B) (dA := dA) (ok_lt ho.1)
      rw [cel_18 ht] at he
      exact va_aldq X.x X.b X.k.1 w1 a 5 he rfl ho.2 hdg ((kk _ r' h' ef).2 X c1 c2 H locs ls n1 n2 e1 e2 w1 w2 w3)
    · rw [if_neg ho] at ef; cases ef
theorem j_iast  {r : Option Nat} {i : Int32} {x : Int32} {g : Hp → Option (α × Hp)} (hdg : decode cc pc = .ok (.iastore, 1)) (kk : ∀ h1, J p l e R s m args below meth c cc nL own fr lo ret nme D dA B n0 s0 Q (pc + 1) lv st h1 (g h1)) : J p l e R s m args below meth c cc nL own fr lo ret nme D dA B n0 s0 Q pc lv (vi x :: vi i :: vr r :: st) h (si r i x h g) := by
  intro r' h' ef
  cases r with
  | none => cases ef
  | some a =>
    unfold si at ef
    dsimp only at ef
    by_cases ho : ok h [13] a = true ∧ ¬ (i < 0 ∨ (hK h a).2 ≤ i.toNatClampNeg)
    · rw [if_pos ho] at ef
      have ht : (hK h a).1 = 13 := by simpa using ok_tag ho.1
      refine ⟨(kk _ r' h' ef).1, fun X c1 c2 H locs ls n1 n2 e1 e2 w1 w2 w3 => ?_⟩
      have he := wl_at (B := B) (dA := dA) (ok_lt ho.1)
      rw [cel_13 ht] at he
      refine va_iast X.x X.b X.k.1 w1 (wl_D B dA h) w2 a 0 he rfl ho.2 hdg fun H1 locs1 g1 g2 g3 => ?_
      have hset : (wl B dA h).set a (B + a, .inl (dA 0, (hK h a).2, .inl (upd (hI h a) i.toNatClampNeg (x)))) = wl B dA (sI h a i.toNatClampNeg (x)) := wl_ext (h := h) (h1 := sI h a i.toNatClampNeg (x)) rfl (by rw [cel_13 (h := sI h a i.toNatClampNeg (x)) ht]; show (Sum.inl (dA 0, (hK h a).2, Sum.inl (up2 (hI h) a i.toNatClampNeg (x) a)) : va_E) = _; rw [up2_self]; rfl) (fun b hb => sI_o hb)
      rw [hset] at g1
      exact (kk _ r' h' ef).2 X c1 c2 H1 locs1 ls n1 n2 e1 e2 g1 g3 w3
    · rw [if_neg ho] at ef; cases ef
theorem j_bast  {r : Option Nat} {i : Int32} {x : Int32} {g : Hp → Option (α × Hp)} (hdg : decode cc pc = .ok (.bastore, 1)) (kk : ∀ h1, J p l e R s m args below meth c cc nL own fr lo ret nme D dA B n0 s0 Q (pc + 1) lv st h1 (g h1)) : J p l e R s m args below meth c cc nL own fr lo ret nme D dA B n0 s0 Q pc lv (vi x :: vi i :: vr r :: st) h (sb r i x h g) := by
  intro r' h' ef
  cases r with
  | none => cases ef
  | some a =>
    unfold sb at ef
    dsimp only at ef
    by_cases ho : ok h [15] a = true ∧ ¬ (i < 0 ∨ (hK h a).2 ≤ i.toNatClampNeg)
    · rw [if_pos ho] at ef
      have ht : (hK h a).1 = 15 := by simpa using ok_tag ho.1
      refine ⟨(kk _ r' h' ef).1, fun X c1 c2 H locs ls n1 n2 e1 e2 w1 w2 w3 => ?_⟩
      have he := wl_at (B := B) (dA := dA) (ok_lt ho.1)
      rw [cel_15 ht] at he
      refine va_bast X.x X.b X.k.1 w1 (wl_D B dA h) w2 a 2 he rfl ho.2 hdg fun H1 locs1 g1 g2 g3 => ?_
      have hset : (wl B dA h).set a (B + a, .inl (dA 2, (hK h a).2, .inl (upd (hI h a) i.toNatClampNeg (vp_nar .byte x)))) = wl B dA (sI h a i.toNatClampNeg (vp_nar .byte x)) := wl_ext (h := h) (h1 := sI h a i.toNatClampNeg (vp_nar .byte x)) rfl (by rw [cel_15 (h := sI h a i.toNatClampNeg (vp_nar .byte x)) ht]; show (Sum.inl (dA 2, (hK h a).2, Sum.inl (up2 (hI h) a i.toNatClampNeg (vp_nar .byte x) a)) : va_E) = _; rw [up2_self]; rfl) (fun b hb => sI_o hb)
      rw [hset] at g1
      exact (kk _ r' h' ef).2 X c1 c2 H1 locs1 ls n1 n2 e1 e2 g1 g3 w3
    · rw [if_neg ho] at ef; cases ef
theorem j_zast  {r : Option Nat} {i : Int32} {x : Int32} {g : Hp → Option (α × Hp)} (hdg : decode cc pc = .ok (.bastore, 1)) (kk : ∀ h1, J p l e R s m args below meth c cc nL own fr lo ret nme D dA B n0 s0 Q (pc + 1) lv st h1 (g h1)) : J p l e R s m args below meth c cc nL own fr lo ret nme D dA B n0 s0 Q pc lv (vi x :: vi i :: vr r :: st) h (sz r i x h g) := by
  intro r' h' ef
  cases r with
  | none => cases ef
  | some a =>
    unfold sz at ef
    dsimp only at ef
    by_cases ho : ok h [16] a = true ∧ ¬ (i < 0 ∨ (hK h a).2 ≤ i.toNatClampNeg)
    · rw [if_pos ho] at ef
      have ht : (hK h a).1 = 16 := by simpa using ok_tag ho.1
      refine ⟨(kk _ r' h' ef).1, fun X c1 c2 H locs ls n1 n2 e1 e2 w1 w2 w3 => ?_⟩
      have he := wl_at (B := B) (dA := dA) (ok_lt ho.1)
      rw [cel_16 ht] at he
      refine va_zast X.x X.b X.k.1 w1 (wl_D B dA h) w2 a 3 he rfl ho.2 hdg fun H1 locs1 g1 g2 g3 => ?_
      have hset : (wl B dA h).set a (B + a, .inl (dA 3, (hK h a).2, .inl (upd (hI h a) i.toNatClampNeg (vp_nar .boolean x)))) = wl B dA (sI h a i.toNatClampNeg (vp_nar .boolean x)) := wl_ext (h := h) (h1 := sI h a i.toNatClampNeg (vp_nar .boolean x)) rfl (by rw [cel_16 (h := sI h a i.toNatClampNeg (vp_nar .boolean x)) ht]; show (Sum.inl (dA 3, (hK h a).2, Sum.inl (up2 (hI h) a i.toNatClampNeg (vp_nar .boolean x) a)) : va_E) = _; rw [up2_self]; rfl) (fun b hb => sI_o hb)
      rw [hset] at g1
      exact (kk _ r' h' ef).2 X c1 c2 H1 locs1 ls n1 n2 e1 e2 g1 g3 w3
    · rw [if_neg ho] at ef; cases ef
theorem j_last  {r : Option Nat} {i : Int32} {x : Int64} {g : Hp → Option (α × Hp)} (hdg : decode cc pc = .ok (.lastore, 1)) (kk : ∀ h1, J p l e R s m args below meth c cc nL own fr lo ret nme D dA B n0 s0 Q (pc + 1) lv st h1 (g h1)) : J p l e R s m args below meth c cc nL own fr lo ret nme D dA B n0 s0 Q pc lv (vl x :: vi i :: vr r :: st) h (sl r i x h g) := by
  intro r' h' ef
  cases r with
  | none => cases ef
  | some a =>
    unfold sl at ef
    dsimp only at ef
    by_cases ho : ok h [14] a = true ∧ ¬ (i < 0 ∨ (hK h a).2 ≤ i.toNatClampNeg)
    · rw [if_pos ho] at ef
      have ht : (hK h a).1 = 14 := by simpa using ok_tag ho.1
      refine ⟨(kk _ r' h' ef).1, fun X c1 c2 H locs ls n1 n2 e1 e2 w1 w2 w3 => ?_⟩
      have he := wl_at (B := B) (dA := dA) (ok_lt ho.1)
      rw [cel_14 ht] at he
      refine va_last X.x X.b X.k.1 w1 (wl_D B dA h) w2 a 1 he rfl ho.2 hdg fun H1 locs1 g1 g2 g3 => ?_
      have hset : (wl B dA h).set a (B + a, .inl (dA 1, (hK h a).2, .inr (.inl (vp_updL (hL h a) i.toNatClampNeg (x))))) = wl B dA (sL h a i.toNatClampNeg (x)) := wl_ext (h := h) (h1 := sL h a i.toNatClampNeg (x)) rfl (by rw [cel_14 (h := sL h a i.toNatClampNeg (x)) ht]; show (Sum.inl (dA 1, (hK h a).2, Sum.inr (Sum.inl (up2 (hL h) a i.toNatClampNeg (x) a))) : va_E) = _; rw [up2_self]; rfl) (fun b hb => sL_o hb)
      rw [hset] at g1
      exact (kk _ r' h' ef).2 X c1 c2 H1 locs1 ls n1 n2 e1 e2 g1 g3 w3
    · rw [if_neg ho] at ef; cases ef
theorem map_up {f : Nat → Option Nat} {k : Nat} {x : Option Nat} : (fun j => (va_up f k x j).map (fun a => B + a)) = va_up (fun j => (f j).map (fun a => B + a)) k (x.map (fun a => B + a)) := by
  funext j
  by_cases e : j = k <;> simp [va_up, e]
theorem recv_at {H : Heap} {a t : Nat} {r : vw_C} (hK1 : va_K D kCL (tyl dA) s) (w1 : va_P D kCL (wl B dA h) H) (ha : a < hz h) (ht : (hK h a).1 = t) (hr : kCL[t]? = some r) : ∃ cell : Cell, H[B + a]? = some cell ∧ cell.vm.isStatics = false ∧ s.vm.findClass r.1 = some cell.cls := by
  have he := wl_at (B := B) (dA := dA) ha
  rw [cel_obj ht (k_lt _ _ hr)] at he
  exact va_recv hK1 w1 hr he
theorem j_ast17  {r x : Option Nat} {i : Int32} {g : Hp → Option (α × Hp)} (hdg : decode cc pc = .ok (.aastore, 1)) (kk : ∀ h1, J p l e R s m args below meth c cc nL own fr lo ret nme D dA B n0 s0 Q (pc + 1) lv st h1 (g h1)) : J p l e R s m args below meth c cc nL own fr lo ret nme D dA B n0 s0 Q pc lv (vr x :: vi i :: vr r :: st) h (sr 17 [0] r i x h g) := by
  intro r' h' ef
  cases r with
  | none => cases ef
  | some a =>
    unfold sr at ef
    dsimp only at ef
    by_cases ho : (ok h [17] a = true ∧ ¬ (i < 0 ∨ (hK h a).2 ≤ i.toNatClampNeg)) ∧ (∀ b, x = some b → ok h [0] b = true)
    · rw [if_pos ho] at ef
      have ht : (hK h a).1 = 17 := by simpa using ok_tag ho.1.1
      refine ⟨(kk _ r' h' ef).1, fun X c1 c2 H locs ls n1 n2 e1 e2 w1 w2 w3 => ?_⟩
      have he := wl_at (B := B) (dA := dA) (ok_lt ho.1.1)
      rw [cel_17 ht] at he
      have hset : (wl B dA h).set a (B + a, .inl (dA 4, (hK h a).2, .inr (.inr (.inr (.inr (va_up (fun j => (hR h a j).map (fun a => B + a)) i.toNatClampNeg (x.map (fun a => B + a)))))))) = wl B dA (sR h a i.toNatClampNeg x) := by
        refine wl_ext (h := h) (h1 := sR h a i.toNatClampNeg x) rfl ?_ (fun b hb => sR_o hb)
        rw [cel_17 (h := sR h a i.toNatClampNeg x) ht]
        show (Sum.inl (dA 4, (hK h a).2, Sum.inr (Sum.inr (Sum.inr (Sum.inr (fun j => (up2 (hR h) a i.toNatClampNeg x a j).map (fun a => B + a)))))) : va_E) = _
        rw [up2_self, map_up]
      cases x with
      | none =>
        refine va_astqN X.x X.b X.k.1 w1 (wl_D B dA h) w2 a 4 he rfl ho.1.2 hdg fun H1 locs1 g1 g2 g3 => ?_
        simp only [Option.map_none] at hset
        rw [hset] at g1
        exact (kk _ r' h' ef).2 X c1 c2 H1 locs1 ls n1 n2 e1 e2 g1 g3 w3
      | some b =>
        have hb := ho.2 b rfl
        have htb : (hK h b).1 = 0 := by simpa using ok_tag hb
        have heb := wl_at (B := B) (dA := dA) (ok_lt hb)
        rw [cel_obj htb (by decide)] at heb
        refine va_astq X.x X.b X.k.1 w1 (wl_D B dA h) w2 a 4 b 0 (r := ("RingingChamber$Lead", kT0, 3)) he rfl heb rfl ho.1.2 hdg fun H1 locs1 g1 g2 g3 => ?_
        simp only [Option.map_some] at hset
        rw [hset] at g1
        exact (kk _ r' h' ef).2 X c1 c2 H1 locs1 ls n1 n2 e1 e2 g1 g3 w3
    · rw [if_neg ho] at ef; cases ef
theorem k_us {t : Nat} (ht : t ∈ [1, 2, 3, 6, 7, 10]) : t < 13 := by simp at ht; omega
theorem k_cast : ∀ (t : Nat) (r : vw_C), t ∈ [1, 2, 3, 6, 7, 10] → kCL[t]? = some r → Cond.castable r.1 "RingingChamber$Method" ∈ lw_tbl := by
  intro t r ht hr
  simp only [List.mem_cons, List.not_mem_nil, or_false] at ht
  rcases ht with rfl | rfl | rfl | rfl | rfl | rfl <;> cases hr <;> exact List.contains_iff_mem.mp (by decide +kernel)
theorem va_any_of {H : Heap} {C E : String} {a : Nat} {cell : Cell} (hc : va_Nw (.castable C E) s) (g1 : H[a]? = some cell) (g2 : cell.vm.isStatics = false) (g3 : s.vm.findClass C = some cell.cls) : va_Any E s H a := by
  obtain ⟨k, hk, -⟩ := Vm.findClass_spec g3
  refine ⟨cell, g1, g2, ⟨k, hk⟩, fun comp hE => ?_⟩
  obtain ⟨c1, t1, h1, h2, h3⟩ := Cond.castable_spec hc
  rw [g3] at h1; rw [hE] at h2
  cases h1; cases h2
  exact h3
theorem j_ast18  {r x : Option Nat} {i : Int32} {g : Hp → Option (α × Hp)} (hdg : decode cc pc = .ok (.aastore, 1)) (kk : ∀ h1, J p l e R s m args below meth c cc nL own fr lo ret nme D dA B n0 s0 Q (pc + 1) lv st h1 (g h1)) : J p l e R s m args below meth c cc nL own fr lo ret nme D dA B n0 s0 Q pc lv (vr x :: vi i :: vr r :: st) h (sr 18 [1, 2, 3, 6, 7, 10] r i x h g) := by
  intro r' h' ef
  cases r with
  | none => cases ef
  | some a =>
    unfold sr at ef
    dsimp only at ef
    by_cases ho : (ok h [18] a = true ∧ ¬ (i < 0 ∨ (hK h a).2 ≤ i.toNatClampNeg)) ∧ (∀ b, x = some b → ok h [1, 2, 3, 6, 7, 10] b = true)
    · rw [if_pos ho] at ef
      have ht : (hK h a).1 = 18 := by simpa using ok_tag ho.1.1
      refine ⟨(kk _ r' h' ef).1, fun X c1 c2 H locs ls n1 n2 e1 e2 w1 w2 w3 => ?_⟩
      have he := wl_at (B := B) (dA := dA) (ok_lt ho.1.1)
      rw [cel_18 ht] at he
      have hset : (wl B dA h).set a (B + a, .inl (dA 5, (hK h a).2, .inr (.inr (.inr (.inr (va_up (fun j => (hR h a j).map (fun a => B + a)) i.toNatClampNeg (x.map (fun a => B + a)))))))) = wl B dA (sR h a i.toNatClampNeg x) := by
        refine wl_ext (h := h) (h1 := sR h a i.toNatClampNeg x) rfl ?_ (fun b hb => sR_o hb)
        rw [cel_18 (h := sR h a i.toNatClampNeg x) ht]
        show (Sum.inl (dA 5, (hK h a).2, Sum.inr (Sum.inr (Sum.inr (Sum.inr (fun j => (up2 (hR h) a i.toNatClampNeg x a j).map (fun a => B + a)))))) : va_E) = _
        rw [up2_self, map_up]
      cases x with
      | none =>
        refine va_astqN X.x X.b X.k.1 w1 (wl_D B dA h) w2 a 5 he rfl ho.1.2 hdg fun H1 locs1 g1 g2 g3 => ?_
        simp only [Option.map_none] at hset
        rw [hset] at g1
        exact (kk _ r' h' ef).2 X c1 c2 H1 locs1 ls n1 n2 e1 e2 g1 g3 w3
      | some b =>
        have hb := ho.2 b rfl
        have hany : va_Any "RingingChamber$Method" s H (B + b) := by
          obtain ⟨⟨C, T, N⟩, hr⟩ := k_at (k_us (ok_tag hb))
          obtain ⟨cell, g1, g2, g3⟩ := recv_at X.k.1 w1 (ok_lt hb) rfl hr
          exact va_any_of (X.k.2.2.2.2 _ (k_cast _ _ (ok_tag hb) hr) rfl) g1 g2 g3
        refine va_astqM X.x X.b X.k.1 w1 (wl_D B dA h) w2 a 5 he rfl hany ho.1.2 hdg fun H1 locs1 g1 g2 g3 => ?_
        simp only [Option.map_some] at hset
        rw [hset] at g1
        exact (kk _ r' h' ef).2 X c1 c2 H1 locs1 ls n1 n2 e1 e2 g1 g3 w3
    · rw [if_neg ho] at ef; cases ef
theorem j_alen  {r : Option Nat} {g : Int32 → Option (α × Hp)} (hdg : decode cc pc = .ok (.arraylength, 1)) (kk : ∀ x : Int32, J p l e R s m args below meth c cc nL own fr lo ret nme D dA B n0 s0 Q (pc + 1) lv (vi x :: st) h (g x)) : J p l e R s m args below meth c cc nL own fr lo ret nme D dA B n0 s0 Q pc lv (vr r :: st) h (al r h g) := by
  intro r' h' ef
  cases r with
  | none => cases ef
  | some a =>
    unfold al at ef
    dsimp only at ef
    by_cases ho : ok h [13, 14, 15, 16, 17, 18] a = true
    · rw [if_pos ho] at ef
      refine ⟨(kk _ r' h' ef).1, fun X c1 c2 H locs ls n1 n2 e1 e2 w1 w2 w3 => ?_⟩
      have he := wl_at (B := B) (dA := dA) (ok_lt ho)
      have ht := ok_tag ho
      simp only [List.mem_cons, List.not_mem_nil, or_false] at ht
      rcases ht with ht | ht | ht | ht | ht | ht
      · rw [cel_13 ht] at he; exact va_alen X.x X.b X.k.1 w1 a 0 he rfl rfl hdg ((kk _ r' h' ef).2 X c1 c2 H locs ls n1 n2 e1 e2 w1 w2 w3)
      · rw [cel_14 ht] at he; exact va_alen X.x X.b X.k.1 w1 a 1 he rfl rfl hdg ((kk _ r' h' ef).2 X c1 c2 H locs ls n1 n2 e1 e2 w1 w2 w3)
      · rw [cel_15 ht] at he; exact va_alen X.x X.b X.k.1 w1 a 2 he rfl rfl hdg ((kk _ r' h' ef).2 X c1 c2 H locs ls n1 n2 e1 e2 w1 w2 w3)
      · rw [cel_16 ht] at he; exact va_alen X.x X.b X.k.1 w1 a 3 he rfl rfl hdg ((kk _ r' h' ef).2 X c1 c2 H locs ls n1 n2 e1 e2 w1 w2 w3)
      · rw [cel_17 ht] at he; exact va_alen X.x X.b X.k.1 w1 a 4 he rfl rfl hdg ((kk _ r' h' ef).2 X c1 c2 H locs ls n1 n2 e1 e2 w1 w2 w3)
      · rw [cel_18 ht] at he; exact va_alen X.x X.b X.k.1 w1 a 5 he rfl rfl hdg ((kk _ r' h' ef).2 X c1 c2 H locs ls n1 n2 e1 e2 w1 w2 w3)
    · rw [if_neg ho] at ef; cases ef
/-- the heap's size, from the room's count and the cells -/
theorem W.hsz {H : Heap} {locs : List Loc} {cells slots : Nat} {Q1 : State → Prop} {g : JFrame} (k : H.size ≤ s.heap.size + cells → W p l e R s m args below meth c H locs cells slots Q1 g) : W p l e R s m args below meth c H locs cells slots Q1 g := by
  intro T hT X
  refine k ?_ T hT X
  have h1 := X.same.2.2.1
  rw [← hT]
  exact h1
theorem hp_size {H : Heap} {locs : List Loc} {cells : Nat} (X : Cx p R s m args meth c cc nL own fr lo ret nme D dA B n0) (w1 : va_P D kCL (wl B dA h) H) (w2 : va_S (fun q => B ≤ q) s.heap H locs) (e1 : cells + n0 = hz h) (hu : H.size ≤ s.heap.size + cells) : H.size = B + hz h := by
  have h1 := X.sz
  have h2 := w2.1
  by_cases h3 : hz h = 0
  · omega
  · have h4 := (w1 (hz h - 1) _ (wl_at (by omega))).lt
    dsimp only at h4
    omega
theorem wl_new (t n : Nat) : wl B dA (nwO h t n) = wl B dA h ++ [(B + hz h, cel B dA (nwO h t n) (hz h))] := by
  show (List.range (hz h + 1)).map _ = _
  rw [List.range_succ, List.map_append]
  congr 1
  refine List.map_congr_left fun a ha => ?_
  have hn : a ≠ hz h := Nat.ne_of_lt (List.mem_range.mp ha)
  rw [cel_congr (h := h) (a := a)] <;> simp [hK, hI, hL, hR, nwO, va_up, hn]
theorem nw_K (t n : Nat) : hK (nwO h t n) (hz h) = (t, n) := by simp [hK, nwO, va_up]
theorem k_dv : ∀ (t : Nat) (r : vw_C), kCL[t]? = some r → ∀ k, k < r.2.2 → defaultValue (kTY t k) = (if fty t k = 0 then .int 0 else if fty t k = 1 then .long 0 else .null) := k_cases (by decide +kernel) (by decide +kernel) (by decide +kernel) (by decide +kernel) (by decide +kernel) (by decide +kernel) (by decide +kernel) (by decide +kernel) (by decide +kernel) (by decide +kernel) (by decide +kernel) (by decide +kernel) (by decide +kernel)
theorem k_tn : ∀ (t : Nat) (r : vw_C), kCL[t]? = some r → Cond.instantiable r.1 (nfl t) ∈ GT := fun t r h => by rw [← k_n t r h]; exact (k_inst t r h).1
def NL (own : String) (idx t : Nat) : Prop := ∃ r : vw_C, kCL[t]? = some r ∧ Cond.classLink own idx r.1 ∈ GT
theorem j_new  {idx t : Nat} {g : Option Nat → Hp → Option (α × Hp)} (hdg : decode cc pc = .ok (.new idx, 3)) (N : NL own idx t) (kk : ∀ r h1, J p l e R s m args below meth c cc nL own fr lo ret nme D dA B n0 s0 Q (pc + 3) lv (vr r :: st) h1 (g r h1)) : J p l e R s m args below meth c cc nL own fr lo ret nme D dA B n0 s0 Q pc lv st h (nw t h g) := by
  intro r' h' ef
  obtain ⟨⟨C, T, N⟩, t1, t2⟩ := N
  have k1 := kk (some (hz h)) (nwO h t (nfl t)) r' h' ef
  have z1 : hz h + 1 ≤ hz h' := k1.1.1
  have z2 : hs h + nfl t ≤ hs h' := k1.1.2
  refine ⟨⟨by omega, by omega⟩, fun X c1 c2 H locs ls n1 n2 e1 e2 w1 w2 w3 => W.hsz fun hu => ?_⟩
  have hH := hp_size X w1 w2 e1 hu
  have hKn := X.k.1.1 t _ t1
  refine W.newcK (C := C) (n := nfl t) X.x X.b X.own (X.ts _ t2) (X.ts _ (k_tn t _ t1)) (X.ts _ (k_inst t _ t1).2) rfl hdg (by omega) (by omega) hKn.2.1 hH fun H1 kC hkC g1 g2 g3 => ?_
  refine k1.2 X c1 c2 H1 locs ls (n1 + 1) (n2 + nfl t) (by show n1 + 1 + n0 = hz h + 1; omega) (by show n2 + nfl t + s0 = hs h + nfl t; omega) ?_ ?_ w3
  · rw [wl_new]
    refine va_P.app (w1.kept fun k q hq => g3 _ (by have := (w1 k q hq).lt; omega)) ?_
    intro k q hq
    have hz0 : k < 1 := (List.getElem?_eq_some_iff.mp hq).1
    rw [show k = 0 by omega] at hq
    cases hq
    show va_at D kCL (B + hz h, cel B dA (nwO h t (nfl t)) (hz h)) H1
    rw [cel_obj (t := t) (by rw [nw_K]) (k_lt _ _ t1)]
    refine ⟨_, t1, (u_born (kTY t) X.ts (k_in _ _ t1) hKn hkC g1 (k_ty _ _ t1)).to fun k hk => ?_⟩
    have hk1 : k < nfl t := by rw [← show N = nfl t from k_n _ _ t1]; exact hk
    rw [k_dv _ _ t1 k hk, vp_V, List.getD_eq_getElem?_getD, flds_at hk1]
    show _ = fvl B (nwO h t (nfl t)) (hz h) (fty t k) k
    unfold fvl
    by_cases q1 : fty t k = 0
    · rw [if_pos q1, if_pos q1]; simp [hI, nwO, va_up]
    · rw [if_neg q1, if_neg q1]
      by_cases q2 : fty t k = 1
      · rw [if_pos q2, if_pos q2]; simp [hL, nwO, va_up]
      · rw [if_neg q2, if_neg q2]; simp [hR, nwO, va_up, rv, va_rf]
  · exact ⟨by have := w2.1; omega, fun q q1 q2 => (g3 q (by have := w2.1; omega)).trans (w2.2.1 q q1 q2), w2.2.2⟩
theorem j_newa13  {n : Int32} {g : Option Nat → Hp → Option (α × Hp)} (hdg : decode cc pc = .ok (.newarray .int, 2)) (harr : Cond.arrayClass .int ∈ GT) (kk : ∀ r h1, J p l e R s m args below meth c cc nL own fr lo ret nme D dA B n0 s0 Q (pc + 2) lv (vr r :: st) h1 (g r h1)) : J p l e R s m args below meth c cc nL own fr lo ret nme D dA B n0 s0 Q pc lv (vi n :: st) h (na 13 n h g) := by
  intro r' h' ef
  unfold na at ef
  by_cases ho : ¬ n < 0 ∧ n.toNatClampNeg ≤ 1000000
  · rw [if_pos ho] at ef
    have k1 := kk (some (hz h)) (nwO h 13 n.toNatClampNeg) r' h' ef
    have z1 : hz h + 1 ≤ hz h' := k1.1.1
    have z2 : hs h + n.toNatClampNeg ≤ hs h' := k1.1.2
    refine ⟨⟨by omega, by omega⟩, fun X c1 c2 H locs ls n1 n2 e1 e2 w1 w2 w3 => W.hsz fun hu => ?_⟩
    have hH := hp_size X w1 w2 e1 hu
    refine va_newaK (atype := .int) X.x X.b (X.ts _ harr) rfl hdg rfl ho.1 rfl (by show n.toNatClampNeg * _ ≤ _; have := ho.2; simp only [newarray.typeOf, componentBytes]; omega) (by omega) (by omega) hH fun H1 cA g1 g2 g3 g4 g5 => ?_
    have hcA : cA = dA 0 := Option.some.inj (g5.symm.trans (X.k.1.2 0 _ rfl).2)
    subst hcA
    refine k1.2 X c1 c2 H1 locs ls (n1 + 1) (n2 + n.toNatClampNeg) (by show n1 + 1 + n0 = hz h + 1; omega) (by show n2 + n.toNatClampNeg + s0 = hs h + n.toNatClampNeg; omega) ?_ ?_ w3
    · rw [wl_new]
      refine va_P.app (w1.kept fun k q hq => g3 _ (by have := (w1 k q hq).lt; omega)) ?_
      intro k q hq
      have hz0 : k < 1 := (List.getElem?_eq_some_iff.mp hq).1
      rw [show k = 0 by omega] at hq
      cases hq
      show va_at D kCL (B + hz h, cel B dA (nwO h 13 n.toNatClampNeg) (hz h)) H1
      rw [cel_13 (by rw [nw_K]), nw_K]
      show H1[B + hz h]? = some (vp_cell (dA 0) (n.toNatClampNeg, .inl (hI (nwO h 13 n.toNatClampNeg) (hz h))))
      rw [g1, show hI (nwO h 13 n.toNatClampNeg) (hz h) = (fun _ => 0) from by simp [hI, hL, nwO, va_up]]
      rfl
    · exact ⟨by have := w2.1; omega, fun q q1 q2 => (g3 q (by have := w2.1; omega)).trans (w2.2.1 q q1 q2), w2.2.2⟩
  · rw [if_neg ho] at ef; cases ef
theorem j_newa14  {n : Int32} {g : Option Nat → Hp → Option (α × Hp)} (hdg : decode cc pc = .ok (.newarray .long, 2)) (harr : Cond.arrayClass .long ∈ GT) (kk : ∀ r h1, J p l e R s m args below meth c cc nL own fr lo ret nme D dA B n0 s0 Q (pc + 2) lv (vr r :: st) h1 (g r h1)) : J p l e R s m args below meth c cc nL own fr lo ret nme D dA B n0 s0 Q pc lv (vi n :: st) h (na 14 n h g) := by
  intro r' h' ef
  unfold na at ef
  by_cases ho : ¬ n < 0 ∧ n.toNatClampNeg ≤ 1000000
  · rw [if_pos ho] at ef
    have k1 := kk (some (hz h)) (nwO h 14 n.toNatClampNeg) r' h' ef
    have z1 : hz h + 1 ≤ hz h' := k1.1.1
    have z2 : hs h + n.toNatClampNeg ≤ hs h' := k1.1.2
    refine ⟨⟨by omega, by omega⟩, fun X c1 c2 H locs ls n1 n2 e1 e2 w1 w2 w3 => W.hsz fun hu => ?_⟩
    have hH := hp_size X w1 w2 e1 hu
    refine va_newaK (atype := .long) X.x X.b (X.ts _ harr) rfl hdg rfl ho.1 rfl (by show n.toNatClampNeg * _ ≤ _; have := ho.2; simp only [newarray.typeOf, componentBytes]; omega) (by omega) (by omega) hH fun H1 cA g1 g2 g3 g4 g5 => ?_
    have hcA : cA = dA 1 := Option.some.inj (g5.symm.trans (X.k.1.2 1 _ rfl).2)
    subst hcA
    refine k1.2 X c1 c2 H1 locs ls (n1 + 1) (n2 + n.toNatClampNeg) (by show n1 + 1 + n0 = hz h + 1; omega) (by show n2 + n.toNatClampNeg + s0 = hs h + n.toNatClampNeg; omega) ?_ ?_ w3
    · rw [wl_new]
      refine va_P.app (w1.kept fun k q hq => g3 _ (by have := (w1 k q hq).lt; omega)) ?_
      intro k q hq
      have hz0 : k < 1 := (List.getElem?_eq_some_iff.mp hq).1
      rw [show k = 0 by omega] at hq
      cases hq
      show va_at D kCL (B + hz h, cel B dA (nwO h 14 n.toNatClampNeg) (hz h)) H1
      rw [cel_14 (by rw [nw_K]), nw_K]
      show H1[B + hz h]? = some (vp_cell (dA 1) (n.toNatClampNeg, .inr (.inl (hL (nwO h 14 n.toNatClampNeg) (hz h)))))
      rw [g1, show hL (nwO h 14 n.toNatClampNeg) (hz h) = (fun _ => 0) from by simp [hI, hL, nwO, va_up]]
      rfl
    · exact ⟨by have := w2.1; omega, fun q q1 q2 => (g3 q (by have := w2.1; omega)).trans (w2.2.1 q q1 q2), w2.2.2⟩
  · rw [if_neg ho] at ef; cases ef
theorem j_newa15  {n : Int32} {g : Option Nat → Hp → Option (α × Hp)} (hdg : decode cc pc = .ok (.newarray .byte, 2)) (harr : Cond.arrayClass .byte ∈ GT) (kk : ∀ r h1, J p l e R s m args below meth c cc nL own fr lo ret nme D dA B n0 s0 Q (pc + 2) lv (vr r :: st) h1 (g r h1)) : J p l e R s m args below meth c cc nL own fr lo ret nme D dA B n0 s0 Q pc lv (vi n :: st) h (na 15 n h g) := by
  intro r' h' ef
  unfold na at ef
  by_cases ho : ¬ n < 0 ∧ n.toNatClampNeg ≤ 1000000
  · rw [if_pos ho] at ef
    have k1 := kk (some (hz h)) (nwO h 15 n.toNatClampNeg) r' h' ef
    have z1 : hz h + 1 ≤ hz h' := k1.1.1
    have z2 : hs h + n.toNatClampNeg ≤ hs h' := k1.1.2
    refine ⟨⟨by omega, by omega⟩, fun X c1 c2 H locs ls n1 n2 e1 e2 w1 w2 w3 => W.hsz fun hu => ?_⟩
    have hH := hp_size X w1 w2 e1 hu
    refine va_newaK (atype := .byte) X.x X.b (X.ts _ harr) rfl hdg rfl ho.1 rfl (by show n.toNatClampNeg * _ ≤ _; have := ho.2; simp only [newarray.typeOf, componentBytes]; omega) (by omega) (by omega) hH fun H1 cA g1 g2 g3 g4 g5 => ?_
    have hcA : cA = dA 2 := Option.some.inj (g5.symm.trans (X.k.1.2 2 _ rfl).2)
    subst hcA
    refine k1.2 X c1 c2 H1 locs ls (n1 + 1) (n2 + n.toNatClampNeg) (by show n1 + 1 + n0 = hz h + 1; omega) (by show n2 + n.toNatClampNeg + s0 = hs h + n.toNatClampNeg; omega) ?_ ?_ w3
    · rw [wl_new]
      refine va_P.app (w1.kept fun k q hq => g3 _ (by have := (w1 k q hq).lt; omega)) ?_
      intro k q hq
      have hz0 : k < 1 := (List.getElem?_eq_some_iff.mp hq).1
      rw [show k = 0 by omega] at hq
      cases hq
      show va_at D kCL (B + hz h, cel B dA (nwO h 15 n.toNatClampNeg) (hz h)) H1
      rw [cel_15 (by rw [nw_K]), nw_K]
      show H1[B + hz h]? = some (vp_cell (dA 2) (n.toNatClampNeg, .inl (hI (nwO h 15 n.toNatClampNeg) (hz h))))
      rw [g1, show hI (nwO h 15 n.toNatClampNeg) (hz h) = (fun _ => 0) from by simp [hI, hL, nwO, va_up]]
      rfl
    · exact ⟨by have := w2.1; omega, fun q q1 q2 => (g3 q (by have := w2.1; omega)).trans (w2.2.1 q q1 q2), w2.2.2⟩
  · rw [if_neg ho] at ef; cases ef
theorem j_newa16  {n : Int32} {g : Option Nat → Hp → Option (α × Hp)} (hdg : decode cc pc = .ok (.newarray .boolean, 2)) (harr : Cond.arrayClass .boolean ∈ GT) (kk : ∀ r h1, J p l e R s m args below meth c cc nL own fr lo ret nme D dA B n0 s0 Q (pc + 2) lv (vr r :: st) h1 (g r h1)) : J p l e R s m args below meth c cc nL own fr lo ret nme D dA B n0 s0 Q pc lv (vi n :: st) h (na 16 n h g) := by
  intro r' h' ef
  unfold na at ef
  by_cases ho : ¬ n < 0 ∧ n.toNatClampNeg ≤ 1000000
  · rw [if_pos ho] at ef
    have k1 := kk (some (hz h)) (nwO h 16 n.toNatClampNeg) r' h' ef
    have z1 : hz h + 1 ≤ hz h' := k1.1.1
    have z2 : hs h + n.toNatClampNeg ≤ hs h' := k1.1.2
    refine ⟨⟨by omega, by omega⟩, fun X c1 c2 H locs ls n1 n2 e1 e2 w1 w2 w3 => W.hsz fun hu => ?_⟩
    have hH := hp_size X w1 w2 e1 hu
    refine va_newaK (atype := .boolean) X.x X.b (X.ts _ harr) rfl hdg rfl ho.1 rfl (by show n.toNatClampNeg * _ ≤ _; have := ho.2; simp only [newarray.typeOf, componentBytes]; omega) (by omega) (by omega) hH fun H1 cA g1 g2 g3 g4 g5 => ?_
    have hcA : cA = dA 3 := Option.some.inj (g5.symm.trans (X.k.1.2 3 _ rfl).2)
    subst hcA
    refine k1.2 X c1 c2 H1 locs ls (n1 + 1) (n2 + n.toNatClampNeg) (by show n1 + 1 + n0 = hz h + 1; omega) (by show n2 + n.toNatClampNeg + s0 = hs h + n.toNatClampNeg; omega) ?_ ?_ w3
    · rw [wl_new]
      refine va_P.app (w1.kept fun k q hq => g3 _ (by have := (w1 k q hq).lt; omega)) ?_
      intro k q hq
      have hz0 : k < 1 := (List.getElem?_eq_some_iff.mp hq).1
      rw [show k = 0 by omega] at hq
      cases hq
      show va_at D kCL (B + hz h, cel B dA (nwO h 16 n.toNatClampNeg) (hz h)) H1
      rw [cel_16 (by rw [nw_K]), nw_K]
      show H1[B + hz h]? = some (vp_cell (dA 3) (n.toNatClampNeg, .inl (hI (nwO h 16 n.toNatClampNeg) (hz h))))
      rw [g1, show hI (nwO h 16 n.toNatClampNeg) (hz h) = (fun _ => 0) from by simp [hI, hL, nwO, va_up]]
      rfl
    · exact ⟨by have := w2.1; omega, fun q q1 q2 => (g3 q (by have := w2.1; omega)).trans (w2.2.1 q q1 q2), w2.2.2⟩
  · rw [if_neg ho] at ef; cases ef
theorem j_newa17  {idx : Nat} {n : Int32} {g : Option Nat → Hp → Option (α × Hp)} (hdg : decode cc pc = .ok (.anewarray idx, 3)) (hcl : Cond.classLink own idx "RingingChamber$Lead" ∈ GT) (kk : ∀ r h1, J p l e R s m args below meth c cc nL own fr lo ret nme D dA B n0 s0 Q (pc + 3) lv (vr r :: st) h1 (g r h1)) : J p l e R s m args below meth c cc nL own fr lo ret nme D dA B n0 s0 Q pc lv (vi n :: st) h (na 17 n h g) := by
  intro r' h' ef
  unfold na at ef
  by_cases ho : ¬ n < 0 ∧ n.toNatClampNeg ≤ 1000000
  · rw [if_pos ho] at ef
    have k1 := kk (some (hz h)) (nwO h 17 n.toNatClampNeg) r' h' ef
    have z1 : hz h + 1 ≤ hz h' := k1.1.1
    have z2 : hs h + n.toNatClampNeg ≤ hs h' := k1.1.2
    refine ⟨⟨by omega, by omega⟩, fun X c1 c2 H locs ls n1 n2 e1 e2 w1 w2 w3 => W.hsz fun hu => ?_⟩
    have hH := hp_size X w1 w2 e1 hu
    refine W.anew X.x X.b X.own (X.ts _ hcl) (va_AO.use X.k.2.1) rfl hdg rfl ho.1 (by have := ho.2; omega) (by omega) (by omega) fun cA kA comp f1 f2 f3 f4 => ?_
    have hcA : cA = dA 4 := by
      obtain ⟨_, _, _, _, _, q4⟩ := (X.k.1.2 4 _ rfl).2
      exact Option.some.inj (f1.symm.trans q4)
    subst hcA
    generalize hH1 : H.push ({ cls := dA 4, slots := Array.replicate n.toNatClampNeg .null, vm := .none } : Cell) = H1
    have g2 : H1.size = H.size + 1 := by rw [← hH1, Array.size_push]
    have g1 : H1[H.size]? = some (arrV (dA 4) n.toNatClampNeg (fun _ => .null)) := by rw [← hH1, Array.getElem?_push_size, ← arrV_new]
    have g3 : ∀ q : Nat, q < H.size → H1[q]? = H[q]? := fun q hq => by rw [← hH1, Array.getElem?_push, if_neg (Nat.ne_of_lt hq)]
    rw [hH] at g1 g2 g3
    rw [hH]
    refine k1.2 X c1 c2 H1 locs ls (n1 + 1) (n2 + n.toNatClampNeg) (by show n1 + 1 + n0 = hz h + 1; omega) (by show n2 + n.toNatClampNeg + s0 = hs h + n.toNatClampNeg; omega) ?_ ?_ w3
    · rw [wl_new]
      refine va_P.app (w1.kept fun k q hq => g3 _ (by have := (w1 k q hq).lt; omega)) ?_
      intro k q hq
      have hz0 : k < 1 := (List.getElem?_eq_some_iff.mp hq).1
      rw [show k = 0 by omega] at hq
      cases hq
      show va_at D kCL (B + hz h, cel B dA (nwO h 17 n.toNatClampNeg) (hz h)) H1
      rw [cel_17 (by rw [nw_K]), nw_K]
      show H1[B + hz h]? = some (vp_cell (dA 4) (n.toNatClampNeg, .inr (.inr (.inr (.inr (fun j => (hR (nwO h 17 n.toNatClampNeg) (hz h) j).map (fun a => B + a)))))))
      rw [g1, show hR (nwO h 17 n.toNatClampNeg) (hz h) = (fun _ => none) from by simp [hR, nwO, va_up]]
      rfl
    · exact ⟨by have := w2.1; omega, fun q q1 q2 => (g3 q (by have := w2.1; omega)).trans (w2.2.1 q q1 q2), w2.2.2⟩
  · rw [if_neg ho] at ef; cases ef
theorem j_newa18  {idx : Nat} {n : Int32} {g : Option Nat → Hp → Option (α × Hp)} (hdg : decode cc pc = .ok (.anewarray idx, 3)) (hcl : Cond.classLink own idx "RingingChamber$Method" ∈ GT) (kk : ∀ r h1, J p l e R s m args below meth c cc nL own fr lo ret nme D dA B n0 s0 Q (pc + 3) lv (vr r :: st) h1 (g r h1)) : J p l e R s m args below meth c cc nL own fr lo ret nme D dA B n0 s0 Q pc lv (vi n :: st) h (na 18 n h g) := by
  intro r' h' ef
  unfold na at ef
  by_cases ho : ¬ n < 0 ∧ n.toNatClampNeg ≤ 1000000
  · rw [if_pos ho] at ef
    have k1 := kk (some (hz h)) (nwO h 18 n.toNatClampNeg) r' h' ef
    have z1 : hz h + 1 ≤ hz h' := k1.1.1
    have z2 : hs h + n.toNatClampNeg ≤ hs h' := k1.1.2
    refine ⟨⟨by omega, by omega⟩, fun X c1 c2 H locs ls n1 n2 e1 e2 w1 w2 w3 => W.hsz fun hu => ?_⟩
    have hH := hp_size X w1 w2 e1 hu
    refine W.anew X.x X.b X.own (X.ts _ hcl) (va_AO.use X.k.2.2.1) rfl hdg rfl ho.1 (by have := ho.2; omega) (by omega) (by omega) fun cA kA comp f1 f2 f3 f4 => ?_
    have hcA : cA = dA 5 := by
      obtain ⟨_, _, _, _, _, q4⟩ := (X.k.1.2 5 _ rfl).2
      exact Option.some.inj (f1.symm.trans q4)
    subst hcA
    generalize hH1 : H.push ({ cls := dA 5, slots := Array.replicate n.toNatClampNeg .null, vm := .none } : Cell) = H1
    have g2 : H1.size = H.size + 1 := by rw [← hH1, Array.size_push]
    have g1 : H1[H.size]? = some (arrV (dA 5) n.toNatClampNeg (fun _ => .null)) := by rw [← hH1, Array.getElem?_push_size, ← arrV_new]
    have g3 : ∀ q : Nat, q < H.size → H1[q]? = H[q]? := fun q hq => by rw [← hH1, Array.getElem?_push, if_neg (Nat.ne_of_lt hq)]
    rw [hH] at g1 g2 g3
    rw [hH]
    refine k1.2 X c1 c2 H1 locs ls (n1 + 1) (n2 + n.toNatClampNeg) (by show n1 + 1 + n0 = hz h + 1; omega) (by show n2 + n.toNatClampNeg + s0 = hs h + n.toNatClampNeg; omega) ?_ ?_ w3
    · rw [wl_new]
      refine va_P.app (w1.kept fun k q hq => g3 _ (by have := (w1 k q hq).lt; omega)) ?_
      intro k q hq
      have hz0 : k < 1 := (List.getElem?_eq_some_iff.mp hq).1
      rw [show k = 0 by omega] at hq
      cases hq
      show va_at D kCL (B + hz h, cel B dA (nwO h 18 n.toNatClampNeg) (hz h)) H1
      rw [cel_18 (by rw [nw_K]), nw_K]
      show H1[B + hz h]? = some (vp_cell (dA 5) (n.toNatClampNeg, .inr (.inr (.inr (.inr (fun j => (hR (nwO h 18 n.toNatClampNeg) (hz h) j).map (fun a => B + a)))))))
      rw [g1, show hR (nwO h 18 n.toNatClampNeg) (hz h) = (fun _ => none) from by simp [hR, nwO, va_up]]
      rfl
    · exact ⟨by have := w2.1; omega, fun q q1 q2 => (g3 q (by have := w2.1; omega)).trans (w2.2.1 q q1 q2), w2.2.2⟩
  · rw [if_neg ho] at ef; cases ef
end RA
