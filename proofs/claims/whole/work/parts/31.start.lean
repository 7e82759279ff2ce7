/-! From the law's entry: what the tables say becomes Kx, the walk of the law is J, and its pure program is asked -/
def hp0 : Hp := (fun _ => (99, 0), 0, 0, fun _ _ => 0, fun _ _ => 0, fun _ _ => none)
theorem s_words {s : State} {args : Array Value} (hts : ∀ w ∈ lw_tbl, w.before args s = true) : ∀ w ∈ GT, w.before args s = true := by
  intro w hw
  rcases gt_in hw with rfl | h
  · exact sel_priv (n := 6) (n' := 6) (by decide) (hts _ (List.contains_iff_mem.mp (by decide +kernel))) (hts _ (List.contains_iff_mem.mp (by decide +kernel))) (hts _ (List.contains_iff_mem.mp (by decide +kernel))) (hts _ (List.contains_iff_mem.mp (by decide +kernel)))
  · exact hts w h
theorem s_prim {s : State} {args : Array Value} {ty : FieldType} (hn : ∀ C, ty ≠ .object C) (h : (Cond.arrayClass ty).before args s = true) : ∃ cA : ClassId, ArrOfT s cA ty ∧ va_RA s cA ty := by
  obtain ⟨cA, kA, comp, h1, h2, h3⟩ := Cond.arrayClass_spec h
  refine ⟨cA, fun n z => ⟨fun k h => (by cases h), kA, h2, comp, h3⟩, ?_⟩
  cases ty <;> first | exact h1 | exact absurd rfl (hn _)
theorem s_ref {s : State} {args : Array Value} {C : String} (h : (Cond.arrayOver (.object C)).before args s = true) : ∃ cA : ClassId, ArrOfT s cA (.object C) ∧ va_RA s cA (.object C) := by
  obtain ⟨comp, cA, kA, h1, h2, h3, h4, h5⟩ := Cond.arrayOver_spec h
  exact ⟨cA, fun n z => ⟨fun k h => (by cases h), kA, h3, comp, h4⟩, kA, comp, h3, h4, h1, h5⟩
theorem s_kx {s : State} {args : Array Value} (hts : ∀ w ∈ lw_tbl, w.before args s = true) (hgv : (Jvm.Cond.and given_1 narrow_1).before args s = true) : ∃ (D : va_G) (dA : Nat → ClassId), Kx D dA s := by
  have hG := s_words hts
  have hc : ∀ t : Nat, ∃ q : ClassId × (Nat → Nat), ∀ r : vw_C, kCL[t]? = some r → u_Kn s r.1 r.2.1 r.2.2 q.1 q.2 := by
    intro t
    by_cases ht : t < 13
    · obtain ⟨r, hr⟩ := k_at ht
      obtain ⟨c1, i1, h1⟩ := u_known hG (k_in t r hr) (hG _ (k_inst t r hr).1)
      exact ⟨(c1, i1), fun r' hr' => by cases hr.symm.trans hr'; exact h1⟩
    · exact ⟨(default, fun _ => 0), fun r hr => absurd (k_lt t r hr) ht⟩
  obtain ⟨F, hF⟩ := Classical.axiomOfChoice hc
  obtain ⟨c0, a0⟩ := s_prim (ty := .int) (fun C => by intro h; cases h) (hts _ (List.contains_iff_mem.mp (by decide +kernel)))
  obtain ⟨c1, a1⟩ := s_prim (ty := .long) (fun C => by intro h; cases h) (hts _ (List.contains_iff_mem.mp (by decide +kernel)))
  obtain ⟨c2, a2⟩ := s_prim (ty := .byte) (fun C => by intro h; cases h) (hts _ (List.contains_iff_mem.mp (by decide +kernel)))
  obtain ⟨c3, a3⟩ := s_prim (ty := .boolean) (fun C => by intro h; cases h) (hts _ (List.contains_iff_mem.mp (by decide +kernel)))
  have o4 : (Cond.arrayOver (.object "RingingChamber$Lead")).before args s = true := hts _ (List.contains_iff_mem.mp (by decide +kernel))
  have o5 : (Cond.arrayOver (.object "RingingChamber$Method")).before args s = true := hts _ (List.contains_iff_mem.mp (by decide +kernel))
  obtain ⟨c4, a4⟩ := s_ref o4
  obtain ⟨c5, a5⟩ := s_ref o5
  refine ⟨(fun t => (F t).1, fun t => (F t).2), fun k => if k = 0 then c0 else if k = 1 then c1 else if k = 2 then c2 else if k = 3 then c3 else if k = 4 then c4 else c5, ⟨fun t r hr => hF t r hr, ?_⟩, va_AO.of o4, va_AO.of o5, ?_, ?_⟩
  · intro k q hq
    match k, hq with
    | 0, hq => cases hq; exact a0
    | 1, hq => cases hq; exact a1
    | 2, hq => cases hq; exact a2
    | 3, hq => cases hq; exact a3
    | 4, hq => cases hq; exact a4
    | 5, hq => cases hq; exact a5
    | k + 6, hq => simp [tyl] at hq
  · intro t r ht hr
    have hf := flat_of_before _ hgv
    simp only [List.mem_cons, List.not_mem_nil, or_false] at ht
    rcases ht with rfl | rfl | rfl | rfl | rfl <;> cases hr <;> exact va_Nc.of (hf _ (by decide +kernel))
  · intro w hw hs
    refine va_Nw.of ?_ (hts w hw)
    cases w <;> first | rfl | (simp [isSoft] at hs; done)
/-- the law's walk, given what its pure program tells -/
theorem whole_open {p : Program} {e : Env} {s : State} {m : MethodId} {below : List Frame} {meth : Method} {c : Code} (l : Launch) {b L : Nat} {xs : Nat → Int32} (C0 : lw_At p s m meth c b L xs) {N : Nat} {h' : Hp} (hpure : Law_law N xs L hp0 = some (1, h')) (z1 : hz h' ≤ 600000) (z2 : hs h' ≤ 7302250) : W p l e room_1 s m #[Value.ref b] below meth c s.heap [] 0 0 (lw_Z below #[Value.ref b] s) (entryFrame m ([Value.ref b] : List Value).toArray 4) := by
  obtain ⟨hx, hb, hr, hml, hown, hts, hX, hbl, hlocks, hgv⟩ := C0
  obtain ⟨D, dA, hK⟩ := s_kx hts hgv
  have X : Cx p room_1 s m #[Value.ref b] meth c code 4 "RingingChamberLaw" 2048 84000 (some .boolean) meth.name D dA s.heap.size 0 := ⟨hx, hb, hml, hown, s_words hts, hK, hlocks, rfl, rfl, rfl, hr, rfl⟩
  have hJ := jc_Law_law (p := p) (l := l) (e := e) (s := s) (m := m) (below := below) (meth := meth) (c := c) (D := D) (dA := dA) (B := s.heap.size) (b := b) N xs L hX hbl (Nat.not_le.mpr hbl) hp0 1 h' hpure
  have hl := lv_entry ([Value.ref b]) (n := 4) (Nat.le_of_ble_eq_true rfl)
  rw [lg_entry_eq]
  refine W.mono (fun t ht => ht rfl) (hJ.2 X (by show hz h' ≤ 0 + 600000; omega) (by show hs h' ≤ 0 + 7302250; omega) s.heap [] _ 0 0 rfl rfl ?_ va_S.rf hl)
  intro k q hq
  have : (wl s.heap.size dA hp0) = [] := rfl
  rw [this] at hq
  cases hq
