/-! PURE: judging a method, on the model's side -/
def PJ (a k : Nat) : Prop := a = 37 ∨ a = 45 ∨ a = 62 ∨ a = 35 ∧ (k = 14 ∨ k = 15)
/-- the model's side of a step: the trace counts T -/
def MJ (T : List Nat) (h h' : Hp) : Prop := Fi PJ h h' ∧ hI h' 37 = bm (hI h 37) T
theorem MJ_t {T T' : List Nat} {h h1 h2 : Hp} (a : MJ T h h1) (b : MJ T' h1 h2) : MJ (T ++ T') h h2 := ⟨Fx_t a.1 b.1, by rw [b.2, a.2, ← bm_app]⟩
def MS (h : Hp) (n mc : Nat) (D : Nat → Md) : Prop := Lay h ∧ Mn h n ∧ hI h 35 16 = qI true ∧ Ms h n mc D
theorem MS_J {T : List Nat} {h h' : Hp} {n mc : Nat} {D : Nat → Md} (m : MS h n mc D) (a : MJ T h h') : MS h' n mc D := by
  obtain ⟨L, mn, q, M⟩ := m
  refine ⟨Fx_Lay a.1 L, ⟨by rw [Fx_ok a.1]; exact mn.1, by rw [Fx_I a.1 (by unfold PJ; omega)]; exact mn.2.1, mn.2.2⟩, by rw [Fx_I a.1 (by unfold PJ; omega)]; exact q, Ms_g M L.1 (Gx_F a.1) (by unfold PJ; omega)⟩
theorem cnt_J {N k c n mc : Nat} {D : Nat → Md} {h : Hp} (m : MS h n mc D) (hk : 3 * k + c < 18) : ∃ h', ds [(12, M_count N (some 35) (nI k) (nI c) h)] (some 35) h = some ((), h') ∧ MJ [3 * k + c] h h' := by
  obtain ⟨h', a1, a2, a3, -⟩ := M_count_s (N := N) m.1 m.2.2.1 hk
  exact ⟨h', by rw [dM m.1]; exact a1, Fx_m a2 (fun a k c => by unfold PM at c; unfold PJ; omega) (fun _ _ c => c), a3⟩
theorem lead_J {N a n mc : Nat} {D : Nat → Md} {h : Hp} (hN : 200 < N) (m : MS h n mc D) (ha : a < mc) (k5 : kd (D a) ≠ 5) : ∃ x h', ds [(12, M_leadOf N (some 35) (nI a) 0 h)] (some 35) h = some (x, h') ∧ MJ (lT (D a)) h h' ∧ (ln (D a) = none → x = 0 ∧ hI h' 35 15 = 1) ∧ ∀ M, ln (D a) = some M → x = 1 ∧ hI h' 35 14 = nI M ∧ ∀ k, k < M → hI h' 45 k = nI (ld (D a) k) := by
  obtain ⟨x, h', a1, a2, a3, a4, a5, a6⟩ := M_leadOf_s (N := N) (i := 0) (by omega) m.1 m.2.2.1 m.2.2.2 ha (by omega)
  rw [LT_a k5] at a3
  rw [LR_a k5] at a4 a5 a6
  refine ⟨x, h', by rw [dM m.1]; exact a1, ⟨Fx_m a2 (fun a k c => by unfold PM at c; unfold PJ; omega) (fun _ _ c => c), a3⟩, fun hl => ?_, fun M hl => ?_⟩
  · have e : lR (D a) = (1, 0, fun _ => 0) := by unfold lR; rw [hl]
    rw [e] at a4 a6
    exact ⟨a4, a6 (by decide)⟩
  · have e : lR (D a) = (0, M, ld (D a)) := by unfold lR; rw [hl]
    rw [e] at a4 a5
    exact ⟨a4, a5 rfl⟩
theorem RW_l {n M : Nat} {d : Md} (h1 : M ≤ 100) (h2 : ∀ k, k < M → Ch n (ld d k)) : RW n (0, M, ld d) := ⟨by show (0 : Nat) < 8; omega, h1, h2⟩
/-- the bell behind the lead -/
theorem bell_J {N n M : Nat} {d : Md} {h : Hp} (hN : 200 < N) (L : Lay h) (mn : Mn h n) (h1 : M ≤ 100) (h2 : ∀ k, k < M → Ch n (ld d k)) (l5 : hI h 35 14 = nI M) (l7 : ∀ k, k < M → hI h 45 k = nI (ld d k)) {β : Type} {F : Int32 → Hp → Option β} : (cl (ds [(12, M_rounds N (some 35) h)] (some 35) h) fun x5 h4 => gi [12] 14 (some 35) h4 fun x6 => cl (ds [(12, M_behind N (some 35) x5 x6 h4)] (some 35) h4) fun x8 h7 => cl (M_bell N x8 1 h7) fun x10 h9 => F x10 h9) = F (nI (dg (rng (ld d) (rd n) M) 0)) h ∧ (nI (dg (rng (ld d) (rd n) M) 0) = 1 ↔ tpl (ld d) M = 0) := by
  have hn := mn.2.2
  have rk := rng_rw (rd_rw hn.2) h2 M (Nat.le_refl _)
  have vl := lN_lt12 hn.2 rk.1
  obtain ⟨t, e⟩ := tpl_ok hn.1 hn.2 h2 M (Nat.le_refl _)
  have dl := dg_lt (rng (ld d) (rd n) M) 0
  refine ⟨?_, ?_⟩
  · rw [dM L, M_rounds_s (by omega) mn, cl_s, gi_s (o35 L), l5, behind_s (R := (0, M, ld _)) (by omega) hn.2 L l7 (RW_l h1 h2) (rd_rw hn.2), cl_s]
    rw [show (1 : Int32) = nI 1 from rfl, M_bell_s (v := rng (ld d) (rd n) M) (by omega) (by omega) (by omega), cl_s]
  · rw [eN_1 (by omega)]
    constructor
    · intro q
      exact (rk.2.2 _ _ (by omega) t (by rw [q, e])).symm
    · intro q
      rw [q] at e; exact e
theorem qand (a b : Bool) : qI a &&& qI b = qI (a && b) := by cases a <;> cases b <;> rfl
/-- a judgement on the model's side -/
def AnM (d : Md) (P : Nat → Prop) (x : Int32) (h' : Hp) : Prop := (ln d = none → x = -1 ∧ hI h' 35 15 = 1) ∧ ∀ M, ln d = some M → ∃ q : Bool, (q = true ↔ P M) ∧ x = qI q
theorem q269 {N : Nat} {q : Bool} {h : Hp} : M_judgeOf_0_269 N (qI q) h = some (qI q, h) := by
  unfold M_judgeOf_0_269
  cases q <;> rfl
theorem occ_0 {f : Nat → Nat} {M n : Nat} (h4 : 4 ≤ n) : occ f M (n - 1) = 0 ↔ ∀ k, k < M → tpl f (k + 1) + 1 ≠ n := by
  constructor
  · intro h k hk e
    have := cnt_pos (f := fun k => tpl f (k + 1)) (x := n - 1) M k hk (by show tpl f (k + 1) = n - 1; omega)
    unfold occ at h
    omega
  · intro h
    unfold occ
    induction M with
    | zero => rfl
    | succ m ih =>
      rw [cnt, ih (fun k hk => h k (by omega)), if_neg (by have := h m (by omega); omega)]
theorem surp_M {N a n mc M : Nat} {D : Nat → Md} {h : Hp} {q r : Bool} (hN : 200 < N) (m : MS h n mc D) (ha : a < mc) (k3 : kd (D a) = 3) (hl : ln (D a) = some M) (w : Wm n a D) : ∃ (s : Bool) (h' : Hp), (s = true ↔ Su (ld (D a)) M n) ∧ M_judgeOf_0_248 N (some 35) (nI a) 3 (qI q) (qI r) h = some (qI ((q && r) && s), h') ∧ MJ [0] h h' := by
  obtain ⟨w1, w2⟩ := w.2.1 M hl
  obtain ⟨x, h1, e1, a1, -, b1⟩ := lead_J hN m ha (by omega)
  obtain ⟨b2, b3, b4⟩ := b1 M hl
  have m1 := MS_J m a1
  obtain ⟨s, s1, s2⟩ := msurp (N := N) (by omega) w1 w2 m1.1 m1.2.1 b3 b4 M N 0 (by omega) (by omega)
  have hT : lT (D a) = [0] := by unfold lT; rw [if_neg (by omega)]
  rw [hT] at a1
  refine ⟨s, h1, ?_, ?_, a1⟩
  · rw [s1]; exact ⟨fun z k hk => z k (by omega) hk, fun z k _ hk => z k hk⟩
  · unfold M_judgeOf_0_248 M_isSurprising
    rw [nmE, qand, if_pos rfl, e1, cl_s, dM m1.1, dM m1.1, M_rounds_s (by omega) m1.2.1, cl_s, show M_isSurprising_7 N N (some 35) (lN (rd n)) 0 h1 = _ from s2, cl_s, nmE, qand, q269]
theorem M_192_s {N a n mc M k : Nat} {D : Nat → Md} {h : Hp} {q : Bool} (hN : 200 < N) (m : MS h n mc D) (ha : a < mc) (hk : kd (D a) = k) (k3 : k ≤ 3) (hl : ln (D a) = some M) (w : Wm n a D) (hq : q = true ↔ tpl (ld (D a)) M = 0) : ∃ (s : Bool) (h' : Hp), (s = true ↔ JB n (D a) M) ∧ M_judgeOf_0_192 N (some 35) (nI a) (nI k) (qI q) h = some (qI s, h') ∧ MJ (if k = 0 then [] else if k = 3 then [0, 0] else [0]) h h' := by
  obtain ⟨w1, w2⟩ := w.2.1 M hl
  have hn := m.2.1.2.2
  unfold M_judgeOf_0_192
  by_cases k0 : k = 0
  · subst k0
    refine ⟨q, h, ?_, ?_, by rw [if_pos rfl]; exact ⟨Fx_r _ _ _, rfl⟩⟩
    · unfold JB; rw [if_pos hk]; exact hq
    · rw [if_pos cN_0]; cases q <;> rfl
  rw [if_neg (fun z => k0 ((nI_eq0 (by omega)).mp z)), if_neg k0]
  obtain ⟨x, h1, e1, a1, -, b1⟩ := lead_J hN m ha (by omega)
  obtain ⟨b2, b3, b4⟩ := b1 M hl
  have m1 := MS_J m a1
  have hT : lT (D a) = [0] := by unfold lT; rw [if_neg (by omega)]
  rw [hT] at a1
  obtain ⟨h2, c1, c2, c3⟩ := hunt_1 (N := N) (by omega) w1 w2 n N 0 h1 (by omega) (by omega) m1.1 m1.2.1 b3 b4 (fun a ha => by omega)
  have a2 : MJ [] h1 h2 := ⟨Fx_m c2 (fun a k c => by unfold PJ; omega) (fun _ _ c => c), by rw [Fx_row c2 (by omega)]; rfl⟩
  have m2 := MS_J m1 a2
  have a12 := MJ_t a1 a2
  rw [e1, cl_s, dM m1.1, show M_hunt N (some 35) h1 = _ from c1, cl_s]
  by_cases k1 : k = 1
  · subst k1
    rw [if_pos cN_1, gr_s (o35 m2.1), r35_57 m2.1, gi_s (o35 m2.1), m2.2.1.2.1, li_s (o62 m2.1) (by rw [k62 m2.1]; show n < 13; omega) (by rw [k62 m2.1]; decide)]
    have e := c3 (n - 1) (by omega)
    rw [show n - 1 + 1 = n by omega] at e
    have ol : occ (ld (D a)) M (n - 1) ≤ 100 := Nat.le_trans (cnt_le _ _ _) w1
    rw [e]
    have e248 : ∀ r : Bool, M_judgeOf_0_248 N (some 35) (nI a) (nI 1) (qI q) (qI r) h2 = some (qI (q && r), h2) := by
      intro r
      unfold M_judgeOf_0_248
      rw [nmE, qand, if_neg (by decide), q269]
    by_cases o : occ (ld (D a)) M (n - 1) = 0
    · refine ⟨q && true, h2, ?_, ?_, by rw [if_neg (by omega)]; exact a12⟩
      · unfold JB
        rw [if_neg (by omega), if_pos hk, Bool.and_true, hq]
        exact ⟨fun z => ⟨z, (occ_0 hn.1).mp o⟩, fun z => z.1⟩
      · rw [if_pos ((nI_eq0 (by omega)).mpr o)]; exact e248 true
    · refine ⟨q && false, h2, ?_, ?_, by rw [if_neg (by omega)]; exact a12⟩
      · unfold JB
        rw [if_neg (by omega), if_pos hk, Bool.and_false]
        exact ⟨fun z => (by cases z), fun z => absurd ((occ_0 hn.1).mpr z.2) o⟩
      · rw [if_neg (fun z => o ((nI_eq0 (by omega)).mp z))]; exact e248 false
  · rw [if_neg (fun z => k1 ((eN_1 (by omega)).mp z))]
    obtain ⟨r, r1, r2⟩ := meven (N := N) w1 m2.1 m2.2.1 c3 n N 0 0 (by omega) (by omega) (by omega) (fun z => absurd rfl z) (fun j hj => by omega)
    rw [dM m2.1, show M_isEven N (some 35) h2 = _ from r2, cl_s]
    by_cases k2 : k = 2
    · subst k2
      refine ⟨q && r, h2, ?_, ?_, by rw [if_neg (by omega)]; exact a12⟩
      · unfold JB
        rw [if_neg (by omega), if_neg (by omega), if_pos hk, Bool.and_eq_true, hq, r1]
      · unfold M_judgeOf_0_248
        rw [nmE, qand, if_neg (by decide), q269]
    · have k3' : k = 3 := by omega
      subst k3'
      obtain ⟨s, h3, s1, s2, s3⟩ := surp_M (q := q) (r := r) hN m2 ha hk hl w
      refine ⟨(q && r) && s, h3, ?_, s2, by rw [if_pos rfl]; exact MJ_t a12 s3⟩
      unfold JB
      rw [if_neg (by omega), if_neg (by omega), if_neg (by omega), if_pos hk, Bool.and_eq_true, Bool.and_eq_true, hq, r1, s1]
theorem M_150_s {N a n mc k : Nat} {D : Nat → Md} {h : Hp} (hN : 200 < N) (m : MS h n mc D) (ha : a < mc) (hk : kd (D a) = k) (k3 : k ≤ 3) (w : Wm n a D) : ∃ x h', M_judgeOf_0_150 N (some 35) (nI a) (nI k) h = some (x, h') ∧ MJ ([2, 0] ++ (if k = 0 ∨ ln (D a) = none then [] else if k = 3 then [0, 0] else [0])) h h' ∧ AnM (D a) (JB n (D a)) x h' := by
  obtain ⟨h1, e1, a1⟩ := cnt_J (N := N) (k := 0) (c := 2) m (by omega)
  have m1 := MS_J m a1
  obtain ⟨x, h2, e2, a2, b1, b2⟩ := lead_J hN m1 ha (by omega)
  have m2 := MS_J m1 a2
  have hT : lT (D a) = [0] := by unfold lT; rw [if_neg (by omega)]
  rw [hT] at a2
  unfold M_judgeOf_0_150
  rw [show ds [(12, M_count N (some 35) 0 2 h)] (some 35) h = _ from e1, cl_s, e2, cl_s]
  rcases hl : ln (D a) with _ | M
  · obtain ⟨c1, c2⟩ := b1 hl
    rw [c1, if_pos rfl, if_pos (Or.inr rfl)]
    exact ⟨-1, h2, rfl, (show MJ [2, 0] h h2 from MJ_t a1 a2), fun _ => ⟨rfl, c2⟩, fun M z => (by rw [hl] at z; cases z)⟩
  · obtain ⟨c1, c2, c3⟩ := b2 M hl
    obtain ⟨w1, w2⟩ := w.2.1 M hl
    obtain ⟨f1, f2⟩ := bell_J (N := N) (d := D a) hN m2.1 m2.2.1 w1 w2 c2 c3 (F := fun x10 h9 => if x10 = 1 then (M_judgeOf_0_192 N (some 35) (nI a) (nI k) 1 h9) else (M_judgeOf_0_192 N (some 35) (nI a) (nI k) 0 h9))
    rw [c1, if_neg i10, f1]
    have key : ∀ q : Bool, (q = true ↔ tpl (ld (D a)) M = 0) → ∃ x h', M_judgeOf_0_192 N (some 35) (nI a) (nI k) (qI q) h2 = some (x, h') ∧ MJ ([2, 0] ++ (if k = 0 ∨ some M = none then [] else if k = 3 then [0, 0] else [0])) h h' ∧ AnM (D a) (JB n (D a)) x h' := by
      intro q hq
      obtain ⟨s, h3, s1, s2, s3⟩ := M_192_s hN m2 ha hk k3 hl w hq
      refine ⟨qI s, h3, s2, ?_, fun z => (by rw [hl] at z; cases z), fun M' z => ⟨s, ?_, rfl⟩⟩
      · have := MJ_t (MJ_t a1 a2) s3
        simp only [reduceCtorEq, or_false]
        exact this
      · rw [hl] at z; cases z; exact s1
    by_cases z : tpl (ld (D a)) M = 0
    · rw [if_pos (f2.mpr z)]
      exact key true ⟨fun _ => z, fun _ => rfl⟩
    · rw [if_neg (fun y => z (f2.mp y))]
      exact key false ⟨fun y => (by cases y), fun y => absurd y z⟩
theorem judge_0 {N a n mc : Nat} {D : Nat → Md} {h : Hp} (hN : 200 < N) (m : MS h n mc D) (ha : a < mc) (hk : kd (D a) < 5) (w : Wm n a D) : ∃ x h', M_judgeOf_0 N (some 35) (nI a) h = some (x, h') ∧ MJ (jT (D a)) h h' ∧ AnM (D a) (JB n (D a)) x h' := by
  have L := m.1
  have a30 := m.2.2.2.2.1
  have e38 : hI h 38 a = nI (kd (D a)) := (m.2.2.2.2.2 a ha).1.1
  unfold M_judgeOf_0
  rw [gr_s (o35 L), r35_6 L, li_s (o38 L) (by rw [k38 L]; show a < 30; omega) (by rw [k38 L]; decide), e38, if_neg (fun z => by have := (eN_5 (by omega)).mp z; omega)]
  by_cases q4 : kd (D a) = 4
  · obtain ⟨h1, e1, a1⟩ := cnt_J (N := N) (k := 4) (c := 2) m (by omega)
    have m1 := MS_J m a1
    obtain ⟨x, h2, e2, a2, b1, b2⟩ := lead_J hN m1 ha (by omega)
    have m2 := MS_J m1 a2
    have hT : lT (D a) = [12] := by unfold lT; rw [if_pos q4]
    have hJ : jT (D a) = [14, 12] := by unfold jT; rw [if_neg (by omega), if_neg (by omega), if_neg (by omega), if_neg (by omega)]
    rw [hT] at a2
    rw [if_pos ((eN_4 (by omega)).mpr q4), show ds [(12, M_count N (some 35) 4 2 h)] (some 35) h = _ from e1, cl_s, e2, cl_s, hJ]
    rcases hl : ln (D a) with _ | M
    · obtain ⟨c1, c2⟩ := b1 hl
      rw [c1, if_pos rfl]
      exact ⟨-1, h2, rfl, MJ_t a1 a2, fun _ => ⟨rfl, c2⟩, fun M z => (by rw [hl] at z; cases z)⟩
    · obtain ⟨c1, c2, c3⟩ := b2 M hl
      obtain ⟨w1, w2⟩ := w.2.1 M hl
      obtain ⟨f1, f2⟩ := bell_J (N := N) (d := D a) hN m2.1 m2.2.1 w1 w2 c2 c3 (F := fun x13 h12 => if x13 = 1 then (some ((0 : Int32), h12)) else (some (1, h12)))
      rw [c1, if_neg i10, f1]
      have jb : JB n (D a) M ↔ ¬ tpl (ld (D a)) M = 0 := by unfold JB; rw [if_neg (by omega), if_neg (by omega), if_neg (by omega), if_neg (by omega)]
      by_cases z : tpl (ld (D a)) M = 0
      · rw [if_pos (f2.mpr z)]
        refine ⟨0, h2, rfl, MJ_t a1 a2, fun y => (by rw [hl] at y; cases y), fun M' y => ⟨false, ⟨fun u => (by cases u), fun u => ?_⟩, rfl⟩⟩
        rw [hl] at y; cases y; exact absurd z (jb.mp u)
      · rw [if_neg (fun y => z (f2.mp y))]
        refine ⟨1, h2, rfl, MJ_t a1 a2, fun y => (by rw [hl] at y; cases y), fun M' y => ⟨true, ⟨fun _ => ?_, fun _ => rfl⟩, rfl⟩⟩
        rw [hl] at y; cases y; exact jb.mpr z
  · rw [if_neg (fun z => q4 ((eN_4 (by omega)).mp z))]
    by_cases q0 : kd (D a) = 0
    · obtain ⟨x, h', e, j, an⟩ := M_150_s hN m ha q0 (by omega) w
      rw [if_pos ((nI_eq0 (by omega)).mpr q0)]
      unfold M_judgeOf_0_139
      rw [if_neg (fun z => by have := (eN_3 (by omega)).mp z; omega), q0]
      refine ⟨x, h', e, ?_, an⟩
      unfold jT
      rw [if_pos q0]
      rw [if_pos (Or.inl rfl)] at j
      exact j
    · rw [if_neg (fun z => q0 ((nI_eq0 (by omega)).mp z))]
      obtain ⟨h1, e1, a1⟩ := cnt_J (N := N) (k := kd (D a)) (c := 2) m (by omega)
      have m1 := MS_J m a1
      rw [show ds [(12, M_count N (some 35) (nI (kd (D a))) 2 h)] (some 35) h = _ from e1, cl_s]
      unfold M_judgeOf_0_139 jT
      rw [if_neg q0]
      by_cases q3 : kd (D a) = 3
      · obtain ⟨h2, e2, a2⟩ := cnt_J (N := N) (k := 2) (c := 2) m1 (by omega)
        have m2 := MS_J m1 a2
        obtain ⟨x, h', e, j, an⟩ := M_150_s hN m2 ha q3 (by omega) w
        rw [if_pos ((eN_3 (by omega)).mpr q3), show ds [(12, M_count N (some 35) 2 2 h1)] (some 35) h1 = _ from e2, cl_s, q3]
        refine ⟨x, h', e, ?_, an⟩
        rw [if_neg (by omega), if_neg (by omega), if_pos rfl]
        rw [q3] at a1
        have := MJ_t (MJ_t a1 a2) j
        simp only [show ¬ (3 = 0) by decide, false_or, if_true] at this
        exact this
      · obtain ⟨x, h', e, j, an⟩ := M_150_s hN m1 ha rfl (by omega) w
        rw [if_neg (fun z => q3 ((eN_3 (by omega)).mp z))]
        refine ⟨x, h', e, ?_, an⟩
        have := MJ_t a1 j
        simp only [q0, q3, false_or, if_false] at this
        by_cases q1 : kd (D a) = 1
        · rw [q1] at this
          rw [if_pos q1]; exact this
        · have q2 : kd (D a) = 2 := by omega
          rw [q2] at this
          rw [if_neg q1, if_pos q2]; exact this
