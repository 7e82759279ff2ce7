/-! PURE: judging a method, on the class's side -/
theorem nw_I {h : Hp} {t n a : Nat} (ha : a < hz h) : hI (nwO h t n) a = hI h a := by
  show va_up (hI h) (hz h) (fun _ => 0) a = hI h a
  rw [up_at, if_neg (by omega)]
theorem nw_R {h : Hp} {t n a : Nat} (ha : a < hz h) : hR (nwO h t n) a = hR h a := by
  show va_up (hR h) (hz h) (fun _ => none) a = hR h a
  rw [up_at, if_neg (by omega)]
theorem nw_L {h : Hp} {t n a : Nat} (ha : a < hz h) : hL (nwO h t n) a = hL h a := by
  show va_up (hL h) (hz h) (fun _ => 0) a = hL h a
  rw [up_at, if_neg (by omega)]
theorem nwK {h : Hp} {t n a : Nat} (ha : a < hz h) : hK (nwO h t n) a = hK h a := by
  show va_up (hK h) (hz h) (t, n) a = hK h a
  rw [up_at, if_neg (by omega)]
theorem nw_I0 (h : Hp) (t n k : Nat) : hI (nwO h t n) (hz h) k = 0 := by
  show va_up (hI h) (hz h) (fun _ => 0) (hz h) k = 0
  rw [up_at, if_pos rfl]
theorem nw_R0 (h : Hp) (t n k : Nat) : hR (nwO h t n) (hz h) k = none := by
  show va_up (hR h) (hz h) (fun _ => none) (hz h) k = none
  rw [up_at, if_pos rfl]
theorem nw_K0 (h : Hp) (t n : Nat) : hK (nwO h t n) (hz h) = (t, n) := by
  show va_up (hK h) (hz h) (t, n) (hz h) = (t, n)
  rw [up_at, if_pos rfl]
theorem nw_z (h : Hp) (t n : Nat) : hz (nwO h t n) = hz h + 1 := rfl
theorem nw_s (h : Hp) (t n : Nat) : hs (nwO h t n) = hs h + n := rfl
theorem Gx_nw (P Q R : Nat → Nat → Prop) (h : Hp) (t n : Nat) : Gx P Q R h (nwO h t n) :=
  ⟨by rw [nw_z]; omega, fun a ha => nwK ha, fun a k ha _ => by rw [nw_I ha], fun a k ha _ => by rw [nw_L ha], fun a k ha _ => by rw [nw_R ha]⟩
theorem ok_g {P Q R : Nat → Nat → Prop} {h h' : Hp} (f : Gx P Q R h h') {ts : List Nat} {a : Nat} (o : ok h ts a = true) : ok h' ts a = true := by
  have h1 := ok_lt o
  have h2 := f.1
  unfold ok at o ⊢
  rw [f.2.1 a h1]
  simp only [Bool.and_eq_true, decide_eq_true_eq] at o ⊢
  exact ⟨by omega, o.2⟩
/-- growth of a step that makes at most one small array -/
def Gs (h h' : Hp) : Prop := hz h' ≤ hz h + 1 ∧ hs h' ≤ hs h + 13 ∧ hR h' 20 = hR h 20
theorem Gs_F {P Q : Nat → Nat → Prop} {h h' : Hp} (f : Fx P Q h h') : Gs h h' := ⟨by rw [Fx_z f]; omega, by rw [Fx_s f]; omega, by rw [Fx_R f]⟩
/-- no growth -/
def G0 (h h' : Hp) : Prop := hz h' = hz h ∧ hs h' = hs h ∧ hR h' 20 = hR h 20
/-- the class's side of a step: the trace counts T, nothing else changes below -/
def K4 (T : List Nat) (h h' : Hp) : Prop := Gx P4 nF nF h h' ∧ hI h' 4 = bm (hI h 4) T
theorem K4_t {T T' : List Nat} {h h1 h2 : Hp} (a : K4 T h h1) (b : K4 T' h1 h2) : K4 (T ++ T') h h2 := ⟨Gx_t a.1 b.1, by rw [b.2, a.2, ← bm_app]⟩
theorem K4_b {h : Hp} {j : Nat} : K4 [j] h (sI h 4 j (hI h 4 j + 1)) := ⟨Gx_sI h _ rfl, sI_row ..⟩
theorem K4_L {T : List Nat} {h h' : Hp} (a : K4 T h h') (L : Lay h) : Lay h' := Gx_Lay a.1 L (fun _ _ _ c => c)
theorem K4_C {T : List Nat} {h h' : Hp} {b n : Nat} {d : Md} {bs : Nat → Nat} (a : K4 T h h') (c : CM h b n d bs) : CM h' b n d bs :=
  CM_g c a.1 (fun x k h1 _ q => by have := CM_64 c; unfold P4 at q; omega) (fun _ _ _ _ q => q)
/-- a method of the class that can be judged -/
def Jd (h : Hp) (b n : Nat) (d : Md) (bs : Nat → Nat) : Prop := Lay h ∧ CM h b n d bs ∧ (4 ≤ n ∧ n ≤ 12) ∧ ∀ M, ln d = some M → M ≤ 100 ∧ ∀ k, k < M → Ch n (ld d k)
theorem Jd_K {T : List Nat} {h h' : Hp} {b n : Nat} {d : Md} {bs : Nat → Nat} (j : Jd h b n d bs) (a : K4 T h h') : Jd h' b n d bs := ⟨K4_L a j.1, K4_C a j.2.1, j.2.2⟩
theorem Jd_Ld {h : Hp} {b n M : Nat} {d : Md} {bs : Nat → Nat} (j : Jd h b n d bs) (k5 : kd d ≠ 5) (hl : ln d = some M) : Ld h (b + 1) (b + 2) n M (ld d) ∧ hI h (b + 1) 2 = 0 := by
  obtain ⟨l1, l2, l3, l4, l5, l6, l7, l8⟩ := LD_own j.2.1 (fun M hM => (j.2.2.2 M hM).1) k5
  have e : lR d = (0, M, ld d) := by unfold lR; rw [hl]
  rw [e] at l5 l6 l7 l8
  exact ⟨⟨l1, l2, l3, l4, l6, l7, l8, (j.2.2.2 M hl).2⟩, l5⟩
theorem Jd_no {h : Hp} {b n : Nat} {d : Md} {bs : Nat → Nat} (j : Jd h b n d bs) (k5 : kd d ≠ 5) (hl : ln d = none) : ok h [0] (b + 1) = true ∧ hI h (b + 1) 2 = 1 := by
  obtain ⟨l1, l2, l3, l4, l5, l6, l7, l8⟩ := LD_own j.2.1 (fun M hM => (j.2.2.2 M hM).1) k5
  have e : lR d = (1, 0, fun _ => 0) := by unfold lR; rw [hl]
  rw [e] at l5
  exact ⟨l1, l5⟩
/-- what a judgement says, where it does -/
def Ans (d : Md) (P : Nat → Prop) (x : Int32) : Prop := (ln d = none → x = -1) ∧ ∀ M, ln d = some M → ∃ q : Bool, (q = true ↔ P M) ∧ x = qI q
theorem q01 (q : Bool) : (0 : Int32) ≤ qI q := by cases q <;> decide
theorem lead_K {N b n : Nat} {d : Md} {bs : Nat → Nat} {h : Hp} (j : Jd h b n d bs) (k3 : kd d ≤ 3) : ∃ h', (∀ i, Plain_leadOf N (some b) i h = some (some (b + 1), h')) ∧ K4 [0] h h' := ⟨_, fun i => plain_lead_s j.1 j.2.1 k3, K4_b⟩
theorem ob4 {h : Hp} {b n : Nat} {d : Md} {bs : Nat → Nat} (c : CM h b n d bs) (k3 : kd d ≤ 3) : ok h [1, 2, 7, 10] b = true := CM_ok c (by rcases kc_le3 k3 with q | q | q | q <;> rw [q] <;> decide)
theorem plain_J {N b n : Nat} {d : Md} {bs : Nat → Nat} {h : Hp} (hN : 200 < N) (j : Jd h b n d bs) (k3 : kd d ≤ 3) : ∃ x h', Plain_judged N (some b) h = some (x, h') ∧ K4 [2, 0] h h' ∧ G0 h h' ∧ Ans d (fun M => tpl (ld d) M = 0) x := by
  have k5 : kd d ≠ 5 := by omega
  have L := j.1
  have c := j.2.1
  have okb := ob4 c k3
  unfold Plain_judged
  simp only [gr_s, okb, c.2.2.1.1, li_2, si_2, o4, k4, L, Nat.reducePow, Nat.reduceLT]
  have a1 : K4 [2] h (sI h 4 2 (hI h 4 2 + 1)) := K4_b
  have z1 : hz (sI h 4 2 (hI h 4 2 + 1)) = hz h ∧ hs (sI h 4 2 (hI h 4 2 + 1)) = hs h ∧ hR (sI h 4 2 (hI h 4 2 + 1)) = hR h := ⟨rfl, rfl, rfl⟩
  generalize sI h 4 2 (hI h 4 2 + 1) = h1 at a1 z1
  have j1 := Jd_K j a1
  rw [ds_4 j1.2.1 k3, plain_lead_s j1.1 j1.2.1 k3, cl_s]
  have a2 : K4 [0] h1 (sI h1 4 0 (hI h1 4 0 + 1)) := K4_b
  have z2 : hz (sI h1 4 0 (hI h1 4 0 + 1)) = hz h1 ∧ hs (sI h1 4 0 (hI h1 4 0 + 1)) = hs h1 ∧ hR (sI h1 4 0 (hI h1 4 0 + 1)) = hR h1 := ⟨rfl, rfl, rfl⟩
  generalize sI h1 4 0 (hI h1 4 0 + 1) = h2 at a2 z2
  have j2 := Jd_K j1 a2
  have gs : G0 h h2 := ⟨by rw [z2.1, z1.1], by rw [z2.2.1, z1.2.1], by rw [z2.2.2, z1.2.2]⟩
  rcases hl : ln d with _ | M
  · obtain ⟨l1, l2⟩ := Jd_no j2 k5 hl
    refine ⟨-1, h2, ?_, K4_t a1 a2, gs, fun _ => rfl, fun M q => (by rw [hl] at q; cases q)⟩
    rw [gi_s l1, l2, if_neg i10, gi_s l1, l2]
  · obtain ⟨ld', l2⟩ := Jd_Ld j2 k5 hl
    have l1 := ld'.1
    have t := (tpl_ok j.2.2.1.1 j.2.2.1.2 ld'.2.2.2.2.2.2.2 M (Nat.le_refl _)).1
    have hM := ld'.2.2.2.2.2.1
    have hn := j.2.2.1
    have tr : Meth_trebleBehind N (some b) (some (b + 1)) h2 = some (nI (tpl (ld d) M + 1), h2) := treble_loop (N := N) j.2.2.1.1 j.2.2.1.2 ld' M N 0 (by omega) (by omega)
    have body : (gi [0] 2 (some (b + 1)) h2 fun x6 => if x6 = 0 then (cl (ds [(1, Meth_trebleBehind N (some b) (some (b + 1)) h2), (2, Meth_trebleBehind N (some b) (some (b + 1)) h2), (7, Meth_trebleBehind N (some b) (some (b + 1)) h2), (10, Meth_trebleBehind N (some b) (some (b + 1)) h2)] (some b) h2) fun x8 h7 => if x8 = 1 then (some (1, h7)) else (some (0, h7))) else (gi [0] 2 (some (b + 1)) h2 fun x9 => some ((-x9), h2))) = if nI (tpl (ld d) M + 1) = 1 then some (1, h2) else some ((0 : Int32), h2) := by
      rw [gi_s l1, l2, if_pos rfl, ds_4 j2.2.1 k3, tr, cl_s]
    rw [body]
    by_cases q : tpl (ld d) M = 0
    · refine ⟨1, h2, by rw [if_pos (by rw [q]; rfl)], K4_t a1 a2, gs, fun w => (by rw [hl] at w; cases w), fun M' e => ⟨true, ⟨fun _ => ?_, fun _ => rfl⟩, rfl⟩⟩
      rw [hl] at e; cases e; exact q
    · refine ⟨0, h2, by rw [if_neg (fun w => q (by have := (eN_1 (by omega)).mp w; omega))], K4_t a1 a2, gs, fun w => (by rw [hl] at w; cases w), fun M' e => ⟨false, ⟨fun w => (by cases w), fun w => ?_⟩, rfl⟩⟩
      rw [hl] at e; cases e; exact absurd w q
theorem princ_J {N b n : Nat} {d : Md} {bs : Nat → Nat} {h : Hp} (hN : 200 < N) (j : Jd h b n d bs) (k4' : kd d = 4) : ∃ x h', Principle_judged N (some b) h = some (x, h') ∧ K4 [14, 12] h h' ∧ G0 h h' ∧ Ans d (fun M => ¬ tpl (ld d) M = 0) x := by
  have k5 : kd d ≠ 5 := by omega
  have L := j.1
  have c := j.2.1
  have okb : ok h [3] b = true := CM_ok c (by rw [k4']; decide)
  unfold Principle_judged
  simp only [gr_s, okb, c.2.2.1.1, li_14, si_14, o4, k4, L, Nat.reducePow, Nat.reduceLT]
  have a1 : K4 [14] h (sI h 4 14 (hI h 4 14 + 1)) := K4_b
  have z1 : hz (sI h 4 14 (hI h 4 14 + 1)) = hz h ∧ hs (sI h 4 14 (hI h 4 14 + 1)) = hs h ∧ hR (sI h 4 14 (hI h 4 14 + 1)) = hR h := ⟨rfl, rfl, rfl⟩
  generalize sI h 4 14 (hI h 4 14 + 1) = h1 at a1 z1
  have j1 := Jd_K j a1
  have okb1 : ok h1 [3] b = true := CM_ok j1.2.1 (by rw [k4']; decide)
  rw [ds_1 okb1, princ_lead_s j1.1 j1.2.1 k4', cl_s]
  have a2 : K4 [12] h1 (sI h1 4 12 (hI h1 4 12 + 1)) := K4_b
  have z2 : hz (sI h1 4 12 (hI h1 4 12 + 1)) = hz h1 ∧ hs (sI h1 4 12 (hI h1 4 12 + 1)) = hs h1 ∧ hR (sI h1 4 12 (hI h1 4 12 + 1)) = hR h1 := ⟨rfl, rfl, rfl⟩
  generalize sI h1 4 12 (hI h1 4 12 + 1) = h2 at a2 z2
  have j2 := Jd_K j1 a2
  have okb2 : ok h2 [3] b = true := CM_ok j2.2.1 (by rw [k4']; decide)
  have gs : G0 h h2 := ⟨by rw [z2.1, z1.1], by rw [z2.2.1, z1.2.1], by rw [z2.2.2, z1.2.2]⟩
  rcases hl : ln d with _ | M
  · obtain ⟨l1, l2⟩ := Jd_no j2 k5 hl
    refine ⟨-1, h2, ?_, K4_t a1 a2, gs, fun _ => rfl, fun M q => (by rw [hl] at q; cases q)⟩
    rw [gi_s l1, l2, if_neg i10, gi_s l1, l2]
  · obtain ⟨ld', l2⟩ := Jd_Ld j2 k5 hl
    have l1 := ld'.1
    have t := (tpl_ok j.2.2.1.1 j.2.2.1.2 ld'.2.2.2.2.2.2.2 M (Nat.le_refl _)).1
    have hM := ld'.2.2.2.2.2.1
    have hn := j.2.2.1
    have tr : Meth_trebleBehind N (some b) (some (b + 1)) h2 = some (nI (tpl (ld d) M + 1), h2) := treble_loop (N := N) j.2.2.1.1 j.2.2.1.2 ld' M N 0 (by omega) (by omega)
    have body : (gi [0] 2 (some (b + 1)) h2 fun x6 => if x6 = 0 then (cl (ds [(3, Meth_trebleBehind N (some b) (some (b + 1)) h2)] (some b) h2) fun x8 h7 => if x8 = 1 then (some (0, h7)) else (some (1, h7))) else (gi [0] 2 (some (b + 1)) h2 fun x9 => some ((-x9), h2))) = if nI (tpl (ld d) M + 1) = 1 then some (0, h2) else some ((1 : Int32), h2) := by
      rw [gi_s l1, l2, if_pos rfl, ds_1 okb2, tr, cl_s]
    rw [body]
    by_cases q : tpl (ld d) M = 0
    · refine ⟨0, h2, by rw [if_pos (by rw [q]; rfl)], K4_t a1 a2, gs, fun w => (by rw [hl] at w; cases w), fun M' e => ⟨false, ⟨fun w => (by cases w), fun w => ?_⟩, rfl⟩⟩
      rw [hl] at e; cases e; exact absurd q w
    · refine ⟨1, h2, by rw [if_neg (fun w => q (by have := (eN_1 (by omega)).mp w; omega))], K4_t a1 a2, gs, fun w => (by rw [hl] at w; cases w), fun M' e => ⟨true, ⟨fun _ => ?_, fun _ => rfl⟩, rfl⟩⟩
      rw [hl] at e; cases e; exact q
/-- a judgement and a further look: both must hold -/
theorem both_J {q r : Bool} {h8 : Hp} : (if qI q = 1 then (if qI r = 0 then (some ((0 : Int32), h8)) else (some (1, h8))) else (some (0, h8))) = some (qI (q && r), h8) := by
  cases q <;> cases r <;> rfl
theorem little_J {N b n : Nat} {d : Md} {bs : Nat → Nat} {h : Hp} (hN : 200 < N) (j : Jd h b n d bs) (k1 : kd d = 1) : ∃ x h', Little_judged N (some b) h = some (x, h') ∧ K4 ([5, 2, 0] ++ if ln d = none then [] else [0]) h h' ∧ G0 h h' ∧ Ans d (fun M => tpl (ld d) M = 0 ∧ ∀ k, k < M → tpl (ld d) (k + 1) + 1 ≠ n) x := by
  have L := j.1
  have c := j.2.1
  have okb : ok h [1] b = true := CM_ok c (by rw [k1]; decide)
  unfold Little_judged
  simp only [gr_s, okb, c.2.2.1.1, li_5, si_5, o4, k4, L, Nat.reducePow, Nat.reduceLT]
  have a1 : K4 [5] h (sI h 4 5 (hI h 4 5 + 1)) := K4_b
  have z1 : hz (sI h 4 5 (hI h 4 5 + 1)) = hz h ∧ hs (sI h 4 5 (hI h 4 5 + 1)) = hs h ∧ hR (sI h 4 5 (hI h 4 5 + 1)) = hR h := ⟨rfl, rfl, rfl⟩
  generalize sI h 4 5 (hI h 4 5 + 1) = h1 at a1 z1
  have j1 := Jd_K j a1
  have okb1 : ok h1 [1] b = true := CM_ok j1.2.1 (by rw [k1]; decide)
  obtain ⟨x, h2, e2, a2, g2, an1, an2⟩ := plain_J hN j1 (by omega)
  rw [ck_s okb1, e2, cl_s]
  have j2 := Jd_K j1 a2
  have okb2 : ok h2 [1] b = true := CM_ok j2.2.1 (by rw [k1]; decide)
  have gs : G0 h h2 := ⟨by rw [g2.1, z1.1], by rw [g2.2.1, z1.2.1], by rw [g2.2.2, z1.2.2]⟩
  rcases hl : ln d with _ | M
  · rw [an1 hl, if_neg (by decide), if_pos rfl]
    exact ⟨-1, h2, rfl, (show K4 [5, 2, 0] h h2 from K4_t a1 a2), gs, fun _ => rfl, fun M q => (by rw [hl] at q; cases q)⟩
  · obtain ⟨q, q1, q2⟩ := an2 M hl
    rw [q2, if_pos (q01 q), ds_1 okb2, plain_lead_s j2.1 j2.2.1 (by omega), cl_s, if_neg (by simp)]
    have a3 : K4 [0] h2 (sI h2 4 0 (hI h2 4 0 + 1)) := K4_b
    have z3 : hz (sI h2 4 0 (hI h2 4 0 + 1)) = hz h2 ∧ hs (sI h2 4 0 (hI h2 4 0 + 1)) = hs h2 ∧ hR (sI h2 4 0 (hI h2 4 0 + 1)) = hR h2 := ⟨rfl, rfl, rfl⟩
    generalize sI h2 4 0 (hI h2 4 0 + 1) = h3 at a3 z3
    have j3 := Jd_K j2 a3
    have okb3 : ok h3 [1] b = true := CM_ok j3.2.1 (by rw [k1]; decide)
    obtain ⟨ld', -⟩ := Jd_Ld j3 (by omega) hl
    have hM := ld'.2.2.2.2.2.1
    obtain ⟨r, r1, r2⟩ := little_loop (N := N) j.2.2.1.1 j.2.2.1.2 okb3 j3.2.1.2.2.2.1.1 ld' M N 0 (by omega) (by omega)
    rw [ds_1 okb3, show Little_trebleKeepsOffLastPlace N (some b) (some (b + 1)) h3 = _ from r2, cl_s, both_J]
    refine ⟨_, h3, rfl, K4_t (K4_t a1 a2) a3, ⟨by rw [z3.1]; exact gs.1, by rw [z3.2.1]; exact gs.2.1, by rw [z3.2.2]; exact gs.2.2⟩, fun w => (by rw [hl] at w; cases w), fun M' e => ⟨q && r, ?_, rfl⟩⟩
    rw [hl] at e; cases e
    rw [Bool.and_eq_true, q1, r1]
    exact ⟨fun w => ⟨w.1, fun k hk => w.2 k (by omega) hk⟩, fun w => ⟨w.1, fun k _ hk => w.2 k hk⟩⟩
theorem na_13 {β : Type} {h : Hp} {f : Option Nat → Hp → Option β} : na 13 13 h f = f (some (hz h)) (nwO h 13 13) := by
  unfold na
  rw [if_pos (by decide)]
  rfl
theorem ds_2 {β : Type} {b n : Nat} {d : Md} {bs : Nat → Nat} {h : Hp} {F : Option β} (hM : CM h b n d bs) (k : kd d = 2 ∨ kd d = 3) : ds [(7, F), (10, F)] (some b) h = F := by
  have h1 : b < hz h := ok_lt (CM_ok hM kc_in)
  rw [ds_a h1 hM.2.1.1]
  rcases k with q | q <;> rw [q] <;> rfl
theorem Ld_G {h h' : Hp} {y yc n M : Nat} {f : Nat → Nat} {P Q : Nat → Nat → Prop} (l : Ld h y yc n M f) (x : Gx P Q nF h h') (p : ∀ k, ¬ P y k) (p' : ∀ k, ¬ P yc k) : Ld h' y yc n M f := by
  obtain ⟨l1, l2, l3, l4, l5, l6, l7, l8⟩ := l
  have y1 := ok_lt l1
  have y2 := ok_lt l2
  exact ⟨ok_g x l1, ok_g x l2, by rw [x.2.1 _ y2]; exact l3, by rw [x.2.2.2.2 _ _ y1 (fun c => c)]; exact l4, by rw [x.2.2.1 _ _ y1 (p _)]; exact l5, l6, fun k hk => by rw [x.2.2.1 _ _ y2 (p' _)]; exact l7 k hk, l8⟩
theorem even_J {N b n M : Nat} {d : Md} {bs : Nat → Nat} {h : Hp} (hN : 200 < N) (j : Jd h b n d bs) (k23 : kd d = 2 ∨ kd d = 3) (hl : ln d = some M) : ∃ (q : Bool) (h' : Hp), (q = true ↔ Ev (ld d) M n) ∧ Treble_trebleIsAsOftenAtEachPlace N (some b) (some (b + 1)) h = some (qI q, h') ∧ K4 [] h h' ∧ hz h' = hz h + 1 ∧ hs h' = hs h + 13 ∧ hR h' 20 = hR h 20 := by
  have tk : kc' (kd d) ∈ [7, 10] := by rcases k23 with q | q <;> rw [q] <;> decide
  obtain ⟨l, -⟩ := Jd_Ld j (by omega) hl
  have y1 := ok_lt l.1
  have y2 := ok_lt l.2.1
  have ob := CM_ok j.2.1 tk
  have bz := ok_lt ob
  have hM := l.2.2.2.2.2.1
  have z := j.1.1
  have x := Gx_nw nF nF nF h 13 13
  obtain ⟨q, h', a1, a2, a3⟩ := even_1 (N := N) (n := n) (b := b) (g := hz h) (by omega) j.2.2.1.1 j.2.2.1.2 ⟨by omega, by omega, by omega⟩ M N 0 (nwO h 13 13) (by omega) (by omega) (Ld_G l x (fun _ c => c) (fun _ c => c)) (ok_g x ob) (by rw [nw_I bz]; exact j.2.1.2.2.2.1.1) (ok_K (by rw [nw_z]; omega) (nw_K0 h 13 13)) (nw_K0 h 13 13) (fun a _ => nw_I0 ..)
  have g : Gx P4 nF nF h h' := ⟨by rw [Fx_z a3, nw_z]; omega, fun a ha => by rw [Fx_K a3, nwK ha], fun a k ha n4 => by rw [Fx_I a3 (by omega), nw_I ha], fun a k ha _ => by rw [Fi_L a3, nw_L ha], fun a k ha _ => by rw [Fx_R a3, nw_R ha]⟩
  refine ⟨q, h', a1, ?_, ⟨g, ?_⟩, by rw [Fx_z a3, nw_z], by rw [Fx_s a3, nw_s], by rw [Fx_R a3, nw_R (by omega)]⟩
  · unfold Treble_trebleIsAsOftenAtEachPlace
    rw [na_13]
    exact a2
  · rw [Fx_row a3 (by omega), nw_I (by omega)]; rfl
theorem treble_J {N b n : Nat} {d : Md} {bs : Nat → Nat} {h : Hp} (hN : 200 < N) (j : Jd h b n d bs) (k23 : kd d = 2 ∨ kd d = 3) : ∃ x h', Treble_judged N (some b) h = some (x, h') ∧ K4 ([8, 2, 0] ++ if ln d = none then [] else [0]) h h' ∧ Gs h h' ∧ Ans d (fun M => tpl (ld d) M = 0 ∧ Ev (ld d) M n) x := by
  have L := j.1
  have c := j.2.1
  have tk : kc' (kd d) ∈ [7, 10] := by rcases k23 with q | q <;> rw [q] <;> decide
  have okb : ok h [7, 10] b = true := CM_ok c tk
  unfold Treble_judged
  simp only [gr_s, okb, c.2.2.1.1, li_8, si_8, o4, k4, L, Nat.reducePow, Nat.reduceLT]
  have a1 : K4 [8] h (sI h 4 8 (hI h 4 8 + 1)) := K4_b
  have z1 : hz (sI h 4 8 (hI h 4 8 + 1)) = hz h ∧ hs (sI h 4 8 (hI h 4 8 + 1)) = hs h ∧ hR (sI h 4 8 (hI h 4 8 + 1)) = hR h := ⟨rfl, rfl, rfl⟩
  generalize sI h 4 8 (hI h 4 8 + 1) = h1 at a1 z1
  have j1 := Jd_K j a1
  have okb1 : ok h1 [7, 10] b = true := CM_ok j1.2.1 tk
  obtain ⟨x, h2, e2, a2, g2, an1, an2⟩ := plain_J hN j1 (by omega)
  rw [ck_s okb1, e2, cl_s]
  have j2 := Jd_K j1 a2
  have gs : G0 h h2 := ⟨by rw [g2.1, z1.1], by rw [g2.2.1, z1.2.1], by rw [g2.2.2, z1.2.2]⟩
  rcases hl : ln d with _ | M
  · rw [an1 hl, if_neg (by decide), if_pos rfl]
    exact ⟨-1, h2, rfl, (show K4 [8, 2, 0] h h2 from K4_t a1 a2), ⟨by rw [gs.1]; omega, by rw [gs.2.1]; omega, gs.2.2⟩, fun _ => rfl, fun M q => (by rw [hl] at q; cases q)⟩
  · obtain ⟨q, q1, q2⟩ := an2 M hl
    rw [q2, if_pos (q01 q), ds_2 j2.2.1 k23, plain_lead_s j2.1 j2.2.1 (by omega), cl_s, if_neg (by simp)]
    have a3 : K4 [0] h2 (sI h2 4 0 (hI h2 4 0 + 1)) := K4_b
    have z3 : hz (sI h2 4 0 (hI h2 4 0 + 1)) = hz h2 ∧ hs (sI h2 4 0 (hI h2 4 0 + 1)) = hs h2 ∧ hR (sI h2 4 0 (hI h2 4 0 + 1)) = hR h2 := ⟨rfl, rfl, rfl⟩
    generalize sI h2 4 0 (hI h2 4 0 + 1) = h3 at a3 z3
    have j3 := Jd_K j2 a3
    obtain ⟨r, h4, r1, r2, r3, r4, r5, r6⟩ := even_J hN j3 k23 hl
    rw [ds_2 j3.2.1 k23, r2, cl_s, both_J]
    refine ⟨_, h4, rfl, ?_, ⟨by rw [r4, z3.1, gs.1]; omega, by rw [r5, z3.2.1, gs.2.1]; omega, by rw [r6, z3.2.2]; exact gs.2.2⟩, fun w => (by rw [hl] at w; cases w), fun M' e => ⟨q && r, ?_, rfl⟩⟩
    · have := K4_t (K4_t (K4_t a1 a2) a3) r3
      rw [List.append_nil] at this
      exact this
    · rw [hl] at e; cases e
      rw [Bool.and_eq_true, q1, r1]
theorem surp_J {N b n : Nat} {d : Md} {bs : Nat → Nat} {h : Hp} (hN : 200 < N) (j : Jd h b n d bs) (k3 : kd d = 3) : ∃ x h', Surprise_judged N (some b) h = some (x, h') ∧ K4 ([11, 8, 2, 0] ++ if ln d = none then [] else [0, 0]) h h' ∧ Gs h h' ∧ Ans d (fun M => (tpl (ld d) M = 0 ∧ Ev (ld d) M n) ∧ Su (ld d) M n) x := by
  have L := j.1
  have c := j.2.1
  have okb : ok h [7] b = true := CM_ok c (by rw [k3]; decide)
  unfold Surprise_judged
  simp only [gr_s, okb, c.2.2.1.1, li_11, si_11, o4, k4, L, Nat.reducePow, Nat.reduceLT]
  have a1 : K4 [11] h (sI h 4 11 (hI h 4 11 + 1)) := K4_b
  have z1 : hz (sI h 4 11 (hI h 4 11 + 1)) = hz h ∧ hs (sI h 4 11 (hI h 4 11 + 1)) = hs h ∧ hR (sI h 4 11 (hI h 4 11 + 1)) = hR h := ⟨rfl, rfl, rfl⟩
  generalize sI h 4 11 (hI h 4 11 + 1) = h1 at a1 z1
  have j1 := Jd_K j a1
  have okb1 : ok h1 [7] b = true := CM_ok j1.2.1 (by rw [k3]; decide)
  obtain ⟨x, h2, e2, a2, g2, an1, an2⟩ := treble_J hN j1 (Or.inr k3)
  rw [ck_s okb1, e2, cl_s]
  have j2 := Jd_K j1 a2
  have okb2 : ok h2 [7] b = true := CM_ok j2.2.1 (by rw [k3]; decide)
  have gs : Gs h h2 := ⟨by have := g2.1; rw [z1.1] at this; exact this, by have := g2.2.1; rw [z1.2.1] at this; exact this, by rw [g2.2.2, z1.2.2]⟩
  rcases hl : ln d with _ | M
  · rw [hl] at a2
    rw [an1 hl, if_neg (by decide), if_pos rfl]
    exact ⟨-1, h2, rfl, (show K4 [11, 8, 2, 0] h h2 from K4_t a1 a2), gs, fun _ => rfl, fun M q => (by rw [hl] at q; cases q)⟩
  · obtain ⟨q, q1, q2⟩ := an2 M hl
    rw [hl] at a2
    rw [q2, if_pos (q01 q), ds_1 okb2, plain_lead_s j2.1 j2.2.1 (by omega), cl_s, if_neg (by simp)]
    have a3 : K4 [0] h2 (sI h2 4 0 (hI h2 4 0 + 1)) := K4_b
    have z3 : hz (sI h2 4 0 (hI h2 4 0 + 1)) = hz h2 ∧ hs (sI h2 4 0 (hI h2 4 0 + 1)) = hs h2 ∧ hR (sI h2 4 0 (hI h2 4 0 + 1)) = hR h2 := ⟨rfl, rfl, rfl⟩
    generalize sI h2 4 0 (hI h2 4 0 + 1) = h3 at a3 z3
    have j3 := Jd_K j2 a3
    have okb3 : ok h3 [7] b = true := CM_ok j3.2.1 (by rw [k3]; decide)
    obtain ⟨ld', -⟩ := Jd_Ld j3 (by omega) hl
    have hM := ld'.2.2.2.2.2.1
    obtain ⟨r, r1, r2⟩ := surp_loop (N := N) j.2.2.1.1 j.2.2.1.2 okb3 j3.2.1.2.2.2.1.1 ld' M N 0 (by omega) (by omega)
    rw [ds_1 okb3, show Surprise_hasPlacesWhereTrebleCrosses N (some b) (some (b + 1)) h3 = _ from r2, cl_s, both_J]
    refine ⟨_, h3, rfl, (show K4 [11, 8, 2, 0, 0, 0] h h3 from K4_t (K4_t a1 a2) a3), ⟨by rw [z3.1]; exact gs.1, by rw [z3.2.1]; exact gs.2.1, by rw [z3.2.2]; exact gs.2.2⟩, fun w => (by rw [hl] at w; cases w), fun M' e => ⟨q && r, ?_, rfl⟩⟩
    rw [hl] at e; cases e
    rw [Bool.and_eq_true, q1, r1]
    exact ⟨fun w => ⟨w.1, fun k hk => w.2 k (by omega) hk⟩, fun w => ⟨w.1, fun k _ hk => w.2 k hk⟩⟩
/-! any method that isn't spliced -/
def jT (d : Md) : List Nat := if kd d = 0 then [2, 0] else if kd d = 1 then [5, 2, 0] ++ (if ln d = none then [] else [0]) else if kd d = 2 then [8, 2, 0] ++ (if ln d = none then [] else [0]) else if kd d = 3 then [11, 8, 2, 0] ++ (if ln d = none then [] else [0, 0]) else [14, 12]
def JB (n : Nat) (d : Md) (M : Nat) : Prop := if kd d = 0 then tpl (ld d) M = 0 else if kd d = 1 then tpl (ld d) M = 0 ∧ ∀ k, k < M → tpl (ld d) (k + 1) + 1 ≠ n else if kd d = 2 then tpl (ld d) M = 0 ∧ Ev (ld d) M n else if kd d = 3 then (tpl (ld d) M = 0 ∧ Ev (ld d) M n) ∧ Su (ld d) M n else ¬ tpl (ld d) M = 0
theorem Gs_0 {h h' : Hp} (g : G0 h h') : Gs h h' := ⟨by rw [g.1]; omega, by rw [g.2.1]; omega, g.2.2⟩
theorem judged_5 {N b n : Nat} {d : Md} {bs : Nat → Nat} {h : Hp} (hN : 200 < N) (j : Jd h b n d bs) (hk : kd d < 5) : ∃ x h', dl [(1, Little_judged N (some b) h), (2, Plain_judged N (some b) h), (3, Principle_judged N (some b) h), (7, Surprise_judged N (some b) h), (10, Treble_judged N (some b) h)] (kc' (kd d)) = some (x, h') ∧ K4 (jT d) h h' ∧ Gs h h' ∧ Ans d (JB n d) x := by
  have : kd d = 0 ∨ kd d = 1 ∨ kd d = 2 ∨ kd d = 3 ∨ kd d = 4 := by omega
  unfold jT
  rcases this with q | q | q | q | q
  · obtain ⟨x, h', e, a, g, an⟩ := plain_J hN j (by omega)
    refine ⟨x, h', by rw [q]; exact e, by rw [if_pos q]; exact a, Gs_0 g, an.1, fun M hM => ?_⟩
    unfold JB; rw [if_pos q]; exact an.2 M hM
  · obtain ⟨x, h', e, a, g, an⟩ := little_J hN j q
    refine ⟨x, h', by rw [q]; exact e, by rw [if_neg (by omega), if_pos q]; exact a, Gs_0 g, an.1, fun M hM => ?_⟩
    unfold JB; rw [if_neg (by omega), if_pos q]; exact an.2 M hM
  · obtain ⟨x, h', e, a, g, an⟩ := treble_J hN j (Or.inl q)
    refine ⟨x, h', by rw [q]; exact e, by rw [if_neg (by omega), if_neg (by omega), if_pos q]; exact a, g, an.1, fun M hM => ?_⟩
    unfold JB; rw [if_neg (by omega), if_neg (by omega), if_pos q]; exact an.2 M hM
  · obtain ⟨x, h', e, a, g, an⟩ := surp_J hN j q
    refine ⟨x, h', by rw [q]; exact e, by rw [if_neg (by omega), if_neg (by omega), if_neg (by omega), if_pos q]; exact a, g, an.1, fun M hM => ?_⟩
    unfold JB; rw [if_neg (by omega), if_neg (by omega), if_neg (by omega), if_pos q]; exact an.2 M hM
  · obtain ⟨x, h', e, a, g, an⟩ := princ_J hN j q
    refine ⟨x, h', by rw [q]; exact e, by rw [if_neg (by omega), if_neg (by omega), if_neg (by omega), if_neg (by omega)]; exact a, Gs_0 g, an.1, fun M hM => ?_⟩
    unfold JB; rw [if_neg (by omega), if_neg (by omega), if_neg (by omega), if_neg (by omega)]; exact an.2 M hM
