/-! PURE: the class's called leads -/
theorem Fx_row {P Q : Nat → Nat → Prop} {h h1 : Hp} (f : Fx P Q h h1) {a : Nat} (n : ∀ k, ¬ P a k) : hI h1 a = hI h a := funext fun k => f.2.2.2.2.1 a k (n k)
theorem CM_f {h h' : Hp} {b n : Nat} {d : Md} {bs : Nat → Nat} (c : CM h b n d bs) {P Q : Nat → Nat → Prop} (f : Fx P Q h h') (e : ∀ a, b ≤ a → a < b + 5 → ∀ k, ¬ P a k) : CM h' b n d bs := by
  unfold CM at c ⊢
  rw [Fx_K f, Fx_R f, Fx_z f, Fx_row f (e b (by omega) (by omega)), Fx_row f (e (b + 1) (by omega) (by omega)), Fx_row f (e (b + 2) (by omega) (by omega)), Fx_row f (e (b + 3) (by omega) (by omega)), Fx_row f (e (b + 4) (by omega) (by omega))]
  exact c
theorem CM_64 {h : Hp} {b n : Nat} {d : Md} {bs : Nat → Nat} (c : CM h b n d bs) : 64 ≤ b := c.1.1
theorem LO_f {h h' : Hp} {o oc : Nat} (l : LO h o oc) {P Q : Nat → Nat → Prop} (f : Fx P Q h h') : LO h' o oc := by
  unfold LO at l ⊢
  rw [Fx_K f, Fx_R f, Fx_z f, Fx_ok f]
  exact l
def P4 (a k : Nat) : Prop := a = 4
theorem bump_s {h : Hp} {j : Nat} : Fi P4 h (sI h 4 j (hI h 4 j + 1)) ∧ hI (sI h 4 j (hI h 4 j + 1)) 4 = bm (hI h 4) [j] := ⟨Fx_sI h _ rfl, sI_row ..⟩
theorem plain_lead_s {N b n : Nat} {i : Int32} {d : Md} {bs : Nat → Nat} {h : Hp} (L : Lay h) (hM : CM h b n d bs) (k3 : kd d ≤ 3) : Plain_leadOf N (some b) i h = some (some (b + 1), sI h 4 0 (hI h 4 0 + 1)) := by
  have okb : ok h [1, 2, 7, 10] b = true := CM_ok hM (by rcases kc_le3 k3 with q | q | q | q <;> rw [q] <;> decide)
  unfold Plain_leadOf
  simp only [gr_s, okb, hM.2.2.1.1, hM.2.2.1.2.1, li_0, si_0, o4, k4, L, ok_sI, hR_sI, Nat.reducePow, Nat.reduceLT]
theorem princ_lead_s {N b n : Nat} {i : Int32} {d : Md} {bs : Nat → Nat} {h : Hp} (L : Lay h) (hM : CM h b n d bs) (k3 : kd d = 4) : Principle_leadOf N (some b) i h = some (some (b + 1), sI h 4 12 (hI h 4 12 + 1)) := by
  have okb : ok h [3] b = true := CM_ok hM (by rw [k3]; decide)
  unfold Principle_leadOf
  simp only [gr_s, okb, hM.2.2.1.1, hM.2.2.1.2.1, li_12, si_12, o4, k4, L, ok_sI, hR_sI, Nat.reducePow, Nat.reduceLT]
def kcs (d : Md) : Prop := kc' (kd d) = 1 ∨ kc' (kd d) = 2 ∨ kc' (kd d) = 7 ∨ kc' (kd d) = 10
theorem ds_4 {β : Type} {b n : Nat} {d : Md} {bs : Nat → Nat} {h : Hp} {F : Option β} (hM : CM h b n d bs) (k3 : kd d ≤ 3) : ds [(1, F), (2, F), (7, F), (10, F)] (some b) h = F := by
  have h1 : b < hz h := ok_lt (CM_ok hM kc_in)
  rw [ds_a h1 hM.2.1.1]
  rcases kc_le3 k3 with q | q | q | q <;> rw [q] <;> rfl
/-- the trace counts T, the rest as KR says -/
def KT (o oc : Nat) (T : List Nat) (R : Nat × Nat × (Nat → Nat)) (h h' : Hp) (x : Int32) : Prop := KR (PC o oc) o oc R h h' x ∧ hI h' 4 = bm (hI h 4) T
theorem KT_pre {o oc : Nat} {T T' : List Nat} {R : Nat × Nat × (Nat → Nat)} {h h1 h' : Hp} {x : Int32} (f : Fi P4 h h1) (e : hI h1 4 = bm (hI h 4) T) (r : KT o oc T' R h1 h' x) : KT o oc (T ++ T') R h h' x := by
  obtain ⟨⟨r1, r2, r3⟩, r4⟩ := r
  exact ⟨⟨Fx_t (Fx_m f (fun a k p => Or.inl p) (fun _ _ p => p)) r1, r2, r3⟩, by rw [r4, e, ← bm_app]⟩
def Dj (b o : Nat) : Prop := o + 1 ≤ b ∨ b + 5 ≤ o
theorem KT_w {o oc : Nat} {R : Nat × Nat × (Nat → Nat)} {h h' : Hp} {x : Int32} (do0 : o ≠ 4 ∧ oc ≠ 4) (r : KR (PW o oc) o oc R h h' x) : KT o oc [] R h h' x := by
  obtain ⟨r1, r2, r3⟩ := r
  exact ⟨⟨Fx_m r1 (fun a k p => Or.inr p) (fun _ _ p => p), r2, r3⟩, Fx_row r1 (fun k => by unfold PW; omega)⟩
theorem plainCalled_s {N b n c o oc : Nat} {i : Int32} {d : Md} {bs : Nat → Nat} {pp : Option Nat} {P : Int32} {h : Hp} (L : Lay h) (hM : CM h b n d bs) (w2 : ∀ M, ln d = some M → M ≤ 100) (k3 : kd d ≤ 3) (hc : c ≤ 2) (hl : LO h o oc) (do0 : o ≠ 4 ∧ oc ≠ 4) (do1 : Dj b o) (do2 : Dj b oc) (hcp : ∀ c p, cp d c = some p → p < 2 ^ 31) (hP : (pp = none ∧ P < 0) ∨ ∃ p, pp = some p ∧ p < 2 ^ 31 ∧ P = nI p) : ∃ x h', Plain_plainCalled N (some b) i (nI c) P (some o) h = some (x, h') ∧ KT o oc [1, 0] (wR d c pp) h h' x := by
  have okb : ok h [1, 2, 7, 10] b = true := CM_ok hM (by rcases kc_le3 k3 with q | q | q | q <;> rw [q] <;> decide)
  have hb := CM_64 hM
  unfold Plain_plainCalled
  simp only [gr_s, okb, hM.2.2.1.1, li_1, si_1, o4, k4, L, Nat.reducePow, Nat.reduceLT]
  obtain ⟨f1, t1⟩ := bump_s (h := h) (j := 1)
  generalize sI h 4 1 (hI h 4 1 + 1) = h1 at f1 t1
  have L1 := Fx_Lay f1 L
  have hM1 := CM_f hM f1 (by intro a h1 h2 k; unfold P4; omega)
  rw [ds_4 hM1 k3, plain_lead_s L1 hM1 k3, cl_s]
  obtain ⟨f2, t2⟩ := bump_s (h := h1) (j := 0)
  generalize sI h1 4 0 (hI h1 4 0 + 1) = h2 at f2 t2
  have hM2 := CM_f hM1 f2 (by intro a h1 h2 k; unfold P4; omega)
  rw [ds_4 hM2 k3]
  obtain ⟨x, h', e1, e2⟩ := withCall_s (N := N) hM2 w2 (by omega) hc (LO_f hl (Fx_t f1 f2)) do1 do2 hcp hP
  rw [e1, cl_s]
  refine ⟨x, h', rfl, ?_⟩
  exact KT_pre (T := [1]) f1 t1 (KT_pre (T := [0]) f2 t2 (KT_w do0 e2))
/-- a place told by a number, or none below nought -/
def pI (P : Int32) (pp : Option Nat) : Prop := (pp = none ∧ P < 0) ∨ ∃ p, pp = some p ∧ p < 2 ^ 31 ∧ P = nI p
theorem pI_o {po : Option Nat} (h : ∀ p, po = some p → p < 2 ^ 31) : pI (oI po) po := by
  cases po with
  | none => exact Or.inl ⟨rfl, by decide⟩
  | some p => exact Or.inr ⟨p, rfl, h p rfl, rfl⟩
theorem cp_row {h : Hp} {b n c : Nat} {d : Md} {bs : Nat → Nat} (hM : CM h b n d bs) (hc : c ≤ 2) : hI h (b + 3) c = if c = 0 then -1 else oI (cp d c) := by
  by_cases c0 : c = 0
  · subst c0; exact hM.2.2.2.2.2.2.1.1
  · rw [if_neg c0]; exact hM.2.2.2.2.2.2.1.2 c (by omega) hc
/-- all that a called lead of one method needs -/
def Rdy (h : Hp) (b n : Nat) (d : Md) (bs : Nat → Nat) (o oc : Nat) : Prop :=
  Lay h ∧ CM h b n d bs ∧ (∀ M, ln d = some M → M ≤ 100) ∧ LO h o oc ∧ (o ≠ 4 ∧ oc ≠ 4) ∧ Dj b o ∧ Dj b oc ∧ (∀ c p, cp d c = some p → p < 2 ^ 31)
theorem Rdy_4 {h h' : Hp} {b n : Nat} {d : Md} {bs : Nat → Nat} {o oc : Nat} (r : Rdy h b n d bs o oc) (f : Fi P4 h h') : Rdy h' b n d bs o oc := by
  obtain ⟨r1, r2, r3, r4, r5⟩ := r
  have hb := CM_64 r2
  exact ⟨Fx_Lay f r1, CM_f r2 f (by intro a h1 h2 k; unfold P4; omega), r3, LO_f r4 f, r5⟩
theorem ok_3 {h : Hp} {b n : Nat} {d : Md} {bs : Nat → Nat} (c : CM h b n d bs) : ok h [13] (b + 3) = true := by
  have := c.1.2
  have h2 : 5 ≤ bw d := by unfold bw; split <;> omega
  exact ok_K (by omega) c.2.1.2.2.2.1
theorem plain_called_s {N b n c o oc : Nat} {i : Int32} {d : Md} {bs : Nat → Nat} {h : Hp} (r : Rdy h b n d bs o oc) (hk : kd d = 0 ∨ kd d = 2) (hc : c ≤ 2) : ∃ x h', Plain_calledOf N (some b) i (nI c) (some o) h = some (x, h') ∧ KT o oc (cT d c) (cR d c) h h' x := by
  obtain ⟨L, hM, w2, hl, d0, d1, d2, hcp⟩ := r
  have okb : ok h [1, 2, 7, 10] b = true := CM_ok hM (by rcases kc_le3 (show kd d ≤ 3 by omega) with q | q | q | q <;> rw [q] <;> decide)
  have ok3 := ok_3 hM
  unfold Plain_calledOf
  have K3 := hM.2.1.2.2.2.1
  have cl3 : c < 3 := by omega
  simp only [gr_s, okb, hM.2.2.1.2.2.1, li_s, ok3, K3, cl3, Nat.reducePow, Nat.reduceLT, cp_row hM hc]
  rw [ds_4 hM (by omega)]
  obtain ⟨x, h', e1, e2⟩ := plainCalled_s (N := N) (i := i) (c := c) (pp := if c = 0 then none else cp d c) (P := if c = 0 then -1 else oI (cp d c)) L hM w2 (by omega) hc hl d0 d1 d2 hcp (by
    by_cases c0 : c = 0
    · rw [if_pos c0, if_pos c0]; exact Or.inl ⟨rfl, by decide⟩
    · rw [if_neg c0, if_neg c0]; exact pI_o (hcp c))
  rw [e1, cl_s]
  refine ⟨x, h', rfl, ?_⟩
  have t : cT d c = [1, 0] := by simp [cT, tT, lT, show kd d ≠ 1 by omega, show kd d ≠ 3 by omega, show kd d ≠ 4 by omega]
  have q : wR d c (if c = 0 then none else cp d c) = cR d c := by
    unfold wR cR tR
    cases ln d with
    | none => rfl
    | some M =>
      have ec : c1 d c = c := by simp [c1, show kd d ≠ 1 by omega]
      have k4 : kd d ≠ 4 := by omega
      dsimp only
      rw [ec]
      by_cases c0 : c = 0
      · rw [if_pos c0, if_pos c0]
      · rw [if_neg c0, if_neg c0, if_neg c0]
        cases cp d c with
        | none => rfl
        | some p => simp [p1, show kd d ≠ 3 by omega, k4]
  rw [t, ← q]
  exact e2
theorem little_called_s {N b n c o oc : Nat} {i : Int32} {d : Md} {bs : Nat → Nat} {h : Hp} (r : Rdy h b n d bs o oc) (hk : kd d = 1) (hc : c ≤ 2) : ∃ x h', Little_calledOf N (some b) i (nI c) (some o) h = some (x, h') ∧ KT o oc (cT d c) (cR d c) h h' x := by
  have okb : ok h [1] b = true := CM_ok r.2.1 (by rw [hk]; decide)
  unfold Little_calledOf
  simp only [gr_s, okb, r.2.1.2.2.1.1, li_4, si_4, o4, k4, r.1, Nat.reducePow, Nat.reduceLT]
  obtain ⟨f1, t1⟩ := bump_s (h := h) (j := 4)
  generalize sI h 4 4 (hI h 4 4 + 1) = h1 at f1 t1
  have r1 := Rdy_4 r f1
  have okb1 : ok h1 [1] b = true := CM_ok r1.2.1 (by rw [hk]; decide)
  have t : cT d c = [4] ++ [1, 0] := by simp [cT, tT, lT, hk]
  have go : ∀ c', c' ≤ 2 → c' = c1 d c → ∃ x h', Little_calledOf_29 N (some b) i (some o) (nI c') h1 = some (x, h') ∧ KT o oc (cT d c) (cR d c) h h' x := by
    intro c' hc' ec
    obtain ⟨L, hM, w2, hl, d0, d1, d2, hcp⟩ := r1
    have ok3 := ok_3 hM
    unfold Little_calledOf_29
    have K3 := hM.2.1.2.2.2.1
    have cl3 : c' < 3 := by omega
    simp only [gr_s, okb1, hM.2.2.1.2.2.1, li_s, ok3, K3, cl3, Nat.reducePow, Nat.reduceLT, cp_row hM hc']
    rw [ds_1 okb1]
    obtain ⟨x, h', e1, e2⟩ := plainCalled_s (N := N) (i := i) (c := c') (pp := if c' = 0 then none else cp d c') (P := if c' = 0 then -1 else oI (cp d c')) L hM w2 (by omega) hc' hl d0 d1 d2 hcp (by
      by_cases c0 : c' = 0
      · rw [if_pos c0, if_pos c0]; exact Or.inl ⟨rfl, by decide⟩
      · rw [if_neg c0, if_neg c0]; exact pI_o (hcp c'))
    rw [e1, cl_s]
    refine ⟨x, h', rfl, ?_⟩
    have q : wR d c' (if c' = 0 then none else cp d c') = cR d c := by
      unfold wR cR tR
      rw [← ec]
      cases ln d with
      | none => rfl
      | some M =>
        have k4 : kd d ≠ 4 := by omega
        dsimp only
        by_cases c0 : c' = 0
        · rw [if_pos c0, if_pos c0]
        · rw [if_neg c0, if_neg c0, if_neg c0]
          cases cp d c' with
          | none => rfl
          | some p => simp [p1, show kd d ≠ 3 by omega, k4]
    rw [t, ← q]
    exact KT_pre f1 t1 e2
  by_cases c2 : c = 2
  · subst c2
    rw [if_pos (cN_2)]
    obtain ⟨L, hM, w2, hl, d0, d1, d2, hcp⟩ := r1
    have ok3 := ok_3 hM
    have K3 := hM.2.1.2.2.2.1
    simp only [gr_s, okb1, hM.2.2.1.2.2.1, li_2, ok3, K3, Nat.reducePow, Nat.reduceLT, hM.2.2.2.2.2.2.1.2 2 (by decide) (by decide)]
    cases hcc : cp d 2 with
    | none =>
      rw [if_neg (by decide)]
      exact go 1 (by decide) (by simp [c1, hk, hcc])
    | some p =>
      rw [if_pos (show (0 : Int32) ≤ oI (some p) from (Nle_0 (hcp 2 p hcc)).mpr (Nat.zero_le _))]
      exact go 2 (by decide) (by simp [c1, hcc])
  · rw [if_neg (fun e => c2 ((eN_2 (by omega)).mp e))]
    exact go c hc (by simp [c1, c2])
theorem surprise_called_s {N b n c o oc : Nat} {i : Int32} {d : Md} {bs : Nat → Nat} {h : Hp} (r : Rdy h b n d bs o oc) (hk : kd d = 3) (hc : c ≤ 2) : ∃ x h', Surprise_calledOf N (some b) i (nI c) (some o) h = some (x, h') ∧ KT o oc (cT d c) (cR d c) h h' x := by
  have okb : ok h [7] b = true := CM_ok r.2.1 (by rw [hk]; decide)
  unfold Surprise_calledOf
  simp only [gr_s, okb, r.2.1.2.2.1.1, li_10, si_10, o4, k4, r.1, Nat.reducePow, Nat.reduceLT]
  obtain ⟨f1, t1⟩ := bump_s (h := h) (j := 10)
  generalize sI h 4 10 (hI h 4 10 + 1) = h1 at f1 t1
  have r1 := Rdy_4 r f1
  have okb1 : ok h1 [7] b = true := CM_ok r1.2.1 (by rw [hk]; decide)
  have K3 := r1.2.1.2.1.2.2.2.1
  have cl3 : c < 3 := by omega
  simp only [gr_s, okb1, r1.2.1.2.2.1.2.2.1, li_s, ok_3 r1.2.1, K3, cl3, Nat.reducePow, Nat.reduceLT, cp_row r1.2.1 hc]
  have go : ∀ (h2 : Hp) (pp : Option Nat) (P : Int32), Rdy h2 b n d bs o oc → pI P pp → ∃ x h', Surprise_calledOf_71 N (some b) i (nI c) (some o) P h2 = some (x, h') ∧ KT o oc [1, 0] (wR d c pp) h2 h' x := by
    intro h2 pp P r2 hP
    unfold Surprise_calledOf_71
    obtain ⟨L, hM, w2, hl, d0, d1, d2, hcp⟩ := r2
    rw [ds_1 (CM_ok hM (by rw [hk]; decide))]
    obtain ⟨x, h', e1, e2⟩ := plainCalled_s (N := N) (i := i) (c := c) L hM w2 (by omega) hc hl d0 d1 d2 hcp hP
    rw [e1, cl_s]
    exact ⟨x, h', rfl, e2⟩
  by_cases c0 : c = 0
  · subst c0
    rw [if_pos (cN_0)]
    obtain ⟨x, h', e1, e2⟩ := go h1 none (-1) r1 (Or.inl ⟨rfl, by decide⟩)
    refine ⟨x, h', e1, ?_⟩
    have q : wR d 0 none = cR d 0 := by
      unfold wR cR tR
      cases ln d with
      | none => rfl
      | some M => simp [c1]
    rw [show cT d 0 = [10] ++ [1, 0] by simp [cT, tT, lT, hk], ← q]
    exact KT_pre f1 t1 e2
  · rw [if_neg (fun e => c0 ((eN_0 (by omega)).mp e)), if_neg c0, ds_1 okb1, plain_lead_s r1.1 r1.2.1 (by omega), cl_s]
    obtain ⟨f2, t2⟩ := bump_s (h := h1) (j := 0)
    generalize sI h1 4 0 (hI h1 4 0 + 1) = h2 at f2 t2
    have r2 := Rdy_4 r1 f2
    have ok1 : ok h2 [0] (b + 1) = true := by
      have := r2.2.1.1.2
      have h2 : 5 ≤ bw d := by unfold bw; split <;> omega
      exact ok_K (by omega) r2.2.1.2.1.2.1
    have hcp := r.2.2.2.2.2.2.2
    rw [gi_s ok1]
    have ec : c1 d c = c := by simp [c1, hk]
    have k4 : kd d ≠ 4 := by omega
    unfold cR
    cases hl : ln d with
    | none =>
      have e := (r2.2.1.2.2.2.2.2.1 hl).2
      rw [if_neg (show kd d ≠ 5 by omega)] at e
      rw [e, if_neg (by decide), gi_s ok1, e]
      refine ⟨_, _, rfl, ?_⟩
      rw [show cT d c = [10] ++ ([0] ++ []) by simp [cT, lT, hk, c0, hl]]
      exact KT_pre f1 t1 (KT_pre f2 t2 ⟨⟨Fx_r _ _ _, rfl, by simp⟩, rfl⟩)
    | some M =>
      obtain ⟨e2, e1, -⟩ := r2.2.1.2.2.2.2.1 M hl
      have hM1 := r.2.2.1 M hl
      rw [e2, if_pos rfl, gi_s ok1, e1]
      have t : cT d c = [10] ++ ([0] ++ [1, 0]) := by simp [cT, tT, lT, hk, c0, hl]
      have fin : ∀ (pp : Option Nat) (P : Int32), pI P pp → wR d c pp = tR d (c1 d c) ((cp d (c1 d c)).map (p1 d M)) → ∃ x h', Surprise_calledOf_71 N (some b) i (nI c) (some o) P h2 = some (x, h') ∧ KT o oc (cT d c) (tR d (c1 d c) ((cp d (c1 d c)).map (p1 d M))) h h' x := by
        intro pp P hP hq
        obtain ⟨x, h', g1, g2⟩ := go h2 pp P r2 hP
        refine ⟨x, h', g1, ?_⟩
        rw [t, ← hq]
        exact KT_pre f1 t1 (KT_pre f2 t2 g2)
      dsimp only
      cases hcc : cp d c with
      | none =>
        rw [if_pos (show oI none < nI M by rw [← Int32.not_le]; intro e; exact absurd (Int32.le_trans ((Nle_0 (by omega)).mpr (Nat.zero_le M)) e) (by decide))]
        exact fin none (oI none) (Or.inl ⟨rfl, by decide⟩) (by simp [wR, tR, hl, ec, c0, hcc])
      | some p =>
        have hp := hcp c p hcc
        by_cases pM : p < M
        · rw [if_pos (show oI (some p) < nI M from (nI_ltI hp (by omega)).mpr pM)]
          exact fin (some p) (oI (some p)) (Or.inr ⟨p, rfl, hp, rfl⟩) (by
            have : p1 d M p = p := by unfold p1; rw [if_neg (by omega)]
            simp [wR, tR, hl, ec, c0, hcc, this, k4])
        · rw [if_neg (show ¬ oI (some p) < nI M from fun e => pM ((nI_ltI hp (by omega)).mp e)), gi_s ok1, e1]
          by_cases M0 : M = 0
          · rw [if_pos ((leN_0 (by omega)).mpr (by omega))]
            exact fin (some p) (oI (some p)) (Or.inr ⟨p, rfl, hp, rfl⟩) (by
              have : p1 d M p = p := by unfold p1; rw [if_neg (by omega)]
              simp [wR, tR, hl, ec, c0, hcc, this, k4])
          · rw [if_neg (fun e => M0 (by have := (leN_0 (by omega)).mp e; omega)), gi_s ok1, e1, nmE, sN_1 (by omega)]
            exact fin (some (M - 1)) (nI (M - 1)) (Or.inr ⟨M - 1, rfl, by omega, rfl⟩) (by
              have : p1 d M p = M - 1 := by unfold p1; rw [if_pos (by omega)]
              simp [wR, tR, hl, ec, c0, hcc, this, k4])
theorem princ_called_s {N b n c o oc : Nat} {i : Int32} {d : Md} {bs : Nat → Nat} {h : Hp} (r : Rdy h b n d bs o oc) (hk : kd d = 4) (hc : c ≤ 2) : ∃ x h', Principle_calledOf N (some b) i (nI c) (some o) h = some (x, h') ∧ KT o oc (cT d c) (cR d c) h h' x := by
  have okb : ok h [3] b = true := CM_ok r.2.1 (by rw [hk]; decide)
  unfold Principle_calledOf
  simp only [gr_s, okb, r.2.1.2.2.1.1, li_13, si_13, o4, k4, r.1, Nat.reducePow, Nat.reduceLT]
  obtain ⟨f1, t1⟩ := bump_s (h := h) (j := 13)
  generalize sI h 4 13 (hI h 4 13 + 1) = h1 at f1 t1
  have r1 := Rdy_4 r f1
  have okb1 : ok h1 [3] b = true := CM_ok r1.2.1 (by rw [hk]; decide)
  rw [ds_1 okb1, princ_lead_s r1.1 r1.2.1 hk, cl_s]
  obtain ⟨f2, t2⟩ := bump_s (h := h1) (j := 12)
  generalize sI h1 4 12 (hI h1 4 12 + 1) = h2 at f2 t2
  have r2 := Rdy_4 r1 f2
  have ok1 : ok h2 [0] (b + 1) = true := by
    have := r2.2.1.1.2
    have h2 : 5 ≤ bw d := by unfold bw; split <;> omega
    exact ok_K (by omega) r2.2.1.2.1.2.1
  have okb2 : ok h2 [3] b = true := CM_ok r2.2.1 (by rw [hk]; decide)
  have K3 := r2.2.1.2.1.2.2.2.1
  have cl3 : c < 3 := by omega
  simp only [gi_s, ok1, gr_s, okb2, r2.2.1.2.2.1.2.2.1, li_s, ok_3 r2.2.1, K3, cl3, Nat.reducePow, Nat.reduceLT, cp_row r2.2.1 hc, ds_1]
  have hcp := r.2.2.2.2.2.2.2
  have t : cT d c = [13] ++ ([12] ++ []) := by simp [cT, tT, lT, hk]
  have ec : c1 d c = c := by simp [c1, hk]
  have go : ∀ (pp : Option Nat) (P : Int32), pI P pp → wR d c pp = cR d c → ∃ x h', (cl (Meth_withCall N (some b) (some (b + 1)) (nI c) P (some o) h2) fun x10 h9 => some (x10, h9)) = some (x, h') ∧ KT o oc (cT d c) (cR d c) h h' x := by
    intro pp P hP hq
    obtain ⟨L, hM, w2, hl, d0, d1, d2, -⟩ := r2
    obtain ⟨x, h', e1, e2⟩ := withCall_s (N := N) hM w2 (by omega) hc hl d1 d2 hcp hP
    rw [e1, cl_s]
    refine ⟨x, h', rfl, ?_⟩
    rw [t, ← hq]
    exact KT_pre f1 t1 (KT_pre f2 t2 (KT_w d0 e2))
  have hw := r.2.2.1
  have two : ∀ X : Int32, pI X none ∨ ∃ p, pI X (some p) := by
    intro X
    by_cases h0 : X < 0
    · exact Or.inl (Or.inl ⟨rfl, h0⟩)
    · obtain ⟨p, p1, p2⟩ := nI_of h0
      exact Or.inr ⟨p, Or.inr ⟨p, rfl, p1, p2⟩⟩
  cases hl : ln d with
  | none =>
    rcases two (hI h2 (b + 1) 1 - 1 - if c = 0 then -1 else oI (cp d c)) with q | ⟨p, q⟩
    · exact go _ _ q (by simp [wR, cR, hl])
    · exact go _ _ q (by simp [wR, cR, hl])
  | some M =>
    obtain ⟨-, e1, -⟩ := r2.2.1.2.2.2.2.1 M hl
    have hM1 := hw M hl
    rw [e1]
    by_cases c0 : c = 0
    · have ez : c1 d 0 = 0 := by rw [c0] at ec; exact ec
      rcases two (nI M - 1 - if c = 0 then -1 else oI (cp d c)) with q | ⟨p, q⟩
      · exact go _ _ q (by simp [wR, cR, tR, hl, c0, ez])
      · exact go _ _ q (by simp [wR, cR, tR, hl, c0, ez])
    · rw [if_neg c0]
      cases hcc : cp d c with
      | none =>
        rcases two (nI M - 1 - oI none) with q | ⟨p, q⟩
        · exact go _ _ q (by simp [wR, cR, tR, hl, ec, c0, hcc])
        · exact go _ _ q (by simp [wR, cR, tR, hl, ec, c0, hcc])
      | some p =>
        have hp := hcp c p hcc
        have e3 : p1 d M p = p := by unfold p1; rw [if_neg (by omega)]
        by_cases pM : p < M
        · rw [sN_1 (by omega), show nI (M - 1) - oI (some p) = nI (M - 1 - p) from pk_sub (by omega)]
          exact go (some (M - 1 - p)) _ (Or.inr ⟨M - 1 - p, rfl, by omega, rfl⟩) (by
            have h1 : M - 1 - p < M := by omega
            simp [wR, cR, tR, hl, ec, c0, hcc, e3, hk, pM, h1])
        · refine go none _ (Or.inl ⟨rfl, ?_⟩) (by simp [wR, cR, tR, hl, ec, c0, hcc, e3, pM])
          rw [Int32.lt_iff_toInt_lt]
          have a1 : (nI M - 1 - oI (some p)).toInt = (M : Int) - 1 - p := by
            show (nI M - 1 - nI p).toInt = _
            rw [Int32.toInt_sub, Int32.toInt_sub, nI_toInt (by omega), nI_toInt hp]
            show ((((M : Int) - 1).bmod (2 ^ 32)) - p).bmod (2 ^ 32) = _
            rw [Int.bmod_eq_of_le (n := (M : Int) - 1) (by omega) (by omega), Int.bmod_eq_of_le (by omega) (by omega)]
          rw [a1]
          show (M : Int) - 1 - p < 0
          omega
