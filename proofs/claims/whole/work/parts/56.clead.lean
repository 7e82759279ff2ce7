/-! PURE: the class's leads -/
def kc' (k : Nat) : Nat := if k = 0 then 2 else if k = 1 then 1 else if k = 2 then 10 else if k = 3 then 7 else if k = 4 then 3 else 6
def bw (d : Md) : Nat := if kd d = 5 then 6 else 5
/-- a method as the class has it, at address b -/
def CM (h : Hp) (b n : Nat) (d : Md) (bs : Nat → Nat) : Prop :=
  (64 ≤ b ∧ b + bw d ≤ hz h) ∧ (hK h b = (kc' (kd d), nfl (kc' (kd d))) ∧ hK h (b + 1) = (0, nfl 0) ∧ hK h (b + 2) = (13, 100) ∧ hK h (b + 3) = (13, 3) ∧ hK h (b + 4) = (13, 3) ∧ (kd d = 5 → hK h (b + 5) = (18, 6))) ∧
  (hR h b 1 = some 4 ∧ hR h b 2 = some (b + 1) ∧ hR h b 3 = some (b + 3) ∧ hR h b 4 = some (b + 4) ∧ hR h (b + 1) 0 = some (b + 2) ∧ (kd d = 5 → hR h b 6 = some (b + 5))) ∧
  (hI h b 0 = nI n ∧ hI h b 5 = nI (aw d)) ∧
  (∀ M, ln d = some M → hI h (b + 1) 2 = 0 ∧ hI h (b + 1) 1 = nI M ∧ ∀ k, k < M → hI h (b + 2) k = nI (ld d k)) ∧
  (ln d = none → hI h (b + 1) 1 = 0 ∧ hI h (b + 1) 2 = nI (if kd d = 5 then 7 else 1)) ∧
  (hI h (b + 3) 0 = -1 ∧ ∀ c, 1 ≤ c → c ≤ 2 → hI h (b + 3) c = oI (cp d c)) ∧ (∀ c, 1 ≤ c → c ≤ 2 → cp d c ≠ none → hI h (b + 4) c = nI (cc d c)) ∧
  (kd d = 5 → hI h b 7 = nI (pt d).length ∧ ∀ i, i < (pt d).length → hR h (b + 5) i = some (bs ((pt d).getD i 0)))
/-- a lead object with its changes -/
def LO (h : Hp) (o oc : Nat) : Prop := ok h [0] o = true ∧ hK h oc = (13, 100) ∧ oc < hz h ∧ hR h o 0 = some oc ∧ o ≠ oc
def wR (d : Md) (c : Nat) (pp : Option Nat) : Nat × Nat × (Nat → Nat) := match ln d with
  | none => (1, 0, fun _ => 0)
  | some M => if c = 0 then (0, M, ld d) else match cp d c with
    | none => (1, 0, fun _ => 0)
    | some _ => match pp with
      | none => (2, 0, fun _ => 0)
      | some p => if p < M then (0, M, va_up (ld d) p (cc d c)) else (2, 0, fun _ => 0)
def PC (o oc : Nat) (a k : Nat) : Prop := a = 4 ∨ a = o ∧ (k = 1 ∨ k = 2) ∨ a = oc
def PW (o oc : Nat) (a k : Nat) : Prop := a = o ∧ (k = 1 ∨ k = 2) ∨ a = oc
/-- what the class says of an act that writes a lead -/
def KR (P : Nat → Nat → Prop) (o oc : Nat) (R : Nat × Nat × (Nat → Nat)) (h h' : Hp) (x : Int32) : Prop :=
  Fi P h h' ∧ x = nI R.1 ∧ (R.1 = 0 → hI h' o 1 = nI R.2.1 ∧ ∀ k, k < R.2.1 → hI h' oc k = nI (R.2.2 k))
theorem kc_in {k : Nat} : kc' k ∈ [1, 2, 3, 6, 7, 10] := by
  unfold kc'
  repeat' split
  all_goals decide
theorem CM_ok {h : Hp} {b n : Nat} {d : Md} {bs : Nat → Nat} (c : CM h b n d bs) {ts : List Nat} (ht : kc' (kd d) ∈ ts) : ok h ts b = true := by
  have h1 : b < hz h := by have := c.1.2; unfold bw at this; split at this <;> omega
  simp [ok, h1, c.2.1.1, ht]
theorem ok_K {h : Hp} {a t n : Nat} (hz1 : a < hz h) (hk : hK h a = (t, n)) : ok h [t] a = true := by simp [ok, hz1, hk]
theorem ac_s {β : Type} {a b M : Nat} {h : Hp} {f : Hp → Option β} (oa : ok h [13] a = true) (ob : ok h [13] b = true) (h1 : M ≤ (hK h a).2) (h2 : M ≤ (hK h b).2) (h3 : M < 2 ^ 31) : ac (some a) 0 (some b) 0 (nI M) h f = f (sC h b (va_cpy (hI h a) (hI h b) 0 0 M)) := by
  simp only [ac]
  rw [if_pos, nI_clamp (by omega)]
  · rfl
  · refine ⟨⟨oa, ob⟩, ⟨by decide, by decide, nI_pos h3⟩, ?_, ?_⟩ <;> rw [nI_clamp (by omega)] <;> simpa using (by assumption)
theorem kc_le3 {k : Nat} (h : k ≤ 3) : kc' k = 1 ∨ kc' k = 2 ∨ kc' k = 7 ∨ kc' k = 10 := by
  have : k = 0 ∨ k = 1 ∨ k = 2 ∨ k = 3 := by omega
  rcases this with q | q | q | q <;> subst q <;> decide
theorem withCall_s {N b n c o oc : Nat} {d : Md} {bs : Nat → Nat} {pp : Option Nat} {P : Int32} {h : Hp} (hM : CM h b n d bs) (w2 : ∀ M, ln d = some M → M ≤ 100) (k5 : kd d ≠ 5) (hc : c ≤ 2) (hl : LO h o oc) (do1 : o + 1 ≤ b ∨ b + 5 ≤ o) (do2 : oc + 1 ≤ b ∨ b + 5 ≤ oc) (hcp : ∀ c p, cp d c = some p → p < 2 ^ 31) (hP : (pp = none ∧ P < 0) ∨ ∃ p, pp = some p ∧ p < 2 ^ 31 ∧ P = nI p) : ∃ x h', Meth_withCall N (some b) (some (b + 1)) (nI c) P (some o) h = some (x, h') ∧ KR (PW o oc) o oc (wR d c pp) h h' x := by
  have okb : ok h [1, 2, 3, 6, 7, 10] b = true := CM_ok hM kc_in
  obtain ⟨⟨b64, bz⟩, ⟨K0, K1, K2, K3, K4, -⟩, ⟨R1, R2, R3, R4, R5, -⟩, -, l1, l2, ⟨c0, c1⟩, c2, -⟩ := hM
  obtain ⟨lo1, lo2, lo3, lo4, lo5⟩ := hl
  have bz' : b + 5 ≤ hz h := by unfold bw at bz; split at bz <;> omega
  have ok1 : ok h [0] (b + 1) = true := ok_K (by omega) K1
  have ok2 : ok h [13] (b + 2) = true := ok_K (by omega) K2
  have ok3 : ok h [13] (b + 3) = true := ok_K (by omega) K3
  have ok4 : ok h [13] (b + 4) = true := ok_K (by omega) K4
  have okc : ok h [13] oc = true := ok_K lo3 lo2
  unfold Meth_withCall wR
  rw [gi_s ok1]
  cases hl : ln d with
  | none =>
    have e := (l2 hl).2
    rw [if_neg k5] at e
    rw [e, if_neg (by decide), gi_s ok1, e]
    exact ⟨_, _, rfl, Fx_r _ _ _, rfl, by simp⟩
  | some M =>
    obtain ⟨e2, e1, e3⟩ := l1 M hl
    have hM1 := w2 M hl
    rw [e2, if_pos rfl]
    have n1 : b + 1 ≠ o := by omega
    have n2 : b + 2 ≠ oc := by omega
    simp only [pi_s, gi_s, gr_s, ok_sI, hK_sI, hR_sI, lo1, ok1, R5, lo4]
    rw [sI_ne (by omega), sI_ne (by omega), e1, ac_s (M := M) (h := sI (sI h o 2 0) o 1 (nI M)) ok2 okc (by rw [hK_sI, hK_sI, K2]; exact hM1) (by rw [hK_sI, hK_sI, lo2]; exact hM1) (by omega)]
    generalize hg : sC (sI (sI h o 2 0) o 1 (nI M)) oc (va_cpy (hI (sI (sI h o 2 0) o 1 (nI M)) (b + 2)) (hI (sI (sI h o 2 0) o 1 (nI M)) oc) 0 0 M) = g
    have F : Fi (PW o oc) h g := by
      rw [← hg]
      exact Fx_t (Fx_sI h _ (by simp [PW])) (Fx_t (Fx_sI _ _ (by simp [PW])) (Fx_sC _ _ (fun k hk => by simp [PW] at hk)))
    have g1 : hI g o 1 = nI M := by
      rw [← hg, hI_sC, if_neg lo5, sI_at]
    have g2 : ∀ k, k < M → hI g oc k = nI (ld d k) := by
      intro k hk
      rw [← hg, hI_sC, if_pos rfl, pk_cpy_in (by omega) (by omega)]
      have e : 0 + (k - 0) = k := by omega
      rw [e, sI_row' (by omega), sI_row' (by omega)]
      exact e3 k hk
    have okg := Fx_ok F
    have Rg := Fx_R F
    have Kg := Fx_K F
    by_cases c00 : c = 0
    · subst c00
      rw [if_pos (cN_0)]
      exact ⟨_, _, rfl, F, rfl, fun _ => ⟨g1, g2⟩⟩
    · rw [if_neg (fun e => c00 ((eN_0 (by omega)).mp e))]
      try dsimp only
      rw [if_neg c00]
      have z3 : hI g (b + 3) c = oI (cp d c) := by rw [Fx_I F (by unfold PW; omega)]; exact c1 c (by omega) hc
      have cl3 : c < 3 := by omega
      rw [gr_s (by rw [okg]; exact okb), Rg, R3, li_s (by rw [okg]; exact ok3) (by rw [Kg, K3]; exact cl3) (by rw [Kg, K3]; decide), z3]
      cases hcc : cp d c with
      | none =>
        rw [if_neg (by decide)]
        exact ⟨_, _, rfl, F, rfl, by simp⟩
      | some p0 =>
        rw [if_pos (show (0 : Int32) ≤ oI (some p0) from (Nle_0 (hcp c p0 hcc)).mpr (Nat.zero_le _))]
        try dsimp only
        rcases hP with ⟨q1, q2⟩ | ⟨p, q1, q2, q3⟩
        · subst q1
          rw [if_pos q2]
          exact ⟨_, _, rfl, F, rfl, by simp⟩
        · subst q1 q3
          rw [if_neg (nI_pos q2), gi_s (by rw [okg]; exact lo1), g1]
          try dsimp only
          by_cases pM : p < M
          · rw [if_pos ((nI_ltI q2 (by omega)).mpr pM), if_pos pM]
            have z4 : hI g (b + 4) c = nI (cc d c) := by rw [Fx_I F (by unfold PW; omega)]; exact c2 c (by omega) hc (by rw [hcc]; simp)
            rw [gr_s (by rw [okg]; exact lo1), Rg, lo4, gr_s (by rw [okg]; exact okb), Rg, R4, li_s (by rw [okg]; exact ok4) (by rw [Kg, K4]; exact cl3) (by rw [Kg, K4]; decide), z4, si_s (by rw [okg]; exact okc) (by rw [Kg, lo2]; show p < 100; omega) (by rw [Kg, lo2]; decide)]
            refine ⟨_, _, rfl, Fx_t F (Fx_sI _ _ (by simp [PW])), rfl, fun _ => ⟨by rw [sI_ne (by omega)]; exact g1, fun k hk => ?_⟩⟩
            try dsimp only
            rw [up_at]
            by_cases e : k = p
            · subst e; rw [sI_at, if_pos rfl]
            · rw [sI_ne (fun _ => e), if_neg e]; exact g2 k hk
          · rw [if_neg (fun e => pM ((nI_ltI q2 (by omega)).mp e)), if_neg pM]
            exact ⟨_, _, rfl, F, rfl, by simp⟩
