/-! PURE: a method changed -/
theorem io_s {β : Type} {t a : Nat} {us : List Nat} {h : Hp} {f : Int32 → Option β} (o : ok h us a = true) : io t us (some a) h f = f (if (hK h a).1 = t then 1 else 0) := by simp only [io]; rw [if_pos o]
/-- a search that was is void -/
theorem Sn_v {h h' : Hp} {n mc n' mc' : Nat} {D D' : Nat → Md} {bs bs' : Nat → Nat} (s : Sn h n mc D bs) (e : ∀ a k, (a = 17 ∧ (k = 17 ∨ k = 3) ∨ a = 35 ∧ (k = 33 ∨ k = 53 ∨ k = 35) ∨ a = 27 ∨ a = 18 ∨ a = 60) → hI h' a k = hI h a k) (v1 : hI h' 17 19 = 1) (v2 : hI h' 35 34 = 1) : Sn h' n' mc' D' bs' := by
  unfold Sn at s ⊢
  rw [e 17 17 (by omega), e 35 33 (by omega), e 35 53 (by omega), e 35 35 (by omega), e 17 3 (by omega), v1, v2]
  rcases s with s | ⟨s1, s2, -, s4⟩
  · exact Or.inl s
  refine Or.inr ⟨s1, s2, rfl, ?_⟩
  rcases s4 with s4 | ⟨s4, len, l1, l2, l3, l4⟩ | ⟨s4, s5, -⟩
  · exact Or.inl s4
  · refine Or.inr (Or.inl ⟨s4, len, l1, l2, l3, fun i hi => ?_⟩)
    obtain ⟨t, t1, t2, t3⟩ := l4 i hi
    exact ⟨t, t1, by rw [e 27 _ (by omega)]; exact t2, by rw [e 18 _ (by omega), e 60 _ (by omega)]; exact t3⟩
  · exact Or.inr (Or.inr ⟨s4, s5, fun q => absurd q i10⟩)
theorem Inv_mod {P Q R : Nat → Nat → Prop} {h h' : Hp} {n mc mc' ic : Nat} {D D' : Nat → Md} {bs bs' im ik : Nat → Nat} (i1 : Bs h n) (i2 : Tr h) (i7 : Rg h n) (i8 : It h mc bs ic im ik) (i9 : Tc h n ic) (i10 : Pf h) (i11 : Ot h) (i12 : Sr h n mc D bs) (f : Gx P Q R h h')
    (p : ∀ a k, a < hz h → P a k → (a = 0 ∧ (k = 3 ∨ k = 6) ∨ a = 17 ∧ k = 19 ∨ a = 35 ∧ (k = 1 ∨ k = 3 ∨ k = 5 ∨ k = 34 ∨ k = 55 ∨ k = 56) ∨ 38 ≤ a ∧ a ≤ 44 ∨ a = 53 ∨ a = 1 ∨ a = 3 ∨ a = 61 ∨ 64 ≤ a)) (q : ∀ a k, a < hz h → ¬ Q a k) (r : ∀ a k, a < hz h → R a k → a = 5 ∨ 64 ≤ a)
    (M : Ms h' n mc' D') (C : Cs h' n mc' D' bs') (hmc : mc ≤ mc') (hbs : ∀ m, m < mc → bs' m = bs m) (T : Tp h') (F : Fdn h') (S : Sl h' mc' bs') (v1 : hI h' 17 19 = 1) (v2 : hI h' 35 34 = 1) : Inv h' := by
  have z := i1.1.1
  have f := Gx_m f p (fun a k l c => (q a k l c : nF a k)) r
  have n0 : ∀ (X : Nat → Nat → Prop) a k, X a k → ¬ nF a k := fun _ _ _ _ c => c
  obtain ⟨t1, t2, t3, t4⟩ := i8
  obtain ⟨s1, ⟨s2, s3⟩, ⟨sz, w, s4⟩, s5⟩ := i12
  refine ⟨n, mc', D', bs', ic, im, ik, Bs_g i1 f ?_ ?_, Tr_g i2 z f ?_, F, T, M, C, Rg_g i7 z f ?_, ⟨t1, fun j hj => ⟨Nat.lt_of_lt_of_le (t2 j hj).1 hmc, (t2 j hj).2⟩, ⟨?_, fun j hj => ⟨?_, ?_⟩⟩, ItM_g t4 z f ?_⟩, Tc_g i9 z f ?_ (n0 _), Pf_g i10 z f ?_, Ot_g i11 z f ?_ (n0 _), S, ⟨?_, ?_⟩, ⟨sz, w, Hs_g s4 z f (by omega) (by omega) (by omega) (by omega) (fun _ c => c)⟩, Sn_v s5 (fun a k c => Gx_I f z (by omega) (by omega)) v1 v2⟩ <;> first | (intro a k c d; omega) | (unfold Rc; intro a k c d; omega) | skip
  · rw [Gx_I f z (by omega) (by omega)]; exact t3.1
  · rw [Gx_R f z (by omega) (by omega), hbs _ (t2 j hj).1]; exact (t3.2 j hj).1
  · rw [Gx_I f z (by omega) (by omega)]; exact (t3.2 j hj).2
  · rw [Gx_I f z (by omega) (by omega)]; exact s2
  · rw [Gx_I f z (by omega) (by omega), Gx_I f z (by omega) (by omega)]; exact s3
theorem Wm_up {n m m' : Nat} {D : Nat → Md} {d : Md} (w : Wm n m' D) (hd : kd d = kd (D m)) (ne : m' ≠ m) : Wm n m' (va_up D m d) := by
  have e : va_up D m d m' = D m' := by rw [up_at, if_neg ne]
  have ek : ∀ a, kd (va_up D m d a) = kd (D a) := fun a => by
    rw [up_at]
    by_cases q : a = m
    · rw [if_pos q, q, hd]
    · rw [if_neg q]
  unfold Wm at w ⊢
  rw [e]
  refine ⟨w.1, w.2.1, w.2.2.1, w.2.2.2.1, fun i hi => ⟨(w.2.2.2.2.1 i hi).1, ?_⟩, w.2.2.2.2.2⟩
  rw [ek]; exact (w.2.2.2.2.1 i hi).2
/-- its own data, where the parts are the same kinds -/
theorem Wm_me {n m : Nat} {D : Nat → Md} {d : Md} (hd : kd d = kd (D m)) (h1 : ∀ L, ln d = some L → L ≤ 100 ∧ ∀ k, k < L → Ch n (ld d k)) (h2 : ∀ c p, cp d c = some p → p < 2 ^ 31 ∧ Ch n (cc d c)) (h3 : (pt d).length ≤ 6) (h4 : ∀ i, i < (pt d).length → (pt d).getD i 0 < m ∧ kd (D ((pt d).getD i 0)) ≠ 5) (h5 : aw d < 8) (h6 : kd d = 5 → ln d = none) (h0 : kd (D m) < 6) : Wm n m (va_up D m d) := by
  have e : va_up D m d m = d := by rw [up_at, if_pos rfl]
  unfold Wm
  rw [e]
  refine ⟨by rw [hd]; exact h0, h1, h2, h3, fun i hi => ⟨(h4 i hi).1, ?_⟩, h5, h6⟩
  rw [up_at, if_neg (by have := (h4 i hi).1; omega)]; exact (h4 i hi).2
theorem bw_k {d e : Md} (h : kd d = kd e) : bw d = bw e := by unfold bw; rw [h]
theorem Cs_up {P Q R : Nat → Nat → Prop} {h h' : Hp} {n mc m : Nat} {D : Nat → Md} {d : Md} {bs : Nat → Nat} (c : Cs h n mc D bs) (z : 64 ≤ hz h) (hm : m < mc) (f : Gx P Q R h h') (p : ∀ a k, P a k → ¬ (a = 0 ∧ k = 3) ∧ (64 ≤ a → bs m ≤ a ∧ a < bs m + 5)) (r : ∀ a k, R a k → a ≠ 5 ∧ (64 ≤ a → a = bs m + 5 ∧ kd (D m) = 5)) (hd : kd d = kd (D m)) (cm : CM h' (bs m) n d bs) (w : Wm n m (va_up D m d)) : Cs h' n mc (va_up D m d) bs := by
  obtain ⟨c1, c2, c3, c4⟩ := c
  have b64 := CM_64 (c3 m hm).2.1
  have ek : ∀ a, bw (va_up D m d a) = bw (D a) := fun a => by
    rw [up_at]
    by_cases q : a = m
    · rw [if_pos q, q, bw_k hd]
    · rw [if_neg q]
  refine ⟨by rw [Gx_I f z (by omega) (fun q => (p _ _ q).1 ⟨rfl, rfl⟩)]; exact c1, c2, fun m' hm' => ⟨by rw [Gx_R f z (by omega) (fun q => (r _ _ q).1 rfl)]; exact (c3 m' hm').1, ?_, ?_⟩, fun a b h1 h2 => by rw [ek]; exact c4 a b h1 h2⟩
  · by_cases e : m' = m
    · subst e; rw [up_at, if_pos rfl]; exact cm
    · rw [up_at, if_neg e]
      have o := (c3 m' hm').2.1
      have o64 := CM_64 o
      have bm : 5 ≤ bw (D m) ∧ (kd (D m) = 5 → bw (D m) = 6) := by unfold bw; split <;> omega
      have bm' : 5 ≤ bw (D m') := by unfold bw; split <;> omega
      have dj : bs m + bw (D m) ≤ bs m' ∨ bs m' + bw (D m') ≤ bs m := by
        rcases Nat.lt_or_ge m m' with q | q
        · exact Or.inl (c4 m m' q hm')
        · exact Or.inr (c4 m' m (by omega) hm)
      have oz := o.1.2
      obtain ⟨q1, q2, q3, q4, q5, q6, q7, q8, q9⟩ := o
      have k5 : kd (D m') = 5 ∨ kd (D m') ≠ 5 := by omega
      refine CM_g ⟨q1, q2, q3, q4, q5, q6, q7, q8, q9⟩ f (fun a k h1 h2 q => ?_) (fun a k h1 h2 q => ?_)
      · have := (p a k q).2 (by omega); omega
      · have e := (r a k q).2 (by omega)
        have := bm.2 e.2
        -- a = bs m + 5 lies in the block of m' only if it is its sixth cell
        rcases dj with x | x
        · omega
        · by_cases y : a = bs m' + 5
          · rcases k5 with z | z
            · have : bw (D m') = 6 := by unfold bw; rw [if_pos z]
              omega
            · omega
          · omega
  · by_cases e : m' = m
    · subst e; exact w
    · exact Wm_up (c3 m' hm').2.2 hd e
def PQ (m a k : Nat) : Prop := (a = 38 ∨ a = 39 ∨ a = 43 ∨ a = 53) ∧ k = m ∨ a = 40 ∧ 100 * m ≤ k ∧ k < 100 * m + 100 ∨ (a = 41 ∨ a = 42) ∧ 3 * m ≤ k ∧ k < 3 * m + 3 ∨ a = 44 ∧ 6 * m ≤ k ∧ k < 6 * m + 6
theorem MM_o {P Q R : Nat → Nat → Prop} {h h' : Hp} {n m m' : Nat} {D : Nat → Md} (z : 64 ≤ hz h) (f : Gx P Q R h h') (p : ∀ a k, P a k → 38 ≤ a ∧ a ≤ 44 ∨ a = 53 → PQ m a k) (ne : m' ≠ m) (M : MM h m' (D m')) (w : Wm n m' D) : MM h' m' (D m') := by
  obtain ⟨m1, m2, m3, m4, m5, m6, m7, m8⟩ := M
  have e : ∀ a k, 38 ≤ a ∧ a ≤ 44 ∨ a = 53 → ¬ PQ m a k → hI h' a k = hI h a k := fun a k h1 h2 => Gx_I f z (by omega) (fun q => h2 (p a k q h1))
  refine ⟨?_, ?_, fun L hL k hk => ?_, fun c h1 h2 => ?_, fun c h1 h2 h3 => ?_, ?_, fun i hi => ?_, ?_⟩
  · rw [e _ _ (by omega) (by unfold PQ; omega)]; exact m1
  · rw [e _ _ (by omega) (by unfold PQ; omega)]; exact m2
  · have := (w.2.1 L hL).1
    rw [e _ _ (by omega) (by unfold PQ; omega)]; exact m3 L hL k hk
  · rw [e _ _ (by omega) (by unfold PQ; omega)]; exact m4 c h1 h2
  · rw [e _ _ (by omega) (by unfold PQ; omega)]; exact m5 c h1 h2 h3
  · rw [e _ _ (by omega) (by unfold PQ; omega)]; exact m6
  · have := w.2.2.2.1
    rw [e _ _ (by omega) (by unfold PQ; omega)]; exact m7 i hi
  · rw [e _ _ (by omega) (by unfold PQ; omega)]; exact m8
theorem Ms_up {P Q R : Nat → Nat → Prop} {h h' : Hp} {n mc m : Nat} {D : Nat → Md} {d : Md} (c : Ms h n mc D) (z : 64 ≤ hz h) (f : Gx P Q R h h') (p5 : ¬ P 35 5) (p : ∀ a k, P a k → 38 ≤ a ∧ a ≤ 44 ∨ a = 53 → PQ m a k) (hd : kd d = kd (D m)) (cm : MM h' m d) (w : Wm n m (va_up D m d)) : Ms h' n mc (va_up D m d) := by
  refine ⟨by rw [Gx_I f z (by omega) p5]; exact c.1, c.2.1, fun m' hm' => ?_⟩
  by_cases e : m' = m
  · subst e
    exact ⟨by rw [up_at, if_pos rfl]; exact cm, w⟩
  · obtain ⟨c1, c2⟩ := c.2.2 m' hm'
    exact ⟨by rw [up_at, if_neg e]; exact MM_o z f p e c1 c2, Wm_up c2 hd e⟩
theorem kc_6 {k : Nat} (hk : k < 6) : kc' k = 6 ↔ k = 5 := by
  have : k = 0 ∨ k = 1 ∨ k = 2 ∨ k = 3 ∨ k = 4 ∨ k = 5 := by omega
  rcases this with rfl | rfl | rfl | rfl | rfl | rfl <;> decide
theorem io_6 {β : Type} {b n : Nat} {d : Md} {bs : Nat → Nat} {h : Hp} {f : Int32 → Option β} (c : CM h b n d bs) (hk : kd d < 6) : io 6 [1, 2, 3, 6, 7, 10] (some b) h f = f (if kd d = 5 then 1 else 0) := by
  rw [io_s (CM_ok c kc_in), c.2.1.1]
  by_cases q : kd d = 5
  · rw [if_pos q, if_pos ((kc_6 hk).mpr q)]
  · rw [if_neg q, if_neg (fun w => q ((kc_6 hk).mp w))]
/-- nothing but the finding changes: a refusal -/
theorem kd_38 {h : Hp} {n mc m : Nat} {D : Nat → Md} (M : Ms h n mc D) (hm : m < mc) : hI h 38 m = nI (kd (D m)) := (M.2.2 m hm).1.1
