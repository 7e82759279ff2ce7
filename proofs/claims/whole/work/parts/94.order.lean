/-! PURE: the numbers of the rows in order, on both sides -/
def ffp (n : Nat) : Nat → Nat
  | 0 => 1
  | i + 1 => ffp n i * (n - i)
theorem lsl_le (v i : Nat) : ∀ k, (lsl k v i).length ≤ k - (i + 1)
  | 0 => by rw [lsl_0 v i 0 (by omega)]; exact Nat.zero_le _
  | k + 1 => by
    have := lsl_le v i k
    rw [lsl_step]
    by_cases q : i < k ∧ dg v k < dg v i
    · rw [if_pos q]; omega
    · rw [if_neg q]; omega
theorem num_lt {n v : Nat} : ∀ i, i ≤ n → num n v i < ffp n i
  | 0, _ => Nat.lt_succ_self 0
  | i + 1, hi => by
    have h1 := num_lt (n := n) (v := v) i (by omega)
    have h2 := lsl_le v i n
    have h3 : (num n v i + 1) * (n - i) ≤ ffp n i * (n - i) := Nat.mul_le_mul_right _ h1
    rw [Nat.succ_mul] at h3
    show num n v i * (n - i) + (lsl n v i).length < ffp n i * (n - i)
    omega
theorem ffp_12 : ∀ n, n < 13 → ffp n n < 2 ^ 31 := by decide
theorem num_31 {n v : Nat} (hn : n ≤ 12) : num n v n < 2 ^ 31 := Nat.lt_trans (num_lt n (Nat.le_refl n)) (ffp_12 n (by omega))
theorem fill_l {N n rc m : Nat} {rw : Nat → Nat} (hN : 3000 < N) (hn : n ≤ 12) (hw : ∀ j, j < rc → Rw n (rw j)) (hm : m ≤ rc) (m1 : 1 ≤ m) : ∀ (r g i : Nat) (h : Hp), i + r = m → r < g → Lay h → Hs h 9 10 11 12 2001 rc (fun j => lN (rw j)) → hI h 6 3 = nI n → (∀ j, j < i → hI h 15 j = nI (num n (rw j) n)) → ∃ h' v, Touch_orderNumbers_21 N g (some 6) (nI m) (nI i) h = some (nI m, h') ∧ Fi (fun a k => a = 15 ∨ a = 6 ∧ k = 13) h h' ∧ Srt (fun j => num n (rw j) n) v m ∧ (∀ j, j < m → hI h' 15 j = nI (v j)) ∧ hI h' 6 13 = nI rc
  | r, 0, _, _, _, hg, _, _, _, _ => absurd hg (by omega)
  | 0, g + 1, i, h, hi, _, L, H, e3, hv => by
    have rc1 := H.2.1
    obtain ⟨h1, v, e1, x1, v1, s1⟩ := heapSort_s (N := N) (M := m) (a := fun j => num n (rw j) n) hN (by omega) m1 L (fun j _ => num_31 hn) (fun j hj => hv j (by omega))
    have L1 := Fx_Lay x1 L
    simp only [Touch_orderNumbers_21]
    rw [if_pos ((nI_leI (by omega) (by omega)).mpr (by omega)), e1, cl_s, gr_s (o6 L1), r6_5 L1, gi_s (o9 L1), Fx_I x1 (by omega), H.1, pi_s (o6 L1)]
    exact ⟨_, v, rfl, Fx_t (Fx_m x1 (fun a k q => by omega) (fun _ _ q => q)) (Fx_sI _ _ (by omega)), s1, fun j hj => by rw [sI_ne (by omega)]; exact v1 j hj, sI_at ..⟩
  | r + 1, g + 1, i, h, hi, hg, L, H, e3, hv => by
    have rc1 := H.2.1
    simp only [Touch_orderNumbers_21]
    rw [if_neg (fun u => absurd ((nI_leI (by omega) (by omega)).mp u) (by omega)), gr_s (o6 L), r6_12 L, gr_s (o6 L), r6_5 L, ds4 L, codeAt_s (RO_9 L) H (by omega), cl_s, gi_s (o6 L), e3, Rows_numberOf_s (by omega) hn (hw i (by omega)), cl_s, si_s (o15 L) (by rw [k15 L]; show i < 2001; omega) (by rw [k15 L]; decide), nmE, show nI i + 1 = nI (i + 1) from aN_1 i]
    have x1 : Fi (fun a k => a = 15) h (sI h 15 i (nI (num n (rw i) n))) := Fx_sI _ _ rfl
    obtain ⟨h2, v, a1, a2, a3⟩ := fill_l hN hn hw hm m1 r g (i + 1) (sI h 15 i (nI (num n (rw i) n))) (by omega) (by omega) L (Hs_f H x1 (by omega) (by omega) (by omega) (fun _ q => q)) (by rw [sI_ne (by omega)]; exact e3) (fun j hj => by
      by_cases q : j = i
      · rw [q, sI_at]
      · rw [sI_ne (by omega)]; exact hv j (by omega))
    exact ⟨h2, v, a1, Fx_t (Fx_m x1 (fun a k q => by omega) (fun _ _ q => q)) a2, a3⟩
theorem mnt_le {n ic rc : Nat} {rw : Nat → Nat} {st : Bool} {cm : Option Nat} {ni cn ca : Nat} {cf : Nat → Nat} (w : TW n ic rc rw st cm ni cn ca cf) : 1 ≤ mnt rc cm ∧ mnt rc cm ≤ rc ∧ rc ≤ 2001 := by
  have := w.1
  rcases cm with _ | k
  · exact ⟨this.1, Nat.le_refl _, this.2⟩
  · have := w.2.2.2.1 k rfl
    show 1 ≤ k ∧ k ≤ rc ∧ rc ≤ 2001
    omega
theorem provable_C {N n ic rc : Nat} {rw : Nat → Nat} {st : Bool} {cm : Option Nat} {ni cn ca : Nat} {cf : Nat → Nat} {h : Hp} (L : Lay h) (w : TW n ic rc rw st cm ni cn ca cf) (c : TC h n rc rw st cm ni cn ca cf) : ds [(9, Touch_provableRows N (some 6) h)] (some 6) h = some (nI (mnt rc cm), h) := by
  have r1 := w.1
  rw [ds9 L]
  unfold Touch_provableRows
  rw [gi_s (o6 L), c.2.2.2.1]
  rcases cm with _ | k
  · rw [if_neg (show ¬ (0 : Int32) ≤ oI none by decide), gr_s (o6 L), r6_5 L, gi_s (o9 L), c.1.1]
    rfl
  · have := w.2.2.2.1 k rfl
    rw [if_pos (show (0 : Int32) ≤ oI (some k) from nI_pos' (by omega)), gr_s (o6 L), r6_5 L, gi_s (o9 L), c.1.1, nI_m1 r1.1, show rc - 1 = mnt rc (some k) by show rc - 1 = k; omega]
theorem order_C {N n ic rc : Nat} {rw : Nat → Nat} {st : Bool} {cm : Option Nat} {ni cn ca : Nat} {cf : Nat → Nat} {h : Hp} (hN : 3000 < N) (hn : n ≤ 12) (L : Lay h) (w : TW n ic rc rw st cm ni cn ca cf) (c : TC h n rc rw st cm ni cn ca cf) : ∃ h' v, ds [(9, Touch_orderNumbers N (some 6) h)] (some 6) h = some (nI (mnt rc cm), h') ∧ Fi (fun a k => a = 15 ∨ a = 6 ∧ k = 13) h h' ∧ Srt (fun j => num n (rw j) n) v (mnt rc cm) ∧ (∀ j, j < mnt rc cm → hI h' 15 j = nI (v j)) ∧ TC h' n rc rw st cm ni cn ca cf := by
  have pv := provable_C (N := N) L w c
  obtain ⟨m1, m2, m3⟩ := mnt_le w
  obtain ⟨H, ⟨t3, t4⟩, t9, t10, tf, ⟨q, q0, q1, q2⟩, t7⟩ := id c
  have pre : ds [(9, Touch_orderNumbers N (some 6) h)] (some 6) h = if nI q = nI rc then some (nI (mnt rc cm), h) else Touch_orderNumbers_21 N N (some 6) (nI (mnt rc cm)) 0 h := by
    rw [ds9 L]
    unfold Touch_orderNumbers
    rw [pv, cl_s, gi_s (o6 L), q1, gr_s (o6 L), r6_5 L, gi_s (o9 L), H.1]
  rw [pre]
  by_cases e : q = rc
  · obtain ⟨v, v1, v2⟩ := q2 e
    rw [if_pos (by rw [e])]
    exact ⟨h, v, rfl, Fx_r _ _ _, v1, v2, c⟩
  · rw [if_neg (fun u => e ((nI_eq (by omega) (by omega)).mp u))]
    obtain ⟨h', v, e1, x1, s1, v1, u13⟩ := fill_l (N := N) hN hn w.2.1 m2 m1 (mnt rc cm) N 0 h (by omega) (by omega) L H t3 (fun j hj => absurd hj (by omega))
    refine ⟨h', v, e1, x1, s1, v1, Hs_f H x1 (by omega) (by omega) (by omega) (fun _ q => q), ⟨?_, ?_⟩, ?_, ?_, ?_, ⟨rc, Nat.le_refl _, u13, fun _ => ⟨v, s1, v1⟩⟩, fun e => ?_⟩
    · rw [Fx_I x1 (by omega)]; exact t3
    · rw [Fi_L x1]; exact t4
    · rw [Fx_I x1 (by omega)]; exact t9
    · rw [Fx_I x1 (by omega)]; exact t10
    · rw [Fx_I x1 (by omega)]; exact tf
    · obtain ⟨s1, s2, s3, s4⟩ := t7 e
      exact ⟨by rw [Fx_I x1 (by omega)]; exact s1, by rw [Fx_I x1 (by omega)]; exact s2, by rw [Fx_I x1 (by omega)]; exact s3, fun k hk => by rw [Fx_I x1 (by omega)]; exact s4 k hk⟩
/-! the model's -/
theorem ins_l {N o i : Nat} {re : Option Nat → Option Nat → Int32 → Hp → Option (Unit × Hp)} (hi : i < 2001) (O : ∀ h, Lay h → ok h [13] o = true ∧ hK h o = (13, 2001)) : ∀ (k g : Nat) (b : Nat → Nat) (h : Hp), k < g → k ≤ i → Lay h → (∀ j, j ≤ i → b j < 2 ^ 31) → (∀ j, j ≤ i → j ≠ k → hI h o j = nI (b j)) → (∀ a c, a < c → c ≤ i → a ≠ k → c ≠ k → b a ≤ b c) → (∀ c, k < c → c ≤ i → b k ≤ b c) → ∃ h' b', M_numbers_24 N re g (some 35) (some o) (nI i) (nI (b k)) (nI k) h = re (some 35) (some o) (nI (i + 1)) h' ∧ Fi (fun a _ => a = o) h h' ∧ (∀ j, j ≤ i → hI h' o j = nI (b' j)) ∧ (∀ y, cnt b' y (i + 1) = cnt b y (i + 1)) ∧ ∀ a c, a < c → c ≤ i → b' a ≤ b' c
  | k, 0, _, _, hg, _, _, _, _, _, _ => absurd hg (by omega)
  | 0, g + 1, b, h, _, hk, L, hb, hv, s1, s2 => by
    simp only [M_numbers_24]
    rw [if_pos (show nI 0 ≤ 0 by decide)]
    unfold M_numbers_55
    rw [si_s (O h L).1 (by rw [(O h L).2]; show 0 < 2001; omega) (by rw [(O h L).2]; decide), nmE, show nI i + 1 = nI (i + 1) from aN_1 i]
    refine ⟨_, b, rfl, Fx_sI _ _ rfl, fun j hj => ?_, fun _ => rfl, fun a c h1 h2 => ?_⟩
    · by_cases q : j = 0
      · rw [q, sI_at]
      · rw [sI_ne (by omega)]; exact hv j hj q
    · by_cases q : a = 0
      · rw [q]; exact s2 c (by omega) h2
      · exact s1 a c h1 h2 q (by omega)
  | k + 1, g + 1, b, h, hg, hk, L, hb, hv, s1, s2 => by
    simp only [M_numbers_24]
    have bk := hb k (by omega)
    have bk1 := hb (k + 1) (by omega)
    rw [if_neg (fun u => absurd ((leN_0 (by omega)).mp u) (by omega)), sN_1 (by omega), show k + 1 - 1 = k by omega, li_s (O h L).1 (by rw [(O h L).2]; show k < 2001; omega) (by rw [(O h L).2]; decide), hv k (by omega) (by omega)]
    by_cases le : b k ≤ b (k + 1)
    · rw [if_pos ((nI_leI bk bk1).mpr le)]
      unfold M_numbers_55
      rw [si_s (O h L).1 (by rw [(O h L).2]; show k + 1 < 2001; omega) (by rw [(O h L).2]; decide), nmE, show nI i + 1 = nI (i + 1) from aN_1 i]
      refine ⟨_, b, rfl, Fx_sI _ _ rfl, fun j hj => ?_, fun _ => rfl, fun a c h1 h2 => ?_⟩
      · by_cases q : j = k + 1
        · rw [q, sI_at]
        · rw [sI_ne (by omega)]; exact hv j hj q
      · by_cases q : a = k + 1
        · rw [q]; exact s2 c (by omega) h2
        · by_cases u : c = k + 1
          · rw [u]
            by_cases v : a = k
            · rw [v]; exact le
            · have := s1 a k (by omega) (by omega) (by omega) (by omega)
              omega
          · exact s1 a c h1 h2 q u
    · rw [if_neg (fun u => le ((nI_leI bk bk1).mp u)), li_s (O h L).1 (by rw [(O h L).2]; show k < 2001; omega) (by rw [(O h L).2]; decide), hv k (by omega) (by omega), si_s (O h L).1 (by rw [(O h L).2]; show k + 1 < 2001; omega) (by rw [(O h L).2]; decide), nmE, bl_m1]
      have e1 : sp b k (k + 1) k = b (k + 1) := by rw [sp_at, if_neg (by omega), if_pos rfl]
      obtain ⟨h', b', a1, a2, a3, a4, a5⟩ := ins_l (N := N) (re := re) hi O k g (sp b k (k + 1)) (sI h o (k + 1) (nI (b k))) (by omega) (by omega) L (fun j hj => by
        rw [sp_at]
        (repeat' split) <;> exact hb _ (by omega)) (fun j hj ne => by
        rw [sp_at]
        by_cases q : j = k + 1
        · rw [if_pos q, q, sI_at]
        · rw [if_neg q, if_neg ne, sI_ne (by omega)]; exact hv j hj q) (fun a c h1 h2 n1 n2 => by
        rw [sp_at, sp_at, if_neg n1, if_neg n2]
        by_cases u : a = k + 1
        · rw [if_pos u, if_neg (by omega)]; exact s1 k c (by omega) h2 (by omega) (by omega)
        · rw [if_neg u]
          by_cases v : c = k + 1
          · rw [if_pos v]; exact s1 a k (by omega) (by omega) u (by omega)
          · rw [if_neg v]; exact s1 a c h1 h2 u v) (fun c h1 h2 => by
        rw [e1, sp_at]
        by_cases v : c = k + 1
        · rw [if_pos v]; omega
        · rw [if_neg v, if_neg (by omega)]; exact s2 c (by omega) h2)
      rw [e1] at a1
      exact ⟨h', b', a1, Fx_t (Fx_sI _ _ rfl) a2, a3, fun y => by rw [a4, cnt_sp (by omega) (by omega)], a5⟩
theorem numbers_l {N n ic rc o : Nat} {rw : Nat → Nat} {st : Bool} {cm : Option Nat} {ni cn ca : Nat} {cf : Nat → Nat} (hN : 3000 < N) (w : TW n ic rc rw st cm ni cn ca cf) (O : ∀ h, Lay h → ok h [13] o = true ∧ hK h o = (13, 2001)) (o1 : o ≠ 35) (o2 : o ≠ 49) : ∀ (r g i : Nat) (V : Nat → Nat) (h : Hp), i + r = mnt rc cm → r < g → Lay h → Mn h n → TM h rc rw st cm ni cn ca cf → Srt (fun j => num n (rw j) n) V i → (∀ j, j < i → V j < 2 ^ 31 ∧ hI h o j = nI (V j)) → ∃ h' v, M_numbers_2 N g (some 35) (some o) (nI i) h = some ((), h') ∧ Fi (fun a _ => a = o) h h' ∧ Srt (fun j => num n (rw j) n) v (mnt rc cm) ∧ ∀ j, j < mnt rc cm → hI h' o j = nI (v j) := by
  obtain ⟨m1, m2, m3⟩ := mnt_le w
  have hc : ∀ c, cm = some c → c < 2 ^ 31 := fun k e => by have := (w.2.2.2.1 k e).2.1; omega
  intro r
  induction r with
  | zero =>
    intro g i V h hi hg L m c s hv
    obtain ⟨g, rfl⟩ : ∃ q, g = q + 1 := ⟨g - 1, by omega⟩
    rw [M_numbers_2]
    rw [meant_M L c hc, cl_s, if_pos ((nI_leI (by omega) (by omega)).mpr (by omega))]
    rw [show mnt rc cm = i by omega]
    exact ⟨h, V, rfl, Fx_r _ _ _, s, fun j hj => (hv j hj).2⟩
  | succ r ih =>
    intro g i V h hi hg L m c s hv
    obtain ⟨g, rfl⟩ : ∃ q, g = q + 1 := ⟨g - 1, by omega⟩
    have n31 : num n (rw i) n < 2 ^ 31 := num_31 m.2.2.2
    rw [M_numbers_2]
    rw [meant_M L c hc, cl_s, if_neg (fun u => absurd ((nI_leI (by omega) (by omega)).mp u) (by omega)), gr_s (o35 L), r35_20 L, ll_s (o48 L) (by rw [k48 L]; show i < 2001; omega) (by rw [k48 L]; decide), c.1 i (by omega), dM L, M_numberOf_s (by omega) m (w.2.1 i (by omega)), cl_s]
    have ei : va_up V i (num n (rw i) n) i = num n (rw i) n := by rw [up_at, if_pos rfl]
    have ej : ∀ j, j ≠ i → va_up V i (num n (rw i) n) j = V j := fun j q => by rw [up_at, if_neg q]
    obtain ⟨h1, b, a1, a2, a3, a4, a5⟩ := ins_l (N := N) (re := M_numbers_2 N g) (o := o) (i := i) (by omega) O i N (va_up V i (num n (rw i) n)) h (by omega) (Nat.le_refl _) L (fun j hj => by
      by_cases q : j = i
      · rw [q, ei]; exact n31
      · rw [ej j q]; exact (hv j (by omega)).1) (fun j hj q => by rw [ej j q]; exact (hv j (by omega)).2) (fun a c h1 h2 n1 n2 => by rw [ej a n1, ej c n2]; exact s.1 a c h1 (by omega)) (fun c h1 h2 => absurd h1 (by omega))
    rw [ei] at a1
    rw [a1]
    have L1 := Fx_Lay a2 L
    have cb : ∀ y, cnt b y (i + 1) = cnt (fun j => num n (rw j) n) y (i + 1) := fun y => by
      rw [a4, cnt, cnt, ei, cnt_congr i (fun j hj => ej j (by omega)), s.2]
    have bl : ∀ j, j < i + 1 → b j < 2 ^ 31 := fun j hj => by
      by_cases q : b j < 2 ^ 31
      · exact q
      · have p := cnt_p1 (f := b) (i + 1) j hj rfl
        rw [cb, cnt_zero (i + 1) (fun k hk e => q (by rw [← e]; exact num_31 m.2.2.2))] at p
        exact absurd p (by omega)
    obtain ⟨h2, v, b1, b2, b3⟩ := ih g (i + 1) b h1 (by omega) (by omega) L1 ⟨o35 L1, by rw [Fx_I a2 (by omega)]; exact m.2.1, m.2.2⟩ (TM_g c L.1 (Gx_F a2) (by omega) (fun _ _ _ q => q)) ⟨fun a c h1 h2 => a5 a c h1 (by omega), cb⟩ (fun j hj => ⟨bl j hj, a3 j (by omega)⟩)
    exact ⟨h2, v, b1, Fx_t a2 b2, b3⟩
theorem numbers_M {N n ic rc o : Nat} {rw : Nat → Nat} {st : Bool} {cm : Option Nat} {ni cn ca : Nat} {cf : Nat → Nat} {h : Hp} (hN : 3000 < N) (w : TW n ic rc rw st cm ni cn ca cf) (O : ∀ h, Lay h → ok h [13] o = true ∧ hK h o = (13, 2001)) (o1 : o ≠ 35) (o2 : o ≠ 49) (L : Lay h) (m : Mn h n) (c : TM h rc rw st cm ni cn ca cf) : ∃ h' v, ds [(12, M_numbers N (some 35) (some o) h)] (some 35) h = some ((), h') ∧ Fi (fun a _ => a = o) h h' ∧ Srt (fun j => num n (rw j) n) v (mnt rc cm) ∧ ∀ j, j < mnt rc cm → hI h' o j = nI (v j) := by
  obtain ⟨m1, m2, m3⟩ := mnt_le w
  rw [dM L]
  unfold M_numbers
  exact numbers_l hN w O o1 o2 (mnt rc cm) N 0 (fun _ => 0) h (by omega) (by omega) L m c ⟨fun i j _ q => absurd q (by omega), fun _ => rfl⟩ (fun j q => absurd q (by omega))
