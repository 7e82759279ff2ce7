/-! PURE: the search, by the model: turns -/
def PMs (a k : Nat) : Prop := a = 35 ∧ (14 ≤ k ∧ k ≤ 16 ∨ k = 35 ∨ k = 39 ∨ k = 43 ∨ k = 44 ∨ k = 48 ∨ k = 50 ∨ k = 51 ∨ k = 53) ∨ a = 37 ∨ a = 45 ∨ 55 ≤ a ∧ a ≤ 57 ∨ a = 59 ∨ a = 60
def QMs (a k : Nat) : Prop := a = 58
def MX (h : Hp) (n mc : Nat) (D : Nat → Md) : Prop := Lay h ∧ Mn h n ∧ Ms h n mc D ∧ hI h 35 16 = 1
theorem MX_f {h h' : Hp} {n mc : Nat} {D : Nat → Md} (m : MX h n mc D) (f : Fx PMs QMs h h') (e : hI h' 35 16 = 1) : MX h' n mc D := by
  obtain ⟨m1, ⟨a1, a2, a3⟩, m3, m4⟩ := m
  exact ⟨Fx_Lay f m1, ⟨o35 (Fx_Lay f m1), by rw [Fx_I f (by unfold PMs; omega)]; exact a2, a3⟩, Ms_g m3 m1.1 (Gx_F f) (fun a k q u => by unfold PMs at u; omega), e⟩
def TMr (h h' : Hp) (D : Nat → Md) (cc : Nat) (ch : Nat → Nat) (len wd pat out : Nat) (S : SS) (rows : Nat) (T : List Nat) : Prop :=
  Fx PMs QMs h h' ∧ hI h' 37 = bm (hI h 37) T ∧ hI h' 35 39 = hI h 35 39 + nI rows ∧ hI h' 35 35 = nI out ∧ hI h' 35 16 = 1 ∧ (out = 2 → LMs h' D cc ch len wd pat S) ∧ (out ≠ 1 → hI h' 35 53 = hI h 35 53) ∧ (out = 1 → hI h' 35 53 = nI len ∧ ∀ i, i < len → hI h' 60 i = nI (ch (S.2.1 i - 1)))
theorem TMr_t {h h1 h2 : Hp} {D : Nat → Md} {cc : Nat} {ch : Nat → Nat} {len wd pat o1 o2 : Nat} {S1 S2 : SS} {r1 r2 : Nat} {T1 T2 : List Nat} (a : TMr h h1 D cc ch len wd pat o1 S1 r1 T1) (b : TMr h1 h2 D cc ch len wd pat o2 S2 r2 T2) (o : o1 ≠ 1) : TMr h h2 D cc ch len wd pat o2 S2 (r1 + r2) (T1 ++ T2) := by
  obtain ⟨a1, a2, a3, a4, a5, a6, a7, a8⟩ := a
  obtain ⟨b1, b2, b3, b4, b5, b6, b7, b8⟩ := b
  exact ⟨Fx_t a1 b1, by rw [b2, a2, bm_app], by rw [b3, a3, Int32.add_assoc, nI_add], b4, b5, b6, fun q => by rw [b7 q, a7 o], b8⟩
theorem goA {N n mc : Nat} {D : Nat → Md} {cc : Nat} {ch : Nat → Nat} {len wd pat dp : Nat} {tk fr : Nat → Nat} {sz : Nat} {w : Nat → Nat} {ga : Nat} {kn : Nat → Nat → Nat} {g : Nat} {x y : Int32} {h : Hp} (hN : 3000 < N) (X : MX h n mc D) (b : LW n mc D cc ch len wd pat dp tk fr sz w false ga kn) (c : LM h D cc ch len wd pat dp tk fr sz w false ga kn) (e35 : hI h 35 35 = nI 2) :
    ∃ h', M_go_2 N (g + 1) (some 35) x y h = (if (stA D cc ch dp tk fr sz w kn).1 = 2 then M_go_2 N g (some 35) x y h' else some ((), h')) ∧ TMr h h' D cc ch len wd pat (stA D cc ch dp tk fr sz w kn).1 (stA D cc ch dp tk fr sz w kn).2.1 0 (stA D cc ch dp tk fr sz w kn).2.2 := by
  obtain ⟨L, m, M, e16⟩ := X
  have z := L.1
  obtain ⟨⟨b1, b2, b3⟩, ⟨c1, c2, c3, c4, c5⟩, b4, b5, b6, b7, b8, b9, b10, b11, b12, b13⟩ := b
  obtain ⟨d1, d2, ⟨d3, d4, d5⟩, d6, d7, d8, d9, d10, d11⟩ := c
  have sf := b11 rfl
  have dl : dp < 12 := by omega
  have f1 := b6 dp (Nat.le_refl _)
  have k0 : (nI (tk dp) - 1 : Int32) + 1 = nI (tk dp) := Int32.sub_add_cancel _ _
  obtain ⟨h4, eh4⟩ : ∃ h4, h4 = sI (sI h 56 dp (nI (tk dp))) 35 48 (nI (fr dp)) := ⟨_, rfl⟩
  have x4 : Fi (fun a k => a = 56 ∧ k = dp ∨ a = 35 ∧ k = 48) h h4 := by rw [eh4]; exact Fx_t (Fx_sI _ _ (by omega)) (Fx_sI _ _ (by omega))
  have v56 : hI h4 56 dp = nI (tk dp) := by rw [eh4, sI_ne (by omega), sI_at]
  have v48 : hI h4 35 48 = nI (fr dp) := by rw [eh4, sI_at]
  have L4 := Fx_Lay x4 L
  have e43 : hI h4 35 43 = nI dp := by rw [Fx_I x4 (by omega)]; exact d5
  have pre : M_go_2 N (g + 1) (some 35) x y h = if nI (tk dp) = nI cc then (if nI dp = 0 then (some ((), sI h4 35 35 0)) else M_go_2 N g (some 35) x y (sI h4 35 43 (nI dp - 1))) else (cl (ds [(12, M_begins N (some 35) h4)] (some 35) h4) fun x51 h50 => pz [12] 44 (some 35) x51 h50 fun h52 => M_go_2 N g (some 35) x y h52) := by
    have l1 := lay_s 56 dp (nI (tk dp)) L
    rw [M_go_2]
    rw [gi_s (o35 L), d10, if_pos (show qI false = 0 from rfl), gr_s (o35 L), r35_45 L, gi_s (o35 L), d5, li_s (o56 L) (by rw [k56 L]; exact dl) (by rw [k56 L]; decide), (d7 dp (Nat.le_refl _)).1, k0, si_s (o56 L) (by rw [k56 L]; exact dl) (by rw [k56 L]; decide), gr_s (o35 l1), r35_46 l1, gi_s (o35 l1), sI_ne (by omega), d5, li_s (o57 l1) (by rw [k57 l1]; exact dl) (by rw [k57 l1]; decide), sI_ne (by omega), (d7 dp (Nat.le_refl _)).2, pi_s (o35 l1), ← eh4, gr_s (o35 L4), r35_45 L4, gi_s (o35 L4), e43, li_s (o56 L4) (by rw [k56 L4]; exact dl) (by rw [k56 L4]; decide), v56, gi_s (o35 L4), Fx_I x4 (show ¬ (35 = 56 ∧ 41 = dp ∨ 35 = 35 ∧ 41 = 48) by omega), d1, gi_s (o35 L4), e43, pi_s (o35 L4), gi_s (o35 L4), e43, pi_s (o35 L4)]
  clear eh4
  have g2 : ∀ (u v : Option (Unit × Hp)) (o : Nat), o = 2 → (if o = 2 then u else v) = u := fun u v o e => if_pos e
  by_cases q : tk dp < cc
  · obtain ⟨h5, e1, x5, t5, u16, u55, ug⟩ := begins_M (N := N) (j := tk dp) (kv := kn dp (tk dp)) hN L4 (Ms_g M z (Gx_F x4) (by omega)) (by rw [Fx_I x4 (by omega)]; exact e16) b2 b1 q dl e43 v56 (by rw [Fx_I x4 (by omega)]; exact d2 (tk dp) q) (by rw [Fx_I x4 (by omega)]; exact d9 dp (tk dp) dl q) (b13 dp (tk dp) dl q).1 (b13 dp (tk dp) dl q).2.1
    have kk : (if kn dp (tk dp) = 0 then kn1 (LRd D ch dp (tk dp)) else kn dp (tk dp)) = knA D ch dp tk kn := rfl
    rw [kk] at e1 u55 ug
    have L5 := Fx_Lay x5 L4
    unfold stA
    rw [if_pos q]
    have x6 : Fi (fun a k => (a = 56 ∧ k = dp ∨ a = 35 ∧ k = 48) ∨ PMb (90 * dp + tk dp) a k ∨ a = 35 ∧ k = 44) h (sI h5 35 44 (qI (decide (knA D ch dp tk kn = 1)))) := Fx_t (Fx_m x4 (fun _ _ q => Or.inl q) (fun _ _ q => q)) (Fx_t (Fx_m x5 (fun _ _ q => Or.inr (Or.inl q)) (fun _ _ q => q)) (Fx_sI _ _ (Or.inr (Or.inr ⟨rfl, rfl⟩))))
    have v44 : hI (sI h5 35 44 (qI (decide (knA D ch dp tk kn = 1)))) 35 44 = qI (decide (knA D ch dp tk kn = 1)) := sI_at ..
    have w5 : ∀ a k, ¬ (a = 35 ∧ k = 44) → hI (sI h5 35 44 (qI (decide (knA D ch dp tk kn = 1)))) a k = hI h5 a k := fun a k q => sI_ne (by omega)
    have r5 : hI (sI h5 35 44 (qI (decide (knA D ch dp tk kn = 1)))) 37 = hI h5 37 := sI_row' (by omega)
    have pz5 : ∀ f : Hp → Option (Unit × Hp), pz [12] 44 (some 35) (qI (decide (knA D ch dp tk kn = 1))) h5 f = f (sI h5 35 44 (qI (decide (knA D ch dp tk kn = 1)))) := fun f => pz_s (o35 L5) (by cases decide (knA D ch dp tk kn = 1) <;> simp [qI])
    generalize sI h5 35 44 (qI (decide (knA D ch dp tk kn = 1))) = h6 at x6 v44 w5 r5 pz5
    have tu : va_up tk dp (tk dp + 1) dp = tk dp + 1 := by rw [up_at, if_pos rfl]
    have y56 : hI h6 56 dp = nI (tk dp) := by rw [w5 _ _ (by omega), Fx_I x5 (by unfold PMb; omega)]; exact v56
    have y48 : hI h6 35 48 = nI (fr dp) := by rw [w5 _ _ (by omega), Fx_I x5 (by unfold PMb; omega)]; exact v48
    refine ⟨h6, ?_, Fx_m x6 (fun a k q => by unfold PMb at q; unfold PMs; omega) (fun _ _ q => q.elim), ?_, ?_, ?_, ?_, fun _ => ?_, fun _ => ?_, fun u => absurd (show (2 : Nat) = 1 from u) (by decide)⟩
    · rw [pre, if_neg (fun u => absurd ((nI_eq (by omega) (by omega)).mp u) (by omega)), e1, cl_s, pz5]
      exact (g2 _ _ _ rfl).symm
    · rw [r5, t5, Fx_row x4 (by omega)]
    · rw [Fx_I x6 (by unfold PMb; omega)]; exact (Int32.add_zero _).symm
    · rw [Fx_I x6 (by unfold PMb; omega)]; exact e35
    · rw [w5 _ _ (by omega)]; exact u16
    · refine ⟨?_, fun j hj => ?_, ⟨?_, ?_, ?_⟩, ?_, fun d hd => ⟨?_, ?_⟩, fun j hj => ?_, fun d j hd hj => ?_, v44, fun e => ?_⟩
      · rw [Fx_I x6 (by unfold PMb; omega)]; exact d1
      · rw [Fx_I x6 (by unfold PMb; omega)]; exact d2 j hj
      · rw [Fx_I x6 (by unfold PMb; omega)]; exact d3
      · rw [Fx_I x6 (by unfold PMb; omega)]; exact d4
      · rw [Fx_I x6 (by unfold PMb; omega)]; exact d5
      · rw [Fi_L x6]; exact d6
      · have hd' : d ≤ dp := hd
        show hI h6 56 d = nI (va_up tk dp (tk dp + 1) d) - 1
        by_cases u : d = dp
        · rw [u, tu, sN_1 (by omega), y56]; rfl
        · rw [up_at, if_neg u, Fx_I x6 (by unfold PMb; omega)]; exact (d7 d hd).1
      · rw [Fx_I x6 (by unfold PMb; omega)]; exact (d7 d hd).2
      · rw [Fi_L x6]; exact d8 j hj
      · show hI h6 55 (90 * d + j) = nI (up2 kn dp (tk dp) (knA D ch dp tk kn) d j)
        rw [up2_at]
        by_cases u : d = dp ∧ j = tk dp
        · rw [if_pos u, u.1, u.2, w5 _ _ (by omega)]; exact u55
        · rw [if_neg u, Fx_I x6 (by
            have hj' : j < cc := hj
            unfold PMb; omega)]
          exact d9 d j hd hj
      · have e' : knA D ch dp tk kn = 1 := of_decide_eq_true e
        obtain ⟨u1, u2, u3⟩ := ug e'
        show hI h6 35 48 = nI sz ∧ hI h6 35 51 = nI 0 ∧ hI h6 35 50 = nI (LRd D ch dp (va_up tk dp (tk dp + 1) dp - 1)).2.1 ∧ ∀ k, k < (LRd D ch dp (va_up tk dp (tk dp + 1) dp - 1)).2.1 → hI h6 59 k = nI ((LRd D ch dp (va_up tk dp (tk dp + 1) dp - 1)).2.2 k)
        rw [tu, Nat.add_sub_cancel]
        exact ⟨by rw [y48, sf], by rw [w5 _ _ (by omega)]; exact u2, by rw [w5 _ _ (by omega)]; exact u1, fun k hk => by rw [w5 _ _ (by omega)]; exact u3 k hk⟩
    · rw [Fx_I x6 (by unfold PMb; omega)]
  · have tc : tk dp = cc := by omega
    unfold stA
    rw [if_neg q]
    by_cases d0 : dp = 0
    · rw [if_pos d0]
      have x5 : Fi (fun a k => (a = 56 ∧ k = dp ∨ a = 35 ∧ k = 48) ∨ a = 35 ∧ k = 35) h (sI h4 35 35 0) := Fx_t (Fx_m x4 (fun _ _ q => Or.inl q) (fun _ _ q => q)) (Fx_sI _ _ (Or.inr ⟨rfl, rfl⟩))
      refine ⟨sI h4 35 35 0, ?_, Fx_m x5 (fun a k q => by unfold PMs; omega) (fun _ _ q => q.elim), ?_, ?_, ?_, ?_, fun u => absurd (show (0 : Nat) = 2 from u) (by decide), fun _ => ?_, fun u => absurd (show (0 : Nat) = 1 from u) (by decide)⟩
      · rw [pre, if_pos (by rw [tc]), if_pos ((eN_0 (by omega)).mpr d0)]
        exact (if_neg (show ¬ (0 : Nat) = 2 by decide)).symm
      · rw [Fx_row x5 (by omega)]; rfl
      · rw [Fx_I x5 (by omega)]; exact (Int32.add_zero _).symm
      · rw [sI_at]; rfl
      · rw [Fx_I x5 (by omega)]; exact e16
      · rw [Fx_I x5 (by omega)]
    · rw [if_neg d0]
      have x5 : Fi (fun a k => (a = 56 ∧ k = dp ∨ a = 35 ∧ k = 48) ∨ a = 35 ∧ k = 43) h (sI h4 35 43 (nI (dp - 1))) := Fx_t (Fx_m x4 (fun _ _ q => Or.inl q) (fun _ _ q => q)) (Fx_sI _ _ (Or.inr ⟨rfl, rfl⟩))
      have fm := b7 (dp - 1) (by omega)
      refine ⟨sI h4 35 43 (nI (dp - 1)), ?_, Fx_m x5 (fun a k q => by unfold PMs; omega) (fun _ _ q => q.elim), ?_, ?_, ?_, ?_, fun _ => ?_, fun _ => ?_, fun u => absurd (show (2 : Nat) = 1 from u) (by decide)⟩
      · rw [pre, if_pos (by rw [tc]), if_neg (fun u => d0 ((eN_0 (by omega)).mp u)), nI_m1 (by omega)]
        exact (g2 _ _ _ rfl).symm
      · rw [Fx_row x5 (by omega)]; rfl
      · rw [Fx_I x5 (by omega)]; exact (Int32.add_zero _).symm
      · rw [Fx_I x5 (by omega)]; exact e35
      · rw [Fx_I x5 (by omega)]; exact e16
      · refine ⟨?_, fun j hj => ?_, ⟨?_, ?_, sI_at ..⟩, ?_, fun d hd => ⟨?_, ?_⟩, fun j hj => ?_, fun d j hd hj => ?_, ?_, fun e => (by cases e)⟩
        · rw [Fx_I x5 (by omega)]; exact d1
        · rw [Fx_I x5 (by omega)]; exact d2 j hj
        · rw [Fx_I x5 (by omega)]; exact d3
        · rw [Fx_I x5 (by omega)]; exact d4
        · rw [Fi_L x5]; exact d6
        · have hd' : d ≤ dp - 1 := hd
          rw [Fx_I x5 (by omega)]; exact (d7 d (by omega)).1
        · have hd' : d ≤ dp - 1 := hd
          rw [Fx_I x5 (by omega)]; exact (d7 d (by omega)).2
        · have hj' : j < fr (dp - 1) := hj
          rw [Fi_L x5]; exact d8 j (by omega)
        · rw [Fx_I x5 (by omega)]; exact d9 d j hd hj
        · rw [Fx_I x5 (by omega)]; exact d10
      · rw [Fx_I x5 (by omega)]
/-! rows there, compositions, what was found -/
theorem there_l {N n sz row : Nat} {w : Nat → Nat} {h : Hp} (hn : n ≤ 12) (L : Lay h) (e : hI h 35 48 = nI sz) (hs : sz ≤ 1201) (hw : ∀ j, j < sz → Rw n (w j) ∧ hL h 58 j = lN (w j)) (rr : Rw n row) : ∀ (r g i : Nat), i + r = sz → r < g → (∀ a, a < i → w a ≠ row) → M_isThere_2 N g (some 35) (lN row) (nI i) h = some (qI (thr w row sz), h)
  | r, 0, _, _, hg, _ => absurd hg (by omega)
  | 0, g + 1, i, hi, _, ha => by
    simp only [M_isThere_2]
    rw [gi_s (o35 L), e, if_pos ((nI_leI (by omega) (by omega)).mpr (by omega)), rz_0]
    have : thr w row sz = false := by
      cases q : thr w row sz with
      | false => rfl
      | true =>
        obtain ⟨j, h1, h2⟩ := (thr_t sz).mp q
        exact absurd h2 (ha j (by omega))
    rw [this]
    rfl
  | r + 1, g + 1, i, hi, hg, ha => by
    simp only [M_isThere_2]
    obtain ⟨w1, w2⟩ := hw i (by omega)
    rw [gi_s (o35 L), e, if_neg (fun u => absurd ((nI_leI (by omega) (by omega)).mp u) (by omega)), gr_s (o35 L), r35_47 L, ll_s (o58 L) (by rw [k58 L]; show i < 1201; omega) (by rw [k58 L]; decide), w2]
    by_cases q : w i = row
    · rw [if_pos ((lg_eq _ _).mpr (by rw [q])), rz_1, (thr_t sz).mpr ⟨i, by omega, q⟩]
      rfl
    · rw [if_neg (fun u => q (lN_inj (rw64 hn w1) (rw64 hn rr) ((lg_eq _ _).mp u))), nmE, show nI i + 1 = nI (i + 1) from aN_1 i]
      exact there_l hn L e hs hw rr r g (i + 1) (by omega) (by omega) (fun a h1 => by
        by_cases u : a = i
        · rw [u]; exact q
        · exact ha a (by omega))
theorem comp_l {N n sz pat wd : Nat} {w : Nat → Nat} {h : Hp} (hN : 3000 < N) (L : Lay h) (m : Mn h n) (e : hI h 35 48 = nI sz) (hs : sz ≤ 1201) (e37 : hI h 35 37 = nI wd) (w31 : wd < 2 ^ 31) (e38 : hL h 35 38 = lN pat) (hp : pat < 16 ^ n) (hw : ∀ j, j < sz → Rw n (w j) ∧ hL h 58 j = lN (w j)) : ∀ (r g i : Nat), i + 1 + r = sz → r < g → M_isComposed_25 N g (some 35) (nI (fcn n pat w i)) (nI (i + 1)) h = some (qI (decide (wd ≤ fcn n pat w (sz - 1))), h)
  | r, 0, _, _, hg => absurd hg (by omega)
  | 0, g + 1, i, hi, _ => by
    have := fcn_le n pat w i
    simp only [M_isComposed_25]
    rw [gi_s (o35 L), e, if_pos ((nI_leI (by omega) (by omega)).mpr (by omega)), gi_s (o35 L), e37, show sz - 1 = i by omega]
    by_cases q : wd ≤ fcn n pat w i
    · rw [if_neg (fun u => absurd ((nI_ltI (by omega) (by omega)).mp u) (by omega)), rz_1, decide_eq_true q]
      rfl
    · rw [if_pos ((nI_ltI (by omega) (by omega)).mpr (by omega)), rz_0, decide_eq_false q]
      rfl
  | r + 1, g + 1, i, hi, hg => by
    have hn := m.2.2.2
    obtain ⟨w1, w2⟩ := hw (i + 1) (by omega)
    have l12 := lN_lt12 hn w1.1
    have p12 := lN_lt12 hn hp
    simp only [M_isComposed_25]
    rw [gi_s (o35 L), e, if_neg (fun u => absurd ((nI_leI (by omega) (by omega)).mp u) (by omega)), gr_s (o35 L), r35_47 L, ll_s (o58 L) (by rw [k58 L]; show i + 1 < 1201; omega) (by rw [k58 L]; decide), w2, gl_s (o35 L), e38, dM L]
    have ih := comp_l hN L m e hs e37 w31 e38 hp hw r g (i + 1) (by omega) (by omega)
    have fa := fit_and (n := n) (v := w (i + 1)) (w := pat) hn l12 hp
    rcases M_isFitting_s (N := N) (n := n) (v := w (i + 1)) (w := pat) (h := h) (by omega) m (by omega) (by omega) with ⟨a1, a2⟩ | ⟨a1, a2⟩
    · rw [a2, cl_s, if_neg i10]
      unfold M_isComposed_56
      rw [nmE, nmE, aN_1, aN_1]
      rw [show fcn n pat w i + 1 = fcn n pat w (i + 1) by rw [fcn, if_pos (fa.mpr a1)]]
      exact ih
    · rw [a2, cl_s, if_pos rfl]
      unfold M_isComposed_56
      rw [nmE, nmE, aN_1, Int32.add_zero]
      rw [show fcn n pat w i = fcn n pat w (i + 1) by rw [fcn, if_neg (fun u => a1 (fa.mp u))]; rfl]
      exact ih
theorem tell_l {N len cc : Nat} {ch tk : Nat → Nat} (l12 : len ≤ 12) (c90 : cc ≤ 90) : ∀ (r g i : Nat) (h : Hp), i + r = len → r < g → Lay h → hI h 35 36 = nI len → (∀ j, j < len → 1 ≤ tk j ∧ tk j ≤ cc ∧ hI h 56 j = nI (tk j) - 1) → (∀ j, j < cc → hI h 54 j = nI (ch j)) → (∀ j, j < i → hI h 60 j = nI (ch (tk j - 1))) → ∃ h', M_tell_7 N g (some 35) (nI i) h = some ((), h') ∧ Fi (fun a k => a = 35 ∧ k = 53 ∨ a = 60) h h' ∧ hI h' 35 53 = nI len ∧ ∀ j, j < len → hI h' 60 j = nI (ch (tk j - 1))
  | r, 0, _, _, _, hg, _, _, _, _, _ => absurd hg (by omega)
  | 0, g + 1, i, h, hi, _, L, e, ht, hc, hd => by
    simp only [M_tell_7]
    rw [gi_s (o35 L), e, if_pos ((nI_leI (by omega) (by omega)).mpr (by omega)), gi_s (o35 L), e, pi_s (o35 L)]
    exact ⟨_, rfl, Fx_sI _ _ (by omega), sI_at .., fun j hj => by rw [sI_ne (by omega)]; exact hd j (by omega)⟩
  | r + 1, g + 1, i, h, hi, hg, L, e, ht, hc, hd => by
    simp only [M_tell_7]
    obtain ⟨t1, t2, t3⟩ := ht i (by omega)
    rw [gi_s (o35 L), e, if_neg (fun u => absurd ((nI_leI (by omega) (by omega)).mp u) (by omega)), gr_s (o35 L), r35_52 L, gr_s (o35 L), r35_40 L, gr_s (o35 L), r35_45 L, li_s (o56 L) (by rw [k56 L]; show i < 12; omega) (by rw [k56 L]; decide), t3, nI_m1 t1, li_s (o54 L) (by rw [k54 L]; show tk i - 1 < 90; omega) (by rw [k54 L]; decide), hc (tk i - 1) (by omega), si_s (o60 L) (by rw [k60 L]; show i < 12; omega) (by rw [k60 L]; decide), nmE, show nI i + 1 = nI (i + 1) from aN_1 i]
    obtain ⟨h', a1, a2, a3, a4⟩ := tell_l (N := N) l12 c90 r g (i + 1) (sI h 60 i (nI (ch (tk i - 1)))) (by omega) (by omega) L (by rw [sI_ne (by omega)]; exact e) (fun j hj => by rw [sI_ne (by omega)]; exact ht j hj) (fun j hj => by rw [sI_ne (by omega)]; exact hc j hj) (fun j hj => by
      by_cases q : j = i
      · rw [q, sI_at]
      · rw [sI_ne (by omega)]; exact hd j (by omega))
    exact ⟨h', a1, Fx_t (Fx_sI _ _ (by omega)) a2, a3, a4⟩
