/-! PURE: the search, by the model: a row; the whole of it -/
theorem goB {N n mc : Nat} {D : Nat → Md} {cc : Nat} {ch : Nat → Nat} {len wd pat dp : Nat} {tk fr : Nat → Nat} {sz : Nat} {w : Nat → Nat} {ga : Nat} {kn : Nat → Nat → Nat} {g did most : Nat} {h : Hp} (hN : 3000 < N) (X : MX h n mc D) (b : LW n mc D cc ch len wd pat dp tk fr sz w true ga kn) (c : LM h D cc ch len wd pat dp tk fr sz w true ga kn) (e35 : hI h 35 35 = nI 2) (hd : did < most) (hm : most < 2 ^ 31) :
    ∃ g' h', g ≤ g' ∧ M_go_2 N (g + 2) (some 35) (nI most) (nI did) h = (if (stB n D ch len wd pat dp tk fr sz w ga kn).1 = 2 then M_go_2 N g' (some 35) (nI most) (nI (did + 1)) h' else some ((), h')) ∧ TMr h h' D cc ch len wd pat (stB n D ch len wd pat dp tk fr sz w ga kn).1 (stB n D ch len wd pat dp tk fr sz w ga kn).2 1 [] := by
  obtain ⟨L, m, M, e16⟩ := X
  have z := L.1
  have hn := m.2.2.2
  have hw : ∀ m, m < mc → Wm n m D := fun m hm => (M.2.2 m hm).2
  obtain ⟨⟨b1, b2, b3⟩, ⟨c1, c2, c3, c4, c5⟩, b4, b5, b6, b7, b8, b9, b10, b11, b12, b13⟩ := b
  obtain ⟨d1, d2, ⟨d3, d4, d5⟩, d6, d7, d8, d9, d10, d11⟩ := c
  obtain ⟨i1, i2, i3, i4⟩ := b12 rfl
  obtain ⟨j1, j2, j3, j4⟩ := d11 rfl
  have dl : dp < 12 := by omega
  have f1 := b6 dp (Nat.le_refl _)
  have tl : tk dp - 1 < cc := by omega
  have rok := RWd (d := dp) hw b2 tl
  obtain ⟨R, eR⟩ : ∃ R, R = LRd D ch dp (tk dp - 1) := ⟨_, rfl⟩
  rw [← eR] at i4 rok j3 j4
  have r100 := rok.2.1
  have chk := rok.2.2 ga i4
  have rp := b9 (sz - 1) (by omega)
  have rr : Rw n (chg (w (sz - 1)) (R.2.2 ga)) := chg_rw rp chk
  obtain ⟨row, erow⟩ : ∃ row, row = chg (w (sz - 1)) (R.2.2 ga) := ⟨_, rfl⟩
  rw [← erow] at rr
  have r64 := rw64 hn rr
  have d64 := rw64 hn (rd_rw hn)
  obtain ⟨F, eF⟩ : ∃ F, F = fcn n pat w (sz - 1) + fit1 pat row := ⟨_, rfl⟩
  obtain ⟨h1, eh1⟩ : ∃ h1, h1 = sI (sI h 35 39 (hI h 35 39 + 1)) 35 51 (nI (ga + 1)) := ⟨_, rfl⟩
  have x1 : Fi (fun a k => a = 35 ∧ (k = 39 ∨ k = 51)) h h1 := by rw [eh1]; exact Fx_t (Fx_sI _ _ (by omega)) (Fx_sI _ _ (by omega))
  have v51 : hI h1 35 51 = nI (ga + 1) := by rw [eh1, sI_at]
  have v39 : hI h1 35 39 = hI h 35 39 + 1 := by rw [eh1, sI_ne (by omega), sI_at]
  have L1 := Fx_Lay x1 L
  have m1 : Mn h1 n := ⟨o35 L1, by rw [Fx_I x1 (by omega)]; exact m.2.1, m.2.2⟩
  have q43 : hI h1 35 43 = nI dp := by rw [Fx_I x1 (by omega)]; exact d5
  have q36 : hI h1 35 36 = nI len := by rw [Fx_I x1 (by omega)]; exact d3
  have q50 : hI h1 35 50 = nI R.2.1 := by rw [Fx_I x1 (by omega)]; exact j3
  have q48 : hI h1 35 48 = nI sz := by rw [Fx_I x1 (by omega)]; exact j1
  have pre : M_go_2 N (g + 2) (some 35) (nI most) (nI did) h = if (dp + 1 = len ∧ ga + 1 = R.2.1) ∧ row = rd n then M_go_256 N (M_go_2 N (g + 1)) (some 35) (nI most) (nI (did + 1)) (lN row) 1 h1 else M_go_256 N (M_go_2 N (g + 1)) (some 35) (nI most) (nI (did + 1)) (lN row) 0 h1 := by
    have l1 := lay_s 35 39 (hI h 35 39 + 1) L
    rw [M_go_2]
    rw [gi_s (o35 L), d10, if_neg (show ¬ qI true = 0 by decide), gi_s (o35 L), j2, gi_s (o35 L), j3, if_neg (fun u => absurd ((nI_eq (by omega) (by omega)).mp u) (by omega)), if_neg (fun u => absurd ((nI_eq (by omega) (by omega)).mp u) (by omega)), nmE, gi_s (o35 L), pi_s (o35 L), gr_s (o35 l1), r35_47 l1, gi_s (o35 l1), sI_ne (by omega), j1, nI_m1 (by omega), ll_s (o58 l1) (by rw [k58 l1]; show sz - 1 < 1201; omega) (by rw [k58 l1]; decide), hL_sI, d8 (sz - 1) (by omega), gr_s (o35 l1), r35_49 l1, gi_s (o35 l1), sI_ne (by omega), j2, li_s (o59 l1) (by rw [k59 l1]; show ga < 100; omega) (by rw [k59 l1]; decide), sI_ne (by omega), j4 ga i4, M_done_s (by omega) (ch_lt hn chk) (lN_lt12 hn rp.1), cl_s, gi_s (o35 l1), sI_ne (by omega), j2, aN_1, pi_s (o35 l1), ← eh1, gi_s (o35 L1), q43, gi_s (o35 L1), q36, nI_m1 c1, gi_s (o35 L1), v51, gi_s (o35 L1), q50, dM L1, M_rounds_s (by omega) m1, cl_s, ← erow, aN_1]
    unfold M_go_255
    by_cases u1 : dp + 1 = len
    · rw [if_pos (by congr 1; omega)]
      by_cases u2 : ga + 1 = R.2.1
      · rw [if_pos (by rw [u2])]
        by_cases u3 : row = rd n
        · rw [if_pos ((lg_eq _ _).mpr (by rw [u3])), if_pos ⟨⟨u1, u2⟩, u3⟩]
        · rw [if_neg (fun t => u3 (lN_inj r64 d64 ((lg_eq _ _).mp t))), if_neg (fun t => u3 t.2)]
      · rw [if_neg (fun t => u2 ((nI_eq (by omega) (by omega)).mp t)), if_neg (fun t => u2 t.1.2)]
    · rw [if_neg (fun t => u1 (by have := (nI_eq (by omega) (by omega)).mp t; omega)), if_neg (fun t => u1 t.1.1)]
  clear eh1
  have th : ds [(12, M_isThere N (some 35) (lN row) h1)] (some 35) h1 = some (qI (thr w row sz), h1) := by
    rw [dM L1]
    unfold M_isThere
    exact there_l hn L1 q48 (by omega) (fun j hj => ⟨b9 j hj, by rw [Fi_L x1]; exact d8 j hj⟩) rr sz N 0 (by omega) (by omega) (fun a q => absurd q (by omega))
  have i1' : hI h 35 39 + nI 1 = hI h 35 39 + 1 := rfl
  /- the item is left -/
  have back : ∀ h', Fx (fun a k => a = 35 ∧ (k = 39 ∨ k = 44 ∨ k = 48 ∨ k = 51)) (fun a k => a = 58 ∧ k = sz) h h' → hI h' 35 39 = hI h 35 39 + 1 → hI h' 35 44 = 0 → TMr h h' D cc ch len wd pat 2 (dp, tk, fr, fr dp, w, false, 0, kn) 1 [] := by
    intro h' x e39 e44
    refine ⟨Fx_m x (fun a k q => by unfold PMs; omega) (fun a k q => q.1), by rw [Fx_row x (by omega)]; rfl, by rw [i1']; exact e39, by rw [Fx_I x (by omega)]; exact e35, by rw [Fx_I x (by omega)]; exact e16, fun _ => ?_, fun _ => by rw [Fx_I x (by omega)], fun u => absurd u (by decide)⟩
    refine ⟨?_, fun j hj => ?_, ⟨?_, ?_, ?_⟩, ?_, fun d hd => ⟨?_, ?_⟩, fun j hj => ?_, fun d j hd hj => ?_, e44, fun e => (by cases e)⟩
    · rw [Fx_I x (by omega)]; exact d1
    · rw [Fx_I x (by omega)]; exact d2 j hj
    · rw [Fx_I x (by omega)]; exact d3
    · rw [Fx_I x (by omega)]; exact d4
    · rw [Fx_I x (by omega)]; exact d5
    · rw [Fx_L x (by omega)]; exact d6
    · rw [Fx_I x (by omega)]; exact (d7 d hd).1
    · rw [Fx_I x (by omega)]; exact (d7 d hd).2
    · have hj' : j < fr dp := hj
      rw [Fx_L x (by omega)]; exact d8 j (by omega)
    · rw [Fx_I x (by omega)]; exact d9 d j hd hj
  /- the row is put down -/
  obtain ⟨h5, eh5⟩ : ∃ h5, h5 = sI (sL h1 58 sz (lN row)) 35 48 (nI (sz + 1)) := ⟨_, rfl⟩
  have l4 : Lay (sL h1 58 sz (lN row)) := L1
  have push : ∀ re : Option Nat → Int32 → Int32 → Hp → Option (Unit × Hp), M_go_279 N re (some 35) (nI most) (nI (did + 1)) (lN row) h1 = re (some 35) (nI most) (nI (did + 1)) h5 := fun re => by
    unfold M_go_279
    rw [gr_s (o35 L1), r35_47 L1, gi_s (o35 L1), q48, sl_s (o58 L1) (by rw [k58 L1]; show sz < 1201; omega) (by rw [k58 L1]; decide), gi_s (o35 l4), hI_sL, q48, aN_1, pi_s (o35 l4), eh5]
  have x5 : Fx (fun a k => a = 35 ∧ (k = 39 ∨ k = 51 ∨ k = 48)) (fun a k => a = 58 ∧ k = sz) h h5 := by rw [eh5]; exact Fx_t (Fx_m x1 (fun a k q => by omega) (fun _ _ q => q.elim)) (Fx_t (Fx_sL _ _ ⟨rfl, rfl⟩) (Fx_sI _ _ (by omega)))
  have y48 : hI h5 35 48 = nI (sz + 1) := by rw [eh5, sI_at]
  have y58 : hL h5 58 sz = lN row := by rw [eh5, hL_sI, sL_at]
  have y51 : hI h5 35 51 = nI (ga + 1) := by rw [eh5, sI_ne (by omega), hI_sL]; exact v51
  have y39 : hI h5 35 39 = hI h 35 39 + 1 := by rw [eh5, sI_ne (by omega), hI_sL]; exact v39
  clear eh5
  have L5 := Fx_Lay x5 L
  have ww : ∀ j, j < sz + 1 → Rw n (va_up w sz row j) ∧ hL h5 58 j = lN (va_up w sz row j) := fun j hj => by
    rw [up_at]
    by_cases q : j = sz
    · rw [if_pos q, q]; exact ⟨rr, y58⟩
    · rw [if_neg q]; exact ⟨b9 j (by omega), by rw [Fx_L x5 (by omega)]; exact d8 j (by omega)⟩
  have fe : ∀ j, j < sz → fcn n pat (va_up w sz row) j = fcn n pat w j := fun j hj => fcn_c j (fun i h1 h2 => by rw [up_at, if_neg (by omega)])
  have fF : fcn n pat (va_up w sz row) sz = F := by
    rw [eF]
    obtain ⟨s', es⟩ : ∃ s', sz = s' + 1 := ⟨sz - 1, by omega⟩
    have fs := fe s' (by omega)
    rw [es] at fs ⊢
    rw [fcn, up_at, if_pos rfl, Nat.add_sub_cancel, fs]
    rfl
  /- the item has ended -/
  obtain ⟨h6, eh6⟩ : ∃ h6, h6 = sI h5 35 44 0 := ⟨_, rfl⟩
  have x6 : Fx (fun a k => a = 35 ∧ (k = 39 ∨ k = 44 ∨ k = 48 ∨ k = 51)) (fun a k => a = 58 ∧ k = sz) h h6 := by rw [eh6]; exact Fx_t (Fx_m x5 (fun a k q => by omega) (fun _ _ q => q)) (Fx_sI _ _ (by omega))
  have x56 : Fi (fun a k => a = 35 ∧ k = 44) h5 h6 := by rw [eh6]; exact Fx_sI _ _ ⟨rfl, rfl⟩
  have z44 : hI h6 35 44 = 0 := by rw [eh6, sI_at]
  have z39 : hI h6 35 39 = hI h 35 39 + 1 := by rw [Fx_I x56 (by omega)]; exact y39
  have L6 := Fx_Lay x6 L
  have m6 : Mn h6 n := ⟨o35 L6, by rw [Fx_I x6 (by omega)]; exact m.2.1, m.2.2⟩
  have w43 : hI h6 35 43 = nI dp := by rw [Fx_I x6 (by omega)]; exact d5
  have w36 : hI h6 35 36 = nI len := by rw [Fx_I x6 (by omega)]; exact d3
  have w48 : hI h6 35 48 = nI (sz + 1) := by rw [Fx_I x56 (by omega)]; exact y48
  have second : ga + 1 = R.2.1 → M_go_2 N (g + 1) (some 35) (nI most) (nI (did + 1)) h5 = if dp + 1 = len then (cl (ds [(12, M_isComposed N (some 35) h6)] (some 35) h6) fun x36 h35 => if x36 = 0 then (M_go_2 N g (some 35) (nI most) (nI (did + 1)) h35) else (cl (ds [(12, M_tell N (some 35) h35)] (some 35) h35) fun _ h37 => some ((), h37))) else M_go_2 N g (some 35) (nI most) (nI (did + 1)) (sI (sI (sI h6 35 43 (nI (dp + 1))) 56 (dp + 1) (-1)) 57 (dp + 1) (nI (sz + 1))) := by
    intro eg
    rw [M_go_2]
    rw [gi_s (o35 L5), Fx_I x5 (show ¬ (35 = 35 ∧ (44 = 39 ∨ 44 = 51 ∨ 44 = 48)) by omega), d10, if_neg (show ¬ qI true = 0 by decide), gi_s (o35 L5), y51, gi_s (o35 L5), Fx_I x5 (show ¬ (35 = 35 ∧ (50 = 39 ∨ 50 = 51 ∨ 50 = 48)) by omega), j3, if_pos (by rw [eg]), pz_s (o35 L5) (Or.inl rfl), ← eh6, gi_s (o35 L6), w43, gi_s (o35 L6), w36, nI_m1 c1]
    by_cases u1 : dp + 1 = len
    · rw [if_pos (by congr 1; omega), if_pos u1]
    · have l7 := lay_s 35 43 (nI (dp + 1)) L6
      have l8 := lay_s 56 (dp + 1) (-1) l7
      rw [if_neg (fun t => u1 (by have := (nI_eq (by omega) (by omega)).mp t; omega)), if_neg u1, gi_s (o35 L6), w43, aN_1, pi_s (o35 L6), gr_s (o35 l7), r35_45 l7, gi_s (o35 l7), sI_at, si_s (o56 l7) (by rw [k56 l7]; show dp + 1 < 12; omega) (by rw [k56 l7]; decide), gr_s (o35 l8), r35_46 l8, gi_s (o35 l8), sI_ne (by omega), sI_at, gi_s (o35 l8), sI_ne (by omega), sI_ne (by omega), w48, si_s (o57 l8) (by rw [k57 l8]; show dp + 1 < 12; omega) (by rw [k57 l8]; decide)]
  have comp : ds [(12, M_isComposed N (some 35) h6)] (some 35) h6 = some (qI (decide (row = rd n ∧ wd ≤ F)), h6) := by
    rw [dM L6]
    unfold M_isComposed
    rw [gr_s (o35 L6), r35_47 L6, gi_s (o35 L6), w48, sN_1 (by omega), Nat.add_sub_cancel, ll_s (o58 L6) (by rw [k58 L6]; show sz < 1201; omega) (by rw [k58 L6]; decide), Fi_L x56, y58, dM L6, M_rounds_s (by omega) m6, cl_s]
    by_cases u : row = rd n
    · rw [if_pos ((lg_eq _ _).mpr (by rw [u]))]
      have := comp_l (N := N) (n := n) (sz := sz + 1) (pat := pat) (wd := wd) (w := va_up w sz row) hN L6 m6 w48 (by omega) (by rw [Fx_I x6 (by omega)]; exact d4) c4 (by rw [Fx_L x6 (by omega)]; exact d6) c5.1 (fun j hj => ⟨(ww j hj).1, by rw [Fi_L x56]; exact (ww j hj).2⟩) sz N 0 (by omega) (by omega)
      rw [Nat.add_sub_cancel, fF] at this
      rw [show decide (row = rd n ∧ wd ≤ F) = decide (wd ≤ F) by
        by_cases v : wd ≤ F
        · rw [decide_eq_true v, decide_eq_true ⟨u, v⟩]
        · rw [decide_eq_false v, decide_eq_false (fun t => v t.2)]]
      exact this
    · rw [if_neg (fun t => u (lN_inj r64 d64 ((lg_eq _ _).mp t))), rz_0, decide_eq_false (fun t => u t.1)]
      rfl
  clear eh6
  have g2 : ∀ (u v : Option (Unit × Hp)) (o : Nat), o = 2 → u = (if o = 2 then u else v) := fun u v o e => (if_pos e).symm
  have lv : ∃ g' h', g ≤ g' ∧ (pz [12] 44 (some 35) 0 h1 fun h3 => M_go_2 N (g + 1) (some 35) (nI most) (nI (did + 1)) h3) = M_go_2 N g' (some 35) (nI most) (nI (did + 1)) h' ∧ TMr h h' D cc ch len wd pat 2 (dp, tk, fr, fr dp, w, false, 0, kn) 1 [] := by
    refine ⟨g + 1, sI h1 35 44 0, by omega, by rw [pz_s (o35 L1) (Or.inl rfl)], back _ (Fx_t (Fx_m x1 (fun a k q => by omega) (fun _ _ q => q.elim)) (Fx_sI _ _ (by omega))) (by rw [sI_ne (by omega)]; exact v39) (sI_at ..)⟩
  unfold stB
  rw [← eR, ← erow, ← eF]
  by_cases q : ga + 1 = R.2.1 ∧ dp + 1 = len
  · rw [if_pos q]
    have found2 : M_go_2 N (g + 1) (some 35) (nI most) (nI (did + 1)) h5 = (cl (ds [(12, M_isComposed N (some 35) h6)] (some 35) h6) fun x36 h35 => if x36 = 0 then (M_go_2 N g (some 35) (nI most) (nI (did + 1)) h35) else (cl (ds [(12, M_tell N (some 35) h35)] (some 35) h35) fun _ h37 => some ((), h37))) := by rw [second q.1, if_pos q.2]
    rw [comp, cl_s] at found2
    by_cases u : row = rd n ∧ wd ≤ F
    · rw [if_pos u]
      have l7 := lay_s 35 35 1 L6
      have x7 : Fx (fun a k => a = 35 ∧ (k = 35 ∨ k = 39 ∨ k = 44 ∨ k = 48 ∨ k = 51)) (fun a k => a = 58 ∧ k = sz) h (sI h6 35 35 1) := Fx_t (Fx_m x6 (fun a k q => by omega) (fun _ _ q => q)) (Fx_sI _ _ (by omega))
      have ti : ∀ i, i < len → 1 ≤ tk i ∧ tk i ≤ cc := fun i hi => by
        by_cases e : i = dp
        · rw [e]; exact ⟨i1, b5⟩
        · exact b4 i (by omega)
      obtain ⟨h8, e8, x8, v53, v60⟩ := tell_l (N := N) (len := len) (cc := cc) (ch := ch) (tk := tk) c2 b1 len N 0 (sI h6 35 35 1) (by omega) (by omega) l7 (by rw [Fx_I x7 (by omega)]; exact d3) (fun j hj => ⟨(ti j hj).1, (ti j hj).2, by rw [Fx_I x7 (by omega)]; exact (d7 j (by omega)).1⟩) (fun j hj => by rw [Fx_I x7 (by omega)]; exact d2 j hj) (fun j hj => absurd hj (by omega))
      have s35 : hI (sI h6 35 35 1) 35 35 = nI 1 := by rw [sI_at]; rfl
      have s39 : hI (sI h6 35 35 1) 35 39 = hI h 35 39 + 1 := by rw [sI_ne (by omega)]; exact z39
      refine ⟨g, h8, Nat.le_refl _, ?_, Fx_t (Fx_m x7 (fun a k q => by unfold PMs; omega) (fun a k q => q.1)) (Fx_m x8 (fun a k q => by unfold PMs; omega) (fun _ _ q => q.elim)), by rw [Fx_row x8 (by omega), Fx_row x7 (by omega)]; rfl, by rw [i1', Fx_I x8 (by omega)]; exact s39, by rw [Fx_I x8 (by omega)]; exact s35, by rw [Fx_I x8 (by omega), Fx_I x7 (by omega)]; exact e16, fun v => absurd (show (1 : Nat) = 2 from v) (by decide), fun v => absurd rfl v, fun _ => ⟨v53, v60⟩⟩
      rw [pre, if_pos ⟨⟨q.2, q.1⟩, u.1⟩]
      unfold M_go_256
      rw [th, cl_s, push]
      have e2 : M_go_2 N (g + 1) (some 35) (nI most) (nI (did + 1)) h5 = some ((), h8) := by
        rw [found2, decide_eq_true u, if_neg (show ¬ qI true = 0 by decide), dM L6]
        unfold M_tell
        rw [pi_s (o35 L6), show M_tell_7 N N (some 35) 0 (sI h6 35 35 1) = some ((), h8) from e8, cl_s]
      rw [e2, if_neg i10]
      refine Eq.trans ?_ (if_neg (show ¬ (1 : Nat) = 2 by decide)).symm
      split <;> rfl
    · rw [if_neg u]
      have e2 : M_go_2 N (g + 1) (some 35) (nI most) (nI (did + 1)) h5 = M_go_2 N g (some 35) (nI most) (nI (did + 1)) h6 := by rw [found2, decide_eq_false u, if_pos (show qI false = 0 from rfl)]
      rw [pre]
      by_cases r0 : row = rd n
      · rw [if_pos ⟨⟨q.2, q.1⟩, r0⟩]
        unfold M_go_256
        rw [th, cl_s, push, e2, if_neg i10]
        exact ⟨g, h6, Nat.le_refl _, by refine Eq.trans ?_ (g2 _ _ _ rfl); split <;> rfl, back h6 x6 z39 z44⟩
      · rw [if_neg (fun t => r0 t.2)]
        unfold M_go_256
        rw [th, cl_s, push, e2, if_pos (show (0 : Int32) = 0 from rfl)]
        cases t : thr w row sz with
        | false => exact ⟨g, h6, Nat.le_refl _, by rw [if_pos (show qI false = 0 from rfl)]; exact g2 _ _ _ rfl, back h6 x6 z39 z44⟩
        | true =>
          obtain ⟨g', h', a1, a2, a3⟩ := lv
          exact ⟨g', h', a1, by rw [if_neg (show ¬ qI true = 0 by decide), a2]; exact g2 _ _ _ rfl, a3⟩
  · rw [if_neg q, pre, if_neg (fun t => q ⟨t.1.2, t.1.1⟩)]
    unfold M_go_256
    rw [th, cl_s, push, if_pos (show (0 : Int32) = 0 from rfl)]
    cases t : thr w row sz with
    | true =>
      obtain ⟨g', h', a1, a2, a3⟩ := lv
      rw [if_pos rfl]
      exact ⟨g', h', a1, by rw [if_neg (show ¬ qI true = 0 by decide), a2]; exact g2 _ _ _ rfl, a3⟩
    | false =>
      rw [if_neg (show ¬ false = true by decide), if_pos (show qI false = 0 from rfl)]
      by_cases v : ga + 1 = R.2.1
      · rw [if_pos v, second v, if_neg (fun t => q ⟨v, t⟩)]
        have nl : dp + 1 < len := by omega
        have x7 : Fx (fun a k => a = 35 ∧ (k = 39 ∨ k = 43 ∨ k = 44 ∨ k = 48 ∨ k = 51) ∨ (a = 56 ∨ a = 57) ∧ k = dp + 1) (fun a k => a = 58 ∧ k = sz) h (sI (sI (sI h6 35 43 (nI (dp + 1))) 56 (dp + 1) (-1)) 57 (dp + 1) (nI (sz + 1))) := Fx_t (Fx_m x6 (fun a k q => by omega) (fun _ _ q => q)) (Fx_t (Fx_t (Fx_sI _ _ (by omega)) (Fx_sI _ _ (by omega))) (Fx_sI _ _ (by omega)))
        have x67 : Fi (fun a k => a = 35 ∧ k = 43 ∨ (a = 56 ∨ a = 57) ∧ k = dp + 1) h6 (sI (sI (sI h6 35 43 (nI (dp + 1))) 56 (dp + 1) (-1)) 57 (dp + 1) (nI (sz + 1))) := Fx_t (Fx_t (Fx_sI _ _ (by omega)) (Fx_sI _ _ (by omega))) (Fx_sI _ _ (by omega))
        have t43 : hI (sI (sI (sI h6 35 43 (nI (dp + 1))) 56 (dp + 1) (-1)) 57 (dp + 1) (nI (sz + 1))) 35 43 = nI (dp + 1) := by rw [sI_ne (by omega), sI_ne (by omega), sI_at]
        have t56 : hI (sI (sI (sI h6 35 43 (nI (dp + 1))) 56 (dp + 1) (-1)) 57 (dp + 1) (nI (sz + 1))) 56 (dp + 1) = -1 := by rw [sI_ne (by omega), sI_at]
        have t57 : hI (sI (sI (sI h6 35 43 (nI (dp + 1))) 56 (dp + 1) (-1)) 57 (dp + 1) (nI (sz + 1))) 57 (dp + 1) = nI (sz + 1) := sI_at ..
        generalize sI (sI (sI h6 35 43 (nI (dp + 1))) 56 (dp + 1) (-1)) 57 (dp + 1) (nI (sz + 1)) = h7 at x7 x67 t43 t56 t57
        refine ⟨g, h7, Nat.le_refl _, g2 _ _ _ rfl, Fx_m x7 (fun a k q => by unfold PMs; omega) (fun a k q => q.1), by rw [Fx_row x7 (by omega)]; rfl, by rw [i1', Fx_I x67 (by omega)]; exact z39, by rw [Fx_I x7 (by omega)]; exact e35, by rw [Fx_I x7 (by omega)]; exact e16, fun _ => ?_, fun _ => by rw [Fx_I x7 (by omega)], fun u => absurd (show (2 : Nat) = 1 from u) (by decide)⟩
        refine ⟨?_, fun j hj => ?_, ⟨?_, ?_, t43⟩, ?_, fun d hd => ⟨?_, ?_⟩, fun j hj => ?_, fun d j hd hj => ?_, ?_, fun e => (by cases e)⟩
        · rw [Fx_I x7 (by omega)]; exact d1
        · rw [Fx_I x7 (by omega)]; exact d2 j hj
        · rw [Fx_I x7 (by omega)]; exact d3
        · rw [Fx_I x7 (by omega)]; exact d4
        · rw [Fx_L x7 (by omega)]; exact d6
        · have hd' : d ≤ dp + 1 := hd
          show hI h7 56 d = nI (va_up tk (dp + 1) 0 d) - 1
          rw [up_at]
          by_cases e : d = dp + 1
          · rw [if_pos e, e, t56]; rfl
          · rw [if_neg e, Fx_I x7 (by omega)]; exact (d7 d (by omega)).1
        · have hd' : d ≤ dp + 1 := hd
          show hI h7 57 d = nI (va_up fr (dp + 1) (sz + 1) d)
          rw [up_at]
          by_cases e : d = dp + 1
          · rw [if_pos e, e, t57]
          · rw [if_neg e, Fx_I x7 (by omega)]; exact (d7 d (by omega)).2
        · rw [Fi_L x67, Fi_L x56]; exact (ww j hj).2
        · rw [Fx_I x7 (by omega)]; exact d9 d j hd hj
        · rw [Fx_I x67 (by omega)]; exact z44
      · rw [if_neg v]
        refine ⟨g + 1, h5, by omega, g2 _ _ _ rfl, Fx_m x5 (fun a k q => by unfold PMs; omega) (fun a k q => q.1), by rw [Fx_row x5 (by omega)]; rfl, by rw [i1']; exact y39, by rw [Fx_I x5 (by omega)]; exact e35, by rw [Fx_I x5 (by omega)]; exact e16, fun _ => ?_, fun _ => by rw [Fx_I x5 (by omega)], fun u => absurd (show (2 : Nat) = 1 from u) (by decide)⟩
        refine ⟨?_, fun j hj => ?_, ⟨?_, ?_, ?_⟩, ?_, fun d hd => ⟨?_, ?_⟩, fun j hj => (ww j hj).2, fun d j hd hj => ?_, ?_, fun _ => ⟨y48, y51, ?_, fun k hk => ?_⟩⟩
        · rw [Fx_I x5 (by omega)]; exact d1
        · rw [Fx_I x5 (by omega)]; exact d2 j hj
        · rw [Fx_I x5 (by omega)]; exact d3
        · rw [Fx_I x5 (by omega)]; exact d4
        · rw [Fx_I x5 (by omega)]; exact d5
        · rw [Fx_L x5 (by omega)]; exact d6
        · rw [Fx_I x5 (by omega)]; exact (d7 d hd).1
        · rw [Fx_I x5 (by omega)]; exact (d7 d hd).2
        · rw [Fx_I x5 (by omega)]; exact d9 d j hd hj
        · rw [Fx_I x5 (by omega)]; exact d10
        · show hI h5 35 50 = nI (LRd D ch dp (tk dp - 1)).2.1
          rw [Fx_I x5 (by omega), ← eR]; exact j3
        · have hk' : k < (LRd D ch dp (tk dp - 1)).2.1 := hk
          show hI h5 59 k = nI ((LRd D ch dp (tk dp - 1)).2.2 k)
          rw [← eR] at hk' ⊢
          rw [Fx_I x5 (by omega)]; exact j4 k hk'
