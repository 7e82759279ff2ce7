/-! PURE: a new method, on both sides -/
theorem ok_in {h : Hp} {a t n : Nat} {ts : List Nat} (z : a < hz h) (k : hK h a = (t, n)) (m : t ∈ ts) : ok h ts a = true := by simp [ok, z, k, m]
theorem spl_e {N b : Nat} {x : Int32} {q : Option Nat} {g : Hp} (hb : hz g = b + 1) (kg : hK g b = (6, nfl 6)) : ∃ g', Spliced_init N (some b) x q g = some ((), sI (sR (nwO g' 18 6) b 6 (some (b + 5))) (b + 1) 2 7) ∧ NM g g' b x q := by
  have NMx := NM_s (x := x) (q := q) hb
  have ob : ok g [1, 2, 3, 6, 7, 10] b = true := ok_in (by omega) kg (by decide)
  have ob6 : ok g [6] b = true := ok_in (by omega) kg (by decide)
  refine ⟨mi3 (mi2 (mi1 g b) b) b x q, ?_, NMx⟩
  unfold Spliced_init
  rw [ck_s ob6, init_e hb ob, cl_s]
  generalize mi3 (mi2 (mi1 g b) b) b x q = g' at NMx ⊢
  obtain ⟨m1, m2, m3, m4, m5, m6, m7, m8, m9⟩ := NMx
  have o1 : ok g' [6] b = true := ok_in (by omega) (m4.trans kg) (by decide)
  have o2 : ok g' [0] (b + 1) = true := ok_K (by omega) m5.1
  rw [show (6 : Int32) = nI 6 from rfl, na_s (by omega), m1, pr_s (nw_ok o1), gr_s (by rw [ok_sR]; exact nw_ok o1), sR_ne (by omega), nw_R (by omega), m6.2.1, pi_s (by rw [ok_sR]; exact nw_ok o2)]
theorem Nw_6 {h g g' : Hp} {n : Nat} {bs : Nat → Nat} (L : Lay h) (e : g = nwO h 6 (nfl 6)) (nm : NM g g' (hz h) (nI n) (some 4)) : Nw h (sI (sR (nwO g' 18 6) (hz h) 6 (some (hz h + 5))) (hz h + 1) 2 7) 5 n bs := by
  have hb : hz g = hz h + 1 := by rw [e, nw_z]
  have z := L.1
  obtain ⟨m1, m2, m3, m4, m5, m6, m7, m8, m9⟩ := nm
  have gI : ∀ a, hI g (hz h) a = 0 := fun a => by rw [e]; exact nw_I0 ..
  obtain ⟨F, hF⟩ : ∃ F, F = sI (sR (nwO g' 18 6) (hz h) 6 (some (hz h + 5))) (hz h + 1) 2 7 := ⟨_, rfl⟩
  rw [← hF]
  have zF : hz F = hz h + 6 := by rw [hF, hz_sI, hz_sR, nw_z, m1]
  have FK : ∀ a, a < hz h + 5 → hK F a = hK g' a := fun a ha => by rw [hF, hK_sI, hK_sR, nwK (by rw [m1]; exact ha)]
  have FI : ∀ a k, a < hz h + 5 → ¬ (a = hz h + 1 ∧ k = 2) → hI F a k = hI g' a k := fun a k ha hn => by rw [hF, sI_ne (by omega), hI_sR, nw_I (by rw [m1]; exact ha)]
  have FL : ∀ a, a < hz h + 5 → hL F a = hL g' a := fun a ha => by rw [hF, hL_sI, hL_sR, nw_L (by rw [m1]; exact ha)]
  have FR : ∀ a k, a < hz h + 5 → ¬ (a = hz h ∧ k = 6) → hR F a k = hR g' a k := fun a k ha hn => by rw [hF, hR_sI, sR_ne (by omega), nw_R (by rw [m1]; exact ha)]
  have bw6 : bw (dNew 5) = 6 := rfl
  refine ⟨⟨⟨z, by rw [zF, bw6]; omega⟩, ⟨?_, ?_, ?_, ?_, ?_, fun _ => ?_⟩, ⟨?_, ?_, ?_, ?_, ?_, fun _ => ?_⟩, ⟨?_, ?_⟩, fun M q => absurd (show (none : Option Nat) = some M from q) (by simp), fun _ => ⟨?_, ?_⟩, ⟨?_, fun c h1 h2 => ?_⟩, fun c h1 h2 h3 => absurd rfl h3, fun _ => ⟨?_, fun i hi => absurd (show i < 0 from hi) (by omega)⟩⟩, by rw [zF, bw6], ?_, ⟨by rw [zF]; omega, fun a ha => ?_, fun a j ha _ => ?_, fun a j ha _ => ?_, fun a j ha _ => ?_⟩, ?_⟩
  · rw [FK _ (by omega), m4, e]; exact nw_K0 ..
  · rw [FK _ (by omega)]; exact m5.1
  · rw [FK _ (by omega)]; exact m5.2.1
  · rw [FK _ (by omega)]; exact m5.2.2.1
  · rw [FK _ (by omega)]; exact m5.2.2.2
  · rw [hF, hK_sI, hK_sR, ← m1]; exact nw_K0 ..
  · rw [FR _ _ (by omega) (by omega)]; exact m6.1
  · rw [FR _ _ (by omega) (by omega)]; exact m6.2.1
  · rw [FR _ _ (by omega) (by omega)]; exact m6.2.2.1
  · rw [FR _ _ (by omega) (by omega)]; exact m6.2.2.2.1
  · rw [FR _ _ (by omega) (by omega)]; exact m6.2.2.2.2
  · rw [hF, hR_sI, sR_at]
  · rw [FI _ _ (by omega) (by omega)]; exact m7.1
  · rw [FI _ _ (by omega) (by omega), m7.2.1, gI]; rfl
  · rw [FI _ _ (by omega) (by omega)]; exact m8.1
  · rw [hF, sI_at]; rfl
  · rw [FI _ _ (by omega) (by omega)]; exact m9 0 (by omega)
  · rw [FI _ _ (by omega) (by omega), m9 c (by omega)]; rfl
  · rw [FI _ _ (by omega) (by omega), m7.2.2, gI]; rfl
  · have : hs F = hs g' + 6 := by rw [hF, hs_sI, hs_sR, nw_s]
    rw [this, m2, e, nw_s]
    have : nfl 6 ≤ 20 := by decide
    have : nfl 0 = 3 := by decide
    omega
  · rw [FK _ (by omega), (m3 a ha).1, e, nwK ha]
  · rw [FI _ _ (by omega) (by omega), (m3 a ha).2.1, e, nw_I ha]
  · rw [FL _ (by omega), (m3 a ha).2.2.1, e, nw_L ha]
  · rw [FR _ _ (by omega) (by omega), (m3 a ha).2.2.2, e, nw_R ha]
  · exact funext fun k => by rw [FR _ _ (by omega) (by omega), (m3 20 (by omega)).2.2.2, e, nw_R (by omega)]
theorem new_C {N n k : Nat} {bs : Nat → Nat} {h : Hp} (B : Bs h n) (hk : k < 6) : ∃ h', ds [(11, C_newMethod N (some 0) (nI k) h)] (some 0) h = some (some (hz h), h') ∧ Nw h h' k n bs := by
  have L := B.1
  have z := L.1
  have pre : ∀ t, ok (nwO h t (nfl t)) [11] 0 = true ∧ hI (nwO h t (nfl t)) 0 4 = nI n ∧ hR (nwO h t (nfl t)) 0 1 = some 4 ∧ hz (nwO h t (nfl t)) = hz h + 1 ∧ hK (nwO h t (nfl t)) (hz h) = (t, nfl t) := fun t =>
    ⟨nw_ok (o0 L), by rw [nw_I (by omega)]; exact B.2.1.1, by rw [nw_R (by omega)]; exact r0_1 L, nw_z .., nw_K0 ..⟩
  have oki : ∀ t ts, t ∈ ts → ok (nwO h t (nfl t)) ts (hz h) = true := fun t ts m => ok_in (by rw [nw_z]; omega) (nw_K0 ..) m
  have hc : k = 0 ∨ k = 1 ∨ k = 2 ∨ k = 3 ∨ k = 4 ∨ k = 5 := by omega
  rw [ds_1 (o0 L)]
  unfold C_newMethod
  simp only [sw]
  rcases hc with rfl | rfl | rfl | rfl | rfl | rfl
  · obtain ⟨a1, a2, a3, a4, a5⟩ := pre 2
    refine ⟨_, ?_, Nw_5 (k := 0) (by omega) L (g := nwO h 2 (nfl 2)) rfl⟩
    rw [if_pos (show nI 0 = 0 from rfl)]
    unfold nw
    dsimp only
    rw [gi_s a1, a2, gr_s a1, a3, ck_s (oki 2 _ (by decide))]
    unfold Plain_init
    rw [ck_s (oki 2 _ (by decide)), init_e a4 (oki 2 _ (by decide)), cl_s, cl_s]
  · obtain ⟨a1, a2, a3, a4, a5⟩ := pre 1
    refine ⟨_, ?_, Nw_5 (k := 1) (by omega) L (g := nwO h 1 (nfl 1)) rfl⟩
    rw [if_neg (show ¬ nI 1 = 0 by decide), if_pos (show nI 1 = 1 from rfl)]
    unfold nw
    dsimp only
    rw [gi_s a1, a2, gr_s a1, a3, ck_s (oki 1 _ (by decide))]
    unfold Little_init
    rw [ck_s (oki 1 _ (by decide))]
    unfold Plain_init
    rw [ck_s (oki 1 _ (by decide)), init_e a4 (oki 1 _ (by decide)), cl_s, cl_s, cl_s]
  · obtain ⟨a1, a2, a3, a4, a5⟩ := pre 10
    refine ⟨_, ?_, Nw_5 (k := 2) (by omega) L (g := nwO h 10 (nfl 10)) rfl⟩
    rw [if_neg (show ¬ nI 2 = 0 by decide), if_neg (show ¬ nI 2 = 1 by decide), if_pos (show nI 2 = 2 from rfl)]
    unfold nw
    dsimp only
    rw [gi_s a1, a2, gr_s a1, a3, ck_s (oki 10 _ (by decide))]
    unfold Treble_init
    rw [ck_s (oki 10 _ (by decide))]
    unfold Plain_init
    rw [ck_s (oki 10 _ (by decide)), init_e a4 (oki 10 _ (by decide)), cl_s, cl_s, cl_s]
  · obtain ⟨a1, a2, a3, a4, a5⟩ := pre 7
    refine ⟨_, ?_, Nw_5 (k := 3) (by omega) L (g := nwO h 7 (nfl 7)) rfl⟩
    rw [if_neg (show ¬ nI 3 = 0 by decide), if_neg (show ¬ nI 3 = 1 by decide), if_neg (show ¬ nI 3 = 2 by decide), if_pos (show nI 3 = 3 from rfl)]
    unfold nw
    dsimp only
    rw [gi_s a1, a2, gr_s a1, a3, ck_s (oki 7 _ (by decide))]
    unfold Surprise_init
    rw [ck_s (oki 7 _ (by decide))]
    unfold Treble_init
    rw [ck_s (oki 7 _ (by decide))]
    unfold Plain_init
    rw [ck_s (oki 7 _ (by decide)), init_e a4 (oki 7 _ (by decide)), cl_s, cl_s, cl_s, cl_s]
  · obtain ⟨a1, a2, a3, a4, a5⟩ := pre 3
    refine ⟨_, ?_, Nw_5 (k := 4) (by omega) L (g := nwO h 3 (nfl 3)) rfl⟩
    rw [if_neg (show ¬ nI 4 = 0 by decide), if_neg (show ¬ nI 4 = 1 by decide), if_neg (show ¬ nI 4 = 2 by decide), if_neg (show ¬ nI 4 = 3 by decide), if_pos (show nI 4 = 4 from rfl)]
    unfold nw
    dsimp only
    rw [gi_s a1, a2, gr_s a1, a3, ck_s (oki 3 _ (by decide))]
    unfold Principle_init
    rw [ck_s (oki 3 _ (by decide)), init_e a4 (oki 3 _ (by decide)), cl_s, cl_s]
  · obtain ⟨a1, a2, a3, a4, a5⟩ := pre 6
    obtain ⟨g', e1, e2⟩ := spl_e (N := N) (x := nI n) (q := some 4) a4 a5
    refine ⟨_, ?_, Nw_6 L rfl e2⟩
    rw [if_neg (show ¬ nI 5 = 0 by decide), if_neg (show ¬ nI 5 = 1 by decide), if_neg (show ¬ nI 5 = 2 by decide), if_neg (show ¬ nI 5 = 3 by decide), if_neg (show ¬ nI 5 = 4 by decide)]
    unfold nw
    dsimp only
    rw [gi_s a1, a2, gr_s a1, a3, ck_s (oki 6 _ (by decide)), e1, cl_s]
theorem method_C {N n mc k : Nat} {D : Nat → Md} {bs : Nat → Nat} {h : Hp} (B : Bs h n) (C : Cs h n mc D bs) (hk : k < 6) (hm : mc < 30) : ∃ h1, C_method N (some 0) (nI k) h = some (nI mc, h1) ∧ Gx (fun a j => a = 0 ∧ j = 3 ∨ a = 17 ∧ j = 19) nF (fun a j => a = 5 ∧ j = mc) h h1 ∧ hI h1 17 19 = 1 ∧ hI h1 0 3 = nI (mc + 1) ∧ hR h1 5 mc = some (hz h) ∧ CM h1 (hz h) n (dNew k) bs ∧ hz h1 = hz h + bw (dNew k) ∧ hs h1 ≤ hs h + 150 ∧ hR h1 20 = hR h 20 := by
  have L := B.1
  have z := L.1
  obtain ⟨g, e, cm, w1, w2, w3, w4⟩ := new_C (N := N) (bs := bs) B hk
  have Lg : Lay g := Gx_Lay w3 L (fun _ _ _ q => q)
  have zg : hz h ≤ hz g := w3.1
  have x : Gx (fun a j => a = 0 ∧ j = 3 ∨ a = 17 ∧ j = 19) nF (fun a j => a = 5 ∧ j = mc) g (sI (sI (sR g 5 mc (some (hz h))) 0 3 (nI (mc + 1))) 17 19 1) := Gx_t (Gx_t (Gx_sR g _ (by omega)) (Gx_sI _ _ (by omega))) (Gx_sI _ _ (by omega))
  refine ⟨sI (sI (sR g 5 mc (some (hz h))) 0 3 (nI (mc + 1))) 17 19 1, ?_, Gx_t (Gx_m w3 (fun _ _ _ q => q.elim) (fun _ _ _ q => q) (fun _ _ _ q => q.elim)) x, sI_at .., ?_, ?_, CM_g cm x (by omega) (by omega), w1, w2, ?_⟩
  · have L1 : Lay (sR g 5 mc (some (hz h))) := Gx_Lay (Gx_sR (P := nF) (Q := nF) (R := fun a j => a = 5) g _ rfl) Lg (fun a k c q => by unfold Rc at c; omega)
    have L2 : Lay (sI (sR g 5 mc (some (hz h))) 0 3 (nI (mc + 1))) := L1
    have g3 : hI g 0 3 = nI mc := by rw [Gx_I w3 z (by omega) (fun q => q)]; exact C.1
    unfold C_method
    rw [if_neg (nI_pos (by omega)), if_pos ((ltN_6 (by omega)).mpr hk), gi_s (o0 L), C.1, if_pos ((ltN_30 (by omega)).mpr hm), gr_s (o0 L), r0_2 L, gi_s (o0 L), C.1, e, cl_s, sr_s (o5 Lg) (by rw [k5 Lg]; exact hm) (by rw [k5 Lg]; decide) (fun b q => by cases q; exact CM_ok cm kc_in), gi_s (o0 L1), hI_sR, g3, aN_1, pi_s (o0 L1), gr_s (o0 L2), r0_8 L2, pz_1 (o17 L2), gi_s (show ok (sI (sI (sR g 5 mc (some (hz h))) 0 3 (nI (mc + 1))) 17 19 1) [11] 0 = true from o0 L2), sI_ne (by omega), sI_at, sN_1 (by omega)]
    rfl
  · rw [sI_ne (by omega), sI_at]
  · show hR (sR g 5 mc (some (hz h))) 5 mc = _
    rw [sR_at]
  · show hR (sR g 5 mc (some (hz h))) 20 = _
    rw [← w4]
    exact funext fun k => sR_ne (by omega)
theorem CM_b {h : Hp} {b n : Nat} {d : Md} {bs bs' : Nat → Nat} (c : CM h b n d bs) (e : ∀ i, i < (pt d).length → bs' ((pt d).getD i 0) = bs ((pt d).getD i 0)) : CM h b n d bs' := by
  obtain ⟨c1, c2, c3, c4, c5, c6, c7, c8, c9⟩ := c
  exact ⟨c1, c2, c3, c4, c5, c6, c7, c8, fun k => ⟨(c9 k).1, fun i hi => by rw [e i hi]; exact (c9 k).2 i hi⟩⟩
theorem Wm_e {n m : Nat} {D D' : Nat → Md} (w : Wm n m D) (e0 : D' m = D m) (e : ∀ a, a < m → D' a = D a) : Wm n m D' := by
  unfold Wm at w ⊢
  rw [e0]
  refine ⟨w.1, w.2.1, w.2.2.1, w.2.2.2.1, fun i hi => ⟨(w.2.2.2.2.1 i hi).1, ?_⟩, w.2.2.2.2.2⟩
  rw [e _ (w.2.2.2.2.1 i hi).1]; exact (w.2.2.2.2.1 i hi).2
theorem Wm_n {n m k : Nat} {D : Nat → Md} (hk : k < 6) (e : D m = dNew k) : Wm n m D := by
  unfold Wm
  rw [e]
  exact ⟨hk, fun L q => absurd (show (none : Option Nat) = some L from q) (by simp), fun c p q => absurd (show (none : Option Nat) = some p from q) (by simp), Nat.zero_le 6, fun i hi => absurd (show i < 0 from hi) (by omega), by show 0 < 8; omega, fun _ => rfl⟩
theorem Gr_n {h h' : Hp} (e : hR h' 20 = hR h 20) (a : hz h' ≤ hz h + 12) (b : hs h' ≤ hs h + 200) : Gr h h' := by
  have g : nn h' = nn h := by unfold nn; rw [e]
  unfold Gr
  rw [g]
  generalize nn h = q
  omega
def mH (h1 : Hp) (mc k : Nat) : Hp := sI (sI (sI (sI (sI (sI (sI (sI h1 38 mc (nI k)) 39 mc (-1)) 41 (3 * mc + 1) (-1)) 41 (3 * mc + 2) (-1)) 43 mc 0) 53 mc 0) 35 5 (nI (mc + 1))) 35 34 1
theorem mH_x (h1 : Hp) (mc k : Nat) : Fi (fun a j => a = 35 ∧ (j = 5 ∨ j = 34) ∨ (a = 38 ∨ a = 39 ∨ a = 43 ∨ a = 53) ∧ j = mc ∨ a = 41 ∧ (j = 3 * mc + 1 ∨ j = 3 * mc + 2)) h1 (mH h1 mc k) := by
  unfold mH
  exact Fx_t (Fx_t (Fx_t (Fx_t (Fx_t (Fx_t (Fx_t (Fx_sI h1 _ (by omega)) (Fx_sI _ _ (by omega))) (Fx_sI _ _ (by omega))) (Fx_sI _ _ (by omega))) (Fx_sI _ _ (by omega))) (Fx_sI _ _ (by omega))) (Fx_sI _ _ (by omega))) (Fx_sI _ _ (by omega))
theorem mH_u (h1 : Hp) (mc k : Nat) : hI (mH h1 mc k) 38 mc = nI k ∧ hI (mH h1 mc k) 39 mc = -1 ∧ (∀ c, 1 ≤ c → c ≤ 2 → hI (mH h1 mc k) 41 (3 * mc + c) = -1) ∧ hI (mH h1 mc k) 43 mc = 0 ∧ hI (mH h1 mc k) 53 mc = 0 ∧ hI (mH h1 mc k) 35 5 = nI (mc + 1) ∧ hI (mH h1 mc k) 35 34 = 1 := by
  unfold mH
  refine ⟨?_, ?_, fun c c1 c2 => ?_, ?_, ?_, ?_, ?_⟩
  · rw [sI_ne (by omega), sI_ne (by omega), sI_ne (by omega), sI_ne (by omega), sI_ne (by omega), sI_ne (by omega), sI_ne (by omega), sI_at]
  · rw [sI_ne (by omega), sI_ne (by omega), sI_ne (by omega), sI_ne (by omega), sI_ne (by omega), sI_ne (by omega), sI_at]
  · have : c = 1 ∨ c = 2 := by omega
    rcases this with rfl | rfl
    · rw [sI_ne (by omega), sI_ne (by omega), sI_ne (by omega), sI_ne (by omega), sI_ne (by omega), sI_at]
    · rw [sI_ne (by omega), sI_ne (by omega), sI_ne (by omega), sI_ne (by omega), sI_at]
  · rw [sI_ne (by omega), sI_ne (by omega), sI_ne (by omega), sI_at]
  · rw [sI_ne (by omega), sI_ne (by omega), sI_at]
  · rw [sI_ne (by omega), sI_at]
  · rw [sI_at]
theorem mH_1 {N mc k : Nat} {h1 : Hp} (L1 : Lay h1) (e5 : hI h1 35 5 = nI mc) (k6 : k < 6) (full : mc < 30) : M_method N (some 35) (nI k) h1 = (gr [12] 7 (some 35) (sI h1 38 mc (nI k)) fun x5 =>
  si x5 (nI mc) (-1) (sI h1 38 mc (nI k)) fun h6 =>
  gr [12] 9 (some 35) h6 fun x7 =>
  si x7 (nI (3 * mc + 1)) (-1) h6 fun h8 =>
  gr [12] 9 (some 35) h8 fun x9 =>
  si x9 (nI (3 * mc + 2)) (-1) h8 fun h10 =>
  gr [12] 11 (some 35) h10 fun x11 =>
  si x11 (nI mc) 0 h10 fun h12 =>
  gr [12] 32 (some 35) h12 fun x13 =>
  si x13 (nI mc) 0 h12 fun h14 =>
  gi [12] 5 (some 35) h14 fun x15 =>
  pi [12] 5 (some 35) (x15 + (1 : Int32)) h14 fun h16 =>
  pz [12] 34 (some 35) 1 h16 fun h17 =>
  some (nI mc, h17)) := by
  unfold M_method
  rw [if_neg (nI_pos (by omega)), if_pos ((ltN_6 (by omega)).mpr k6), gi_s (o35 L1), e5, if_neg (fun q => absurd ((eN_30 (by omega)).mp q) (by omega)), gi_s (o35 L1), e5, gr_s (o35 L1), r35_6 L1, si_s (o38 L1) (by rw [k38 L1]; exact full) (by rw [k38 L1]; decide), mN_3, aN_1, aN_2]
theorem mH_a {β : Type} {mc : Nat} {g : Hp} {f : Hp → Option β} (L : Lay g) (full : mc < 30) : (gr [12] 7 (some 35) g fun x5 => si x5 (nI mc) (-1) g f) = f (sI g 39 mc (-1)) := by
  rw [gr_s (o35 L), r35_7 L, si_s (o39 L) (by rw [k39 L]; exact full) (by rw [k39 L]; decide)]
theorem mH_b {β : Type} {j : Nat} {g : Hp} {f : Hp → Option β} (L : Lay g) (full : j < 90) : (gr [12] 9 (some 35) g fun x5 => si x5 (nI j) (-1) g f) = f (sI g 41 j (-1)) := by
  rw [gr_s (o35 L), r35_9 L, si_s (o41 L) (by rw [k41 L]; exact full) (by rw [k41 L]; decide)]
theorem mH_c {β : Type} {mc : Nat} {g : Hp} {f : Hp → Option β} (L : Lay g) (full : mc < 30) : (gr [12] 11 (some 35) g fun x5 => si x5 (nI mc) 0 g f) = f (sI g 43 mc 0) := by
  rw [gr_s (o35 L), r35_11 L, si_s (o43 L) (by rw [k43 L]; exact full) (by rw [k43 L]; decide)]
theorem mH_d {β : Type} {mc : Nat} {g : Hp} {f : Hp → Option β} (L : Lay g) (full : mc < 30) : (gr [12] 32 (some 35) g fun x5 => si x5 (nI mc) 0 g f) = f (sI g 53 mc 0) := by
  rw [gr_s (o35 L), r35_32 L, si_s (o53 L) (by rw [k53 L]; exact full) (by rw [k53 L]; decide)]
theorem mH_f {mc : Nat} {g : Hp} (L : Lay g) (e : hI g 35 5 = nI mc) : (gi [12] 5 (some 35) g fun x15 => pi [12] 5 (some 35) (x15 + (1 : Int32)) g fun h16 => pz [12] 34 (some 35) 1 h16 fun h17 => some (nI mc, h17)) = some (nI mc, sI (sI g 35 5 (nI (mc + 1))) 35 34 1) := by
  have L1 : Lay (sI g 35 5 (nI (mc + 1))) := L
  rw [gi_s (o35 L), e, aN_1, pi_s (o35 L), pz_1 (o35 L1)]
theorem lay_s {g : Hp} (a j : Nat) (y : Int32) (L : Lay g) : Lay (sI g a j y) := L
theorem mH_e {N mc k : Nat} {h1 : Hp} (L1 : Lay h1) (e5 : hI h1 35 5 = nI mc) (k6 : k < 6) (full : mc < 30) : M_method N (some 35) (nI k) h1 = some (nI mc, mH h1 mc k) := by
  have L2 := lay_s 38 mc (nI k) L1
  have L3 := lay_s 39 mc (-1) L2
  have L4 := lay_s 41 (3 * mc + 1) (-1) L3
  have L5 := lay_s 41 (3 * mc + 2) (-1) L4
  have L6 := lay_s 43 mc 0 L5
  have L7 := lay_s 53 mc 0 L6
  rw [mH_1 L1 e5 k6 full, mH_a L2 full, mH_b L3 (by omega), mH_b L4 (by omega), mH_c L5 full, mH_d L6 full, mH_f L7 (by rw [sI_ne (by omega), sI_ne (by omega), sI_ne (by omega), sI_ne (by omega), sI_ne (by omega), sI_ne (by omega)]; exact e5), mH]
theorem method_M {N mc k : Nat} {h1 : Hp} (L1 : Lay h1) (e5 : hI h1 35 5 = nI mc) (k6 : k < 6) (full : mc < 30) : ∃ h2, M_method N (some 35) (nI k) h1 = some (nI mc, h2) ∧ Fi (fun a j => a = 35 ∧ (j = 5 ∨ j = 34) ∨ (a = 38 ∨ a = 39 ∨ a = 43 ∨ a = 53) ∧ j = mc ∨ a = 41 ∧ (j = 3 * mc + 1 ∨ j = 3 * mc + 2)) h1 h2 ∧ hI h2 38 mc = nI k ∧ hI h2 39 mc = -1 ∧ (∀ c, 1 ≤ c → c ≤ 2 → hI h2 41 (3 * mc + c) = -1) ∧ hI h2 43 mc = 0 ∧ hI h2 53 mc = 0 ∧ hI h2 35 5 = nI (mc + 1) ∧ hI h2 35 34 = 1 := ⟨mH h1 mc k, mH_e L1 e5 k6 full, mH_x h1 mc k, mH_u h1 mc k⟩
theorem op_method {N : Nat} {x : Int32} {h : Hp} (I : Inv h) : Op (C_method N (some 0) x) (M_method N (some 35) x) h := by
  obtain ⟨n, mc, D, bs, ic, im, ik, i1, i2, i3, i4, i5, i6, i7, i8, i9, i10', i11, i12⟩ := id I
  have L := i1.1
  have z := L.1
  have m30 := i6.2.1
  rcases i32_cs x with c0 | ⟨k, hk, e⟩
  · refine Op_id I (-1) ?_ ?_
    · unfold C_method; rw [if_pos c0]
    · unfold M_method; rw [if_pos c0]
  subst e
  by_cases k6 : k < 6
  · by_cases full : mc < 30
    · obtain ⟨h1, eC, x0, v1, v2, v3, cm, w1, w2, w3⟩ := method_C (N := N) i1 i6 k6 full
      have L1 : Lay h1 := Gx_Lay x0 L (fun a k c q => by unfold Rc at c; omega)
      have e5 : hI h1 35 5 = nI mc := by rw [Gx_I x0 z (by omega) (by omega)]; exact i5.1
      obtain ⟨h2, eM, x1, u38, u39, u41, u43, u53, u5, u34⟩ := method_M (N := N) L1 e5 k6 full
      have x2 : Gx (fun a j => (a = 0 ∧ j = 3 ∨ a = 17 ∧ j = 19) ∨ a = 35 ∧ (j = 5 ∨ j = 34) ∨ (a = 38 ∨ a = 39 ∨ a = 43 ∨ a = 53) ∧ j = mc ∨ a = 41 ∧ (j = 3 * mc + 1 ∨ j = 3 * mc + 2)) nF (fun a j => a = 5 ∧ j = mc) h h2 := Gx_t (Gx_m x0 (fun _ _ _ c => Or.inl c) (fun _ _ _ c => c) (fun _ _ _ c => c)) (Gx_m (Gx_F x1) (fun _ _ _ c => Or.inr c) (fun _ _ _ c => c) (fun _ _ _ c => c.elim))
      have zb : ∀ m, m < mc → bs m + bw (D m) ≤ hz h := fun m hm => (i6.2.2.1 m hm).2.1.1.2
      have bl : ∀ m, m < mc → va_up bs mc (hz h) m = bs m := fun m hm => by rw [up_at, if_neg (by omega)]
      have Dl : ∀ m, m < mc → va_up D mc (dNew k) m = D m := fun m hm => by rw [up_at, if_neg (by omega)]
      have De : va_up D mc (dNew k) mc = dNew k := by rw [up_at, if_pos rfl]
      have be : va_up bs mc (hz h) mc = hz h := by rw [up_at, if_pos rfl]
      have ptl : ∀ m, m < mc → ∀ i, i < (pt (D m)).length → (pt (D m)).getD i 0 < mc := fun m hm i hi => by have := ((i6.2.2.1 m hm).2.2.2.2.2.2.1 i hi).1; omega
      have Wn : ∀ m, m < mc + 1 → Wm n m (va_up D mc (dNew k)) := fun m hm => by
        by_cases q : m = mc
        · exact Wm_n k6 (by rw [q]; exact De)
        · exact Wm_e (i6.2.2.1 m (by omega)).2.2 (Dl m (by omega)) (fun a ha => Dl a (by omega))
      have M2 : Ms h2 n (mc + 1) (va_up D mc (dNew k)) := by
        refine ⟨u5, by omega, fun m hm => ⟨?_, Wn m hm⟩⟩
        by_cases q : m = mc
        · subst q
          rw [De]
          exact ⟨u38, u39, fun L' q => absurd (show (none : Option Nat) = some L' from q) (by simp), u41, fun c _ _ q => absurd rfl q, u43, fun i hi => absurd (show i < 0 from hi) (by omega), u53⟩
        · rw [Dl m (by omega)]
          exact MM_o (n := n) (m := mc) z x2 (fun a j q _ => by unfold PQ; omega) q (i5.2.2 m (by omega)).1 (i5.2.2 m (by omega)).2
      have C2 : Cs h2 n (mc + 1) (va_up D mc (dNew k)) (va_up bs mc (hz h)) := by
        refine ⟨by rw [Fx_I x1 (by omega)]; exact v2, by omega, fun m hm => ⟨?_, ?_, Wn m hm⟩, fun a b h1 h2 => ?_⟩
        · by_cases q : m = mc
          · subst q; rw [be, Fx_R x1]; exact v3
          · rw [bl m (by omega), Gx_R x2 z (by omega) (by omega)]; exact (i6.2.2.1 m (by omega)).1
        · by_cases q : m = mc
          · subst q
            rw [be, De]
            exact CM_b (CM_g cm (Gx_F x1) (by omega) (fun _ _ _ _ q => q)) (fun i hi => absurd (show i < 0 from hi) (by omega))
          · rw [bl m (by omega), Dl m (by omega)]
            have b64 := CM_64 (i6.2.2.1 m (by omega)).2.1
            exact CM_b (CM_g (i6.2.2.1 m (by omega)).2.1 x2 (by omega) (by omega)) (fun i hi => bl _ (ptl m (by omega) i hi))
        · rw [bl a (by omega), Dl a (by omega)]
          by_cases q : b = mc
          · rw [q, be]; exact zb a (by omega)
          · rw [bl b (by omega)]; exact i6.2.2.2 a b h1 (by omega)
      refine ⟨nI mc, h1, h2, eC, eM, Inv_mod i1 i2 i7 i8 i9 i10' i11 i12 x2 (fun a j _ q => by omega) (fun a j _ q => q) (fun a j _ q => by omega) M2 C2 (by omega) bl (Tp_g i4 z x2 (by omega)) (Fdn_g i3 z x2 (by omega)) ?_ ?_ u34, ?_, L1⟩
      · have s := Sl_g i12.1 z x2 (by omega)
        have r20 : ∀ i, hR h2 20 i = hR h 20 i := fun i => by rw [Fx_R x1, w3]
        intro i hi c hc
        obtain ⟨⟨s1, s2⟩, s3, s4, s5, s6⟩ := s i hi c hc
        refine ⟨⟨s1, s2⟩, s3, s4, fun m hm => ?_, s6⟩
        by_cases q : m = mc
        · rw [q, be]
          rw [r20] at hc
          exact Or.inl (i12.1 i hi c hc).1.2
        · rw [bl m (by omega)]; exact s5 m (by omega)
      · rw [Fx_I x1 (by omega)]; exact v1
      · have : bw (dNew k) ≤ 6 := by unfold bw; split <;> omega
        exact Gr_n (by rw [Fx_R x1, w3]) (by rw [Fx_z x1, w1]; omega) (by rw [Fx_s x1]; omega)
    · refine Op_id I (-2) ?_ ?_
      · unfold C_method
        rw [if_neg (nI_pos (by omega)), if_pos ((ltN_6 (by omega)).mpr k6), gi_s (o0 L), i6.1, if_neg (fun q => full ((ltN_30 (by omega)).mp q))]
      · unfold M_method
        rw [if_neg (nI_pos (by omega)), if_pos ((ltN_6 (by omega)).mpr k6), gi_s (o35 L), i5.1, if_pos ((eN_30 (by omega)).mpr (by omega))]
  · refine Op_id I (-1) ?_ ?_
    · unfold C_method; rw [if_neg (nI_pos (by omega)), if_neg (fun q => k6 ((ltN_6 (by omega)).mp q))]
    · unfold M_method; rw [if_neg (nI_pos (by omega)), if_neg (fun q => k6 ((ltN_6 (by omega)).mp q))]
