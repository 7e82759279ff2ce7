/-! PURE: a row's order; none of twelve bells has an order above 60 -/
def it (g : Nat → Nat) : Nat → Nat → Nat
  | 0, i => i
  | k + 1, i => it g k (g i)
theorem it_add (g : Nat → Nat) : ∀ a b i, it g (a + b) i = it g b (it g a i) := by
  intro a
  induction a with
  | zero => intro b i; rw [Nat.zero_add]; rfl
  | succ a ih => intro b i; rw [show a + 1 + b = (a + b) + 1 by omega]; exact ih b (g i)
theorem it_succ (g : Nat → Nat) (k i : Nat) : it g (k + 1) i = g (it g k i) := by rw [it_add g k 1]; rfl
section ORD
variable {n : Nat} {g : Nat → Nat} (hg : ∀ i, i < n → g i < n) (hinj : ∀ i j, i < n → j < n → g i = g j → i = j)
theorem it_lt (hg : ∀ i, i < n → g i < n) : ∀ k i, i < n → it g k i < n := by
  intro k
  induction k with
  | zero => intro i hi; exact hi
  | succ k ih => intro i hi; exact ih _ (hg i hi)
theorem it_inj (hg : ∀ i, i < n → g i < n) (hinj : ∀ i j, i < n → j < n → g i = g j → i = j) : ∀ k i j, i < n → j < n → it g k i = it g k j → i = j := by
  intro k
  induction k with
  | zero => intro i j _ _ e; exact e
  | succ k ih => intro i j hi hj e; exact hinj i j hi hj (ih _ _ (hg i hi) (hg j hj) e)
/-- m is the first time that i comes back -/
def Per (g : Nat → Nat) (i m : Nat) : Prop := 1 ≤ m ∧ it g m i = i ∧ ∀ j, 1 ≤ j → j < m → it g j i ≠ i
theorem nodup_map {f : Nat → Nat} {k : Nat} (h : ∀ a b, a < k → b < k → f a = f b → a = b) : ((List.range k).map f).Nodup := by
  rw [List.nodup_iff_pairwise_ne, List.pairwise_map]
  refine List.Pairwise.imp_of_mem ?_ (List.nodup_iff_pairwise_ne.mp List.nodup_range)
  intro a b ha hb hab e
  exact hab (h a b (List.mem_range.mp ha) (List.mem_range.mp hb) e)
theorem per_ex (hg : ∀ i, i < n → g i < n) (hinj : ∀ i j, i < n → j < n → g i = g j → i = j) {i : Nat} (hi : i < n) : ∃ m, m ≤ n ∧ Per g i m := by
  have hex : ∃ m, 1 ≤ m ∧ m ≤ n ∧ it g m i = i := by
    refine Classical.byContradiction fun hno => ?_
    have h3 := nodup_le ((List.range (n + 1)).map (fun k => it g k i)) (List.range n) (nodup_map fun a b ha hb e => ?_) fun y hy => ?_
    · rw [List.length_map, List.length_range, List.length_range] at h3; omega
    · refine Classical.byContradiction fun hab => ?_
      have key : ∀ a b, a < b → b < n + 1 → it g a i = it g b i → False := by
        intro a b hab hb e
        refine hno ⟨b - a, by omega, by omega, ?_⟩
        have e1 : it g b i = it g a (it g (b - a) i) := by rw [← it_add]; congr 1; omega
        rw [e1] at e
        exact (it_inj hg hinj a _ _ hi (it_lt hg _ _ hi) e).symm
      rcases Nat.lt_or_gt_of_ne hab with q | q
      · exact key a b q hb e
      · exact key b a q ha e.symm
    · obtain ⟨k, hk, rfl⟩ := List.mem_map.mp hy
      exact List.mem_range.mpr (it_lt hg k i hi)
  obtain ⟨m, ⟨h1, h2, h3⟩, h4⟩ := pk_least (fun m => 1 ≤ m ∧ m ≤ n ∧ it g m i = i) hex
  exact ⟨m, h2, h1, h3, fun j q1 q2 e => h4 j q2 ⟨q1, by omega, e⟩⟩
theorem per_uniq {i m m' : Nat} (h : Per g i m) (h' : Per g i m') : m = m' := by
  rcases Nat.lt_trichotomy m m' with q | q | q
  · exact absurd h.2.1 (h'.2.2 m h.1 q)
  · exact q
  · exact absurd h'.2.1 (h.2.2 m' h'.1 q)
theorem per_orb (hg : ∀ i, i < n → g i < n) (hinj : ∀ i j, i < n → j < n → g i = g j → i = j) {i m : Nat} (hi : i < n) (h : Per g i m) (k : Nat) : Per g (it g k i) m := by
  refine ⟨h.1, ?_, fun j h1 h2 e => h.2.2 j h1 h2 ?_⟩
  · rw [← it_add, Nat.add_comm, it_add, h.2.1]
  · rw [← it_add, Nat.add_comm, it_add] at e
    exact it_inj hg hinj k _ _ (it_lt hg j i hi) hi e
theorem per_dist {i m : Nat} (hg : ∀ i, i < n → g i < n) (hinj : ∀ i j, i < n → j < n → g i = g j → i = j) (hi : i < n) (h : Per g i m) : ∀ a b, a < m → b < m → it g a i = it g b i → a = b := by
  have key : ∀ a b, a < b → b < m → it g a i = it g b i → False := by
    intro a b hab hb e
    have e1 : it g b i = it g a (it g (b - a) i) := by rw [← it_add]; congr 1; omega
    rw [e1] at e
    exact h.2.2 (b - a) (by omega) (by omega) (it_inj hg hinj a _ _ hi (it_lt hg _ _ hi) e).symm
  intro a b ha hb e
  rcases Nat.lt_trichotomy a b with q | q | q
  · exact absurd (key a b q hb e) id
  · exact q
  · exact absurd (key b a q ha e.symm) id
theorem per_mul {i m : Nat} (h : Per g i m) : ∀ k, it g (m * k) i = i := by
  intro k
  induction k with
  | zero => rfl
  | succ k ih => rw [Nat.mul_succ, it_add, ih]; exact h.2.1
def lcmL : List Nat → Nat
  | [] => 1
  | x :: l => Nat.lcm x (lcmL l)
theorem dvd_lcmL {x : Nat} : ∀ {l : List Nat}, x ∈ l → x ∣ lcmL l := by
  intro l
  induction l with
  | nil => intro h; cases h
  | cons y l ih =>
    intro h
    rcases List.mem_cons.mp h with rfl | h
    · exact Nat.dvd_lcm_left _ _
    · exact Nat.dvd_trans (ih h) (Nat.dvd_lcm_right _ _)
def wl12 (b : Nat → Bool) (e : Nat) : List Nat := [1, 2, 3, 4, 5, 6, 7, 8, 9, 10, 11, 12].map (fun m => if b m = true then m else e)
theorem landau : ∀ b1 b2 b3 b4 b5 b6 b7 b8 b9 b10 b11 b12 : Bool, [if b1 = true then 1 else 0, if b2 = true then 2 else 0, if b3 = true then 3 else 0, if b4 = true then 4 else 0, if b5 = true then 5 else 0, if b6 = true then 6 else 0, if b7 = true then 7 else 0, if b8 = true then 8 else 0, if b9 = true then 9 else 0, if b10 = true then 10 else 0, if b11 = true then 11 else 0, if b12 = true then 12 else 0].sum ≤ 12 →
    1 ≤ lcmL [if b1 = true then 1 else 1, if b2 = true then 2 else 1, if b3 = true then 3 else 1, if b4 = true then 4 else 1, if b5 = true then 5 else 1, if b6 = true then 6 else 1, if b7 = true then 7 else 1, if b8 = true then 8 else 1, if b9 = true then 9 else 1, if b10 = true then 10 else 1, if b11 = true then 11 else 1, if b12 = true then 12 else 1] ∧ lcmL [if b1 = true then 1 else 1, if b2 = true then 2 else 1, if b3 = true then 3 else 1, if b4 = true then 4 else 1, if b5 = true then 5 else 1, if b6 = true then 6 else 1, if b7 = true then 7 else 1, if b8 = true then 8 else 1, if b9 = true then 9 else 1, if b10 = true then 10 else 1, if b11 = true then 11 else 1, if b12 = true then 12 else 1] ≤ 60 := by decide +kernel
theorem order_ex (hn : n ≤ 12) (hg : ∀ i, i < n → g i < n) (hinj : ∀ i j, i < n → j < n → g i = g j → i = j) : ∃ k, k < 60 ∧ ∀ i, i < n → it g (k + 1) i = i := by
  have hch : ∀ m, ∃ q : Bool × Nat, (q.1 = true → q.2 < n ∧ Per g q.2 m) ∧ (q.1 = false → ∀ i, i < n → ¬ Per g i m) := by
    intro m
    by_cases h : ∃ i, i < n ∧ Per g i m
    · obtain ⟨i, h1, h2⟩ := h
      exact ⟨(true, i), fun _ => ⟨h1, h2⟩, fun q => by cases q⟩
    · exact ⟨(false, 0), (fun q => by cases q), fun _ i hi hp => h ⟨i, hi, hp⟩⟩
  obtain ⟨F, hF⟩ := Classical.axiomOfChoice hch
  have hlen := nodup_le ([1, 2, 3, 4, 5, 6, 7, 8, 9, 10, 11, 12].flatMap (fun m => if (F m).1 = true then (List.range m).map (fun k => it g k (F m).2) else [])) (List.range n) ?_ ?_
  · rw [List.length_range, List.length_flatMap] at hlen
    have hl : ∀ m, (if (F m).1 = true then (List.range m).map (fun k => it g k (F m).2) else []).length = if (F m).1 = true then m else 0 := by
      intro m
      by_cases h : (F m).1 = true
      · rw [if_pos h, if_pos h, List.length_map, List.length_range]
      · rw [if_neg h, if_neg h]; rfl
    simp only [List.map_cons, List.map_nil, hl] at hlen
    obtain ⟨L1, L2⟩ := landau (F 1).1 (F 2).1 (F 3).1 (F 4).1 (F 5).1 (F 6).1 (F 7).1 (F 8).1 (F 9).1 (F 10).1 (F 11).1 (F 12).1 (Nat.le_trans hlen hn)
    generalize hLL : lcmL _ = LL at L1 L2
    refine ⟨LL - 1, by omega, fun i hi => ?_⟩
    rw [show LL - 1 + 1 = LL by omega]
    obtain ⟨m, hm, hp⟩ := per_ex hg hinj hi
    have hb : (F m).1 = true := by
      cases h : (F m).1 with
      | true => rfl
      | false => exact absurd hp ((hF m).2 h i hi)
    have hdvd : m ∣ LL := by
      rw [← hLL]
      refine dvd_lcmL ?_
      have h1 := hp.1
      have hc : m = 1 ∨ m = 2 ∨ m = 3 ∨ m = 4 ∨ m = 5 ∨ m = 6 ∨ m = 7 ∨ m = 8 ∨ m = 9 ∨ m = 10 ∨ m = 11 ∨ m = 12 := by omega
      rcases hc with rfl | rfl | rfl | rfl | rfl | rfl | rfl | rfl | rfl | rfl | rfl | rfl <;> simp [hb]
    obtain ⟨k, rfl⟩ := hdvd
    exact per_mul hp k
  · rw [List.nodup_iff_pairwise_ne, List.pairwise_flatMap]
    constructor
    · intro m _
      by_cases h : (F m).1 = true
      · rw [if_pos h]
        obtain ⟨h1, h2⟩ := (hF m).1 h
        exact List.nodup_iff_pairwise_ne.mp (nodup_map fun a b ha hb e => per_dist hg hinj h1 h2 a b ha hb e)
      · rw [if_neg h]; exact List.Pairwise.nil
    · have hd : List.Pairwise (fun a b : Nat => a ≠ b) [1, 2, 3, 4, 5, 6, 7, 8, 9, 10, 11, 12] := by decide
      refine hd.imp fun {a b} hab x hx y hy e => ?_
      by_cases ha : (F a).1 = true
      · by_cases hb : (F b).1 = true
        · rw [if_pos ha] at hx
          rw [if_pos hb] at hy
          obtain ⟨k1, -, rfl⟩ := List.mem_map.mp hx
          obtain ⟨k2, -, e2⟩ := List.mem_map.mp hy
          obtain ⟨a1, a2⟩ := (hF a).1 ha
          obtain ⟨b1, b2⟩ := (hF b).1 hb
          have p1 := per_orb hg hinj a1 a2 k1
          have p2 := per_orb hg hinj b1 b2 k2
          rw [e2, ← e] at p2
          exact hab (per_uniq p1 p2)
        · rw [if_neg hb] at hy; cases hy
      · rw [if_neg ha] at hx; cases hx
  · intro x hx
    obtain ⟨m, -, hx⟩ := List.mem_flatMap.mp hx
    by_cases h : (F m).1 = true
    · rw [if_pos h] at hx
      obtain ⟨k, -, rfl⟩ := List.mem_map.mp hx
      exact List.mem_range.mpr (it_lt hg k _ ((hF m).1 h).1)
    · rw [if_neg h] at hx; cases hx
end ORD
/-- the powers of a row, from the first on -/
def pwr (n a : Nat) : Nat → Nat
  | 0 => a
  | k + 1 => tm n (pwr n a k) a
theorem pwr_rw {n a : Nat} (ha : Rw n a) : ∀ k, Rw n (pwr n a k) := by
  intro k
  induction k with
  | zero => exact ha
  | succ k ih => exact tm_rw ih ha
theorem pwr_dg {n a : Nat} (ha : Rw n a) : ∀ k i, i < n → dg (pwr n a k) i = it (fun i => dg a i - 1) (k + 1) i + 1 := by
  intro k
  induction k with
  | zero =>
    intro i hi
    have := ha.2.1 i hi
    show dg a i = (dg a i - 1) + 1
    omega
  | succ k ih =>
    intro i hi
    have := ha.2.1 i hi
    rw [pwr, tm_dg hi, ih _ (by omega)]
    rfl
theorem pwr_rd {n a : Nat} (hn : n ≤ 12) (ha : Rw n a) (k : Nat) (h : ∀ i, i < n → it (fun i => dg a i - 1) (k + 1) i = i) : pwr n a k = rd n := by
  refine dg_ext n _ _ (pwr_rw ha k).1 (rd_rw hn).1 fun i hi => ?_
  rw [pwr_dg ha k i hi, h i hi, rd_dg n hn i hi]
/-- the order of a row is K + 1 -/
def Od (n a K : Nat) : Prop := K < 60 ∧ pwr n a K = rd n ∧ ∀ j, j < K → pwr n a j ≠ rd n
theorem od_ex {n a : Nat} (hn : n ≤ 12) (ha : Rw n a) : ∃ K, Od n a K := by
  obtain ⟨k, h1, h2⟩ := order_ex (g := fun i => dg a i - 1) hn (fun i hi => by have := ha.2.1 i hi; omega) (fun i j hi hj e => by
    have h1 := ha.2.1 i hi
    have h2 := ha.2.1 j hj
    exact ha.2.2 i j hi hj (by omega))
  obtain ⟨K, h3, h4⟩ := pk_least (fun k => pwr n a k = rd n) ⟨k, pwr_rd hn ha k h2⟩
  refine ⟨K, ?_, h3, h4⟩
  rcases Nat.lt_or_ge k K with q | q
  · exact absurd (pwr_rd hn ha k h2) (h4 k q)
  · omega
theorem lN_lt12 {n a : Nat} (hn : n ≤ 12) (ha : a < 16 ^ n) : a < 16 ^ 12 := Nat.lt_of_lt_of_le ha (n12 hn)
theorem order_loop {N n a K : Nat} {h : Hp} (hN : 100 < N) (hn : n ≤ 12) (ha : Rw n a) (hO : Od n a K) : ∀ (r f k : Nat), k + r = K → r < f → Rows_orderOf_11 N f (lN a) (nI n) (lN (rd n)) (lN (pwr n a k)) (nI (k + 1)) h = some (nI (K + 1), h) := by
  obtain ⟨o1, o2, o3⟩ := hO
  have hr := rd_lt hn
  intro r
  induction r with
  | zero =>
    intro f k hk hf
    obtain ⟨f, rfl⟩ : ∃ j, f = j + 1 := ⟨f - 1, by omega⟩
    obtain rfl : k = K := by omega
    rw [Rows_orderOf_11, o2, if_pos ((lg_eq _ _).mpr rfl)]
  | succ r ih =>
    intro f k hk hf
    obtain ⟨f, rfl⟩ : ∃ j, f = j + 1 := ⟨f - 1, by omega⟩
    have hp := lN_lt12 hn (pwr_rw ha k).1
    have hne : ¬ lg_cmp (lN (pwr n a k)) (lN (rd n)) = 0 := fun q => o3 k (by omega) ((pk_lEQ (by omega) (by omega)).mp ((lg_eq _ _).mp q))
    have h60 : ¬ (60 : Int32) ≤ nI (k + 1) := fun q => by have := (nI_leI (a := 60) (by omega) (by omega)).mp q; omega
    rw [Rows_orderOf_11, if_neg hne, if_neg h60, Rows_times_s (by omega) hn hp ha, cl_s]
    simp only [nm]
    rw [nI_1]
    exact ih f (k + 1) (by omega) (by omega)
theorem Rows_orderOf_s {N n a K : Nat} {h : Hp} (hN : 100 < N) (hn : n ≤ 12) (ha : Rw n a) (hO : Od n a K) : Rows_orderOf N (lN a) (nI n) h = some (nI (K + 1), h) := by
  unfold Rows_orderOf
  rw [Rows_rounds_s hn, cl_s]
  have := order_loop (N := N) (h := h) hN hn ha hO K N 0 (by omega) (by have := hO.1; omega)
  exact this
theorem M_order_loop {N n a K : Nat} {h : Hp} (hN : 100 < N) (hM : Mn h n) (ha : Rw n a) (hO : Od n a K) : ∀ (r f k : Nat), k + r = K → r < f → M_orderOf_5 N f (some 35) (lN a) (lN (pwr n a k)) (nI (k + 1)) h = some (nI (K + 1), h) := by
  obtain ⟨o1, o2, o3⟩ := hO
  have hn := hM.2.2.2
  have hr := rd_lt hn
  intro r
  induction r with
  | zero =>
    intro f k hk hf
    obtain ⟨f, rfl⟩ : ∃ j, f = j + 1 := ⟨f - 1, by omega⟩
    obtain rfl : k = K := by omega
    rw [M_orderOf_5, ds_1 hM.1, M_rounds_s (by omega) hM, cl_s, o2, if_pos ((lg_eq _ _).mpr rfl)]
  | succ r ih =>
    intro f k hk hf
    obtain ⟨f, rfl⟩ : ∃ j, f = j + 1 := ⟨f - 1, by omega⟩
    have hp := lN_lt12 hn (pwr_rw ha k).1
    have hne : ¬ lg_cmp (lN (pwr n a k)) (lN (rd n)) = 0 := fun q => o3 k (by omega) ((pk_lEQ (by omega) (by omega)).mp ((lg_eq _ _).mp q))
    rw [M_orderOf_5, ds_1 hM.1, M_rounds_s (by omega) hM, cl_s, if_neg hne, ds_1 hM.1, M_times_s (by omega) hM hp ha, cl_s]
    simp only [nm]
    rw [nI_1]
    exact ih f (k + 1) (by omega) (by omega)
theorem M_orderOf_s {N n a K : Nat} {h : Hp} (hN : 100 < N) (hM : Mn h n) (ha : Rw n a) (hO : Od n a K) : M_orderOf N (some 35) (lN a) h = some (nI (K + 1), h) := by
  unfold M_orderOf
  exact M_order_loop (N := N) hN hM ha hO K N 0 (by omega) (by have := hO.1; omega)
