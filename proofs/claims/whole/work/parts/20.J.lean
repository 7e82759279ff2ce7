section
variable {p : Program} {l : Launch} {e : Env} {R : Room} {s : State} {m : MethodId} {args : Array Value} {below : List Frame} {meth : Method} {c : Code} {D : va_G} {dA : Nat → ClassId} {B n0 s0 : Nat}
theorem d_Lead_init_0 : decode prog_2_method_1_code 0 = .ok (.aload_n 0, 1) := by decide +kernel
theorem d_Lead_init_1 : decode prog_2_method_1_code 1 = .ok (.invokespecial 3, 3) := by decide +kernel
theorem d_Lead_init_4 : decode prog_2_method_1_code 4 = .ok (.aload_n 0, 1) := by decide +kernel
theorem d_Lead_init_5 : decode prog_2_method_1_code 5 = .ok (.bipush 100, 2) := by decide +kernel
theorem d_Lead_init_7 : decode prog_2_method_1_code 7 = .ok (.newarray .int, 2) := by decide +kernel
theorem d_Lead_init_9 : decode prog_2_method_1_code 9 = .ok (.putfield 9, 3) := by decide +kernel
theorem d_Lead_init_12 : decode prog_2_method_1_code 12 = .ok (.aload_n 0, 1) := by decide +kernel
theorem d_Lead_init_13 : decode prog_2_method_1_code 13 = .ok (.iconst 1, 1) := by decide +kernel
theorem d_Lead_init_14 : decode prog_2_method_1_code 14 = .ok (.putfield 15, 3) := by decide +kernel
theorem d_Lead_init_17 : decode prog_2_method_1_code 17 = .ok (.return_, 1) := by decide +kernel
set_option maxRecDepth 20000 in
theorem jc_Lead_init (N : Nat) (l0 : Option Nat) (h : Hp) : J p l e R s m args below meth c prog_2_method_1_code 1 "RingingChamber$Lead" 1 20 none "<init>" D dA B n0 s0 (QM below args s D dA B n0 s0 vU) 0 [(0, vr l0)] [] h (Lead_init N l0 h) := by
  unfold Lead_init
  refine j_aload_n d_Lead_init_0 0 rfl rfl ?_
  refine j_obj d_Lead_init_1 ko_0_3 ko_i ko_c (by decide) (by decide) (Nat.le_of_ble_eq_true rfl) ?_
  refine j_aload_n d_Lead_init_4 0 rfl rfl ?_
  refine j_bipush (v := 100) d_Lead_init_5 (by decide) ?_
  refine j_newa13 d_Lead_init_7 ka_int (fun x1 h2 => ?_)
  refine j_putR d_Lead_init_9 fl_0_9 (Or.inr rfl) (Or.inr ⟨_, rfl⟩) (fun h3 => ?_)
  refine j_aload_n d_Lead_init_12 0 rfl rfl ?_
  refine j_iconst (v := 1) d_Lead_init_13 (by decide) ?_
  refine j_putI d_Lead_init_14 fl_0_15 (Or.inl rfl) (fun h4 => ?_)
  exact j_retU d_Lead_init_17
set_option maxRecDepth 20000 in
theorem ct_Lead_init (N : Nat) (l : Launch) (D : va_G) (dA : Nat → ClassId) (B : Nat) (l0 : Option Nat) (h : Hp) : Ct l (⟨"RingingChamber$Lead", "<init>", "()V"⟩ : MethodName) prog_2_method_1_code 1 none 1 20 D dA B [vr l0] h vU (Lead_init N l0 h) :=
  Ct.of2 (own := "RingingChamber$Lead") (nme := "<init>") (lv := [(0, vr l0)]) rfl rfl (by decide) (Nat.le_of_ble_eq_true rfl) rfl (fun p e R s m args below meth c => jc_Lead_init N l0 h)
theorem d_Lead_add_0 : decode prog_2_method_2_code 0 = .ok (.aload_n 0, 1) := by decide +kernel
theorem d_Lead_add_1 : decode prog_2_method_2_code 1 = .ok (.getfield 19, 3) := by decide +kernel
theorem d_Lead_add_4 : decode prog_2_method_2_code 4 = .ok (.bipush 100, 2) := by decide +kernel
theorem d_Lead_add_6 : decode prog_2_method_2_code 6 = .ok (.if_icmp .ge 23, 3) := by decide +kernel
theorem d_Lead_add_9 : decode prog_2_method_2_code 9 = .ok (.aload_n 0, 1) := by decide +kernel
theorem d_Lead_add_10 : decode prog_2_method_2_code 10 = .ok (.getfield 9, 3) := by decide +kernel
theorem d_Lead_add_13 : decode prog_2_method_2_code 13 = .ok (.aload_n 0, 1) := by decide +kernel
theorem d_Lead_add_14 : decode prog_2_method_2_code 14 = .ok (.getfield 19, 3) := by decide +kernel
theorem d_Lead_add_17 : decode prog_2_method_2_code 17 = .ok (.iload_n 1, 1) := by decide +kernel
theorem d_Lead_add_18 : decode prog_2_method_2_code 18 = .ok (.iastore, 1) := by decide +kernel
theorem d_Lead_add_19 : decode prog_2_method_2_code 19 = .ok (.aload_n 0, 1) := by decide +kernel
theorem d_Lead_add_20 : decode prog_2_method_2_code 20 = .ok (.dup, 1) := by decide +kernel
theorem d_Lead_add_21 : decode prog_2_method_2_code 21 = .ok (.getfield 19, 3) := by decide +kernel
theorem d_Lead_add_24 : decode prog_2_method_2_code 24 = .ok (.iconst 1, 1) := by decide +kernel
theorem d_Lead_add_25 : decode prog_2_method_2_code 25 = .ok (.iadd, 1) := by decide +kernel
theorem d_Lead_add_26 : decode prog_2_method_2_code 26 = .ok (.putfield 19, 3) := by decide +kernel
theorem d_Lead_add_29 : decode prog_2_method_2_code 29 = .ok (.return_, 1) := by decide +kernel
set_option maxRecDepth 20000 in
theorem jc_Lead_add (N : Nat) (l0 : Option Nat) (l1 : Int32) (h : Hp) : J p l e R s m args below meth c prog_2_method_2_code 2 "RingingChamber$Lead" 0 0 none "add" D dA B n0 s0 (QM below args s D dA B n0 s0 vU) 0 [(0, vr l0), (1, vi l1)] [] h (Lead_add N l0 l1 h) := by
  unfold Lead_add
  refine j_aload_n d_Lead_add_0 0 rfl rfl ?_
  refine j_getI d_Lead_add_1 fl_0_19.r (fun x1 => ?_)
  refine j_bipush (v := 100) d_Lead_add_4 (by decide) ?_
  refine j_icmp_ge (tgt := 29) d_Lead_add_6 (by decide) ?_ ?_
  · exact j_retU d_Lead_add_29
  · refine j_aload_n d_Lead_add_9 0 rfl rfl ?_
    refine j_getR d_Lead_add_10 fl_0_9.r (fun x2 => ?_)
    refine j_aload_n d_Lead_add_13 0 rfl rfl ?_
    refine j_getI d_Lead_add_14 fl_0_19.r (fun x3 => ?_)
    refine j_iload_n d_Lead_add_17 1 rfl rfl ?_
    refine j_iast d_Lead_add_18 (fun h4 => ?_)
    refine j_aload_n d_Lead_add_19 0 rfl rfl ?_
    refine j_dup d_Lead_add_20 rfl ?_
    refine j_getI d_Lead_add_21 fl_0_19.r (fun x5 => ?_)
    refine j_iconst (v := 1) d_Lead_add_24 (by decide) ?_
    refine j_iadd d_Lead_add_25 ?_
    refine j_putI d_Lead_add_26 fl_0_19 (Or.inl rfl) (fun h6 => ?_)
    exact j_retU d_Lead_add_29
set_option maxRecDepth 20000 in
theorem ct_Lead_add (N : Nat) (l : Launch) (D : va_G) (dA : Nat → ClassId) (B : Nat) (l0 : Option Nat) (l1 : Int32) (h : Hp) : Ct l (⟨"RingingChamber$Lead", "add", "(I)V"⟩ : MethodName) prog_2_method_2_code 2 none 0 0 D dA B [vr l0, vi l1] h vU (Lead_add N l0 l1 h) :=
  Ct.of2 (own := "RingingChamber$Lead") (nme := "add") (lv := [(0, vr l0), (1, vi l1)]) rfl rfl (by decide) (Nat.le_of_ble_eq_true rfl) rfl (fun p e R s m args below meth c => jc_Lead_add N l0 l1 h)
theorem d_Rows_changed_0 : decode prog_7_method_14_code 0 = .ok (.lload_n 0, 1) := by decide +kernel
theorem d_Rows_changed_1 : decode prog_7_method_14_code 1 = .ok (.lstore_n 3, 1) := by decide +kernel
theorem d_Rows_changed_2 : decode prog_7_method_14_code 2 = .ok (.iconst 0, 1) := by decide +kernel
theorem d_Rows_changed_3 : decode prog_7_method_14_code 3 = .ok (.istore 5, 2) := by decide +kernel
theorem d_Rows_changed_5 : decode prog_7_method_14_code 5 = .ok (.iload_n 2, 1) := by decide +kernel
theorem d_Rows_changed_6 : decode prog_7_method_14_code 6 = .ok (.istore 6, 2) := by decide +kernel
theorem d_Rows_changed_8 : decode prog_7_method_14_code 8 = .ok (.iload 6, 2) := by decide +kernel
theorem d_Rows_changed_10 : decode prog_7_method_14_code 10 = .ok (.ifCond .le 55, 3) := by decide +kernel
theorem d_Rows_changed_13 : decode prog_7_method_14_code 13 = .ok (.iload 6, 2) := by decide +kernel
theorem d_Rows_changed_15 : decode prog_7_method_14_code 15 = .ok (.iconst 1, 1) := by decide +kernel
theorem d_Rows_changed_16 : decode prog_7_method_14_code 16 = .ok (.iand, 1) := by decide +kernel
theorem d_Rows_changed_17 : decode prog_7_method_14_code 17 = .ok (.ifCond .eq 36, 3) := by decide +kernel
theorem d_Rows_changed_20 : decode prog_7_method_14_code 20 = .ok (.lload_n 3, 1) := by decide +kernel
theorem d_Rows_changed_21 : decode prog_7_method_14_code 21 = .ok (.iload 5, 2) := by decide +kernel
theorem d_Rows_changed_23 : decode prog_7_method_14_code 23 = .ok (.lushr, 1) := by decide +kernel
theorem d_Rows_changed_24 : decode prog_7_method_14_code 24 = .ok (.lload_n 3, 1) := by decide +kernel
theorem d_Rows_changed_25 : decode prog_7_method_14_code 25 = .ok (.iload 5, 2) := by decide +kernel
theorem d_Rows_changed_27 : decode prog_7_method_14_code 27 = .ok (.iconst 4, 1) := by decide +kernel
theorem d_Rows_changed_28 : decode prog_7_method_14_code 28 = .ok (.iadd, 1) := by decide +kernel
theorem d_Rows_changed_29 : decode prog_7_method_14_code 29 = .ok (.lushr, 1) := by decide +kernel
theorem d_Rows_changed_30 : decode prog_7_method_14_code 30 = .ok (.lxor, 1) := by decide +kernel
theorem d_Rows_changed_31 : decode prog_7_method_14_code 31 = .ok (.ldc2_w 52, 3) := by decide +kernel
theorem d_Rows_changed_34 : decode prog_7_method_14_code 34 = .ok (.land, 1) := by decide +kernel
theorem d_Rows_changed_35 : decode prog_7_method_14_code 35 = .ok (.lstore 7, 2) := by decide +kernel
theorem d_Rows_changed_37 : decode prog_7_method_14_code 37 = .ok (.lload_n 3, 1) := by decide +kernel
theorem d_Rows_changed_38 : decode prog_7_method_14_code 38 = .ok (.lload 7, 2) := by decide +kernel
theorem d_Rows_changed_40 : decode prog_7_method_14_code 40 = .ok (.iload 5, 2) := by decide +kernel
theorem d_Rows_changed_42 : decode prog_7_method_14_code 42 = .ok (.lshl, 1) := by decide +kernel
theorem d_Rows_changed_43 : decode prog_7_method_14_code 43 = .ok (.lload 7, 2) := by decide +kernel
theorem d_Rows_changed_45 : decode prog_7_method_14_code 45 = .ok (.iload 5, 2) := by decide +kernel
theorem d_Rows_changed_47 : decode prog_7_method_14_code 47 = .ok (.iconst 4, 1) := by decide +kernel
theorem d_Rows_changed_48 : decode prog_7_method_14_code 48 = .ok (.iadd, 1) := by decide +kernel
theorem d_Rows_changed_49 : decode prog_7_method_14_code 49 = .ok (.lshl, 1) := by decide +kernel
theorem d_Rows_changed_50 : decode prog_7_method_14_code 50 = .ok (.lor, 1) := by decide +kernel
theorem d_Rows_changed_51 : decode prog_7_method_14_code 51 = .ok (.lxor, 1) := by decide +kernel
theorem d_Rows_changed_52 : decode prog_7_method_14_code 52 = .ok (.lstore_n 3, 1) := by decide +kernel
theorem d_Rows_changed_53 : decode prog_7_method_14_code 53 = .ok (.iinc 5 4, 3) := by decide +kernel
theorem d_Rows_changed_56 : decode prog_7_method_14_code 56 = .ok (.iload 6, 2) := by decide +kernel
theorem d_Rows_changed_58 : decode prog_7_method_14_code 58 = .ok (.iconst 1, 1) := by decide +kernel
theorem d_Rows_changed_59 : decode prog_7_method_14_code 59 = .ok (.ishr, 1) := by decide +kernel
theorem d_Rows_changed_60 : decode prog_7_method_14_code 60 = .ok (.istore 6, 2) := by decide +kernel
theorem d_Rows_changed_62 : decode prog_7_method_14_code 62 = .ok (.goto (-54), 3) := by decide +kernel
theorem d_Rows_changed_65 : decode prog_7_method_14_code 65 = .ok (.lload_n 3, 1) := by decide +kernel
theorem d_Rows_changed_66 : decode prog_7_method_14_code 66 = .ok (.lreturn, 1) := by decide +kernel
set_option maxRecDepth 20000 in
theorem jc_Rows_changed_53 (N : Nat) (re8 : Int64 → Int32 → Int32 → Hp → Option (Int64 × Hp)) (hre8 : ∀ y0 y1 y2 h, J p l e R s m args below meth c prog_7_method_14_code 9 "RingingChamber$Rows" 0 0 (some .long) "changed" D dA B n0 s0 (QM below args s D dA B n0 s0 vL) 8 [(3, vl y0), (5, vi y1), (6, vi y2)] [] h (re8 y0 y1 y2 h)) (l3 : Int64) (l5 : Int32) (l6 : Int32) (h : Hp) : J p l e R s m args below meth c prog_7_method_14_code 9 "RingingChamber$Rows" 0 0 (some .long) "changed" D dA B n0 s0 (QM below args s D dA B n0 s0 vL) 53 [(3, vl l3), (5, vi l5), (6, vi l6)] [] h (Rows_changed_53 N re8 l3 l5 l6 h) := by
  unfold Rows_changed_53
  refine j_iinc (lvv := fun x1 => [(5, vi x1), (3, vl l3), (6, vi l6)]) d_Rows_changed_53 1 rfl rfl (by decide) (fun _ => rfl) (fun x1 => ?_)
  refine j_iload d_Rows_changed_56 2 rfl ?_
  refine j_iconst (v := 1) d_Rows_changed_58 (by decide) ?_
  refine j_ishr d_Rows_changed_59 ?_
  refine j_nmi (fun x2 => ?_)
  refine j_istore (lv' := [(6, vi x2), (5, vi x1), (3, vl l3)]) d_Rows_changed_60 (by decide) rfl ?_
  refine j_goto (tgt := 8) d_Rows_changed_62 (by decide) ?_
  exact J.sub [2, 1, 0] rfl (hre8 l3 x1 x2 h)
set_option maxRecDepth 20000 in
theorem jc_Rows_changed_8 (N : Nat) : ∀ (n : Nat) (l3 : Int64) (l5 : Int32) (l6 : Int32) (h : Hp), J p l e R s m args below meth c prog_7_method_14_code 9 "RingingChamber$Rows" 0 0 (some .long) "changed" D dA B n0 s0 (QM below args s D dA B n0 s0 vL) 8 [(3, vl l3), (5, vi l5), (6, vi l6)] [] h (Rows_changed_8 N n l3 l5 l6 h) := by
  intro n
  induction n with
  | zero => intros; exact J.none
  | succ n ih =>
    intro l3 l5 l6 h
    rw [Rows_changed_8]
    refine j_iload d_Rows_changed_8 2 rfl ?_
    refine j_if_le (tgt := 65) d_Rows_changed_10 (by decide) ?_ ?_
    · refine j_lload_n d_Rows_changed_65 0 rfl rfl ?_
      exact j_retL d_Rows_changed_66
    · refine j_iload d_Rows_changed_13 2 rfl ?_
      refine j_iconst (v := 1) d_Rows_changed_15 (by decide) ?_
      refine j_iand d_Rows_changed_16 ?_
      refine j_if_eq (tgt := 53) d_Rows_changed_17 (by decide) ?_ ?_
      · exact jc_Rows_changed_53 N (Rows_changed_8 N n) ih l3 l5 l6 h
      · refine j_lload_n d_Rows_changed_20 0 rfl rfl ?_
        refine j_iload d_Rows_changed_21 1 rfl ?_
        refine j_lushr d_Rows_changed_23 ?_
        refine j_lload_n d_Rows_changed_24 0 rfl rfl ?_
        refine j_iload d_Rows_changed_25 1 rfl ?_
        refine j_iconst (v := 4) d_Rows_changed_27 (by decide) ?_
        refine j_iadd d_Rows_changed_28 ?_
        refine j_lushr d_Rows_changed_29 ?_
        refine j_lxor d_Rows_changed_30 ?_
        refine j_ldc2 d_Rows_changed_31 ckl_4_52 ?_
        refine j_land d_Rows_changed_34 ?_
        refine j_nml (fun x1 => ?_)
        refine j_lstore (lv' := [(7, vl x1), (3, vl l3), (5, vi l5), (6, vi l6)]) d_Rows_changed_35 (by decide) rfl ?_
        refine j_lload_n d_Rows_changed_37 1 rfl rfl ?_
        refine j_lload d_Rows_changed_38 0 rfl ?_
        refine j_iload d_Rows_changed_40 2 rfl ?_
        refine j_lshl d_Rows_changed_42 ?_
        refine j_lload d_Rows_changed_43 0 rfl ?_
        refine j_iload d_Rows_changed_45 2 rfl ?_
        refine j_iconst (v := 4) d_Rows_changed_47 (by decide) ?_
        refine j_iadd d_Rows_changed_48 ?_
        refine j_lshl d_Rows_changed_49 ?_
        refine j_lor d_Rows_changed_50 ?_
        refine j_lxor d_Rows_changed_51 ?_
        refine j_nml (fun x2 => ?_)
        refine j_lstore_n (lv' := [(3, vl x2), (7, vl x1), (5, vi l5), (6, vi l6)]) d_Rows_changed_52 rfl (by decide) rfl ?_
        exact J.sub [0, 2, 3] rfl (jc_Rows_changed_53 N (Rows_changed_8 N n) ih x2 l5 l6 h)
set_option maxRecDepth 20000 in
theorem jc_Rows_changed (N : Nat) (l0 : Int64) (l2 : Int32) (h : Hp) : J p l e R s m args below meth c prog_7_method_14_code 9 "RingingChamber$Rows" 0 0 (some .long) "changed" D dA B n0 s0 (QM below args s D dA B n0 s0 vL) 0 [(0, vl l0), (2, vi l2)] [] h (Rows_changed N l0 l2 h) := by
  unfold Rows_changed
  refine j_lload_n d_Rows_changed_0 0 rfl rfl ?_
  refine j_lstore_n (lv' := [(3, vl l0), (0, vl l0), (2, vi l2)]) d_Rows_changed_1 rfl (by decide) rfl ?_
  refine j_iconst (v := 0) d_Rows_changed_2 (by decide) ?_
  refine j_istore (lv' := [(5, vi 0), (3, vl l0), (0, vl l0), (2, vi l2)]) d_Rows_changed_3 (by decide) rfl ?_
  refine j_iload_n d_Rows_changed_5 3 rfl rfl ?_
  refine j_istore (lv' := [(6, vi l2), (5, vi 0), (3, vl l0), (0, vl l0), (2, vi l2)]) d_Rows_changed_6 (by decide) rfl ?_
  exact J.sub [2, 1, 0] rfl (jc_Rows_changed_8 N N l0 0 l2 h)
set_option maxRecDepth 20000 in
theorem ct_Rows_changed (N : Nat) (l : Launch) (D : va_G) (dA : Nat → ClassId) (B : Nat) (l0 : Int64) (l2 : Int32) (h : Hp) : Ct l (⟨"RingingChamber$Rows", "changed", "(JI)J"⟩ : MethodName) prog_7_method_14_code 9 (some .long) 0 0 D dA B [vl l0, vi l2] h vL (Rows_changed N l0 l2 h) :=
  Ct.of2 (own := "RingingChamber$Rows") (nme := "changed") (lv := [(0, vl l0), (2, vi l2)]) rfl rfl (by decide) (Nat.le_of_ble_eq_true rfl) rfl (fun p e R s m args below meth c => jc_Rows_changed N l0 l2 h)
theorem d_Lead_rungFrom_0 : decode prog_2_method_3_code 0 = .ok (.lload_n 1, 1) := by decide +kernel
theorem d_Lead_rungFrom_1 : decode prog_2_method_3_code 1 = .ok (.lstore_n 3, 1) := by decide +kernel
theorem d_Lead_rungFrom_2 : decode prog_2_method_3_code 2 = .ok (.iconst 0, 1) := by decide +kernel
theorem d_Lead_rungFrom_3 : decode prog_2_method_3_code 3 = .ok (.istore 5, 2) := by decide +kernel
theorem d_Lead_rungFrom_5 : decode prog_2_method_3_code 5 = .ok (.iload 5, 2) := by decide +kernel
theorem d_Lead_rungFrom_7 : decode prog_2_method_3_code 7 = .ok (.aload_n 0, 1) := by decide +kernel
theorem d_Lead_rungFrom_8 : decode prog_2_method_3_code 8 = .ok (.getfield 19, 3) := by decide +kernel
theorem d_Lead_rungFrom_11 : decode prog_2_method_3_code 11 = .ok (.if_icmp .ge 21, 3) := by decide +kernel
theorem d_Lead_rungFrom_14 : decode prog_2_method_3_code 14 = .ok (.lload_n 3, 1) := by decide +kernel
theorem d_Lead_rungFrom_15 : decode prog_2_method_3_code 15 = .ok (.aload_n 0, 1) := by decide +kernel
theorem d_Lead_rungFrom_16 : decode prog_2_method_3_code 16 = .ok (.getfield 9, 3) := by decide +kernel
theorem d_Lead_rungFrom_19 : decode prog_2_method_3_code 19 = .ok (.iload 5, 2) := by decide +kernel
theorem d_Lead_rungFrom_21 : decode prog_2_method_3_code 21 = .ok (.iaload, 1) := by decide +kernel
theorem d_Lead_rungFrom_22 : decode prog_2_method_3_code 22 = .ok (.invokestatic 22, 3) := by decide +kernel
theorem d_Lead_rungFrom_25 : decode prog_2_method_3_code 25 = .ok (.lstore_n 3, 1) := by decide +kernel
theorem d_Lead_rungFrom_26 : decode prog_2_method_3_code 26 = .ok (.iinc 5 1, 3) := by decide +kernel
theorem d_Lead_rungFrom_29 : decode prog_2_method_3_code 29 = .ok (.goto (-24), 3) := by decide +kernel
theorem d_Lead_rungFrom_32 : decode prog_2_method_3_code 32 = .ok (.lload_n 3, 1) := by decide +kernel
theorem d_Lead_rungFrom_33 : decode prog_2_method_3_code 33 = .ok (.lreturn, 1) := by decide +kernel
set_option maxRecDepth 20000 in
theorem jc_Lead_rungFrom_5 (N : Nat) : ∀ (n : Nat) (l0 : Option Nat) (l3 : Int64) (l5 : Int32) (h : Hp), J p l e R s m args below meth c prog_2_method_3_code 6 "RingingChamber$Lead" 1 28 (some .long) "rungFrom" D dA B n0 s0 (QM below args s D dA B n0 s0 vL) 5 [(0, vr l0), (3, vl l3), (5, vi l5)] [] h (Lead_rungFrom_5 N n l0 l3 l5 h) := by
  intro n
  induction n with
  | zero => intros; exact J.none
  | succ n ih =>
    intro l0 l3 l5 h
    rw [Lead_rungFrom_5]
    refine j_iload d_Lead_rungFrom_5 2 rfl ?_
    refine j_aload_n d_Lead_rungFrom_7 0 rfl rfl ?_
    refine j_getI d_Lead_rungFrom_8 fl_0_19.r (fun x1 => ?_)
    refine j_icmp_ge (tgt := 32) d_Lead_rungFrom_11 (by decide) ?_ ?_
    · refine j_lload_n d_Lead_rungFrom_32 1 rfl rfl ?_
      exact j_retL d_Lead_rungFrom_33
    · refine j_lload_n d_Lead_rungFrom_14 1 rfl rfl ?_
      refine j_aload_n d_Lead_rungFrom_15 0 rfl rfl ?_
      refine j_getR d_Lead_rungFrom_16 fl_0_9.r (fun x2 => ?_)
      refine j_iload d_Lead_rungFrom_19 2 rfl ?_
      refine j_iald d_Lead_rungFrom_21 (fun x3 => ?_)
      refine j_cSL2 d_Lead_rungFrom_22 sl_0_22 ks_Rows_changed (ct_Rows_changed N l D dA B l3 x3 h) (by decide) (by decide) (Nat.le_of_ble_eq_true rfl) (fun x5 h4 => ?_)
      refine j_lstore_n (lv' := [(3, vl x5), (0, vr l0), (5, vi l5)]) d_Lead_rungFrom_25 rfl (by decide) rfl ?_
      refine j_iinc (lvv := fun x6 => [(5, vi x6), (3, vl x5), (0, vr l0)]) d_Lead_rungFrom_26 2 rfl rfl (by decide) (fun _ => rfl) (fun x6 => ?_)
      refine j_goto (tgt := 5) d_Lead_rungFrom_29 (by decide) ?_
      exact J.sub [2, 1, 0] rfl (ih l0 x5 x6 h4)
set_option maxRecDepth 20000 in
theorem jc_Lead_rungFrom (N : Nat) (l0 : Option Nat) (l1 : Int64) (h : Hp) : J p l e R s m args below meth c prog_2_method_3_code 6 "RingingChamber$Lead" 1 28 (some .long) "rungFrom" D dA B n0 s0 (QM below args s D dA B n0 s0 vL) 0 [(0, vr l0), (1, vl l1)] [] h (Lead_rungFrom N l0 l1 h) := by
  unfold Lead_rungFrom
  refine j_lload_n d_Lead_rungFrom_0 1 rfl rfl ?_
  refine j_lstore_n (lv' := [(3, vl l1), (0, vr l0), (1, vl l1)]) d_Lead_rungFrom_1 rfl (by decide) rfl ?_
  refine j_iconst (v := 0) d_Lead_rungFrom_2 (by decide) ?_
  refine j_istore (lv' := [(5, vi 0), (3, vl l1), (0, vr l0), (1, vl l1)]) d_Lead_rungFrom_3 (by decide) rfl ?_
  exact J.sub [2, 1, 0] rfl (jc_Lead_rungFrom_5 N N l0 l1 0 h)
set_option maxRecDepth 20000 in
theorem ct_Lead_rungFrom (N : Nat) (l : Launch) (D : va_G) (dA : Nat → ClassId) (B : Nat) (l0 : Option Nat) (l1 : Int64) (h : Hp) : Ct l (⟨"RingingChamber$Lead", "rungFrom", "(J)J"⟩ : MethodName) prog_2_method_3_code 6 (some .long) 1 28 D dA B [vr l0, vl l1] h vL (Lead_rungFrom N l0 l1 h) :=
  Ct.of2 (own := "RingingChamber$Lead") (nme := "rungFrom") (lv := [(0, vr l0), (1, vl l1)]) rfl rfl (by decide) (Nat.le_of_ble_eq_true rfl) rfl (fun p e R s m args below meth c => jc_Lead_rungFrom N l0 l1 h)
theorem d_Meth_init_0 : decode prog_4_method_1_code 0 = .ok (.aload_n 0, 1) := by decide +kernel
theorem d_Meth_init_1 : decode prog_4_method_1_code 1 = .ok (.invokespecial 3, 3) := by decide +kernel
theorem d_Meth_init_4 : decode prog_4_method_1_code 4 = .ok (.aload_n 0, 1) := by decide +kernel
theorem d_Meth_init_5 : decode prog_4_method_1_code 5 = .ok (.new 9, 3) := by decide +kernel
theorem d_Meth_init_8 : decode prog_4_method_1_code 8 = .ok (.dup, 1) := by decide +kernel
theorem d_Meth_init_9 : decode prog_4_method_1_code 9 = .ok (.invokespecial 11, 3) := by decide +kernel
theorem d_Meth_init_12 : decode prog_4_method_1_code 12 = .ok (.putfield 12, 3) := by decide +kernel
theorem d_Meth_init_15 : decode prog_4_method_1_code 15 = .ok (.aload_n 0, 1) := by decide +kernel
theorem d_Meth_init_16 : decode prog_4_method_1_code 16 = .ok (.iconst 3, 1) := by decide +kernel
theorem d_Meth_init_17 : decode prog_4_method_1_code 17 = .ok (.newarray .int, 2) := by decide +kernel
theorem d_Meth_init_19 : decode prog_4_method_1_code 19 = .ok (.dup, 1) := by decide +kernel
theorem d_Meth_init_20 : decode prog_4_method_1_code 20 = .ok (.iconst 0, 1) := by decide +kernel
theorem d_Meth_init_21 : decode prog_4_method_1_code 21 = .ok (.iconst (-1), 1) := by decide +kernel
theorem d_Meth_init_22 : decode prog_4_method_1_code 22 = .ok (.iastore, 1) := by decide +kernel
theorem d_Meth_init_23 : decode prog_4_method_1_code 23 = .ok (.dup, 1) := by decide +kernel
theorem d_Meth_init_24 : decode prog_4_method_1_code 24 = .ok (.iconst 1, 1) := by decide +kernel
theorem d_Meth_init_25 : decode prog_4_method_1_code 25 = .ok (.iconst (-1), 1) := by decide +kernel
theorem d_Meth_init_26 : decode prog_4_method_1_code 26 = .ok (.iastore, 1) := by decide +kernel
theorem d_Meth_init_27 : decode prog_4_method_1_code 27 = .ok (.dup, 1) := by decide +kernel
theorem d_Meth_init_28 : decode prog_4_method_1_code 28 = .ok (.iconst 2, 1) := by decide +kernel
theorem d_Meth_init_29 : decode prog_4_method_1_code 29 = .ok (.iconst (-1), 1) := by decide +kernel
theorem d_Meth_init_30 : decode prog_4_method_1_code 30 = .ok (.iastore, 1) := by decide +kernel
theorem d_Meth_init_31 : decode prog_4_method_1_code 31 = .ok (.putfield 18, 3) := by decide +kernel
theorem d_Meth_init_34 : decode prog_4_method_1_code 34 = .ok (.aload_n 0, 1) := by decide +kernel
theorem d_Meth_init_35 : decode prog_4_method_1_code 35 = .ok (.iconst 3, 1) := by decide +kernel
theorem d_Meth_init_36 : decode prog_4_method_1_code 36 = .ok (.newarray .int, 2) := by decide +kernel
theorem d_Meth_init_38 : decode prog_4_method_1_code 38 = .ok (.putfield 22, 3) := by decide +kernel
theorem d_Meth_init_41 : decode prog_4_method_1_code 41 = .ok (.aload_n 0, 1) := by decide +kernel
theorem d_Meth_init_42 : decode prog_4_method_1_code 42 = .ok (.iload_n 1, 1) := by decide +kernel
theorem d_Meth_init_43 : decode prog_4_method_1_code 43 = .ok (.putfield 25, 3) := by decide +kernel
theorem d_Meth_init_46 : decode prog_4_method_1_code 46 = .ok (.aload_n 0, 1) := by decide +kernel
theorem d_Meth_init_47 : decode prog_4_method_1_code 47 = .ok (.aload_n 2, 1) := by decide +kernel
theorem d_Meth_init_48 : decode prog_4_method_1_code 48 = .ok (.putfield 29, 3) := by decide +kernel
theorem d_Meth_init_51 : decode prog_4_method_1_code 51 = .ok (.return_, 1) := by decide +kernel
set_option maxRecDepth 20000 in
theorem jc_Meth_init (N : Nat) (l0 : Option Nat) (l1 : Int32) (l2 : Option Nat) (h : Hp) : J p l e R s m args below meth c prog_4_method_1_code 3 "RingingChamber$Method" 2 40 none "<init>" D dA B n0 s0 (QM below args s D dA B n0 s0 vU) 0 [(0, vr l0), (1, vi l1), (2, vr l2)] [] h (Meth_init N l0 l1 l2 h) := by
  unfold Meth_init
  refine j_aload_n d_Meth_init_0 0 rfl rfl ?_
  refine j_obj d_Meth_init_1 ko_Me_3 ko_i ko_c (by decide) (by decide) (Nat.le_of_ble_eq_true rfl) ?_
  refine j_aload_n d_Meth_init_4 0 rfl rfl ?_
  refine j_new d_Meth_init_5 nl_Me_9 (fun x1 h2 => ?_)
  refine j_dup d_Meth_init_8 rfl ?_
  refine j_i0 d_Meth_init_9 sl_Me_11 ki_Lead_init (ct_Lead_init N l D dA B x1 h2) (by decide) (by decide) (Nat.le_of_ble_eq_true rfl) (fun _ h3 => ?_)
  refine j_putR d_Meth_init_12 fl_Me_12 (Or.inr rfl) (Or.inl ⟨_, rfl⟩) (fun h4 => ?_)
  refine j_aload_n d_Meth_init_15 0 rfl rfl ?_
  refine j_iconst (v := 3) d_Meth_init_16 (by decide) ?_
  refine j_newa13 d_Meth_init_17 ka_int (fun x5 h6 => ?_)
  refine j_dup d_Meth_init_19 rfl ?_
  refine j_iconst (v := 0) d_Meth_init_20 (by decide) ?_
  refine j_iconst (v := -1) d_Meth_init_21 (by decide) ?_
  refine j_iast d_Meth_init_22 (fun h7 => ?_)
  refine j_dup d_Meth_init_23 rfl ?_
  refine j_iconst (v := 1) d_Meth_init_24 (by decide) ?_
  refine j_iconst (v := -1) d_Meth_init_25 (by decide) ?_
  refine j_iast d_Meth_init_26 (fun h8 => ?_)
  refine j_dup d_Meth_init_27 rfl ?_
  refine j_iconst (v := 2) d_Meth_init_28 (by decide) ?_
  refine j_iconst (v := -1) d_Meth_init_29 (by decide) ?_
  refine j_iast d_Meth_init_30 (fun h9 => ?_)
  refine j_putR d_Meth_init_31 fl_Me_18 (Or.inr rfl) (Or.inr ⟨_, rfl⟩) (fun h10 => ?_)
  refine j_aload_n d_Meth_init_34 0 rfl rfl ?_
  refine j_iconst (v := 3) d_Meth_init_35 (by decide) ?_
  refine j_newa13 d_Meth_init_36 ka_int (fun x11 h12 => ?_)
  refine j_putR d_Meth_init_38 fl_Me_22 (Or.inr rfl) (Or.inr ⟨_, rfl⟩) (fun h13 => ?_)
  refine j_aload_n d_Meth_init_41 0 rfl rfl ?_
  refine j_iload_n d_Meth_init_42 1 rfl rfl ?_
  refine j_putI d_Meth_init_43 fl_Me_25 (Or.inr rfl) (fun h14 => ?_)
  refine j_aload_n d_Meth_init_46 0 rfl rfl ?_
  refine j_aload_n d_Meth_init_47 2 rfl rfl ?_
  refine j_putR d_Meth_init_48 fl_Me_29 (Or.inr rfl) (Or.inr ⟨_, rfl⟩) (fun h15 => ?_)
  exact j_retU d_Meth_init_51
set_option maxRecDepth 20000 in
theorem ct_Meth_init (N : Nat) (l : Launch) (D : va_G) (dA : Nat → ClassId) (B : Nat) (l0 : Option Nat) (l1 : Int32) (l2 : Option Nat) (h : Hp) : Ct l (⟨"RingingChamber$Method", "<init>", "(I[I)V"⟩ : MethodName) prog_4_method_1_code 3 none 2 40 D dA B [vr l0, vi l1, vr l2] h vU (Meth_init N l0 l1 l2 h) :=
  Ct.of2 (own := "RingingChamber$Method") (nme := "<init>") (lv := [(0, vr l0), (1, vi l1), (2, vr l2)]) rfl rfl (by decide) (Nat.le_of_ble_eq_true rfl) rfl (fun p e R s m args below meth c => jc_Meth_init N l0 l1 l2 h)
theorem d_Plain_init_0 : decode prog_5_method_1_code 0 = .ok (.aload_n 0, 1) := by decide +kernel
theorem d_Plain_init_1 : decode prog_5_method_1_code 1 = .ok (.iload_n 1, 1) := by decide +kernel
theorem d_Plain_init_2 : decode prog_5_method_1_code 2 = .ok (.aload_n 2, 1) := by decide +kernel
theorem d_Plain_init_3 : decode prog_5_method_1_code 3 = .ok (.invokespecial 3, 3) := by decide +kernel
theorem d_Plain_init_6 : decode prog_5_method_1_code 6 = .ok (.return_, 1) := by decide +kernel
set_option maxRecDepth 20000 in
theorem jc_Plain_init (N : Nat) (l0 : Option Nat) (l1 : Int32) (l2 : Option Nat) (h : Hp) : J p l e R s m args below meth c prog_5_method_1_code 3 "RingingChamber$Plain" 3 62 none "<init>" D dA B n0 s0 (QM below args s D dA B n0 s0 vU) 0 [(0, vr l0), (1, vi l1), (2, vr l2)] [] h (Plain_init N l0 l1 l2 h) := by
  unfold Plain_init
  refine j_aload_n d_Plain_init_0 0 rfl rfl ?_
  refine j_iload_n d_Plain_init_1 1 rfl rfl ?_
  refine j_aload_n d_Plain_init_2 2 rfl rfl ?_
  refine j_i2 d_Plain_init_3 sl_2_3 ki_Meth_init (ct_Meth_init N l D dA B l0 l1 l2 h) (by decide) (by decide) (Nat.le_of_ble_eq_true rfl) (fun _ h1 => ?_)
  exact j_retU d_Plain_init_6
set_option maxRecDepth 20000 in
theorem ct_Plain_init (N : Nat) (l : Launch) (D : va_G) (dA : Nat → ClassId) (B : Nat) (l0 : Option Nat) (l1 : Int32) (l2 : Option Nat) (h : Hp) : Ct l (⟨"RingingChamber$Plain", "<init>", "(I[I)V"⟩ : MethodName) prog_5_method_1_code 3 none 3 62 D dA B [vr l0, vi l1, vr l2] h vU (Plain_init N l0 l1 l2 h) :=
  Ct.of2 (own := "RingingChamber$Plain") (nme := "<init>") (lv := [(0, vr l0), (1, vi l1), (2, vr l2)]) rfl rfl (by decide) (Nat.le_of_ble_eq_true rfl) rfl (fun p e R s m args below meth c => jc_Plain_init N l0 l1 l2 h)
theorem d_Little_init_0 : decode prog_3_method_1_code 0 = .ok (.aload_n 0, 1) := by decide +kernel
theorem d_Little_init_1 : decode prog_3_method_1_code 1 = .ok (.iload_n 1, 1) := by decide +kernel
theorem d_Little_init_2 : decode prog_3_method_1_code 2 = .ok (.aload_n 2, 1) := by decide +kernel
theorem d_Little_init_3 : decode prog_3_method_1_code 3 = .ok (.invokespecial 3, 3) := by decide +kernel
theorem d_Little_init_6 : decode prog_3_method_1_code 6 = .ok (.return_, 1) := by decide +kernel
set_option maxRecDepth 20000 in
theorem jc_Little_init (N : Nat) (l0 : Option Nat) (l1 : Int32) (l2 : Option Nat) (h : Hp) : J p l e R s m args below meth c prog_3_method_1_code 3 "RingingChamber$Little" 4 84 none "<init>" D dA B n0 s0 (QM below args s D dA B n0 s0 vU) 0 [(0, vr l0), (1, vi l1), (2, vr l2)] [] h (Little_init N l0 l1 l2 h) := by
  unfold Little_init
  refine j_aload_n d_Little_init_0 0 rfl rfl ?_
  refine j_iload_n d_Little_init_1 1 rfl rfl ?_
  refine j_aload_n d_Little_init_2 2 rfl rfl ?_
  refine j_i2 d_Little_init_3 sl_1_3 ki_Plain_init (ct_Plain_init N l D dA B l0 l1 l2 h) (by decide) (by decide) (Nat.le_of_ble_eq_true rfl) (fun _ h1 => ?_)
  exact j_retU d_Little_init_6
set_option maxRecDepth 20000 in
theorem ct_Little_init (N : Nat) (l : Launch) (D : va_G) (dA : Nat → ClassId) (B : Nat) (l0 : Option Nat) (l1 : Int32) (l2 : Option Nat) (h : Hp) : Ct l (⟨"RingingChamber$Little", "<init>", "(I[I)V"⟩ : MethodName) prog_3_method_1_code 3 none 4 84 D dA B [vr l0, vi l1, vr l2] h vU (Little_init N l0 l1 l2 h) :=
  Ct.of2 (own := "RingingChamber$Little") (nme := "<init>") (lv := [(0, vr l0), (1, vi l1), (2, vr l2)]) rfl rfl (by decide) (Nat.le_of_ble_eq_true rfl) rfl (fun p e R s m args below meth c => jc_Little_init N l0 l1 l2 h)
theorem d_Plain_leadOf_0 : decode prog_5_method_2_code 0 = .ok (.aload_n 0, 1) := by decide +kernel
theorem d_Plain_leadOf_1 : decode prog_5_method_2_code 1 = .ok (.getfield 9, 3) := by decide +kernel
theorem d_Plain_leadOf_4 : decode prog_5_method_2_code 4 = .ok (.iconst 0, 1) := by decide +kernel
theorem d_Plain_leadOf_5 : decode prog_5_method_2_code 5 = .ok (.dup2, 1) := by decide +kernel
theorem d_Plain_leadOf_6 : decode prog_5_method_2_code 6 = .ok (.iaload, 1) := by decide +kernel
theorem d_Plain_leadOf_7 : decode prog_5_method_2_code 7 = .ok (.iconst 1, 1) := by decide +kernel
theorem d_Plain_leadOf_8 : decode prog_5_method_2_code 8 = .ok (.iadd, 1) := by decide +kernel
theorem d_Plain_leadOf_9 : decode prog_5_method_2_code 9 = .ok (.iastore, 1) := by decide +kernel
theorem d_Plain_leadOf_10 : decode prog_5_method_2_code 10 = .ok (.aload_n 0, 1) := by decide +kernel
theorem d_Plain_leadOf_11 : decode prog_5_method_2_code 11 = .ok (.getfield 15, 3) := by decide +kernel
theorem d_Plain_leadOf_14 : decode prog_5_method_2_code 14 = .ok (.areturn, 1) := by decide +kernel
set_option maxRecDepth 20000 in
theorem jc_Plain_leadOf (N : Nat) (l0 : Option Nat) (l1 : Int32) (h : Hp) : J p l e R s m args below meth c prog_5_method_2_code 2 "RingingChamber$Plain" 0 0 (some (.object "RingingChamber$Lead")) "leadOf" D dA B n0 s0 (QM below args s D dA B n0 s0 vR) 0 [(0, vr l0), (1, vi l1)] [] h (Plain_leadOf N l0 l1 h) := by
  unfold Plain_leadOf
  refine j_aload_n d_Plain_leadOf_0 0 rfl rfl ?_
  refine j_getR d_Plain_leadOf_1 fl_2_9 (fun x1 => ?_)
  refine j_iconst (v := 0) d_Plain_leadOf_4 (by decide) ?_
  refine j_dup2_11 d_Plain_leadOf_5 rfl rfl ?_
  refine j_iald d_Plain_leadOf_6 (fun x2 => ?_)
  refine j_iconst (v := 1) d_Plain_leadOf_7 (by decide) ?_
  refine j_iadd d_Plain_leadOf_8 ?_
  refine j_iast d_Plain_leadOf_9 (fun h3 => ?_)
  refine j_aload_n d_Plain_leadOf_10 0 rfl rfl ?_
  refine j_getR d_Plain_leadOf_11 fl_2_15 (fun x4 => ?_)
  exact j_retR (Or.inl ⟨_, rfl⟩) d_Plain_leadOf_14
set_option maxRecDepth 20000 in
theorem ct_Plain_leadOf (N : Nat) (l : Launch) (D : va_G) (dA : Nat → ClassId) (B : Nat) (l0 : Option Nat) (l1 : Int32) (h : Hp) : Ct l (⟨"RingingChamber$Plain", "leadOf", "(I)LRingingChamber$Lead;"⟩ : MethodName) prog_5_method_2_code 2 (some (.object "RingingChamber$Lead")) 0 0 D dA B [vr l0, vi l1] h vR (Plain_leadOf N l0 l1 h) :=
  Ct.of2 (own := "RingingChamber$Plain") (nme := "leadOf") (lv := [(0, vr l0), (1, vi l1)]) rfl rfl (by decide) (Nat.le_of_ble_eq_true rfl) rfl (fun p e R s m args below meth c => jc_Plain_leadOf N l0 l1 h)
theorem d_Meth_withCall_0 : decode prog_4_method_5_code 0 = .ok (.aload_n 1, 1) := by decide +kernel
theorem d_Meth_withCall_1 : decode prog_4_method_5_code 1 = .ok (.getfield 32, 3) := by decide +kernel
theorem d_Meth_withCall_4 : decode prog_4_method_5_code 4 = .ok (.ifCond .eq 8, 3) := by decide +kernel
theorem d_Meth_withCall_7 : decode prog_4_method_5_code 7 = .ok (.aload_n 1, 1) := by decide +kernel
theorem d_Meth_withCall_8 : decode prog_4_method_5_code 8 = .ok (.getfield 32, 3) := by decide +kernel
theorem d_Meth_withCall_11 : decode prog_4_method_5_code 11 = .ok (.ireturn, 1) := by decide +kernel
theorem d_Meth_withCall_12 : decode prog_4_method_5_code 12 = .ok (.aload 4, 2) := by decide +kernel
theorem d_Meth_withCall_14 : decode prog_4_method_5_code 14 = .ok (.iconst 0, 1) := by decide +kernel
theorem d_Meth_withCall_15 : decode prog_4_method_5_code 15 = .ok (.putfield 32, 3) := by decide +kernel
theorem d_Meth_withCall_18 : decode prog_4_method_5_code 18 = .ok (.aload 4, 2) := by decide +kernel
theorem d_Meth_withCall_20 : decode prog_4_method_5_code 20 = .ok (.aload_n 1, 1) := by decide +kernel
theorem d_Meth_withCall_21 : decode prog_4_method_5_code 21 = .ok (.getfield 35, 3) := by decide +kernel
theorem d_Meth_withCall_24 : decode prog_4_method_5_code 24 = .ok (.putfield 35, 3) := by decide +kernel
theorem d_Meth_withCall_27 : decode prog_4_method_5_code 27 = .ok (.aload_n 1, 1) := by decide +kernel
theorem d_Meth_withCall_28 : decode prog_4_method_5_code 28 = .ok (.getfield 38, 3) := by decide +kernel
theorem d_Meth_withCall_31 : decode prog_4_method_5_code 31 = .ok (.iconst 0, 1) := by decide +kernel
theorem d_Meth_withCall_32 : decode prog_4_method_5_code 32 = .ok (.aload 4, 2) := by decide +kernel
theorem d_Meth_withCall_34 : decode prog_4_method_5_code 34 = .ok (.getfield 38, 3) := by decide +kernel
theorem d_Meth_withCall_37 : decode prog_4_method_5_code 37 = .ok (.iconst 0, 1) := by decide +kernel
theorem d_Meth_withCall_38 : decode prog_4_method_5_code 38 = .ok (.aload_n 1, 1) := by decide +kernel
theorem d_Meth_withCall_39 : decode prog_4_method_5_code 39 = .ok (.getfield 35, 3) := by decide +kernel
theorem d_Meth_withCall_42 : decode prog_4_method_5_code 42 = .ok (.invokestatic 41, 3) := by decide +kernel
theorem d_Meth_withCall_45 : decode prog_4_method_5_code 45 = .ok (.iload_n 2, 1) := by decide +kernel
theorem d_Meth_withCall_46 : decode prog_4_method_5_code 46 = .ok (.ifCond .ne 5, 3) := by decide +kernel
theorem d_Meth_withCall_49 : decode prog_4_method_5_code 49 = .ok (.iconst 0, 1) := by decide +kernel
theorem d_Meth_withCall_50 : decode prog_4_method_5_code 50 = .ok (.ireturn, 1) := by decide +kernel
theorem d_Meth_withCall_51 : decode prog_4_method_5_code 51 = .ok (.aload_n 0, 1) := by decide +kernel
theorem d_Meth_withCall_52 : decode prog_4_method_5_code 52 = .ok (.getfield 18, 3) := by decide +kernel
theorem d_Meth_withCall_55 : decode prog_4_method_5_code 55 = .ok (.iload_n 2, 1) := by decide +kernel
theorem d_Meth_withCall_56 : decode prog_4_method_5_code 56 = .ok (.iaload, 1) := by decide +kernel
theorem d_Meth_withCall_57 : decode prog_4_method_5_code 57 = .ok (.ifCond .ge 5, 3) := by decide +kernel
theorem d_Meth_withCall_60 : decode prog_4_method_5_code 60 = .ok (.iconst 1, 1) := by decide +kernel
theorem d_Meth_withCall_61 : decode prog_4_method_5_code 61 = .ok (.ireturn, 1) := by decide +kernel
theorem d_Meth_withCall_62 : decode prog_4_method_5_code 62 = .ok (.iload_n 3, 1) := by decide +kernel
theorem d_Meth_withCall_63 : decode prog_4_method_5_code 63 = .ok (.ifCond .lt 12, 3) := by decide +kernel
theorem d_Meth_withCall_66 : decode prog_4_method_5_code 66 = .ok (.iload_n 3, 1) := by decide +kernel
theorem d_Meth_withCall_67 : decode prog_4_method_5_code 67 = .ok (.aload 4, 2) := by decide +kernel
theorem d_Meth_withCall_69 : decode prog_4_method_5_code 69 = .ok (.getfield 35, 3) := by decide +kernel
theorem d_Meth_withCall_72 : decode prog_4_method_5_code 72 = .ok (.if_icmp .lt 5, 3) := by decide +kernel
theorem d_Meth_withCall_75 : decode prog_4_method_5_code 75 = .ok (.iconst 2, 1) := by decide +kernel
theorem d_Meth_withCall_76 : decode prog_4_method_5_code 76 = .ok (.ireturn, 1) := by decide +kernel
theorem d_Meth_withCall_77 : decode prog_4_method_5_code 77 = .ok (.aload 4, 2) := by decide +kernel
theorem d_Meth_withCall_79 : decode prog_4_method_5_code 79 = .ok (.getfield 38, 3) := by decide +kernel
theorem d_Meth_withCall_82 : decode prog_4_method_5_code 82 = .ok (.iload_n 3, 1) := by decide +kernel
theorem d_Meth_withCall_83 : decode prog_4_method_5_code 83 = .ok (.aload_n 0, 1) := by decide +kernel
theorem d_Meth_withCall_84 : decode prog_4_method_5_code 84 = .ok (.getfield 22, 3) := by decide +kernel
theorem d_Meth_withCall_87 : decode prog_4_method_5_code 87 = .ok (.iload_n 2, 1) := by decide +kernel
theorem d_Meth_withCall_88 : decode prog_4_method_5_code 88 = .ok (.iaload, 1) := by decide +kernel
theorem d_Meth_withCall_89 : decode prog_4_method_5_code 89 = .ok (.iastore, 1) := by decide +kernel
theorem d_Meth_withCall_90 : decode prog_4_method_5_code 90 = .ok (.iconst 0, 1) := by decide +kernel
theorem d_Meth_withCall_91 : decode prog_4_method_5_code 91 = .ok (.ireturn, 1) := by decide +kernel
set_option maxRecDepth 20000 in
theorem jc_Meth_withCall (N : Nat) (l0 : Option Nat) (l1 : Option Nat) (l2 : Int32) (l3 : Int32) (l4 : Option Nat) (h : Hp) : J p l e R s m args below meth c prog_4_method_5_code 5 "RingingChamber$Method" 1 30 (some .int) "withCall" D dA B n0 s0 (QM below args s D dA B n0 s0 vI) 0 [(0, vr l0), (1, vr l1), (2, vi l2), (3, vi l3), (4, vr l4)] [] h (Meth_withCall N l0 l1 l2 l3 l4 h) := by
  unfold Meth_withCall
  refine j_aload_n d_Meth_withCall_0 1 rfl rfl ?_
  refine j_getI d_Meth_withCall_1 fl_Me_32.r (fun x1 => ?_)
  refine j_if_eq (tgt := 12) d_Meth_withCall_4 (by decide) ?_ ?_
  · refine j_aload d_Meth_withCall_12 4 rfl ?_
    refine j_iconst (v := 0) d_Meth_withCall_14 (by decide) ?_
    refine j_putI d_Meth_withCall_15 fl_Me_32 (Or.inl rfl) (fun h2 => ?_)
    refine j_aload d_Meth_withCall_18 4 rfl ?_
    refine j_aload_n d_Meth_withCall_20 1 rfl rfl ?_
    refine j_getI d_Meth_withCall_21 fl_Me_35.r (fun x3 => ?_)
    refine j_putI d_Meth_withCall_24 fl_Me_35 (Or.inl rfl) (fun h4 => ?_)
    refine j_aload_n d_Meth_withCall_27 1 rfl rfl ?_
    refine j_getR d_Meth_withCall_28 fl_Me_38 (fun x5 => ?_)
    refine j_iconst (v := 0) d_Meth_withCall_31 (by decide) ?_
    refine j_aload d_Meth_withCall_32 4 rfl ?_
    refine j_getR d_Meth_withCall_34 fl_Me_38 (fun x6 => ?_)
    refine j_iconst (v := 0) d_Meth_withCall_37 (by decide) ?_
    refine j_aload_n d_Meth_withCall_38 1 rfl rfl ?_
    refine j_getI d_Meth_withCall_39 fl_Me_35.r (fun x7 => ?_)
    refine j_ac d_Meth_withCall_42 kx_Me_41 kx_n kx_s kx_y (by decide) (by decide) (Nat.le_of_ble_eq_true rfl) (fun h8 => ?_)
    refine j_iload_n d_Meth_withCall_45 2 rfl rfl ?_
    refine j_if_ne (tgt := 51) d_Meth_withCall_46 (by decide) ?_ ?_
    · refine j_iconst (v := 0) d_Meth_withCall_49 (by decide) ?_
      exact j_retI d_Meth_withCall_50
    · refine j_aload_n d_Meth_withCall_51 0 rfl rfl ?_
      refine j_getR d_Meth_withCall_52 fl_Me_18.r (fun x9 => ?_)
      refine j_iload_n d_Meth_withCall_55 2 rfl rfl ?_
      refine j_iald d_Meth_withCall_56 (fun x10 => ?_)
      refine j_if_ge (tgt := 62) d_Meth_withCall_57 (by decide) ?_ ?_
      · refine j_iload_n d_Meth_withCall_62 3 rfl rfl ?_
        refine j_if_lt (tgt := 75) d_Meth_withCall_63 (by decide) ?_ ?_
        · refine j_iconst (v := 2) d_Meth_withCall_75 (by decide) ?_
          exact j_retI d_Meth_withCall_76
        · refine j_iload_n d_Meth_withCall_66 3 rfl rfl ?_
          refine j_aload d_Meth_withCall_67 4 rfl ?_
          refine j_getI d_Meth_withCall_69 fl_Me_35.r (fun x11 => ?_)
          refine j_icmp_lt (tgt := 77) d_Meth_withCall_72 (by decide) ?_ ?_
          · refine j_aload d_Meth_withCall_77 4 rfl ?_
            refine j_getR d_Meth_withCall_79 fl_Me_38 (fun x12 => ?_)
            refine j_iload_n d_Meth_withCall_82 3 rfl rfl ?_
            refine j_aload_n d_Meth_withCall_83 0 rfl rfl ?_
            refine j_getR d_Meth_withCall_84 fl_Me_22.r (fun x13 => ?_)
            refine j_iload_n d_Meth_withCall_87 2 rfl rfl ?_
            refine j_iald d_Meth_withCall_88 (fun x14 => ?_)
            refine j_iast d_Meth_withCall_89 (fun h15 => ?_)
            refine j_iconst (v := 0) d_Meth_withCall_90 (by decide) ?_
            exact j_retI d_Meth_withCall_91
          · refine j_iconst (v := 2) d_Meth_withCall_75 (by decide) ?_
            exact j_retI d_Meth_withCall_76
      · refine j_iconst (v := 1) d_Meth_withCall_60 (by decide) ?_
        exact j_retI d_Meth_withCall_61
  · refine j_aload_n d_Meth_withCall_7 1 rfl rfl ?_
    refine j_getI d_Meth_withCall_8 fl_Me_32.r (fun x16 => ?_)
    exact j_retI d_Meth_withCall_11
set_option maxRecDepth 20000 in
theorem ct_Meth_withCall (N : Nat) (l : Launch) (D : va_G) (dA : Nat → ClassId) (B : Nat) (l0 : Option Nat) (l1 : Option Nat) (l2 : Int32) (l3 : Int32) (l4 : Option Nat) (h : Hp) : Ct l (⟨"RingingChamber$Method", "withCall", "(LRingingChamber$Lead;IILRingingChamber$Lead;)I"⟩ : MethodName) prog_4_method_5_code 5 (some .int) 1 30 D dA B [vr l0, vr l1, vi l2, vi l3, vr l4] h vI (Meth_withCall N l0 l1 l2 l3 l4 h) :=
  Ct.of2 (own := "RingingChamber$Method") (nme := "withCall") (lv := [(0, vr l0), (1, vr l1), (2, vi l2), (3, vi l3), (4, vr l4)]) rfl rfl (by decide) (Nat.le_of_ble_eq_true rfl) rfl (fun p e R s m args below meth c => jc_Meth_withCall N l0 l1 l2 l3 l4 h)
theorem d_Plain_plainCalled_0 : decode prog_5_method_4_code 0 = .ok (.aload_n 0, 1) := by decide +kernel
theorem d_Plain_plainCalled_1 : decode prog_5_method_4_code 1 = .ok (.getfield 9, 3) := by decide +kernel
theorem d_Plain_plainCalled_4 : decode prog_5_method_4_code 4 = .ok (.iconst 1, 1) := by decide +kernel
theorem d_Plain_plainCalled_5 : decode prog_5_method_4_code 5 = .ok (.dup2, 1) := by decide +kernel
theorem d_Plain_plainCalled_6 : decode prog_5_method_4_code 6 = .ok (.iaload, 1) := by decide +kernel
theorem d_Plain_plainCalled_7 : decode prog_5_method_4_code 7 = .ok (.iconst 1, 1) := by decide +kernel
theorem d_Plain_plainCalled_8 : decode prog_5_method_4_code 8 = .ok (.iadd, 1) := by decide +kernel
theorem d_Plain_plainCalled_9 : decode prog_5_method_4_code 9 = .ok (.iastore, 1) := by decide +kernel
theorem d_Plain_plainCalled_10 : decode prog_5_method_4_code 10 = .ok (.aload_n 0, 1) := by decide +kernel
theorem d_Plain_plainCalled_11 : decode prog_5_method_4_code 11 = .ok (.aload_n 0, 1) := by decide +kernel
theorem d_Plain_plainCalled_12 : decode prog_5_method_4_code 12 = .ok (.iload_n 1, 1) := by decide +kernel
theorem d_Plain_plainCalled_13 : decode prog_5_method_4_code 13 = .ok (.invokevirtual 26, 3) := by decide +kernel
theorem d_Plain_plainCalled_16 : decode prog_5_method_4_code 16 = .ok (.iload_n 2, 1) := by decide +kernel
theorem d_Plain_plainCalled_17 : decode prog_5_method_4_code 17 = .ok (.iload_n 3, 1) := by decide +kernel
theorem d_Plain_plainCalled_18 : decode prog_5_method_4_code 18 = .ok (.aload 4, 2) := by decide +kernel
theorem d_Plain_plainCalled_20 : decode prog_5_method_4_code 20 = .ok (.invokevirtual 30, 3) := by decide +kernel
theorem d_Plain_plainCalled_23 : decode prog_5_method_4_code 23 = .ok (.ireturn, 1) := by decide +kernel
set_option maxRecDepth 20000 in
theorem jc_Plain_plainCalled (N : Nat) (l0 : Option Nat) (l1 : Int32) (l2 : Int32) (l3 : Int32) (l4 : Option Nat) (h : Hp) : J p l e R s m args below meth c prog_5_method_4_code 5 "RingingChamber$Plain" 2 54 (some .int) "plainCalled" D dA B n0 s0 (QM below args s D dA B n0 s0 vI) 0 [(0, vr l0), (1, vi l1), (2, vi l2), (3, vi l3), (4, vr l4)] [] h (Plain_plainCalled N l0 l1 l2 l3 l4 h) := by
  unfold Plain_plainCalled
  refine j_aload_n d_Plain_plainCalled_0 0 rfl rfl ?_
  refine j_getR d_Plain_plainCalled_1 fl_2_9 (fun x1 => ?_)
  refine j_iconst (v := 1) d_Plain_plainCalled_4 (by decide) ?_
  refine j_dup2_11 d_Plain_plainCalled_5 rfl rfl ?_
  refine j_iald d_Plain_plainCalled_6 (fun x2 => ?_)
  refine j_iconst (v := 1) d_Plain_plainCalled_7 (by decide) ?_
  refine j_iadd d_Plain_plainCalled_8 ?_
  refine j_iast d_Plain_plainCalled_9 (fun h3 => ?_)
  refine j_aload_n d_Plain_plainCalled_10 0 rfl rfl ?_
  refine j_aload_n d_Plain_plainCalled_11 0 rfl rfl ?_
  refine j_iload_n d_Plain_plainCalled_12 1 rfl rfl ?_
  refine j_vR1 d_Plain_plainCalled_13 (allQ.cons (VD.mk vt_2_26_1 (ct_Plain_leadOf N l D dA B l0 l1 h3) (by decide) (by decide)) (allQ.cons (VD.mk vt_2_26_2 (ct_Plain_leadOf N l D dA B l0 l1 h3) (by decide) (by decide)) (allQ.cons (VD.mk vt_2_26_7 (ct_Plain_leadOf N l D dA B l0 l1 h3) (by decide) (by decide)) (allQ.cons (VD.mk vt_2_26_10 (ct_Plain_leadOf N l D dA B l0 l1 h3) (by decide) (by decide)) allQ.nil)))) (Nat.le_of_ble_eq_true rfl) (fun x5 h4 => ?_)
  refine j_iload_n d_Plain_plainCalled_16 2 rfl rfl ?_
  refine j_iload_n d_Plain_plainCalled_17 3 rfl rfl ?_
  refine j_aload d_Plain_plainCalled_18 4 rfl ?_
  refine j_vI4 d_Plain_plainCalled_20 (allQ.cons (VD.mk vt_2_30_1 (ct_Meth_withCall N l D dA B l0 x5 l2 l3 l4 h4) (by decide) (by decide)) (allQ.cons (VD.mk vt_2_30_2 (ct_Meth_withCall N l D dA B l0 x5 l2 l3 l4 h4) (by decide) (by decide)) (allQ.cons (VD.mk vt_2_30_7 (ct_Meth_withCall N l D dA B l0 x5 l2 l3 l4 h4) (by decide) (by decide)) (allQ.cons (VD.mk vt_2_30_10 (ct_Meth_withCall N l D dA B l0 x5 l2 l3 l4 h4) (by decide) (by decide)) allQ.nil)))) (Nat.le_of_ble_eq_true rfl) (fun x7 h6 => ?_)
  exact j_retI d_Plain_plainCalled_23
set_option maxRecDepth 20000 in
theorem ct_Plain_plainCalled (N : Nat) (l : Launch) (D : va_G) (dA : Nat → ClassId) (B : Nat) (l0 : Option Nat) (l1 : Int32) (l2 : Int32) (l3 : Int32) (l4 : Option Nat) (h : Hp) : Ct l (⟨"RingingChamber$Plain", "plainCalled", "(IIILRingingChamber$Lead;)I"⟩ : MethodName) prog_5_method_4_code 5 (some .int) 2 54 D dA B [vr l0, vi l1, vi l2, vi l3, vr l4] h vI (Plain_plainCalled N l0 l1 l2 l3 l4 h) :=
  Ct.of2 (own := "RingingChamber$Plain") (nme := "plainCalled") (lv := [(0, vr l0), (1, vi l1), (2, vi l2), (3, vi l3), (4, vr l4)]) rfl rfl (by decide) (Nat.le_of_ble_eq_true rfl) rfl (fun p e R s m args below meth c => jc_Plain_plainCalled N l0 l1 l2 l3 l4 h)
theorem d_Little_calledOf_0 : decode prog_3_method_2_code 0 = .ok (.aload_n 0, 1) := by decide +kernel
theorem d_Little_calledOf_1 : decode prog_3_method_2_code 1 = .ok (.getfield 9, 3) := by decide +kernel
theorem d_Little_calledOf_4 : decode prog_3_method_2_code 4 = .ok (.iconst 4, 1) := by decide +kernel
theorem d_Little_calledOf_5 : decode prog_3_method_2_code 5 = .ok (.dup2, 1) := by decide +kernel
theorem d_Little_calledOf_6 : decode prog_3_method_2_code 6 = .ok (.iaload, 1) := by decide +kernel
theorem d_Little_calledOf_7 : decode prog_3_method_2_code 7 = .ok (.iconst 1, 1) := by decide +kernel
theorem d_Little_calledOf_8 : decode prog_3_method_2_code 8 = .ok (.iadd, 1) := by decide +kernel
theorem d_Little_calledOf_9 : decode prog_3_method_2_code 9 = .ok (.iastore, 1) := by decide +kernel
theorem d_Little_calledOf_10 : decode prog_3_method_2_code 10 = .ok (.iload_n 2, 1) := by decide +kernel
theorem d_Little_calledOf_11 : decode prog_3_method_2_code 11 = .ok (.iconst 2, 1) := by decide +kernel
theorem d_Little_calledOf_12 : decode prog_3_method_2_code 12 = .ok (.if_icmp .ne 16, 3) := by decide +kernel
theorem d_Little_calledOf_15 : decode prog_3_method_2_code 15 = .ok (.aload_n 0, 1) := by decide +kernel
theorem d_Little_calledOf_16 : decode prog_3_method_2_code 16 = .ok (.getfield 15, 3) := by decide +kernel
theorem d_Little_calledOf_19 : decode prog_3_method_2_code 19 = .ok (.iconst 2, 1) := by decide +kernel
theorem d_Little_calledOf_20 : decode prog_3_method_2_code 20 = .ok (.iaload, 1) := by decide +kernel
theorem d_Little_calledOf_21 : decode prog_3_method_2_code 21 = .ok (.ifCond .ge 7, 3) := by decide +kernel
theorem d_Little_calledOf_24 : decode prog_3_method_2_code 24 = .ok (.iconst 1, 1) := by decide +kernel
theorem d_Little_calledOf_25 : decode prog_3_method_2_code 25 = .ok (.goto 4, 3) := by decide +kernel
theorem d_Little_calledOf_28 : decode prog_3_method_2_code 28 = .ok (.iload_n 2, 1) := by decide +kernel
theorem d_Little_calledOf_29 : decode prog_3_method_2_code 29 = .ok (.istore 4, 2) := by decide +kernel
theorem d_Little_calledOf_31 : decode prog_3_method_2_code 31 = .ok (.aload_n 0, 1) := by decide +kernel
theorem d_Little_calledOf_32 : decode prog_3_method_2_code 32 = .ok (.iload_n 1, 1) := by decide +kernel
theorem d_Little_calledOf_33 : decode prog_3_method_2_code 33 = .ok (.iload 4, 2) := by decide +kernel
theorem d_Little_calledOf_35 : decode prog_3_method_2_code 35 = .ok (.aload_n 0, 1) := by decide +kernel
theorem d_Little_calledOf_36 : decode prog_3_method_2_code 36 = .ok (.getfield 15, 3) := by decide +kernel
theorem d_Little_calledOf_39 : decode prog_3_method_2_code 39 = .ok (.iload 4, 2) := by decide +kernel
theorem d_Little_calledOf_41 : decode prog_3_method_2_code 41 = .ok (.iaload, 1) := by decide +kernel
theorem d_Little_calledOf_42 : decode prog_3_method_2_code 42 = .ok (.aload_n 3, 1) := by decide +kernel
theorem d_Little_calledOf_43 : decode prog_3_method_2_code 43 = .ok (.invokevirtual 18, 3) := by decide +kernel
theorem d_Little_calledOf_46 : decode prog_3_method_2_code 46 = .ok (.ireturn, 1) := by decide +kernel
set_option maxRecDepth 20000 in
theorem jc_Little_calledOf_29 (N : Nat) (l0 : Option Nat) (l1 : Int32) (l3 : Option Nat) (u0 : Int32) (h : Hp) : J p l e R s m args below meth c prog_3_method_2_code 5 "RingingChamber$Little" 3 78 (some .int) "calledOf" D dA B n0 s0 (QM below args s D dA B n0 s0 vI) 29 [(0, vr l0), (1, vi l1), (3, vr l3)] [vi u0] h (Little_calledOf_29 N l0 l1 l3 u0 h) := by
  unfold Little_calledOf_29
  refine j_istore (lv' := [(4, vi u0), (0, vr l0), (1, vi l1), (3, vr l3)]) d_Little_calledOf_29 (by decide) rfl ?_
  refine j_aload_n d_Little_calledOf_31 1 rfl rfl ?_
  refine j_iload_n d_Little_calledOf_32 2 rfl rfl ?_
  refine j_iload d_Little_calledOf_33 0 rfl ?_
  refine j_aload_n d_Little_calledOf_35 1 rfl rfl ?_
  refine j_getR d_Little_calledOf_36 fl_1_15 (fun x1 => ?_)
  refine j_iload d_Little_calledOf_39 0 rfl ?_
  refine j_iald d_Little_calledOf_41 (fun x2 => ?_)
  refine j_aload_n d_Little_calledOf_42 3 rfl rfl ?_
  refine j_vI4 d_Little_calledOf_43 (allQ.cons (VD.mk vt_1_18_1 (ct_Plain_plainCalled N l D dA B l0 l1 u0 x2 l3 h) (by decide) (by decide)) allQ.nil) (Nat.le_of_ble_eq_true rfl) (fun x4 h3 => ?_)
  exact j_retI d_Little_calledOf_46
set_option maxRecDepth 20000 in
theorem jc_Little_calledOf_28 (N : Nat) (l0 : Option Nat) (l1 : Int32) (l2 : Int32) (l3 : Option Nat) (h : Hp) : J p l e R s m args below meth c prog_3_method_2_code 5 "RingingChamber$Little" 3 78 (some .int) "calledOf" D dA B n0 s0 (QM below args s D dA B n0 s0 vI) 28 [(0, vr l0), (1, vi l1), (2, vi l2), (3, vr l3)] [] h (Little_calledOf_28 N l0 l1 l2 l3 h) := by
  unfold Little_calledOf_28
  refine j_iload_n d_Little_calledOf_28 2 rfl rfl ?_
  exact J.sub [0, 1, 3] rfl (jc_Little_calledOf_29 N l0 l1 l3 l2 h)
set_option maxRecDepth 20000 in
theorem jc_Little_calledOf (N : Nat) (l0 : Option Nat) (l1 : Int32) (l2 : Int32) (l3 : Option Nat) (h : Hp) : J p l e R s m args below meth c prog_3_method_2_code 5 "RingingChamber$Little" 3 78 (some .int) "calledOf" D dA B n0 s0 (QM below args s D dA B n0 s0 vI) 0 [(0, vr l0), (1, vi l1), (2, vi l2), (3, vr l3)] [] h (Little_calledOf N l0 l1 l2 l3 h) := by
  unfold Little_calledOf
  refine j_aload_n d_Little_calledOf_0 0 rfl rfl ?_
  refine j_getR d_Little_calledOf_1 fl_1_9 (fun x1 => ?_)
  refine j_iconst (v := 4) d_Little_calledOf_4 (by decide) ?_
  refine j_dup2_11 d_Little_calledOf_5 rfl rfl ?_
  refine j_iald d_Little_calledOf_6 (fun x2 => ?_)
  refine j_iconst (v := 1) d_Little_calledOf_7 (by decide) ?_
  refine j_iadd d_Little_calledOf_8 ?_
  refine j_iast d_Little_calledOf_9 (fun h3 => ?_)
  refine j_iload_n d_Little_calledOf_10 2 rfl rfl ?_
  refine j_iconst (v := 2) d_Little_calledOf_11 (by decide) ?_
  refine j_icmp_ne (tgt := 28) d_Little_calledOf_12 (by decide) ?_ ?_
  · refine j_aload_n d_Little_calledOf_15 0 rfl rfl ?_
    refine j_getR d_Little_calledOf_16 fl_1_15 (fun x4 => ?_)
    refine j_iconst (v := 2) d_Little_calledOf_19 (by decide) ?_
    refine j_iald d_Little_calledOf_20 (fun x5 => ?_)
    refine j_if_ge (tgt := 28) d_Little_calledOf_21 (by decide) ?_ ?_
    · exact jc_Little_calledOf_28 N l0 l1 l2 l3 h3
    · refine j_iconst (v := 1) d_Little_calledOf_24 (by decide) ?_
      refine j_goto (tgt := 29) d_Little_calledOf_25 (by decide) ?_
      exact J.sub [0, 1, 3] rfl (jc_Little_calledOf_29 N l0 l1 l3 1 h3)
  · exact jc_Little_calledOf_28 N l0 l1 l2 l3 h3
set_option maxRecDepth 20000 in
theorem ct_Little_calledOf (N : Nat) (l : Launch) (D : va_G) (dA : Nat → ClassId) (B : Nat) (l0 : Option Nat) (l1 : Int32) (l2 : Int32) (l3 : Option Nat) (h : Hp) : Ct l (⟨"RingingChamber$Little", "calledOf", "(IILRingingChamber$Lead;)I"⟩ : MethodName) prog_3_method_2_code 5 (some .int) 3 78 D dA B [vr l0, vi l1, vi l2, vr l3] h vI (Little_calledOf N l0 l1 l2 l3 h) :=
  Ct.of2 (own := "RingingChamber$Little") (nme := "calledOf") (lv := [(0, vr l0), (1, vi l1), (2, vi l2), (3, vr l3)]) rfl rfl (by decide) (Nat.le_of_ble_eq_true rfl) rfl (fun p e R s m args below meth c => jc_Little_calledOf N l0 l1 l2 l3 h)
theorem d_Meth_placeBehind_0 : decode prog_4_method_7_code 0 = .ok (.iload_n 1, 1) := by decide +kernel
theorem d_Meth_placeBehind_1 : decode prog_4_method_7_code 1 = .ok (.iload_n 0, 1) := by decide +kernel
theorem d_Meth_placeBehind_2 : decode prog_4_method_7_code 2 = .ok (.iconst 1, 1) := by decide +kernel
theorem d_Meth_placeBehind_3 : decode prog_4_method_7_code 3 = .ok (.isub, 1) := by decide +kernel
theorem d_Meth_placeBehind_4 : decode prog_4_method_7_code 4 = .ok (.ishr, 1) := by decide +kernel
theorem d_Meth_placeBehind_5 : decode prog_4_method_7_code 5 = .ok (.iconst 1, 1) := by decide +kernel
theorem d_Meth_placeBehind_6 : decode prog_4_method_7_code 6 = .ok (.iand, 1) := by decide +kernel
theorem d_Meth_placeBehind_7 : decode prog_4_method_7_code 7 = .ok (.ifCond .eq 7, 3) := by decide +kernel
theorem d_Meth_placeBehind_10 : decode prog_4_method_7_code 10 = .ok (.iload_n 0, 1) := by decide +kernel
theorem d_Meth_placeBehind_11 : decode prog_4_method_7_code 11 = .ok (.iconst 1, 1) := by decide +kernel
theorem d_Meth_placeBehind_12 : decode prog_4_method_7_code 12 = .ok (.iadd, 1) := by decide +kernel
theorem d_Meth_placeBehind_13 : decode prog_4_method_7_code 13 = .ok (.ireturn, 1) := by decide +kernel
theorem d_Meth_placeBehind_14 : decode prog_4_method_7_code 14 = .ok (.iload_n 0, 1) := by decide +kernel
theorem d_Meth_placeBehind_15 : decode prog_4_method_7_code 15 = .ok (.iconst 1, 1) := by decide +kernel
theorem d_Meth_placeBehind_16 : decode prog_4_method_7_code 16 = .ok (.if_icmp .le 19, 3) := by decide +kernel
theorem d_Meth_placeBehind_19 : decode prog_4_method_7_code 19 = .ok (.iload_n 1, 1) := by decide +kernel
theorem d_Meth_placeBehind_20 : decode prog_4_method_7_code 20 = .ok (.iload_n 0, 1) := by decide +kernel
theorem d_Meth_placeBehind_21 : decode prog_4_method_7_code 21 = .ok (.iconst 2, 1) := by decide +kernel
theorem d_Meth_placeBehind_22 : decode prog_4_method_7_code 22 = .ok (.isub, 1) := by decide +kernel
theorem d_Meth_placeBehind_23 : decode prog_4_method_7_code 23 = .ok (.ishr, 1) := by decide +kernel
theorem d_Meth_placeBehind_24 : decode prog_4_method_7_code 24 = .ok (.iconst 1, 1) := by decide +kernel
theorem d_Meth_placeBehind_25 : decode prog_4_method_7_code 25 = .ok (.iand, 1) := by decide +kernel
theorem d_Meth_placeBehind_26 : decode prog_4_method_7_code 26 = .ok (.ifCond .eq 9, 3) := by decide +kernel
theorem d_Meth_placeBehind_29 : decode prog_4_method_7_code 29 = .ok (.iload_n 0, 1) := by decide +kernel
theorem d_Meth_placeBehind_30 : decode prog_4_method_7_code 30 = .ok (.iconst 1, 1) := by decide +kernel
theorem d_Meth_placeBehind_31 : decode prog_4_method_7_code 31 = .ok (.isub, 1) := by decide +kernel
theorem d_Meth_placeBehind_32 : decode prog_4_method_7_code 32 = .ok (.goto 4, 3) := by decide +kernel
theorem d_Meth_placeBehind_35 : decode prog_4_method_7_code 35 = .ok (.iload_n 0, 1) := by decide +kernel
theorem d_Meth_placeBehind_36 : decode prog_4_method_7_code 36 = .ok (.ireturn, 1) := by decide +kernel
set_option maxRecDepth 20000 in
theorem jc_Meth_placeBehind (N : Nat) (l0 : Int32) (l1 : Int32) (h : Hp) : J p l e R s m args below meth c prog_4_method_7_code 2 "RingingChamber$Method" 0 0 (some .int) "placeBehind" D dA B n0 s0 (QM below args s D dA B n0 s0 vI) 0 [(0, vi l0), (1, vi l1)] [] h (Meth_placeBehind N l0 l1 h) := by
  unfold Meth_placeBehind
  refine j_iload_n d_Meth_placeBehind_0 1 rfl rfl ?_
  refine j_iload_n d_Meth_placeBehind_1 0 rfl rfl ?_
  refine j_iconst (v := 1) d_Meth_placeBehind_2 (by decide) ?_
  refine j_isub d_Meth_placeBehind_3 ?_
  refine j_ishr d_Meth_placeBehind_4 ?_
  refine j_iconst (v := 1) d_Meth_placeBehind_5 (by decide) ?_
  refine j_iand d_Meth_placeBehind_6 ?_
  refine j_if_eq (tgt := 14) d_Meth_placeBehind_7 (by decide) ?_ ?_
  · refine j_iload_n d_Meth_placeBehind_14 0 rfl rfl ?_
    refine j_iconst (v := 1) d_Meth_placeBehind_15 (by decide) ?_
    refine j_icmp_le (tgt := 35) d_Meth_placeBehind_16 (by decide) ?_ ?_
    · refine j_iload_n d_Meth_placeBehind_35 0 rfl rfl ?_
      exact j_retI d_Meth_placeBehind_36
    · refine j_iload_n d_Meth_placeBehind_19 1 rfl rfl ?_
      refine j_iload_n d_Meth_placeBehind_20 0 rfl rfl ?_
      refine j_iconst (v := 2) d_Meth_placeBehind_21 (by decide) ?_
      refine j_isub d_Meth_placeBehind_22 ?_
      refine j_ishr d_Meth_placeBehind_23 ?_
      refine j_iconst (v := 1) d_Meth_placeBehind_24 (by decide) ?_
      refine j_iand d_Meth_placeBehind_25 ?_
      refine j_if_eq (tgt := 35) d_Meth_placeBehind_26 (by decide) ?_ ?_
      · refine j_iload_n d_Meth_placeBehind_35 0 rfl rfl ?_
        exact j_retI d_Meth_placeBehind_36
      · refine j_iload_n d_Meth_placeBehind_29 0 rfl rfl ?_
        refine j_iconst (v := 1) d_Meth_placeBehind_30 (by decide) ?_
        refine j_isub d_Meth_placeBehind_31 ?_
        refine j_goto (tgt := 36) d_Meth_placeBehind_32 (by decide) ?_
        exact j_retI d_Meth_placeBehind_36
  · refine j_iload_n d_Meth_placeBehind_10 0 rfl rfl ?_
    refine j_iconst (v := 1) d_Meth_placeBehind_11 (by decide) ?_
    refine j_iadd d_Meth_placeBehind_12 ?_
    exact j_retI d_Meth_placeBehind_13
set_option maxRecDepth 20000 in
theorem ct_Meth_placeBehind (N : Nat) (l : Launch) (D : va_G) (dA : Nat → ClassId) (B : Nat) (l0 : Int32) (l1 : Int32) (h : Hp) : Ct l (⟨"RingingChamber$Method", "placeBehind", "(II)I"⟩ : MethodName) prog_4_method_7_code 2 (some .int) 0 0 D dA B [vi l0, vi l1] h vI (Meth_placeBehind N l0 l1 h) :=
  Ct.of2 (own := "RingingChamber$Method") (nme := "placeBehind") (lv := [(0, vi l0), (1, vi l1)]) rfl rfl (by decide) (Nat.le_of_ble_eq_true rfl) rfl (fun p e R s m args below meth c => jc_Meth_placeBehind N l0 l1 h)
theorem d_Meth_trebleBehind_0 : decode prog_4_method_6_code 0 = .ok (.iconst 1, 1) := by decide +kernel
theorem d_Meth_trebleBehind_1 : decode prog_4_method_6_code 1 = .ok (.istore_n 2, 1) := by decide +kernel
theorem d_Meth_trebleBehind_2 : decode prog_4_method_6_code 2 = .ok (.iconst 0, 1) := by decide +kernel
theorem d_Meth_trebleBehind_3 : decode prog_4_method_6_code 3 = .ok (.istore_n 3, 1) := by decide +kernel
theorem d_Meth_trebleBehind_4 : decode prog_4_method_6_code 4 = .ok (.iload_n 3, 1) := by decide +kernel
theorem d_Meth_trebleBehind_5 : decode prog_4_method_6_code 5 = .ok (.aload_n 1, 1) := by decide +kernel
theorem d_Meth_trebleBehind_6 : decode prog_4_method_6_code 6 = .ok (.getfield 35, 3) := by decide +kernel
theorem d_Meth_trebleBehind_9 : decode prog_4_method_6_code 9 = .ok (.if_icmp .ge 20, 3) := by decide +kernel
theorem d_Meth_trebleBehind_12 : decode prog_4_method_6_code 12 = .ok (.iload_n 2, 1) := by decide +kernel
theorem d_Meth_trebleBehind_13 : decode prog_4_method_6_code 13 = .ok (.aload_n 1, 1) := by decide +kernel
theorem d_Meth_trebleBehind_14 : decode prog_4_method_6_code 14 = .ok (.getfield 38, 3) := by decide +kernel
theorem d_Meth_trebleBehind_17 : decode prog_4_method_6_code 17 = .ok (.iload_n 3, 1) := by decide +kernel
theorem d_Meth_trebleBehind_18 : decode prog_4_method_6_code 18 = .ok (.iaload, 1) := by decide +kernel
theorem d_Meth_trebleBehind_19 : decode prog_4_method_6_code 19 = .ok (.invokestatic 47, 3) := by decide +kernel
theorem d_Meth_trebleBehind_22 : decode prog_4_method_6_code 22 = .ok (.istore_n 2, 1) := by decide +kernel
theorem d_Meth_trebleBehind_23 : decode prog_4_method_6_code 23 = .ok (.iinc 3 1, 3) := by decide +kernel
theorem d_Meth_trebleBehind_26 : decode prog_4_method_6_code 26 = .ok (.goto (-22), 3) := by decide +kernel
theorem d_Meth_trebleBehind_29 : decode prog_4_method_6_code 29 = .ok (.iload_n 2, 1) := by decide +kernel
theorem d_Meth_trebleBehind_30 : decode prog_4_method_6_code 30 = .ok (.ireturn, 1) := by decide +kernel
set_option maxRecDepth 20000 in
theorem jc_Meth_trebleBehind_4 (N : Nat) : ∀ (n : Nat) (l1 : Option Nat) (l2 : Int32) (l3 : Int32) (h : Hp), J p l e R s m args below meth c prog_4_method_6_code 4 "RingingChamber$Method" 1 21 (some .int) "trebleBehind" D dA B n0 s0 (QM below args s D dA B n0 s0 vI) 4 [(1, vr l1), (2, vi l2), (3, vi l3)] [] h (Meth_trebleBehind_4 N n l1 l2 l3 h) := by
  intro n
  induction n with
  | zero => intros; exact J.none
  | succ n ih =>
    intro l1 l2 l3 h
    rw [Meth_trebleBehind_4]
    refine j_iload_n d_Meth_trebleBehind_4 2 rfl rfl ?_
    refine j_aload_n d_Meth_trebleBehind_5 0 rfl rfl ?_
    refine j_getI d_Meth_trebleBehind_6 fl_Me_35.r (fun x1 => ?_)
    refine j_icmp_ge (tgt := 29) d_Meth_trebleBehind_9 (by decide) ?_ ?_
    · refine j_iload_n d_Meth_trebleBehind_29 1 rfl rfl ?_
      exact j_retI d_Meth_trebleBehind_30
    · refine j_iload_n d_Meth_trebleBehind_12 1 rfl rfl ?_
      refine j_aload_n d_Meth_trebleBehind_13 0 rfl rfl ?_
      refine j_getR d_Meth_trebleBehind_14 fl_Me_38 (fun x2 => ?_)
      refine j_iload_n d_Meth_trebleBehind_17 2 rfl rfl ?_
      refine j_iald d_Meth_trebleBehind_18 (fun x3 => ?_)
      refine j_cSI2 d_Meth_trebleBehind_19 sl_Me_47 ks_Meth_placeBehind (ct_Meth_placeBehind N l D dA B l2 x3 h) (by decide) (by decide) (Nat.le_of_ble_eq_true rfl) (fun x5 h4 => ?_)
      refine j_istore_n (lv' := [(2, vi x5), (1, vr l1), (3, vi l3)]) d_Meth_trebleBehind_22 rfl (by decide) rfl ?_
      refine j_iinc (lvv := fun x6 => [(3, vi x6), (2, vi x5), (1, vr l1)]) d_Meth_trebleBehind_23 2 rfl rfl (by decide) (fun _ => rfl) (fun x6 => ?_)
      refine j_goto (tgt := 4) d_Meth_trebleBehind_26 (by decide) ?_
      exact J.sub [2, 1, 0] rfl (ih l1 x5 x6 h4)
set_option maxRecDepth 20000 in
theorem jc_Meth_trebleBehind (N : Nat) (l0 : Option Nat) (l1 : Option Nat) (h : Hp) : J p l e R s m args below meth c prog_4_method_6_code 4 "RingingChamber$Method" 1 21 (some .int) "trebleBehind" D dA B n0 s0 (QM below args s D dA B n0 s0 vI) 0 [(0, vr l0), (1, vr l1)] [] h (Meth_trebleBehind N l0 l1 h) := by
  unfold Meth_trebleBehind
  refine j_iconst (v := 1) d_Meth_trebleBehind_0 (by decide) ?_
  refine j_istore_n (lv' := [(2, vi 1), (0, vr l0), (1, vr l1)]) d_Meth_trebleBehind_1 rfl (by decide) rfl ?_
  refine j_iconst (v := 0) d_Meth_trebleBehind_2 (by decide) ?_
  refine j_istore_n (lv' := [(3, vi 0), (2, vi 1), (0, vr l0), (1, vr l1)]) d_Meth_trebleBehind_3 rfl (by decide) rfl ?_
  exact J.sub [3, 1, 0] rfl (jc_Meth_trebleBehind_4 N N l1 1 0 h)
set_option maxRecDepth 20000 in
theorem ct_Meth_trebleBehind (N : Nat) (l : Launch) (D : va_G) (dA : Nat → ClassId) (B : Nat) (l0 : Option Nat) (l1 : Option Nat) (h : Hp) : Ct l (⟨"RingingChamber$Method", "trebleBehind", "(LRingingChamber$Lead;)I"⟩ : MethodName) prog_4_method_6_code 4 (some .int) 1 21 D dA B [vr l0, vr l1] h vI (Meth_trebleBehind N l0 l1 h) :=
  Ct.of2 (own := "RingingChamber$Method") (nme := "trebleBehind") (lv := [(0, vr l0), (1, vr l1)]) rfl rfl (by decide) (Nat.le_of_ble_eq_true rfl) rfl (fun p e R s m args below meth c => jc_Meth_trebleBehind N l0 l1 h)
theorem d_Plain_judged_0 : decode prog_5_method_5_code 0 = .ok (.aload_n 0, 1) := by decide +kernel
theorem d_Plain_judged_1 : decode prog_5_method_5_code 1 = .ok (.getfield 9, 3) := by decide +kernel
theorem d_Plain_judged_4 : decode prog_5_method_5_code 4 = .ok (.iconst 2, 1) := by decide +kernel
theorem d_Plain_judged_5 : decode prog_5_method_5_code 5 = .ok (.dup2, 1) := by decide +kernel
theorem d_Plain_judged_6 : decode prog_5_method_5_code 6 = .ok (.iaload, 1) := by decide +kernel
theorem d_Plain_judged_7 : decode prog_5_method_5_code 7 = .ok (.iconst 1, 1) := by decide +kernel
theorem d_Plain_judged_8 : decode prog_5_method_5_code 8 = .ok (.iadd, 1) := by decide +kernel
theorem d_Plain_judged_9 : decode prog_5_method_5_code 9 = .ok (.iastore, 1) := by decide +kernel
theorem d_Plain_judged_10 : decode prog_5_method_5_code 10 = .ok (.aload_n 0, 1) := by decide +kernel
theorem d_Plain_judged_11 : decode prog_5_method_5_code 11 = .ok (.iconst 0, 1) := by decide +kernel
theorem d_Plain_judged_12 : decode prog_5_method_5_code 12 = .ok (.invokevirtual 26, 3) := by decide +kernel
theorem d_Plain_judged_15 : decode prog_5_method_5_code 15 = .ok (.astore_n 1, 1) := by decide +kernel
theorem d_Plain_judged_16 : decode prog_5_method_5_code 16 = .ok (.aload_n 1, 1) := by decide +kernel
theorem d_Plain_judged_17 : decode prog_5_method_5_code 17 = .ok (.getfield 34, 3) := by decide +kernel
theorem d_Plain_judged_20 : decode prog_5_method_5_code 20 = .ok (.ifCond .eq 9, 3) := by decide +kernel
theorem d_Plain_judged_23 : decode prog_5_method_5_code 23 = .ok (.aload_n 1, 1) := by decide +kernel
theorem d_Plain_judged_24 : decode prog_5_method_5_code 24 = .ok (.getfield 34, 3) := by decide +kernel
theorem d_Plain_judged_27 : decode prog_5_method_5_code 27 = .ok (.ineg, 1) := by decide +kernel
theorem d_Plain_judged_28 : decode prog_5_method_5_code 28 = .ok (.ireturn, 1) := by decide +kernel
theorem d_Plain_judged_29 : decode prog_5_method_5_code 29 = .ok (.aload_n 0, 1) := by decide +kernel
theorem d_Plain_judged_30 : decode prog_5_method_5_code 30 = .ok (.aload_n 1, 1) := by decide +kernel
theorem d_Plain_judged_31 : decode prog_5_method_5_code 31 = .ok (.invokevirtual 40, 3) := by decide +kernel
theorem d_Plain_judged_34 : decode prog_5_method_5_code 34 = .ok (.iconst 1, 1) := by decide +kernel
theorem d_Plain_judged_35 : decode prog_5_method_5_code 35 = .ok (.if_icmp .ne 7, 3) := by decide +kernel
theorem d_Plain_judged_38 : decode prog_5_method_5_code 38 = .ok (.iconst 1, 1) := by decide +kernel
theorem d_Plain_judged_39 : decode prog_5_method_5_code 39 = .ok (.goto 4, 3) := by decide +kernel
theorem d_Plain_judged_42 : decode prog_5_method_5_code 42 = .ok (.iconst 0, 1) := by decide +kernel
theorem d_Plain_judged_43 : decode prog_5_method_5_code 43 = .ok (.ireturn, 1) := by decide +kernel
set_option maxRecDepth 20000 in
theorem jc_Plain_judged (N : Nat) (l0 : Option Nat) (h : Hp) : J p l e R s m args below meth c prog_5_method_5_code 2 "RingingChamber$Plain" 2 44 (some .int) "judged" D dA B n0 s0 (QM below args s D dA B n0 s0 vI) 0 [(0, vr l0)] [] h (Plain_judged N l0 h) := by
  unfold Plain_judged
  refine j_aload_n d_Plain_judged_0 0 rfl rfl ?_
  refine j_getR d_Plain_judged_1 fl_2_9 (fun x1 => ?_)
  refine j_iconst (v := 2) d_Plain_judged_4 (by decide) ?_
  refine j_dup2_11 d_Plain_judged_5 rfl rfl ?_
  refine j_iald d_Plain_judged_6 (fun x2 => ?_)
  refine j_iconst (v := 1) d_Plain_judged_7 (by decide) ?_
  refine j_iadd d_Plain_judged_8 ?_
  refine j_iast d_Plain_judged_9 (fun h3 => ?_)
  refine j_aload_n d_Plain_judged_10 0 rfl rfl ?_
  refine j_iconst (v := 0) d_Plain_judged_11 (by decide) ?_
  refine j_vR1 d_Plain_judged_12 (allQ.cons (VD.mk vt_2_26_1 (ct_Plain_leadOf N l D dA B l0 0 h3) (by decide) (by decide)) (allQ.cons (VD.mk vt_2_26_2 (ct_Plain_leadOf N l D dA B l0 0 h3) (by decide) (by decide)) (allQ.cons (VD.mk vt_2_26_7 (ct_Plain_leadOf N l D dA B l0 0 h3) (by decide) (by decide)) (allQ.cons (VD.mk vt_2_26_10 (ct_Plain_leadOf N l D dA B l0 0 h3) (by decide) (by decide)) allQ.nil)))) (Nat.le_of_ble_eq_true rfl) (fun x5 h4 => ?_)
  refine j_astore_n (lv' := [(1, vr x5), (0, vr l0)]) d_Plain_judged_15 rfl (by decide) rfl ?_
  refine j_aload_n d_Plain_judged_16 0 rfl rfl ?_
  refine j_getI d_Plain_judged_17 fl_2_34.r (fun x6 => ?_)
  refine j_if_eq (tgt := 29) d_Plain_judged_20 (by decide) ?_ ?_
  · refine j_aload_n d_Plain_judged_29 1 rfl rfl ?_
    refine j_aload_n d_Plain_judged_30 0 rfl rfl ?_
    refine j_vI1 d_Plain_judged_31 (allQ.cons (VD.mk vt_2_40_1 (ct_Meth_trebleBehind N l D dA B l0 x5 h4) (by decide) (by decide)) (allQ.cons (VD.mk vt_2_40_2 (ct_Meth_trebleBehind N l D dA B l0 x5 h4) (by decide) (by decide)) (allQ.cons (VD.mk vt_2_40_7 (ct_Meth_trebleBehind N l D dA B l0 x5 h4) (by decide) (by decide)) (allQ.cons (VD.mk vt_2_40_10 (ct_Meth_trebleBehind N l D dA B l0 x5 h4) (by decide) (by decide)) allQ.nil)))) (Nat.le_of_ble_eq_true rfl) (fun x8 h7 => ?_)
    refine j_iconst (v := 1) d_Plain_judged_34 (by decide) ?_
    refine j_icmp_ne (tgt := 42) d_Plain_judged_35 (by decide) ?_ ?_
    · refine j_iconst (v := 1) d_Plain_judged_38 (by decide) ?_
      refine j_goto (tgt := 43) d_Plain_judged_39 (by decide) ?_
      exact j_retI d_Plain_judged_43
    · refine j_iconst (v := 0) d_Plain_judged_42 (by decide) ?_
      exact j_retI d_Plain_judged_43
  · refine j_aload_n d_Plain_judged_23 0 rfl rfl ?_
    refine j_getI d_Plain_judged_24 fl_2_34.r (fun x9 => ?_)
    refine j_ineg d_Plain_judged_27 ?_
    exact j_retI d_Plain_judged_28
set_option maxRecDepth 20000 in
theorem ct_Plain_judged (N : Nat) (l : Launch) (D : va_G) (dA : Nat → ClassId) (B : Nat) (l0 : Option Nat) (h : Hp) : Ct l (⟨"RingingChamber$Plain", "judged", "()I"⟩ : MethodName) prog_5_method_5_code 2 (some .int) 2 44 D dA B [vr l0] h vI (Plain_judged N l0 h) :=
  Ct.of2 (own := "RingingChamber$Plain") (nme := "judged") (lv := [(0, vr l0)]) rfl rfl (by decide) (Nat.le_of_ble_eq_true rfl) rfl (fun p e R s m args below meth c => jc_Plain_judged N l0 h)
theorem d_Little_trebleKeepsOffLastPlace_0 : decode prog_3_method_4_code 0 = .ok (.iconst 1, 1) := by decide +kernel
theorem d_Little_trebleKeepsOffLastPlace_1 : decode prog_3_method_4_code 1 = .ok (.istore_n 2, 1) := by decide +kernel
theorem d_Little_trebleKeepsOffLastPlace_2 : decode prog_3_method_4_code 2 = .ok (.iconst 0, 1) := by decide +kernel
theorem d_Little_trebleKeepsOffLastPlace_3 : decode prog_3_method_4_code 3 = .ok (.istore_n 3, 1) := by decide +kernel
theorem d_Little_trebleKeepsOffLastPlace_4 : decode prog_3_method_4_code 4 = .ok (.iload_n 3, 1) := by decide +kernel
theorem d_Little_trebleKeepsOffLastPlace_5 : decode prog_3_method_4_code 5 = .ok (.aload_n 1, 1) := by decide +kernel
theorem d_Little_trebleKeepsOffLastPlace_6 : decode prog_3_method_4_code 6 = .ok (.getfield 34, 3) := by decide +kernel
theorem d_Little_trebleKeepsOffLastPlace_9 : decode prog_3_method_4_code 9 = .ok (.if_icmp .ge 30, 3) := by decide +kernel
theorem d_Little_trebleKeepsOffLastPlace_12 : decode prog_3_method_4_code 12 = .ok (.iload_n 2, 1) := by decide +kernel
theorem d_Little_trebleKeepsOffLastPlace_13 : decode prog_3_method_4_code 13 = .ok (.aload_n 1, 1) := by decide +kernel
theorem d_Little_trebleKeepsOffLastPlace_14 : decode prog_3_method_4_code 14 = .ok (.getfield 40, 3) := by decide +kernel
theorem d_Little_trebleKeepsOffLastPlace_17 : decode prog_3_method_4_code 17 = .ok (.iload_n 3, 1) := by decide +kernel
theorem d_Little_trebleKeepsOffLastPlace_18 : decode prog_3_method_4_code 18 = .ok (.iaload, 1) := by decide +kernel
theorem d_Little_trebleKeepsOffLastPlace_19 : decode prog_3_method_4_code 19 = .ok (.invokestatic 43, 3) := by decide +kernel
theorem d_Little_trebleKeepsOffLastPlace_22 : decode prog_3_method_4_code 22 = .ok (.istore_n 2, 1) := by decide +kernel
theorem d_Little_trebleKeepsOffLastPlace_23 : decode prog_3_method_4_code 23 = .ok (.iload_n 2, 1) := by decide +kernel
theorem d_Little_trebleKeepsOffLastPlace_24 : decode prog_3_method_4_code 24 = .ok (.aload_n 0, 1) := by decide +kernel
theorem d_Little_trebleKeepsOffLastPlace_25 : decode prog_3_method_4_code 25 = .ok (.getfield 47, 3) := by decide +kernel
theorem d_Little_trebleKeepsOffLastPlace_28 : decode prog_3_method_4_code 28 = .ok (.if_icmp .ne 5, 3) := by decide +kernel
theorem d_Little_trebleKeepsOffLastPlace_31 : decode prog_3_method_4_code 31 = .ok (.iconst 0, 1) := by decide +kernel
theorem d_Little_trebleKeepsOffLastPlace_32 : decode prog_3_method_4_code 32 = .ok (.ireturn, 1) := by decide +kernel
theorem d_Little_trebleKeepsOffLastPlace_33 : decode prog_3_method_4_code 33 = .ok (.iinc 3 1, 3) := by decide +kernel
theorem d_Little_trebleKeepsOffLastPlace_36 : decode prog_3_method_4_code 36 = .ok (.goto (-32), 3) := by decide +kernel
theorem d_Little_trebleKeepsOffLastPlace_39 : decode prog_3_method_4_code 39 = .ok (.iconst 1, 1) := by decide +kernel
theorem d_Little_trebleKeepsOffLastPlace_40 : decode prog_3_method_4_code 40 = .ok (.ireturn, 1) := by decide +kernel
set_option maxRecDepth 20000 in
theorem jc_Little_trebleKeepsOffLastPlace_4 (N : Nat) : ∀ (n : Nat) (l0 : Option Nat) (l1 : Option Nat) (l2 : Int32) (l3 : Int32) (h : Hp), J p l e R s m args below meth c prog_3_method_4_code 4 "RingingChamber$Little" 1 21 (some .boolean) "trebleKeepsOffLastPlace" D dA B n0 s0 (QM below args s D dA B n0 s0 vI) 4 [(0, vr l0), (1, vr l1), (2, vi l2), (3, vi l3)] [] h (Little_trebleKeepsOffLastPlace_4 N n l0 l1 l2 l3 h) := by
  intro n
  induction n with
  | zero => intros; exact J.none
  | succ n ih =>
    intro l0 l1 l2 l3 h
    rw [Little_trebleKeepsOffLastPlace_4]
    refine j_iload_n d_Little_trebleKeepsOffLastPlace_4 3 rfl rfl ?_
    refine j_aload_n d_Little_trebleKeepsOffLastPlace_5 1 rfl rfl ?_
    refine j_getI d_Little_trebleKeepsOffLastPlace_6 fl_1_34.r (fun x1 => ?_)
    refine j_icmp_ge (tgt := 39) d_Little_trebleKeepsOffLastPlace_9 (by decide) ?_ ?_
    · refine j_iconst (v := 1) d_Little_trebleKeepsOffLastPlace_39 (by decide) ?_
      exact j_retZ d_Little_trebleKeepsOffLastPlace_40
    · refine j_iload_n d_Little_trebleKeepsOffLastPlace_12 2 rfl rfl ?_
      refine j_aload_n d_Little_trebleKeepsOffLastPlace_13 1 rfl rfl ?_
      refine j_getR d_Little_trebleKeepsOffLastPlace_14 fl_1_40 (fun x2 => ?_)
      refine j_iload_n d_Little_trebleKeepsOffLastPlace_17 3 rfl rfl ?_
      refine j_iald d_Little_trebleKeepsOffLastPlace_18 (fun x3 => ?_)
      refine j_uSI2 d_Little_trebleKeepsOffLastPlace_19 su_1_43 ks_Meth_placeBehind (ct_Meth_placeBehind N l D dA B l2 x3 h) (by decide) (by decide) (Nat.le_of_ble_eq_true rfl) (fun x5 h4 => ?_)
      refine j_istore_n (lv' := [(2, vi x5), (0, vr l0), (1, vr l1), (3, vi l3)]) d_Little_trebleKeepsOffLastPlace_22 rfl (by decide) rfl ?_
      refine j_iload_n d_Little_trebleKeepsOffLastPlace_23 0 rfl rfl ?_
      refine j_aload_n d_Little_trebleKeepsOffLastPlace_24 1 rfl rfl ?_
      refine j_getI d_Little_trebleKeepsOffLastPlace_25 fl_1_47 (fun x6 => ?_)
      refine j_icmp_ne (tgt := 33) d_Little_trebleKeepsOffLastPlace_28 (by decide) ?_ ?_
      · refine j_iconst (v := 0) d_Little_trebleKeepsOffLastPlace_31 (by decide) ?_
        exact j_retZ d_Little_trebleKeepsOffLastPlace_32
      · refine j_iinc (lvv := fun x7 => [(3, vi x7), (2, vi x5), (0, vr l0), (1, vr l1)]) d_Little_trebleKeepsOffLastPlace_33 3 rfl rfl (by decide) (fun _ => rfl) (fun x7 => ?_)
        refine j_goto (tgt := 4) d_Little_trebleKeepsOffLastPlace_36 (by decide) ?_
        exact J.sub [2, 3, 1, 0] rfl (ih l0 l1 x5 x7 h4)
set_option maxRecDepth 20000 in
theorem jc_Little_trebleKeepsOffLastPlace (N : Nat) (l0 : Option Nat) (l1 : Option Nat) (h : Hp) : J p l e R s m args below meth c prog_3_method_4_code 4 "RingingChamber$Little" 1 21 (some .boolean) "trebleKeepsOffLastPlace" D dA B n0 s0 (QM below args s D dA B n0 s0 vI) 0 [(0, vr l0), (1, vr l1)] [] h (Little_trebleKeepsOffLastPlace N l0 l1 h) := by
  unfold Little_trebleKeepsOffLastPlace
  refine j_iconst (v := 1) d_Little_trebleKeepsOffLastPlace_0 (by decide) ?_
  refine j_istore_n (lv' := [(2, vi 1), (0, vr l0), (1, vr l1)]) d_Little_trebleKeepsOffLastPlace_1 rfl (by decide) rfl ?_
  refine j_iconst (v := 0) d_Little_trebleKeepsOffLastPlace_2 (by decide) ?_
  refine j_istore_n (lv' := [(3, vi 0), (2, vi 1), (0, vr l0), (1, vr l1)]) d_Little_trebleKeepsOffLastPlace_3 rfl (by decide) rfl ?_
  exact J.sub [2, 3, 1, 0] rfl (jc_Little_trebleKeepsOffLastPlace_4 N N l0 l1 1 0 h)
set_option maxRecDepth 20000 in
theorem ct_Little_trebleKeepsOffLastPlace (N : Nat) (l : Launch) (D : va_G) (dA : Nat → ClassId) (B : Nat) (l0 : Option Nat) (l1 : Option Nat) (h : Hp) : Ct l (⟨"RingingChamber$Little", "trebleKeepsOffLastPlace", "(LRingingChamber$Lead;)Z"⟩ : MethodName) prog_3_method_4_code 4 (some .boolean) 1 21 D dA B [vr l0, vr l1] h vI (Little_trebleKeepsOffLastPlace N l0 l1 h) :=
  Ct.of2 (own := "RingingChamber$Little") (nme := "trebleKeepsOffLastPlace") (lv := [(0, vr l0), (1, vr l1)]) rfl rfl (by decide) (Nat.le_of_ble_eq_true rfl) rfl (fun p e R s m args below meth c => jc_Little_trebleKeepsOffLastPlace N l0 l1 h)
theorem d_Little_judged_0 : decode prog_3_method_3_code 0 = .ok (.aload_n 0, 1) := by decide +kernel
theorem d_Little_judged_1 : decode prog_3_method_3_code 1 = .ok (.getfield 9, 3) := by decide +kernel
theorem d_Little_judged_4 : decode prog_3_method_3_code 4 = .ok (.iconst 5, 1) := by decide +kernel
theorem d_Little_judged_5 : decode prog_3_method_3_code 5 = .ok (.dup2, 1) := by decide +kernel
theorem d_Little_judged_6 : decode prog_3_method_3_code 6 = .ok (.iaload, 1) := by decide +kernel
theorem d_Little_judged_7 : decode prog_3_method_3_code 7 = .ok (.iconst 1, 1) := by decide +kernel
theorem d_Little_judged_8 : decode prog_3_method_3_code 8 = .ok (.iadd, 1) := by decide +kernel
theorem d_Little_judged_9 : decode prog_3_method_3_code 9 = .ok (.iastore, 1) := by decide +kernel
theorem d_Little_judged_10 : decode prog_3_method_3_code 10 = .ok (.aload_n 0, 1) := by decide +kernel
theorem d_Little_judged_11 : decode prog_3_method_3_code 11 = .ok (.invokespecial 22, 3) := by decide +kernel
theorem d_Little_judged_14 : decode prog_3_method_3_code 14 = .ok (.istore_n 1, 1) := by decide +kernel
theorem d_Little_judged_15 : decode prog_3_method_3_code 15 = .ok (.iload_n 1, 1) := by decide +kernel
theorem d_Little_judged_16 : decode prog_3_method_3_code 16 = .ok (.ifCond .ge 5, 3) := by decide +kernel
theorem d_Little_judged_19 : decode prog_3_method_3_code 19 = .ok (.iload_n 1, 1) := by decide +kernel
theorem d_Little_judged_20 : decode prog_3_method_3_code 20 = .ok (.ireturn, 1) := by decide +kernel
theorem d_Little_judged_21 : decode prog_3_method_3_code 21 = .ok (.aload_n 0, 1) := by decide +kernel
theorem d_Little_judged_22 : decode prog_3_method_3_code 22 = .ok (.aload_n 0, 1) := by decide +kernel
theorem d_Little_judged_23 : decode prog_3_method_3_code 23 = .ok (.iconst 0, 1) := by decide +kernel
theorem d_Little_judged_24 : decode prog_3_method_3_code 24 = .ok (.invokevirtual 26, 3) := by decide +kernel
theorem d_Little_judged_27 : decode prog_3_method_3_code 27 = .ok (.invokevirtual 30, 3) := by decide +kernel
theorem d_Little_judged_30 : decode prog_3_method_3_code 30 = .ok (.istore_n 2, 1) := by decide +kernel
theorem d_Little_judged_31 : decode prog_3_method_3_code 31 = .ok (.iload_n 1, 1) := by decide +kernel
theorem d_Little_judged_32 : decode prog_3_method_3_code 32 = .ok (.iconst 1, 1) := by decide +kernel
theorem d_Little_judged_33 : decode prog_3_method_3_code 33 = .ok (.if_icmp .ne 11, 3) := by decide +kernel
theorem d_Little_judged_36 : decode prog_3_method_3_code 36 = .ok (.iload_n 2, 1) := by decide +kernel
theorem d_Little_judged_37 : decode prog_3_method_3_code 37 = .ok (.ifCond .eq 7, 3) := by decide +kernel
theorem d_Little_judged_40 : decode prog_3_method_3_code 40 = .ok (.iconst 1, 1) := by decide +kernel
theorem d_Little_judged_41 : decode prog_3_method_3_code 41 = .ok (.goto 4, 3) := by decide +kernel
theorem d_Little_judged_44 : decode prog_3_method_3_code 44 = .ok (.iconst 0, 1) := by decide +kernel
theorem d_Little_judged_45 : decode prog_3_method_3_code 45 = .ok (.ireturn, 1) := by decide +kernel
set_option maxRecDepth 20000 in
theorem jc_Little_judged (N : Nat) (l0 : Option Nat) (h : Hp) : J p l e R s m args below meth c prog_3_method_3_code 3 "RingingChamber$Little" 3 65 (some .int) "judged" D dA B n0 s0 (QM below args s D dA B n0 s0 vI) 0 [(0, vr l0)] [] h (Little_judged N l0 h) := by
  unfold Little_judged
  refine j_aload_n d_Little_judged_0 0 rfl rfl ?_
  refine j_getR d_Little_judged_1 fl_1_9 (fun x1 => ?_)
  refine j_iconst (v := 5) d_Little_judged_4 (by decide) ?_
  refine j_dup2_11 d_Little_judged_5 rfl rfl ?_
  refine j_iald d_Little_judged_6 (fun x2 => ?_)
  refine j_iconst (v := 1) d_Little_judged_7 (by decide) ?_
  refine j_iadd d_Little_judged_8 ?_
  refine j_iast d_Little_judged_9 (fun h3 => ?_)
  refine j_aload_n d_Little_judged_10 0 rfl rfl ?_
  refine j_pI0 d_Little_judged_11 sl_1_22 kp_1_22 (by decide) (ct_Plain_judged N l D dA B l0 h3) (by decide) (by decide) (Nat.le_of_ble_eq_true rfl) (fun x5 h4 => ?_)
  refine j_istore_n (lv' := [(1, vi x5), (0, vr l0)]) d_Little_judged_14 rfl (by decide) rfl ?_
  refine j_iload_n d_Little_judged_15 0 rfl rfl ?_
  refine j_if_ge (tgt := 21) d_Little_judged_16 (by decide) ?_ ?_
  · refine j_aload_n d_Little_judged_21 1 rfl rfl ?_
    refine j_aload_n d_Little_judged_22 1 rfl rfl ?_
    refine j_iconst (v := 0) d_Little_judged_23 (by decide) ?_
    refine j_vR1 d_Little_judged_24 (allQ.cons (VD.mk vt_1_26_1 (ct_Plain_leadOf N l D dA B l0 0 h4) (by decide) (by decide)) allQ.nil) (Nat.le_of_ble_eq_true rfl) (fun x7 h6 => ?_)
    refine j_vI1 d_Little_judged_27 (allQ.cons (VD.mk vt_1_30_1 (ct_Little_trebleKeepsOffLastPlace N l D dA B l0 x7 h6) (by decide) (by decide)) allQ.nil) (Nat.le_of_ble_eq_true rfl) (fun x9 h8 => ?_)
    refine j_istore_n (lv' := [(2, vi x9), (1, vi x5), (0, vr l0)]) d_Little_judged_30 rfl (by decide) rfl ?_
    refine j_iload_n d_Little_judged_31 1 rfl rfl ?_
    refine j_iconst (v := 1) d_Little_judged_32 (by decide) ?_
    refine j_icmp_ne (tgt := 44) d_Little_judged_33 (by decide) ?_ ?_
    · refine j_iload_n d_Little_judged_36 0 rfl rfl ?_
      refine j_if_eq (tgt := 44) d_Little_judged_37 (by decide) ?_ ?_
      · refine j_iconst (v := 0) d_Little_judged_44 (by decide) ?_
        exact j_retI d_Little_judged_45
      · refine j_iconst (v := 1) d_Little_judged_40 (by decide) ?_
        refine j_goto (tgt := 45) d_Little_judged_41 (by decide) ?_
        exact j_retI d_Little_judged_45
    · refine j_iconst (v := 0) d_Little_judged_44 (by decide) ?_
      exact j_retI d_Little_judged_45
  · refine j_iload_n d_Little_judged_19 0 rfl rfl ?_
    exact j_retI d_Little_judged_20
set_option maxRecDepth 20000 in
theorem ct_Little_judged (N : Nat) (l : Launch) (D : va_G) (dA : Nat → ClassId) (B : Nat) (l0 : Option Nat) (h : Hp) : Ct l (⟨"RingingChamber$Little", "judged", "()I"⟩ : MethodName) prog_3_method_3_code 3 (some .int) 3 65 D dA B [vr l0] h vI (Little_judged N l0 h) :=
  Ct.of2 (own := "RingingChamber$Little") (nme := "judged") (lv := [(0, vr l0)]) rfl rfl (by decide) (Nat.le_of_ble_eq_true rfl) rfl (fun p e R s m args below meth c => jc_Little_judged N l0 h)
theorem d_Plain_calledOf_0 : decode prog_5_method_3_code 0 = .ok (.aload_n 0, 1) := by decide +kernel
theorem d_Plain_calledOf_1 : decode prog_5_method_3_code 1 = .ok (.iload_n 1, 1) := by decide +kernel
theorem d_Plain_calledOf_2 : decode prog_5_method_3_code 2 = .ok (.iload_n 2, 1) := by decide +kernel
theorem d_Plain_calledOf_3 : decode prog_5_method_3_code 3 = .ok (.aload_n 0, 1) := by decide +kernel
theorem d_Plain_calledOf_4 : decode prog_5_method_3_code 4 = .ok (.getfield 19, 3) := by decide +kernel
theorem d_Plain_calledOf_7 : decode prog_5_method_3_code 7 = .ok (.iload_n 2, 1) := by decide +kernel
theorem d_Plain_calledOf_8 : decode prog_5_method_3_code 8 = .ok (.iaload, 1) := by decide +kernel
theorem d_Plain_calledOf_9 : decode prog_5_method_3_code 9 = .ok (.aload_n 3, 1) := by decide +kernel
theorem d_Plain_calledOf_10 : decode prog_5_method_3_code 10 = .ok (.invokevirtual 22, 3) := by decide +kernel
theorem d_Plain_calledOf_13 : decode prog_5_method_3_code 13 = .ok (.ireturn, 1) := by decide +kernel
set_option maxRecDepth 20000 in
theorem jc_Plain_calledOf (N : Nat) (l0 : Option Nat) (l1 : Int32) (l2 : Int32) (l3 : Option Nat) (h : Hp) : J p l e R s m args below meth c prog_5_method_3_code 4 "RingingChamber$Plain" 3 78 (some .int) "calledOf" D dA B n0 s0 (QM below args s D dA B n0 s0 vI) 0 [(0, vr l0), (1, vi l1), (2, vi l2), (3, vr l3)] [] h (Plain_calledOf N l0 l1 l2 l3 h) := by
  unfold Plain_calledOf
  refine j_aload_n d_Plain_calledOf_0 0 rfl rfl ?_
  refine j_iload_n d_Plain_calledOf_1 1 rfl rfl ?_
  refine j_iload_n d_Plain_calledOf_2 2 rfl rfl ?_
  refine j_aload_n d_Plain_calledOf_3 0 rfl rfl ?_
  refine j_getR d_Plain_calledOf_4 fl_2_19 (fun x1 => ?_)
  refine j_iload_n d_Plain_calledOf_7 2 rfl rfl ?_
  refine j_iald d_Plain_calledOf_8 (fun x2 => ?_)
  refine j_aload_n d_Plain_calledOf_9 3 rfl rfl ?_
  refine j_vI4 d_Plain_calledOf_10 (allQ.cons (VD.mk vt_2_22_1 (ct_Plain_plainCalled N l D dA B l0 l1 l2 x2 l3 h) (by decide) (by decide)) (allQ.cons (VD.mk vt_2_22_2 (ct_Plain_plainCalled N l D dA B l0 l1 l2 x2 l3 h) (by decide) (by decide)) (allQ.cons (VD.mk vt_2_22_7 (ct_Plain_plainCalled N l D dA B l0 l1 l2 x2 l3 h) (by decide) (by decide)) (allQ.cons (VD.mk vt_2_22_10 (ct_Plain_plainCalled N l D dA B l0 l1 l2 x2 l3 h) (by decide) (by decide)) allQ.nil)))) (Nat.le_of_ble_eq_true rfl) (fun x4 h3 => ?_)
  exact j_retI d_Plain_calledOf_13
set_option maxRecDepth 20000 in
theorem ct_Plain_calledOf (N : Nat) (l : Launch) (D : va_G) (dA : Nat → ClassId) (B : Nat) (l0 : Option Nat) (l1 : Int32) (l2 : Int32) (l3 : Option Nat) (h : Hp) : Ct l (⟨"RingingChamber$Plain", "calledOf", "(IILRingingChamber$Lead;)I"⟩ : MethodName) prog_5_method_3_code 4 (some .int) 3 78 D dA B [vr l0, vi l1, vi l2, vr l3] h vI (Plain_calledOf N l0 l1 l2 l3 h) :=
  Ct.of2 (own := "RingingChamber$Plain") (nme := "calledOf") (lv := [(0, vr l0), (1, vi l1), (2, vi l2), (3, vr l3)]) rfl rfl (by decide) (Nat.le_of_ble_eq_true rfl) rfl (fun p e R s m args below meth c => jc_Plain_calledOf N l0 l1 l2 l3 h)
theorem d_Principle_init_0 : decode prog_6_method_1_code 0 = .ok (.aload_n 0, 1) := by decide +kernel
theorem d_Principle_init_1 : decode prog_6_method_1_code 1 = .ok (.iload_n 1, 1) := by decide +kernel
theorem d_Principle_init_2 : decode prog_6_method_1_code 2 = .ok (.aload_n 2, 1) := by decide +kernel
theorem d_Principle_init_3 : decode prog_6_method_1_code 3 = .ok (.invokespecial 3, 3) := by decide +kernel
theorem d_Principle_init_6 : decode prog_6_method_1_code 6 = .ok (.return_, 1) := by decide +kernel
set_option maxRecDepth 20000 in
theorem jc_Principle_init (N : Nat) (l0 : Option Nat) (l1 : Int32) (l2 : Option Nat) (h : Hp) : J p l e R s m args below meth c prog_6_method_1_code 3 "RingingChamber$Principle" 3 62 none "<init>" D dA B n0 s0 (QM below args s D dA B n0 s0 vU) 0 [(0, vr l0), (1, vi l1), (2, vr l2)] [] h (Principle_init N l0 l1 l2 h) := by
  unfold Principle_init
  refine j_aload_n d_Principle_init_0 0 rfl rfl ?_
  refine j_iload_n d_Principle_init_1 1 rfl rfl ?_
  refine j_aload_n d_Principle_init_2 2 rfl rfl ?_
  refine j_i2 d_Principle_init_3 sl_3_3 ki_Meth_init (ct_Meth_init N l D dA B l0 l1 l2 h) (by decide) (by decide) (Nat.le_of_ble_eq_true rfl) (fun _ h1 => ?_)
  exact j_retU d_Principle_init_6
set_option maxRecDepth 20000 in
theorem ct_Principle_init (N : Nat) (l : Launch) (D : va_G) (dA : Nat → ClassId) (B : Nat) (l0 : Option Nat) (l1 : Int32) (l2 : Option Nat) (h : Hp) : Ct l (⟨"RingingChamber$Principle", "<init>", "(I[I)V"⟩ : MethodName) prog_6_method_1_code 3 none 3 62 D dA B [vr l0, vi l1, vr l2] h vU (Principle_init N l0 l1 l2 h) :=
  Ct.of2 (own := "RingingChamber$Principle") (nme := "<init>") (lv := [(0, vr l0), (1, vi l1), (2, vr l2)]) rfl rfl (by decide) (Nat.le_of_ble_eq_true rfl) rfl (fun p e R s m args below meth c => jc_Principle_init N l0 l1 l2 h)
theorem d_Principle_leadOf_0 : decode prog_6_method_2_code 0 = .ok (.aload_n 0, 1) := by decide +kernel
theorem d_Principle_leadOf_1 : decode prog_6_method_2_code 1 = .ok (.getfield 9, 3) := by decide +kernel
theorem d_Principle_leadOf_4 : decode prog_6_method_2_code 4 = .ok (.bipush 12, 2) := by decide +kernel
theorem d_Principle_leadOf_6 : decode prog_6_method_2_code 6 = .ok (.dup2, 1) := by decide +kernel
theorem d_Principle_leadOf_7 : decode prog_6_method_2_code 7 = .ok (.iaload, 1) := by decide +kernel
theorem d_Principle_leadOf_8 : decode prog_6_method_2_code 8 = .ok (.iconst 1, 1) := by decide +kernel
theorem d_Principle_leadOf_9 : decode prog_6_method_2_code 9 = .ok (.iadd, 1) := by decide +kernel
theorem d_Principle_leadOf_10 : decode prog_6_method_2_code 10 = .ok (.iastore, 1) := by decide +kernel
theorem d_Principle_leadOf_11 : decode prog_6_method_2_code 11 = .ok (.aload_n 0, 1) := by decide +kernel
theorem d_Principle_leadOf_12 : decode prog_6_method_2_code 12 = .ok (.getfield 15, 3) := by decide +kernel
theorem d_Principle_leadOf_15 : decode prog_6_method_2_code 15 = .ok (.areturn, 1) := by decide +kernel
set_option maxRecDepth 20000 in
theorem jc_Principle_leadOf (N : Nat) (l0 : Option Nat) (l1 : Int32) (h : Hp) : J p l e R s m args below meth c prog_6_method_2_code 2 "RingingChamber$Principle" 0 0 (some (.object "RingingChamber$Lead")) "leadOf" D dA B n0 s0 (QM below args s D dA B n0 s0 vR) 0 [(0, vr l0), (1, vi l1)] [] h (Principle_leadOf N l0 l1 h) := by
  unfold Principle_leadOf
  refine j_aload_n d_Principle_leadOf_0 0 rfl rfl ?_
  refine j_getR d_Principle_leadOf_1 fl_3_9 (fun x1 => ?_)
  refine j_bipush (v := 12) d_Principle_leadOf_4 (by decide) ?_
  refine j_dup2_11 d_Principle_leadOf_6 rfl rfl ?_
  refine j_iald d_Principle_leadOf_7 (fun x2 => ?_)
  refine j_iconst (v := 1) d_Principle_leadOf_8 (by decide) ?_
  refine j_iadd d_Principle_leadOf_9 ?_
  refine j_iast d_Principle_leadOf_10 (fun h3 => ?_)
  refine j_aload_n d_Principle_leadOf_11 0 rfl rfl ?_
  refine j_getR d_Principle_leadOf_12 fl_3_15 (fun x4 => ?_)
  exact j_retR (Or.inl ⟨_, rfl⟩) d_Principle_leadOf_15
set_option maxRecDepth 20000 in
theorem ct_Principle_leadOf (N : Nat) (l : Launch) (D : va_G) (dA : Nat → ClassId) (B : Nat) (l0 : Option Nat) (l1 : Int32) (h : Hp) : Ct l (⟨"RingingChamber$Principle", "leadOf", "(I)LRingingChamber$Lead;"⟩ : MethodName) prog_6_method_2_code 2 (some (.object "RingingChamber$Lead")) 0 0 D dA B [vr l0, vi l1] h vR (Principle_leadOf N l0 l1 h) :=
  Ct.of2 (own := "RingingChamber$Principle") (nme := "leadOf") (lv := [(0, vr l0), (1, vi l1)]) rfl rfl (by decide) (Nat.le_of_ble_eq_true rfl) rfl (fun p e R s m args below meth c => jc_Principle_leadOf N l0 l1 h)
theorem d_Principle_calledOf_0 : decode prog_6_method_3_code 0 = .ok (.aload_n 0, 1) := by decide +kernel
theorem d_Principle_calledOf_1 : decode prog_6_method_3_code 1 = .ok (.getfield 9, 3) := by decide +kernel
theorem d_Principle_calledOf_4 : decode prog_6_method_3_code 4 = .ok (.bipush 13, 2) := by decide +kernel
theorem d_Principle_calledOf_6 : decode prog_6_method_3_code 6 = .ok (.dup2, 1) := by decide +kernel
theorem d_Principle_calledOf_7 : decode prog_6_method_3_code 7 = .ok (.iaload, 1) := by decide +kernel
theorem d_Principle_calledOf_8 : decode prog_6_method_3_code 8 = .ok (.iconst 1, 1) := by decide +kernel
theorem d_Principle_calledOf_9 : decode prog_6_method_3_code 9 = .ok (.iadd, 1) := by decide +kernel
theorem d_Principle_calledOf_10 : decode prog_6_method_3_code 10 = .ok (.iastore, 1) := by decide +kernel
theorem d_Principle_calledOf_11 : decode prog_6_method_3_code 11 = .ok (.aload_n 0, 1) := by decide +kernel
theorem d_Principle_calledOf_12 : decode prog_6_method_3_code 12 = .ok (.iload_n 1, 1) := by decide +kernel
theorem d_Principle_calledOf_13 : decode prog_6_method_3_code 13 = .ok (.invokevirtual 19, 3) := by decide +kernel
theorem d_Principle_calledOf_16 : decode prog_6_method_3_code 16 = .ok (.astore 4, 2) := by decide +kernel
theorem d_Principle_calledOf_18 : decode prog_6_method_3_code 18 = .ok (.aload_n 0, 1) := by decide +kernel
theorem d_Principle_calledOf_19 : decode prog_6_method_3_code 19 = .ok (.aload 4, 2) := by decide +kernel
theorem d_Principle_calledOf_21 : decode prog_6_method_3_code 21 = .ok (.iload_n 2, 1) := by decide +kernel
theorem d_Principle_calledOf_22 : decode prog_6_method_3_code 22 = .ok (.aload 4, 2) := by decide +kernel
theorem d_Principle_calledOf_24 : decode prog_6_method_3_code 24 = .ok (.getfield 23, 3) := by decide +kernel
theorem d_Principle_calledOf_27 : decode prog_6_method_3_code 27 = .ok (.iconst 1, 1) := by decide +kernel
theorem d_Principle_calledOf_28 : decode prog_6_method_3_code 28 = .ok (.isub, 1) := by decide +kernel
theorem d_Principle_calledOf_29 : decode prog_6_method_3_code 29 = .ok (.aload_n 0, 1) := by decide +kernel
theorem d_Principle_calledOf_30 : decode prog_6_method_3_code 30 = .ok (.getfield 29, 3) := by decide +kernel
theorem d_Principle_calledOf_33 : decode prog_6_method_3_code 33 = .ok (.iload_n 2, 1) := by decide +kernel
theorem d_Principle_calledOf_34 : decode prog_6_method_3_code 34 = .ok (.iaload, 1) := by decide +kernel
theorem d_Principle_calledOf_35 : decode prog_6_method_3_code 35 = .ok (.isub, 1) := by decide +kernel
theorem d_Principle_calledOf_36 : decode prog_6_method_3_code 36 = .ok (.aload_n 3, 1) := by decide +kernel
theorem d_Principle_calledOf_37 : decode prog_6_method_3_code 37 = .ok (.invokevirtual 32, 3) := by decide +kernel
theorem d_Principle_calledOf_40 : decode prog_6_method_3_code 40 = .ok (.ireturn, 1) := by decide +kernel
set_option maxRecDepth 20000 in
theorem jc_Principle_calledOf (N : Nat) (l0 : Option Nat) (l1 : Int32) (l2 : Int32) (l3 : Option Nat) (h : Hp) : J p l e R s m args below meth c prog_6_method_3_code 5 "RingingChamber$Principle" 2 54 (some .int) "calledOf" D dA B n0 s0 (QM below args s D dA B n0 s0 vI) 0 [(0, vr l0), (1, vi l1), (2, vi l2), (3, vr l3)] [] h (Principle_calledOf N l0 l1 l2 l3 h) := by
  unfold Principle_calledOf
  refine j_aload_n d_Principle_calledOf_0 0 rfl rfl ?_
  refine j_getR d_Principle_calledOf_1 fl_3_9 (fun x1 => ?_)
  refine j_bipush (v := 13) d_Principle_calledOf_4 (by decide) ?_
  refine j_dup2_11 d_Principle_calledOf_6 rfl rfl ?_
  refine j_iald d_Principle_calledOf_7 (fun x2 => ?_)
  refine j_iconst (v := 1) d_Principle_calledOf_8 (by decide) ?_
  refine j_iadd d_Principle_calledOf_9 ?_
  refine j_iast d_Principle_calledOf_10 (fun h3 => ?_)
  refine j_aload_n d_Principle_calledOf_11 0 rfl rfl ?_
  refine j_iload_n d_Principle_calledOf_12 1 rfl rfl ?_
  refine j_vR1 d_Principle_calledOf_13 (allQ.cons (VD.mk vt_3_19_3 (ct_Principle_leadOf N l D dA B l0 l1 h3) (by decide) (by decide)) allQ.nil) (Nat.le_of_ble_eq_true rfl) (fun x5 h4 => ?_)
  refine j_astore (lv' := [(4, vr x5), (0, vr l0), (1, vi l1), (2, vi l2), (3, vr l3)]) d_Principle_calledOf_16 (by decide) rfl ?_
  refine j_aload_n d_Principle_calledOf_18 1 rfl rfl ?_
  refine j_aload d_Principle_calledOf_19 0 rfl ?_
  refine j_iload_n d_Principle_calledOf_21 3 rfl rfl ?_
  refine j_aload d_Principle_calledOf_22 0 rfl ?_
  refine j_getI d_Principle_calledOf_24 fl_3_23.r (fun x6 => ?_)
  refine j_iconst (v := 1) d_Principle_calledOf_27 (by decide) ?_
  refine j_isub d_Principle_calledOf_28 ?_
  refine j_aload_n d_Principle_calledOf_29 1 rfl rfl ?_
  refine j_getR d_Principle_calledOf_30 fl_3_29 (fun x7 => ?_)
  refine j_iload_n d_Principle_calledOf_33 3 rfl rfl ?_
  refine j_iald d_Principle_calledOf_34 (fun x8 => ?_)
  refine j_isub d_Principle_calledOf_35 ?_
  refine j_aload_n d_Principle_calledOf_36 4 rfl rfl ?_
  refine j_vI4 d_Principle_calledOf_37 (allQ.cons (VD.mk vt_3_32_3 (ct_Meth_withCall N l D dA B l0 x5 l2 ((x6 - (1 : Int32)) - x8) l3 h4) (by decide) (by decide)) allQ.nil) (Nat.le_of_ble_eq_true rfl) (fun x10 h9 => ?_)
  exact j_retI d_Principle_calledOf_40
set_option maxRecDepth 20000 in
theorem ct_Principle_calledOf (N : Nat) (l : Launch) (D : va_G) (dA : Nat → ClassId) (B : Nat) (l0 : Option Nat) (l1 : Int32) (l2 : Int32) (l3 : Option Nat) (h : Hp) : Ct l (⟨"RingingChamber$Principle", "calledOf", "(IILRingingChamber$Lead;)I"⟩ : MethodName) prog_6_method_3_code 5 (some .int) 2 54 D dA B [vr l0, vi l1, vi l2, vr l3] h vI (Principle_calledOf N l0 l1 l2 l3 h) :=
  Ct.of2 (own := "RingingChamber$Principle") (nme := "calledOf") (lv := [(0, vr l0), (1, vi l1), (2, vi l2), (3, vr l3)]) rfl rfl (by decide) (Nat.le_of_ble_eq_true rfl) rfl (fun p e R s m args below meth c => jc_Principle_calledOf N l0 l1 l2 l3 h)
theorem d_Principle_judged_0 : decode prog_6_method_4_code 0 = .ok (.aload_n 0, 1) := by decide +kernel
theorem d_Principle_judged_1 : decode prog_6_method_4_code 1 = .ok (.getfield 9, 3) := by decide +kernel
theorem d_Principle_judged_4 : decode prog_6_method_4_code 4 = .ok (.bipush 14, 2) := by decide +kernel
theorem d_Principle_judged_6 : decode prog_6_method_4_code 6 = .ok (.dup2, 1) := by decide +kernel
theorem d_Principle_judged_7 : decode prog_6_method_4_code 7 = .ok (.iaload, 1) := by decide +kernel
theorem d_Principle_judged_8 : decode prog_6_method_4_code 8 = .ok (.iconst 1, 1) := by decide +kernel
theorem d_Principle_judged_9 : decode prog_6_method_4_code 9 = .ok (.iadd, 1) := by decide +kernel
theorem d_Principle_judged_10 : decode prog_6_method_4_code 10 = .ok (.iastore, 1) := by decide +kernel
theorem d_Principle_judged_11 : decode prog_6_method_4_code 11 = .ok (.aload_n 0, 1) := by decide +kernel
theorem d_Principle_judged_12 : decode prog_6_method_4_code 12 = .ok (.iconst 0, 1) := by decide +kernel
theorem d_Principle_judged_13 : decode prog_6_method_4_code 13 = .ok (.invokevirtual 19, 3) := by decide +kernel
theorem d_Principle_judged_16 : decode prog_6_method_4_code 16 = .ok (.astore_n 1, 1) := by decide +kernel
theorem d_Principle_judged_17 : decode prog_6_method_4_code 17 = .ok (.aload_n 1, 1) := by decide +kernel
theorem d_Principle_judged_18 : decode prog_6_method_4_code 18 = .ok (.getfield 36, 3) := by decide +kernel
theorem d_Principle_judged_21 : decode prog_6_method_4_code 21 = .ok (.ifCond .eq 9, 3) := by decide +kernel
theorem d_Principle_judged_24 : decode prog_6_method_4_code 24 = .ok (.aload_n 1, 1) := by decide +kernel
theorem d_Principle_judged_25 : decode prog_6_method_4_code 25 = .ok (.getfield 36, 3) := by decide +kernel
theorem d_Principle_judged_28 : decode prog_6_method_4_code 28 = .ok (.ineg, 1) := by decide +kernel
theorem d_Principle_judged_29 : decode prog_6_method_4_code 29 = .ok (.ireturn, 1) := by decide +kernel
theorem d_Principle_judged_30 : decode prog_6_method_4_code 30 = .ok (.aload_n 0, 1) := by decide +kernel
theorem d_Principle_judged_31 : decode prog_6_method_4_code 31 = .ok (.aload_n 1, 1) := by decide +kernel
theorem d_Principle_judged_32 : decode prog_6_method_4_code 32 = .ok (.invokevirtual 39, 3) := by decide +kernel
theorem d_Principle_judged_35 : decode prog_6_method_4_code 35 = .ok (.iconst 1, 1) := by decide +kernel
theorem d_Principle_judged_36 : decode prog_6_method_4_code 36 = .ok (.if_icmp .eq 7, 3) := by decide +kernel
theorem d_Principle_judged_39 : decode prog_6_method_4_code 39 = .ok (.iconst 1, 1) := by decide +kernel
theorem d_Principle_judged_40 : decode prog_6_method_4_code 40 = .ok (.goto 4, 3) := by decide +kernel
theorem d_Principle_judged_43 : decode prog_6_method_4_code 43 = .ok (.iconst 0, 1) := by decide +kernel
theorem d_Principle_judged_44 : decode prog_6_method_4_code 44 = .ok (.ireturn, 1) := by decide +kernel
set_option maxRecDepth 20000 in
theorem jc_Principle_judged (N : Nat) (l0 : Option Nat) (h : Hp) : J p l e R s m args below meth c prog_6_method_4_code 2 "RingingChamber$Principle" 2 44 (some .int) "judged" D dA B n0 s0 (QM below args s D dA B n0 s0 vI) 0 [(0, vr l0)] [] h (Principle_judged N l0 h) := by
  unfold Principle_judged
  refine j_aload_n d_Principle_judged_0 0 rfl rfl ?_
  refine j_getR d_Principle_judged_1 fl_3_9 (fun x1 => ?_)
  refine j_bipush (v := 14) d_Principle_judged_4 (by decide) ?_
  refine j_dup2_11 d_Principle_judged_6 rfl rfl ?_
  refine j_iald d_Principle_judged_7 (fun x2 => ?_)
  refine j_iconst (v := 1) d_Principle_judged_8 (by decide) ?_
  refine j_iadd d_Principle_judged_9 ?_
  refine j_iast d_Principle_judged_10 (fun h3 => ?_)
  refine j_aload_n d_Principle_judged_11 0 rfl rfl ?_
  refine j_iconst (v := 0) d_Principle_judged_12 (by decide) ?_
  refine j_vR1 d_Principle_judged_13 (allQ.cons (VD.mk vt_3_19_3 (ct_Principle_leadOf N l D dA B l0 0 h3) (by decide) (by decide)) allQ.nil) (Nat.le_of_ble_eq_true rfl) (fun x5 h4 => ?_)
  refine j_astore_n (lv' := [(1, vr x5), (0, vr l0)]) d_Principle_judged_16 rfl (by decide) rfl ?_
  refine j_aload_n d_Principle_judged_17 0 rfl rfl ?_
  refine j_getI d_Principle_judged_18 fl_3_36.r (fun x6 => ?_)
  refine j_if_eq (tgt := 30) d_Principle_judged_21 (by decide) ?_ ?_
  · refine j_aload_n d_Principle_judged_30 1 rfl rfl ?_
    refine j_aload_n d_Principle_judged_31 0 rfl rfl ?_
    refine j_vI1 d_Principle_judged_32 (allQ.cons (VD.mk vt_3_39_3 (ct_Meth_trebleBehind N l D dA B l0 x5 h4) (by decide) (by decide)) allQ.nil) (Nat.le_of_ble_eq_true rfl) (fun x8 h7 => ?_)
    refine j_iconst (v := 1) d_Principle_judged_35 (by decide) ?_
    refine j_icmp_eq (tgt := 43) d_Principle_judged_36 (by decide) ?_ ?_
    · refine j_iconst (v := 0) d_Principle_judged_43 (by decide) ?_
      exact j_retI d_Principle_judged_44
    · refine j_iconst (v := 1) d_Principle_judged_39 (by decide) ?_
      refine j_goto (tgt := 44) d_Principle_judged_40 (by decide) ?_
      exact j_retI d_Principle_judged_44
  · refine j_aload_n d_Principle_judged_24 0 rfl rfl ?_
    refine j_getI d_Principle_judged_25 fl_3_36.r (fun x9 => ?_)
    refine j_ineg d_Principle_judged_28 ?_
    exact j_retI d_Principle_judged_29
set_option maxRecDepth 20000 in
theorem ct_Principle_judged (N : Nat) (l : Launch) (D : va_G) (dA : Nat → ClassId) (B : Nat) (l0 : Option Nat) (h : Hp) : Ct l (⟨"RingingChamber$Principle", "judged", "()I"⟩ : MethodName) prog_6_method_4_code 2 (some .int) 2 44 D dA B [vr l0] h vI (Principle_judged N l0 h) :=
  Ct.of2 (own := "RingingChamber$Principle") (nme := "judged") (lv := [(0, vr l0)]) rfl rfl (by decide) (Nat.le_of_ble_eq_true rfl) rfl (fun p e R s m args below meth c => jc_Principle_judged N l0 h)
theorem d_Rows_init_0 : decode prog_7_method_1_code 0 = .ok (.aload_n 0, 1) := by decide +kernel
theorem d_Rows_init_1 : decode prog_7_method_1_code 1 = .ok (.invokespecial 3, 3) := by decide +kernel
theorem d_Rows_init_4 : decode prog_7_method_1_code 4 = .ok (.aload_n 0, 1) := by decide +kernel
theorem d_Rows_init_5 : decode prog_7_method_1_code 5 = .ok (.sipush 512, 3) := by decide +kernel
theorem d_Rows_init_8 : decode prog_7_method_1_code 8 = .ok (.newarray .int, 2) := by decide +kernel
theorem d_Rows_init_10 : decode prog_7_method_1_code 10 = .ok (.putfield 11, 3) := by decide +kernel
theorem d_Rows_init_13 : decode prog_7_method_1_code 13 = .ok (.aload_n 0, 1) := by decide +kernel
theorem d_Rows_init_14 : decode prog_7_method_1_code 14 = .ok (.iload_n 1, 1) := by decide +kernel
theorem d_Rows_init_15 : decode prog_7_method_1_code 15 = .ok (.iconst 0, 1) := by decide +kernel
theorem d_Rows_init_16 : decode prog_7_method_1_code 16 = .ok (.invokestatic 15, 3) := by decide +kernel
theorem d_Rows_init_19 : decode prog_7_method_1_code 19 = .ok (.newarray .long, 2) := by decide +kernel
theorem d_Rows_init_21 : decode prog_7_method_1_code 21 = .ok (.putfield 21, 3) := by decide +kernel
theorem d_Rows_init_24 : decode prog_7_method_1_code 24 = .ok (.aload_n 0, 1) := by decide +kernel
theorem d_Rows_init_25 : decode prog_7_method_1_code 25 = .ok (.iload_n 1, 1) := by decide +kernel
theorem d_Rows_init_26 : decode prog_7_method_1_code 26 = .ok (.iconst 0, 1) := by decide +kernel
theorem d_Rows_init_27 : decode prog_7_method_1_code 27 = .ok (.invokestatic 15, 3) := by decide +kernel
theorem d_Rows_init_30 : decode prog_7_method_1_code 30 = .ok (.newarray .int, 2) := by decide +kernel
theorem d_Rows_init_32 : decode prog_7_method_1_code 32 = .ok (.putfield 25, 3) := by decide +kernel
theorem d_Rows_init_35 : decode prog_7_method_1_code 35 = .ok (.return_, 1) := by decide +kernel
set_option maxRecDepth 20000 in
theorem jc_Rows_init (N : Nat) (l0 : Option Nat) (l1 : Int32) (h : Hp) : J p l e R s m args below meth c prog_7_method_1_code 2 "RingingChamber$Rows" 1 30 none "<init>" D dA B n0 s0 (QM below args s D dA B n0 s0 vU) 0 [(0, vr l0), (1, vi l1)] [] h (Rows_init N l0 l1 h) := by
  unfold Rows_init
  refine j_aload_n d_Rows_init_0 0 rfl rfl ?_
  refine j_obj d_Rows_init_1 ko_4_3 ko_i ko_c (by decide) (by decide) (Nat.le_of_ble_eq_true rfl) ?_
  refine j_aload_n d_Rows_init_4 0 rfl rfl ?_
  refine j_sipush (v := 512) d_Rows_init_5 (by decide) ?_
  refine j_newa13 d_Rows_init_8 ka_int (fun x1 h2 => ?_)
  refine j_putR d_Rows_init_10 fl_4_11 (Or.inr rfl) (Or.inr ⟨_, rfl⟩) (fun h3 => ?_)
  refine j_aload_n d_Rows_init_13 0 rfl rfl ?_
  refine j_iload_n d_Rows_init_14 1 rfl rfl ?_
  refine j_iconst (v := 0) d_Rows_init_15 (by decide) ?_
  refine j_mmax d_Rows_init_16 kmt_4_15 kms_max kmi kmc_max (by decide) (by decide) (Nat.le_of_ble_eq_true rfl) ?_
  refine j_newa14 d_Rows_init_19 ka_long (fun x4 h5 => ?_)
  refine j_putR d_Rows_init_21 fl_4_21 (Or.inr rfl) (Or.inr ⟨_, rfl⟩) (fun h6 => ?_)
  refine j_aload_n d_Rows_init_24 0 rfl rfl ?_
  refine j_iload_n d_Rows_init_25 1 rfl rfl ?_
  refine j_iconst (v := 0) d_Rows_init_26 (by decide) ?_
  refine j_mmax d_Rows_init_27 kmt_4_15 kms_max kmi kmc_max (by decide) (by decide) (Nat.le_of_ble_eq_true rfl) ?_
  refine j_newa13 d_Rows_init_30 ka_int (fun x7 h8 => ?_)
  refine j_putR d_Rows_init_32 fl_4_25 (Or.inr rfl) (Or.inr ⟨_, rfl⟩) (fun h9 => ?_)
  exact j_retU d_Rows_init_35
set_option maxRecDepth 20000 in
theorem ct_Rows_init (N : Nat) (l : Launch) (D : va_G) (dA : Nat → ClassId) (B : Nat) (l0 : Option Nat) (l1 : Int32) (h : Hp) : Ct l (⟨"RingingChamber$Rows", "<init>", "(I)V"⟩ : MethodName) prog_7_method_1_code 2 none 1 30 D dA B [vr l0, vi l1] h vU (Rows_init N l0 l1 h) :=
  Ct.of2 (own := "RingingChamber$Rows") (nme := "<init>") (lv := [(0, vr l0), (1, vi l1)]) rfl rfl (by decide) (Nat.le_of_ble_eq_true rfl) rfl (fun p e R s m args below meth c => jc_Rows_init N l0 l1 h)
theorem d_Rows_slotOf_0 : decode prog_7_method_7_code 0 = .ok (.lload_n 0, 1) := by decide +kernel
theorem d_Rows_slotOf_1 : decode prog_7_method_7_code 1 = .ok (.ldc2_w 40, 3) := by decide +kernel
theorem d_Rows_slotOf_4 : decode prog_7_method_7_code 4 = .ok (.lmul, 1) := by decide +kernel
theorem d_Rows_slotOf_5 : decode prog_7_method_7_code 5 = .ok (.bipush 55, 2) := by decide +kernel
theorem d_Rows_slotOf_7 : decode prog_7_method_7_code 7 = .ok (.lushr, 1) := by decide +kernel
theorem d_Rows_slotOf_8 : decode prog_7_method_7_code 8 = .ok (.l2i, 1) := by decide +kernel
theorem d_Rows_slotOf_9 : decode prog_7_method_7_code 9 = .ok (.ireturn, 1) := by decide +kernel
set_option maxRecDepth 20000 in
theorem jc_Rows_slotOf (N : Nat) (l0 : Int64) (h : Hp) : J p l e R s m args below meth c prog_7_method_7_code 2 "RingingChamber$Rows" 0 0 (some .int) "slotOf" D dA B n0 s0 (QM below args s D dA B n0 s0 vI) 0 [(0, vl l0)] [] h (Rows_slotOf N l0 h) := by
  unfold Rows_slotOf
  refine j_lload_n d_Rows_slotOf_0 0 rfl rfl ?_
  refine j_ldc2 d_Rows_slotOf_1 ckl_4_40 ?_
  refine j_lmul d_Rows_slotOf_4 ?_
  refine j_bipush (v := 55) d_Rows_slotOf_5 (by decide) ?_
  refine j_lushr d_Rows_slotOf_7 ?_
  refine j_l2i d_Rows_slotOf_8 ?_
  exact j_retI d_Rows_slotOf_9
set_option maxRecDepth 20000 in
theorem ct_Rows_slotOf (N : Nat) (l : Launch) (D : va_G) (dA : Nat → ClassId) (B : Nat) (l0 : Int64) (h : Hp) : Ct l (⟨"RingingChamber$Rows", "slotOf", "(J)I"⟩ : MethodName) prog_7_method_7_code 2 (some .int) 0 0 D dA B [vl l0] h vI (Rows_slotOf N l0 h) :=
  Ct.of2 (own := "RingingChamber$Rows") (nme := "slotOf") (lv := [(0, vl l0)]) rfl rfl (by decide) (Nat.le_of_ble_eq_true rfl) rfl (fun p e R s m args below meth c => jc_Rows_slotOf N l0 h)
theorem d_Rows_add_0 : decode prog_7_method_2_code 0 = .ok (.aload_n 0, 1) := by decide +kernel
theorem d_Rows_add_1 : decode prog_7_method_2_code 1 = .ok (.getfield 28, 3) := by decide +kernel
theorem d_Rows_add_4 : decode prog_7_method_2_code 4 = .ok (.aload_n 0, 1) := by decide +kernel
theorem d_Rows_add_5 : decode prog_7_method_2_code 5 = .ok (.getfield 21, 3) := by decide +kernel
theorem d_Rows_add_8 : decode prog_7_method_2_code 8 = .ok (.arraylength, 1) := by decide +kernel
theorem d_Rows_add_9 : decode prog_7_method_2_code 9 = .ok (.if_icmp .lt 4, 3) := by decide +kernel
theorem d_Rows_add_12 : decode prog_7_method_2_code 12 = .ok (.return_, 1) := by decide +kernel
theorem d_Rows_add_13 : decode prog_7_method_2_code 13 = .ok (.lload_n 1, 1) := by decide +kernel
theorem d_Rows_add_14 : decode prog_7_method_2_code 14 = .ok (.invokestatic 32, 3) := by decide +kernel
theorem d_Rows_add_17 : decode prog_7_method_2_code 17 = .ok (.istore_n 3, 1) := by decide +kernel
theorem d_Rows_add_18 : decode prog_7_method_2_code 18 = .ok (.aload_n 0, 1) := by decide +kernel
theorem d_Rows_add_19 : decode prog_7_method_2_code 19 = .ok (.getfield 21, 3) := by decide +kernel
theorem d_Rows_add_22 : decode prog_7_method_2_code 22 = .ok (.aload_n 0, 1) := by decide +kernel
theorem d_Rows_add_23 : decode prog_7_method_2_code 23 = .ok (.getfield 28, 3) := by decide +kernel
theorem d_Rows_add_26 : decode prog_7_method_2_code 26 = .ok (.lload_n 1, 1) := by decide +kernel
theorem d_Rows_add_27 : decode prog_7_method_2_code 27 = .ok (.lastore, 1) := by decide +kernel
theorem d_Rows_add_28 : decode prog_7_method_2_code 28 = .ok (.aload_n 0, 1) := by decide +kernel
theorem d_Rows_add_29 : decode prog_7_method_2_code 29 = .ok (.getfield 25, 3) := by decide +kernel
theorem d_Rows_add_32 : decode prog_7_method_2_code 32 = .ok (.aload_n 0, 1) := by decide +kernel
theorem d_Rows_add_33 : decode prog_7_method_2_code 33 = .ok (.getfield 28, 3) := by decide +kernel
theorem d_Rows_add_36 : decode prog_7_method_2_code 36 = .ok (.aload_n 0, 1) := by decide +kernel
theorem d_Rows_add_37 : decode prog_7_method_2_code 37 = .ok (.getfield 11, 3) := by decide +kernel
theorem d_Rows_add_40 : decode prog_7_method_2_code 40 = .ok (.iload_n 3, 1) := by decide +kernel
theorem d_Rows_add_41 : decode prog_7_method_2_code 41 = .ok (.iaload, 1) := by decide +kernel
theorem d_Rows_add_42 : decode prog_7_method_2_code 42 = .ok (.iastore, 1) := by decide +kernel
theorem d_Rows_add_43 : decode prog_7_method_2_code 43 = .ok (.aload_n 0, 1) := by decide +kernel
theorem d_Rows_add_44 : decode prog_7_method_2_code 44 = .ok (.dup, 1) := by decide +kernel
theorem d_Rows_add_45 : decode prog_7_method_2_code 45 = .ok (.getfield 28, 3) := by decide +kernel
theorem d_Rows_add_48 : decode prog_7_method_2_code 48 = .ok (.iconst 1, 1) := by decide +kernel
theorem d_Rows_add_49 : decode prog_7_method_2_code 49 = .ok (.iadd, 1) := by decide +kernel
theorem d_Rows_add_50 : decode prog_7_method_2_code 50 = .ok (.putfield 28, 3) := by decide +kernel
theorem d_Rows_add_53 : decode prog_7_method_2_code 53 = .ok (.aload_n 0, 1) := by decide +kernel
theorem d_Rows_add_54 : decode prog_7_method_2_code 54 = .ok (.getfield 11, 3) := by decide +kernel
theorem d_Rows_add_57 : decode prog_7_method_2_code 57 = .ok (.iload_n 3, 1) := by decide +kernel
theorem d_Rows_add_58 : decode prog_7_method_2_code 58 = .ok (.aload_n 0, 1) := by decide +kernel
theorem d_Rows_add_59 : decode prog_7_method_2_code 59 = .ok (.getfield 28, 3) := by decide +kernel
theorem d_Rows_add_62 : decode prog_7_method_2_code 62 = .ok (.iastore, 1) := by decide +kernel
theorem d_Rows_add_63 : decode prog_7_method_2_code 63 = .ok (.return_, 1) := by decide +kernel
set_option maxRecDepth 20000 in
theorem jc_Rows_add (N : Nat) (l0 : Option Nat) (l1 : Int64) (h : Hp) : J p l e R s m args below meth c prog_7_method_2_code 4 "RingingChamber$Rows" 1 21 none "add" D dA B n0 s0 (QM below args s D dA B n0 s0 vU) 0 [(0, vr l0), (1, vl l1)] [] h (Rows_add N l0 l1 h) := by
  unfold Rows_add
  refine j_aload_n d_Rows_add_0 0 rfl rfl ?_
  refine j_getI d_Rows_add_1 fl_4_28.r (fun x1 => ?_)
  refine j_aload_n d_Rows_add_4 0 rfl rfl ?_
  refine j_getR d_Rows_add_5 fl_4_21.r (fun x2 => ?_)
  refine j_alen d_Rows_add_8 (fun x3 => ?_)
  refine j_icmp_lt (tgt := 13) d_Rows_add_9 (by decide) ?_ ?_
  · refine j_lload_n d_Rows_add_13 1 rfl rfl ?_
    refine j_cSI1 d_Rows_add_14 sl_4_32 ks_Rows_slotOf (ct_Rows_slotOf N l D dA B l1 h) (by decide) (by decide) (Nat.le_of_ble_eq_true rfl) (fun x5 h4 => ?_)
    refine j_istore_n (lv' := [(3, vi x5), (0, vr l0), (1, vl l1)]) d_Rows_add_17 rfl (by decide) rfl ?_
    refine j_aload_n d_Rows_add_18 1 rfl rfl ?_
    refine j_getR d_Rows_add_19 fl_4_21.r (fun x6 => ?_)
    refine j_aload_n d_Rows_add_22 1 rfl rfl ?_
    refine j_getI d_Rows_add_23 fl_4_28.r (fun x7 => ?_)
    refine j_lload_n d_Rows_add_26 2 rfl rfl ?_
    refine j_last d_Rows_add_27 (fun h8 => ?_)
    refine j_aload_n d_Rows_add_28 1 rfl rfl ?_
    refine j_getR d_Rows_add_29 fl_4_25.r (fun x9 => ?_)
    refine j_aload_n d_Rows_add_32 1 rfl rfl ?_
    refine j_getI d_Rows_add_33 fl_4_28.r (fun x10 => ?_)
    refine j_aload_n d_Rows_add_36 1 rfl rfl ?_
    refine j_getR d_Rows_add_37 fl_4_11.r (fun x11 => ?_)
    refine j_iload_n d_Rows_add_40 0 rfl rfl ?_
    refine j_iald d_Rows_add_41 (fun x12 => ?_)
    refine j_iast d_Rows_add_42 (fun h13 => ?_)
    refine j_aload_n d_Rows_add_43 1 rfl rfl ?_
    refine j_dup d_Rows_add_44 rfl ?_
    refine j_getI d_Rows_add_45 fl_4_28.r (fun x14 => ?_)
    refine j_iconst (v := 1) d_Rows_add_48 (by decide) ?_
    refine j_iadd d_Rows_add_49 ?_
    refine j_putI d_Rows_add_50 fl_4_28 (Or.inl rfl) (fun h15 => ?_)
    refine j_aload_n d_Rows_add_53 1 rfl rfl ?_
    refine j_getR d_Rows_add_54 fl_4_11.r (fun x16 => ?_)
    refine j_iload_n d_Rows_add_57 0 rfl rfl ?_
    refine j_aload_n d_Rows_add_58 1 rfl rfl ?_
    refine j_getI d_Rows_add_59 fl_4_28.r (fun x17 => ?_)
    refine j_iast d_Rows_add_62 (fun h18 => ?_)
    exact j_retU d_Rows_add_63
  · exact j_retU d_Rows_add_12
set_option maxRecDepth 20000 in
theorem ct_Rows_add (N : Nat) (l : Launch) (D : va_G) (dA : Nat → ClassId) (B : Nat) (l0 : Option Nat) (l1 : Int64) (h : Hp) : Ct l (⟨"RingingChamber$Rows", "add", "(J)V"⟩ : MethodName) prog_7_method_2_code 4 none 1 21 D dA B [vr l0, vl l1] h vU (Rows_add N l0 l1 h) :=
  Ct.of2 (own := "RingingChamber$Rows") (nme := "add") (lv := [(0, vr l0), (1, vl l1)]) rfl rfl (by decide) (Nat.le_of_ble_eq_true rfl) rfl (fun p e R s m args below meth c => jc_Rows_add N l0 l1 h)
theorem d_Rows_keepFirst_0 : decode prog_7_method_3_code 0 = .ok (.aload_n 0, 1) := by decide +kernel
theorem d_Rows_keepFirst_1 : decode prog_7_method_3_code 1 = .ok (.getfield 28, 3) := by decide +kernel
theorem d_Rows_keepFirst_4 : decode prog_7_method_3_code 4 = .ok (.iload_n 1, 1) := by decide +kernel
theorem d_Rows_keepFirst_5 : decode prog_7_method_3_code 5 = .ok (.if_icmp .le 49, 3) := by decide +kernel
theorem d_Rows_keepFirst_8 : decode prog_7_method_3_code 8 = .ok (.aload_n 0, 1) := by decide +kernel
theorem d_Rows_keepFirst_9 : decode prog_7_method_3_code 9 = .ok (.getfield 28, 3) := by decide +kernel
theorem d_Rows_keepFirst_12 : decode prog_7_method_3_code 12 = .ok (.ifCond .le 42, 3) := by decide +kernel
theorem d_Rows_keepFirst_15 : decode prog_7_method_3_code 15 = .ok (.aload_n 0, 1) := by decide +kernel
theorem d_Rows_keepFirst_16 : decode prog_7_method_3_code 16 = .ok (.dup, 1) := by decide +kernel
theorem d_Rows_keepFirst_17 : decode prog_7_method_3_code 17 = .ok (.getfield 28, 3) := by decide +kernel
theorem d_Rows_keepFirst_20 : decode prog_7_method_3_code 20 = .ok (.iconst 1, 1) := by decide +kernel
theorem d_Rows_keepFirst_21 : decode prog_7_method_3_code 21 = .ok (.isub, 1) := by decide +kernel
theorem d_Rows_keepFirst_22 : decode prog_7_method_3_code 22 = .ok (.putfield 28, 3) := by decide +kernel
theorem d_Rows_keepFirst_25 : decode prog_7_method_3_code 25 = .ok (.aload_n 0, 1) := by decide +kernel
theorem d_Rows_keepFirst_26 : decode prog_7_method_3_code 26 = .ok (.getfield 11, 3) := by decide +kernel
theorem d_Rows_keepFirst_29 : decode prog_7_method_3_code 29 = .ok (.aload_n 0, 1) := by decide +kernel
theorem d_Rows_keepFirst_30 : decode prog_7_method_3_code 30 = .ok (.getfield 21, 3) := by decide +kernel
theorem d_Rows_keepFirst_33 : decode prog_7_method_3_code 33 = .ok (.aload_n 0, 1) := by decide +kernel
theorem d_Rows_keepFirst_34 : decode prog_7_method_3_code 34 = .ok (.getfield 28, 3) := by decide +kernel
theorem d_Rows_keepFirst_37 : decode prog_7_method_3_code 37 = .ok (.laload, 1) := by decide +kernel
theorem d_Rows_keepFirst_38 : decode prog_7_method_3_code 38 = .ok (.invokestatic 32, 3) := by decide +kernel
theorem d_Rows_keepFirst_41 : decode prog_7_method_3_code 41 = .ok (.aload_n 0, 1) := by decide +kernel
theorem d_Rows_keepFirst_42 : decode prog_7_method_3_code 42 = .ok (.getfield 25, 3) := by decide +kernel
theorem d_Rows_keepFirst_45 : decode prog_7_method_3_code 45 = .ok (.aload_n 0, 1) := by decide +kernel
theorem d_Rows_keepFirst_46 : decode prog_7_method_3_code 46 = .ok (.getfield 28, 3) := by decide +kernel
theorem d_Rows_keepFirst_49 : decode prog_7_method_3_code 49 = .ok (.iaload, 1) := by decide +kernel
theorem d_Rows_keepFirst_50 : decode prog_7_method_3_code 50 = .ok (.iastore, 1) := by decide +kernel
theorem d_Rows_keepFirst_51 : decode prog_7_method_3_code 51 = .ok (.goto (-51), 3) := by decide +kernel
theorem d_Rows_keepFirst_54 : decode prog_7_method_3_code 54 = .ok (.return_, 1) := by decide +kernel
set_option maxRecDepth 20000 in
theorem jc_Rows_keepFirst_0 (N : Nat) : ∀ (n : Nat) (l0 : Option Nat) (l1 : Int32) (h : Hp), J p l e R s m args below meth c prog_7_method_3_code 2 "RingingChamber$Rows" 1 21 none "keepFirst" D dA B n0 s0 (QM below args s D dA B n0 s0 vU) 0 [(0, vr l0), (1, vi l1)] [] h (Rows_keepFirst_0 N n l0 l1 h) := by
  intro n
  induction n with
  | zero => intros; exact J.none
  | succ n ih =>
    intro l0 l1 h
    rw [Rows_keepFirst_0]
    refine j_aload_n d_Rows_keepFirst_0 0 rfl rfl ?_
    refine j_getI d_Rows_keepFirst_1 fl_4_28.r (fun x1 => ?_)
    refine j_iload_n d_Rows_keepFirst_4 1 rfl rfl ?_
    refine j_icmp_le (tgt := 54) d_Rows_keepFirst_5 (by decide) ?_ ?_
    · exact j_retU d_Rows_keepFirst_54
    · refine j_aload_n d_Rows_keepFirst_8 0 rfl rfl ?_
      refine j_getI d_Rows_keepFirst_9 fl_4_28.r (fun x2 => ?_)
      refine j_if_le (tgt := 54) d_Rows_keepFirst_12 (by decide) ?_ ?_
      · exact j_retU d_Rows_keepFirst_54
      · refine j_aload_n d_Rows_keepFirst_15 0 rfl rfl ?_
        refine j_dup d_Rows_keepFirst_16 rfl ?_
        refine j_getI d_Rows_keepFirst_17 fl_4_28.r (fun x3 => ?_)
        refine j_iconst (v := 1) d_Rows_keepFirst_20 (by decide) ?_
        refine j_isub d_Rows_keepFirst_21 ?_
        refine j_putI d_Rows_keepFirst_22 fl_4_28 (Or.inl rfl) (fun h4 => ?_)
        refine j_aload_n d_Rows_keepFirst_25 0 rfl rfl ?_
        refine j_getR d_Rows_keepFirst_26 fl_4_11.r (fun x5 => ?_)
        refine j_aload_n d_Rows_keepFirst_29 0 rfl rfl ?_
        refine j_getR d_Rows_keepFirst_30 fl_4_21.r (fun x6 => ?_)
        refine j_aload_n d_Rows_keepFirst_33 0 rfl rfl ?_
        refine j_getI d_Rows_keepFirst_34 fl_4_28.r (fun x7 => ?_)
        refine j_lald d_Rows_keepFirst_37 (fun x8 => ?_)
        refine j_cSI1 d_Rows_keepFirst_38 sl_4_32 ks_Rows_slotOf (ct_Rows_slotOf N l D dA B x8 h4) (by decide) (by decide) (Nat.le_of_ble_eq_true rfl) (fun x10 h9 => ?_)
        refine j_aload_n d_Rows_keepFirst_41 0 rfl rfl ?_
        refine j_getR d_Rows_keepFirst_42 fl_4_25.r (fun x11 => ?_)
        refine j_aload_n d_Rows_keepFirst_45 0 rfl rfl ?_
        refine j_getI d_Rows_keepFirst_46 fl_4_28.r (fun x12 => ?_)
        refine j_iald d_Rows_keepFirst_49 (fun x13 => ?_)
        refine j_iast d_Rows_keepFirst_50 (fun h14 => ?_)
        refine j_goto (tgt := 0) d_Rows_keepFirst_51 (by decide) ?_
        exact ih l0 l1 h14
set_option maxRecDepth 20000 in
theorem jc_Rows_keepFirst (N : Nat) (l0 : Option Nat) (l1 : Int32) (h : Hp) : J p l e R s m args below meth c prog_7_method_3_code 2 "RingingChamber$Rows" 1 21 none "keepFirst" D dA B n0 s0 (QM below args s D dA B n0 s0 vU) 0 [(0, vr l0), (1, vi l1)] [] h (Rows_keepFirst N l0 l1 h) := by
  unfold Rows_keepFirst
  exact jc_Rows_keepFirst_0 N N l0 l1 h
set_option maxRecDepth 20000 in
theorem ct_Rows_keepFirst (N : Nat) (l : Launch) (D : va_G) (dA : Nat → ClassId) (B : Nat) (l0 : Option Nat) (l1 : Int32) (h : Hp) : Ct l (⟨"RingingChamber$Rows", "keepFirst", "(I)V"⟩ : MethodName) prog_7_method_3_code 2 none 1 21 D dA B [vr l0, vi l1] h vU (Rows_keepFirst N l0 l1 h) :=
  Ct.of2 (own := "RingingChamber$Rows") (nme := "keepFirst") (lv := [(0, vr l0), (1, vi l1)]) rfl rfl (by decide) (Nat.le_of_ble_eq_true rfl) rfl (fun p e R s m args below meth c => jc_Rows_keepFirst N l0 l1 h)
theorem d_Rows_indexOf_0 : decode prog_7_method_4_code 0 = .ok (.aload_n 0, 1) := by decide +kernel
theorem d_Rows_indexOf_1 : decode prog_7_method_4_code 1 = .ok (.getfield 11, 3) := by decide +kernel
theorem d_Rows_indexOf_4 : decode prog_7_method_4_code 4 = .ok (.lload_n 1, 1) := by decide +kernel
theorem d_Rows_indexOf_5 : decode prog_7_method_4_code 5 = .ok (.invokestatic 32, 3) := by decide +kernel
theorem d_Rows_indexOf_8 : decode prog_7_method_4_code 8 = .ok (.iaload, 1) := by decide +kernel
theorem d_Rows_indexOf_9 : decode prog_7_method_4_code 9 = .ok (.istore_n 3, 1) := by decide +kernel
theorem d_Rows_indexOf_10 : decode prog_7_method_4_code 10 = .ok (.iconst 0, 1) := by decide +kernel
theorem d_Rows_indexOf_11 : decode prog_7_method_4_code 11 = .ok (.istore 4, 2) := by decide +kernel
theorem d_Rows_indexOf_13 : decode prog_7_method_4_code 13 = .ok (.iload 4, 2) := by decide +kernel
theorem d_Rows_indexOf_15 : decode prog_7_method_4_code 15 = .ok (.aload_n 0, 1) := by decide +kernel
theorem d_Rows_indexOf_16 : decode prog_7_method_4_code 16 = .ok (.getfield 28, 3) := by decide +kernel
theorem d_Rows_indexOf_19 : decode prog_7_method_4_code 19 = .ok (.if_icmp .ge 39, 3) := by decide +kernel
theorem d_Rows_indexOf_22 : decode prog_7_method_4_code 22 = .ok (.iload_n 3, 1) := by decide +kernel
theorem d_Rows_indexOf_23 : decode prog_7_method_4_code 23 = .ok (.ifCond .le 35, 3) := by decide +kernel
theorem d_Rows_indexOf_26 : decode prog_7_method_4_code 26 = .ok (.aload_n 0, 1) := by decide +kernel
theorem d_Rows_indexOf_27 : decode prog_7_method_4_code 27 = .ok (.getfield 21, 3) := by decide +kernel
theorem d_Rows_indexOf_30 : decode prog_7_method_4_code 30 = .ok (.iload_n 3, 1) := by decide +kernel
theorem d_Rows_indexOf_31 : decode prog_7_method_4_code 31 = .ok (.iconst 1, 1) := by decide +kernel
theorem d_Rows_indexOf_32 : decode prog_7_method_4_code 32 = .ok (.isub, 1) := by decide +kernel
theorem d_Rows_indexOf_33 : decode prog_7_method_4_code 33 = .ok (.laload, 1) := by decide +kernel
theorem d_Rows_indexOf_34 : decode prog_7_method_4_code 34 = .ok (.lload_n 1, 1) := by decide +kernel
theorem d_Rows_indexOf_35 : decode prog_7_method_4_code 35 = .ok (.lcmp, 1) := by decide +kernel
theorem d_Rows_indexOf_36 : decode prog_7_method_4_code 36 = .ok (.ifCond .ne 7, 3) := by decide +kernel
theorem d_Rows_indexOf_39 : decode prog_7_method_4_code 39 = .ok (.iload_n 3, 1) := by decide +kernel
theorem d_Rows_indexOf_40 : decode prog_7_method_4_code 40 = .ok (.iconst 1, 1) := by decide +kernel
theorem d_Rows_indexOf_41 : decode prog_7_method_4_code 41 = .ok (.isub, 1) := by decide +kernel
theorem d_Rows_indexOf_42 : decode prog_7_method_4_code 42 = .ok (.ireturn, 1) := by decide +kernel
theorem d_Rows_indexOf_43 : decode prog_7_method_4_code 43 = .ok (.aload_n 0, 1) := by decide +kernel
theorem d_Rows_indexOf_44 : decode prog_7_method_4_code 44 = .ok (.getfield 25, 3) := by decide +kernel
theorem d_Rows_indexOf_47 : decode prog_7_method_4_code 47 = .ok (.iload_n 3, 1) := by decide +kernel
theorem d_Rows_indexOf_48 : decode prog_7_method_4_code 48 = .ok (.iconst 1, 1) := by decide +kernel
theorem d_Rows_indexOf_49 : decode prog_7_method_4_code 49 = .ok (.isub, 1) := by decide +kernel
theorem d_Rows_indexOf_50 : decode prog_7_method_4_code 50 = .ok (.iaload, 1) := by decide +kernel
theorem d_Rows_indexOf_51 : decode prog_7_method_4_code 51 = .ok (.istore_n 3, 1) := by decide +kernel
theorem d_Rows_indexOf_52 : decode prog_7_method_4_code 52 = .ok (.iinc 4 1, 3) := by decide +kernel
theorem d_Rows_indexOf_55 : decode prog_7_method_4_code 55 = .ok (.goto (-42), 3) := by decide +kernel
theorem d_Rows_indexOf_58 : decode prog_7_method_4_code 58 = .ok (.iconst (-1), 1) := by decide +kernel
theorem d_Rows_indexOf_59 : decode prog_7_method_4_code 59 = .ok (.ireturn, 1) := by decide +kernel
set_option maxRecDepth 20000 in
theorem jc_Rows_indexOf_13 (N : Nat) : ∀ (n : Nat) (l0 : Option Nat) (l1 : Int64) (l3 : Int32) (l4 : Int32) (h : Hp), J p l e R s m args below meth c prog_7_method_4_code 5 "RingingChamber$Rows" 1 21 (some .int) "indexOf" D dA B n0 s0 (QM below args s D dA B n0 s0 vI) 13 [(0, vr l0), (1, vl l1), (3, vi l3), (4, vi l4)] [] h (Rows_indexOf_13 N n l0 l1 l3 l4 h) := by
  intro n
  induction n with
  | zero => intros; exact J.none
  | succ n ih =>
    intro l0 l1 l3 l4 h
    rw [Rows_indexOf_13]
    refine j_iload d_Rows_indexOf_13 3 rfl ?_
    refine j_aload_n d_Rows_indexOf_15 0 rfl rfl ?_
    refine j_getI d_Rows_indexOf_16 fl_4_28.r (fun x1 => ?_)
    refine j_icmp_ge (tgt := 58) d_Rows_indexOf_19 (by decide) ?_ ?_
    · refine j_iconst (v := -1) d_Rows_indexOf_58 (by decide) ?_
      exact j_retI d_Rows_indexOf_59
    · refine j_iload_n d_Rows_indexOf_22 2 rfl rfl ?_
      refine j_if_le (tgt := 58) d_Rows_indexOf_23 (by decide) ?_ ?_
      · refine j_iconst (v := -1) d_Rows_indexOf_58 (by decide) ?_
        exact j_retI d_Rows_indexOf_59
      · refine j_aload_n d_Rows_indexOf_26 0 rfl rfl ?_
        refine j_getR d_Rows_indexOf_27 fl_4_21.r (fun x2 => ?_)
        refine j_iload_n d_Rows_indexOf_30 2 rfl rfl ?_
        refine j_iconst (v := 1) d_Rows_indexOf_31 (by decide) ?_
        refine j_isub d_Rows_indexOf_32 ?_
        refine j_lald d_Rows_indexOf_33 (fun x3 => ?_)
        refine j_lload_n d_Rows_indexOf_34 1 rfl rfl ?_
        refine j_lcmp d_Rows_indexOf_35 ?_
        refine j_if_ne (tgt := 43) d_Rows_indexOf_36 (by decide) ?_ ?_
        · refine j_iload_n d_Rows_indexOf_39 2 rfl rfl ?_
          refine j_iconst (v := 1) d_Rows_indexOf_40 (by decide) ?_
          refine j_isub d_Rows_indexOf_41 ?_
          exact j_retI d_Rows_indexOf_42
        · refine j_aload_n d_Rows_indexOf_43 0 rfl rfl ?_
          refine j_getR d_Rows_indexOf_44 fl_4_25.r (fun x4 => ?_)
          refine j_iload_n d_Rows_indexOf_47 2 rfl rfl ?_
          refine j_iconst (v := 1) d_Rows_indexOf_48 (by decide) ?_
          refine j_isub d_Rows_indexOf_49 ?_
          refine j_iald d_Rows_indexOf_50 (fun x5 => ?_)
          refine j_istore_n (lv' := [(3, vi x5), (0, vr l0), (1, vl l1), (4, vi l4)]) d_Rows_indexOf_51 rfl (by decide) rfl ?_
          refine j_iinc (lvv := fun x6 => [(4, vi x6), (3, vi x5), (0, vr l0), (1, vl l1)]) d_Rows_indexOf_52 3 rfl rfl (by decide) (fun _ => rfl) (fun x6 => ?_)
          refine j_goto (tgt := 13) d_Rows_indexOf_55 (by decide) ?_
          exact J.sub [2, 3, 1, 0] rfl (ih l0 l1 x5 x6 h)
set_option maxRecDepth 20000 in
theorem jc_Rows_indexOf (N : Nat) (l0 : Option Nat) (l1 : Int64) (h : Hp) : J p l e R s m args below meth c prog_7_method_4_code 5 "RingingChamber$Rows" 1 21 (some .int) "indexOf" D dA B n0 s0 (QM below args s D dA B n0 s0 vI) 0 [(0, vr l0), (1, vl l1)] [] h (Rows_indexOf N l0 l1 h) := by
  unfold Rows_indexOf
  refine j_aload_n d_Rows_indexOf_0 0 rfl rfl ?_
  refine j_getR d_Rows_indexOf_1 fl_4_11.r (fun x1 => ?_)
  refine j_lload_n d_Rows_indexOf_4 1 rfl rfl ?_
  refine j_cSI1 d_Rows_indexOf_5 sl_4_32 ks_Rows_slotOf (ct_Rows_slotOf N l D dA B l1 h) (by decide) (by decide) (Nat.le_of_ble_eq_true rfl) (fun x3 h2 => ?_)
  refine j_iald d_Rows_indexOf_8 (fun x4 => ?_)
  refine j_istore_n (lv' := [(3, vi x4), (0, vr l0), (1, vl l1)]) d_Rows_indexOf_9 rfl (by decide) rfl ?_
  refine j_iconst (v := 0) d_Rows_indexOf_10 (by decide) ?_
  refine j_istore (lv' := [(4, vi 0), (3, vi x4), (0, vr l0), (1, vl l1)]) d_Rows_indexOf_11 (by decide) rfl ?_
  exact J.sub [2, 3, 1, 0] rfl (jc_Rows_indexOf_13 N N l0 l1 x4 0 h2)
set_option maxRecDepth 20000 in
theorem ct_Rows_indexOf (N : Nat) (l : Launch) (D : va_G) (dA : Nat → ClassId) (B : Nat) (l0 : Option Nat) (l1 : Int64) (h : Hp) : Ct l (⟨"RingingChamber$Rows", "indexOf", "(J)I"⟩ : MethodName) prog_7_method_4_code 5 (some .int) 1 21 D dA B [vr l0, vl l1] h vI (Rows_indexOf N l0 l1 h) :=
  Ct.of2 (own := "RingingChamber$Rows") (nme := "indexOf") (lv := [(0, vr l0), (1, vl l1)]) rfl rfl (by decide) (Nat.le_of_ble_eq_true rfl) rfl (fun p e R s m args below meth c => jc_Rows_indexOf N l0 l1 h)
theorem d_Rows_codeAt_0 : decode prog_7_method_5_code 0 = .ok (.iload_n 1, 1) := by decide +kernel
theorem d_Rows_codeAt_1 : decode prog_7_method_5_code 1 = .ok (.ifCond .lt 11, 3) := by decide +kernel
theorem d_Rows_codeAt_4 : decode prog_7_method_5_code 4 = .ok (.iload_n 1, 1) := by decide +kernel
theorem d_Rows_codeAt_5 : decode prog_7_method_5_code 5 = .ok (.aload_n 0, 1) := by decide +kernel
theorem d_Rows_codeAt_6 : decode prog_7_method_5_code 6 = .ok (.getfield 28, 3) := by decide +kernel
theorem d_Rows_codeAt_9 : decode prog_7_method_5_code 9 = .ok (.if_icmp .lt 7, 3) := by decide +kernel
theorem d_Rows_codeAt_12 : decode prog_7_method_5_code 12 = .ok (.lconst 0, 1) := by decide +kernel
theorem d_Rows_codeAt_13 : decode prog_7_method_5_code 13 = .ok (.goto 9, 3) := by decide +kernel
theorem d_Rows_codeAt_16 : decode prog_7_method_5_code 16 = .ok (.aload_n 0, 1) := by decide +kernel
theorem d_Rows_codeAt_17 : decode prog_7_method_5_code 17 = .ok (.getfield 21, 3) := by decide +kernel
theorem d_Rows_codeAt_20 : decode prog_7_method_5_code 20 = .ok (.iload_n 1, 1) := by decide +kernel
theorem d_Rows_codeAt_21 : decode prog_7_method_5_code 21 = .ok (.laload, 1) := by decide +kernel
theorem d_Rows_codeAt_22 : decode prog_7_method_5_code 22 = .ok (.lreturn, 1) := by decide +kernel
set_option maxRecDepth 20000 in
theorem jc_Rows_codeAt_12 (N : Nat)  (h : Hp) : J p l e R s m args below meth c prog_7_method_5_code 2 "RingingChamber$Rows" 0 0 (some .long) "codeAt" D dA B n0 s0 (QM below args s D dA B n0 s0 vL) 12 [] [] h (Rows_codeAt_12 N  h) := by
  unfold Rows_codeAt_12
  refine j_lconst (v := 0) d_Rows_codeAt_12 (by decide) ?_
  refine j_goto (tgt := 22) d_Rows_codeAt_13 (by decide) ?_
  exact j_retL d_Rows_codeAt_22
set_option maxRecDepth 20000 in
theorem jc_Rows_codeAt (N : Nat) (l0 : Option Nat) (l1 : Int32) (h : Hp) : J p l e R s m args below meth c prog_7_method_5_code 2 "RingingChamber$Rows" 0 0 (some .long) "codeAt" D dA B n0 s0 (QM below args s D dA B n0 s0 vL) 0 [(0, vr l0), (1, vi l1)] [] h (Rows_codeAt N l0 l1 h) := by
  unfold Rows_codeAt
  refine j_iload_n d_Rows_codeAt_0 1 rfl rfl ?_
  refine j_if_lt (tgt := 12) d_Rows_codeAt_1 (by decide) ?_ ?_
  · exact J.sub [] rfl (jc_Rows_codeAt_12 N  h)
  · refine j_iload_n d_Rows_codeAt_4 1 rfl rfl ?_
    refine j_aload_n d_Rows_codeAt_5 0 rfl rfl ?_
    refine j_getI d_Rows_codeAt_6 fl_4_28.r (fun x1 => ?_)
    refine j_icmp_lt (tgt := 16) d_Rows_codeAt_9 (by decide) ?_ ?_
    · refine j_aload_n d_Rows_codeAt_16 0 rfl rfl ?_
      refine j_getR d_Rows_codeAt_17 fl_4_21.r (fun x2 => ?_)
      refine j_iload_n d_Rows_codeAt_20 1 rfl rfl ?_
      refine j_lald d_Rows_codeAt_21 (fun x3 => ?_)
      exact j_retL d_Rows_codeAt_22
    · exact J.sub [] rfl (jc_Rows_codeAt_12 N  h)
set_option maxRecDepth 20000 in
theorem ct_Rows_codeAt (N : Nat) (l : Launch) (D : va_G) (dA : Nat → ClassId) (B : Nat) (l0 : Option Nat) (l1 : Int32) (h : Hp) : Ct l (⟨"RingingChamber$Rows", "codeAt", "(I)J"⟩ : MethodName) prog_7_method_5_code 2 (some .long) 0 0 D dA B [vr l0, vi l1] h vL (Rows_codeAt N l0 l1 h) :=
  Ct.of2 (own := "RingingChamber$Rows") (nme := "codeAt") (lv := [(0, vr l0), (1, vi l1)]) rfl rfl (by decide) (Nat.le_of_ble_eq_true rfl) rfl (fun p e R s m args below meth c => jc_Rows_codeAt N l0 l1 h)
theorem d_Rows_digit_0 : decode prog_7_method_9_code 0 = .ok (.lload_n 0, 1) := by decide +kernel
theorem d_Rows_digit_1 : decode prog_7_method_9_code 1 = .ok (.iconst 4, 1) := by decide +kernel
theorem d_Rows_digit_2 : decode prog_7_method_9_code 2 = .ok (.iload_n 2, 1) := by decide +kernel
theorem d_Rows_digit_3 : decode prog_7_method_9_code 3 = .ok (.imul, 1) := by decide +kernel
theorem d_Rows_digit_4 : decode prog_7_method_9_code 4 = .ok (.lushr, 1) := by decide +kernel
theorem d_Rows_digit_5 : decode prog_7_method_9_code 5 = .ok (.l2i, 1) := by decide +kernel
theorem d_Rows_digit_6 : decode prog_7_method_9_code 6 = .ok (.bipush 15, 2) := by decide +kernel
theorem d_Rows_digit_8 : decode prog_7_method_9_code 8 = .ok (.iand, 1) := by decide +kernel
theorem d_Rows_digit_9 : decode prog_7_method_9_code 9 = .ok (.ireturn, 1) := by decide +kernel
set_option maxRecDepth 20000 in
theorem jc_Rows_digit (N : Nat) (l0 : Int64) (l2 : Int32) (h : Hp) : J p l e R s m args below meth c prog_7_method_9_code 3 "RingingChamber$Rows" 0 0 (some .int) "digit" D dA B n0 s0 (QM below args s D dA B n0 s0 vI) 0 [(0, vl l0), (2, vi l2)] [] h (Rows_digit N l0 l2 h) := by
  unfold Rows_digit
  refine j_lload_n d_Rows_digit_0 0 rfl rfl ?_
  refine j_iconst (v := 4) d_Rows_digit_1 (by decide) ?_
  refine j_iload_n d_Rows_digit_2 1 rfl rfl ?_
  refine j_imul d_Rows_digit_3 ?_
  refine j_lushr d_Rows_digit_4 ?_
  refine j_l2i d_Rows_digit_5 ?_
  refine j_bipush (v := 15) d_Rows_digit_6 (by decide) ?_
  refine j_iand d_Rows_digit_8 ?_
  exact j_retI d_Rows_digit_9
set_option maxRecDepth 20000 in
theorem ct_Rows_digit (N : Nat) (l : Launch) (D : va_G) (dA : Nat → ClassId) (B : Nat) (l0 : Int64) (l2 : Int32) (h : Hp) : Ct l (⟨"RingingChamber$Rows", "digit", "(JI)I"⟩ : MethodName) prog_7_method_9_code 3 (some .int) 0 0 D dA B [vl l0, vi l2] h vI (Rows_digit N l0 l2 h) :=
  Ct.of2 (own := "RingingChamber$Rows") (nme := "digit") (lv := [(0, vl l0), (2, vi l2)]) rfl rfl (by decide) (Nat.le_of_ble_eq_true rfl) rfl (fun p e R s m args below meth c => jc_Rows_digit N l0 l2 h)
theorem d_Rows_toldDigits_0 : decode prog_7_method_13_code 0 = .ok (.lconst 0, 1) := by decide +kernel
theorem d_Rows_toldDigits_1 : decode prog_7_method_13_code 1 = .ok (.lstore_n 2, 1) := by decide +kernel
theorem d_Rows_toldDigits_2 : decode prog_7_method_13_code 2 = .ok (.iconst 0, 1) := by decide +kernel
theorem d_Rows_toldDigits_3 : decode prog_7_method_13_code 3 = .ok (.istore 4, 2) := by decide +kernel
theorem d_Rows_toldDigits_5 : decode prog_7_method_13_code 5 = .ok (.iload 4, 2) := by decide +kernel
theorem d_Rows_toldDigits_7 : decode prog_7_method_13_code 7 = .ok (.bipush 12, 2) := by decide +kernel
theorem d_Rows_toldDigits_9 : decode prog_7_method_13_code 9 = .ok (.if_icmp .ge 29, 3) := by decide +kernel
theorem d_Rows_toldDigits_12 : decode prog_7_method_13_code 12 = .ok (.lload_n 0, 1) := by decide +kernel
theorem d_Rows_toldDigits_13 : decode prog_7_method_13_code 13 = .ok (.iload 4, 2) := by decide +kernel
theorem d_Rows_toldDigits_15 : decode prog_7_method_13_code 15 = .ok (.invokestatic 44, 3) := by decide +kernel
theorem d_Rows_toldDigits_18 : decode prog_7_method_13_code 18 = .ok (.ifCond .eq 14, 3) := by decide +kernel
theorem d_Rows_toldDigits_21 : decode prog_7_method_13_code 21 = .ok (.lload_n 2, 1) := by decide +kernel
theorem d_Rows_toldDigits_22 : decode prog_7_method_13_code 22 = .ok (.ldc2_w 52, 3) := by decide +kernel
theorem d_Rows_toldDigits_25 : decode prog_7_method_13_code 25 = .ok (.iconst 4, 1) := by decide +kernel
theorem d_Rows_toldDigits_26 : decode prog_7_method_13_code 26 = .ok (.iload 4, 2) := by decide +kernel
theorem d_Rows_toldDigits_28 : decode prog_7_method_13_code 28 = .ok (.imul, 1) := by decide +kernel
theorem d_Rows_toldDigits_29 : decode prog_7_method_13_code 29 = .ok (.lshl, 1) := by decide +kernel
theorem d_Rows_toldDigits_30 : decode prog_7_method_13_code 30 = .ok (.lor, 1) := by decide +kernel
theorem d_Rows_toldDigits_31 : decode prog_7_method_13_code 31 = .ok (.lstore_n 2, 1) := by decide +kernel
theorem d_Rows_toldDigits_32 : decode prog_7_method_13_code 32 = .ok (.iinc 4 1, 3) := by decide +kernel
theorem d_Rows_toldDigits_35 : decode prog_7_method_13_code 35 = .ok (.goto (-30), 3) := by decide +kernel
theorem d_Rows_toldDigits_38 : decode prog_7_method_13_code 38 = .ok (.lload_n 2, 1) := by decide +kernel
theorem d_Rows_toldDigits_39 : decode prog_7_method_13_code 39 = .ok (.lreturn, 1) := by decide +kernel
set_option maxRecDepth 20000 in
theorem jc_Rows_toldDigits_32 (N : Nat) (re5 : Int64 → Int64 → Int32 → Hp → Option (Int64 × Hp)) (hre5 : ∀ y0 y1 y2 h, J p l e R s m args below meth c prog_7_method_13_code 5 "RingingChamber$Rows" 1 22 (some .long) "toldDigits" D dA B n0 s0 (QM below args s D dA B n0 s0 vL) 5 [(0, vl y0), (2, vl y1), (4, vi y2)] [] h (re5 y0 y1 y2 h)) (l0 : Int64) (l2 : Int64) (l4 : Int32) (h : Hp) : J p l e R s m args below meth c prog_7_method_13_code 5 "RingingChamber$Rows" 1 22 (some .long) "toldDigits" D dA B n0 s0 (QM below args s D dA B n0 s0 vL) 32 [(0, vl l0), (2, vl l2), (4, vi l4)] [] h (Rows_toldDigits_32 N re5 l0 l2 l4 h) := by
  unfold Rows_toldDigits_32
  refine j_iinc (lvv := fun x1 => [(4, vi x1), (0, vl l0), (2, vl l2)]) d_Rows_toldDigits_32 2 rfl rfl (by decide) (fun _ => rfl) (fun x1 => ?_)
  refine j_goto (tgt := 5) d_Rows_toldDigits_35 (by decide) ?_
  exact J.sub [1, 2, 0] rfl (hre5 l0 l2 x1 h)
set_option maxRecDepth 20000 in
theorem jc_Rows_toldDigits_5 (N : Nat) : ∀ (n : Nat) (l0 : Int64) (l2 : Int64) (l4 : Int32) (h : Hp), J p l e R s m args below meth c prog_7_method_13_code 5 "RingingChamber$Rows" 1 22 (some .long) "toldDigits" D dA B n0 s0 (QM below args s D dA B n0 s0 vL) 5 [(0, vl l0), (2, vl l2), (4, vi l4)] [] h (Rows_toldDigits_5 N n l0 l2 l4 h) := by
  intro n
  induction n with
  | zero => intros; exact J.none
  | succ n ih =>
    intro l0 l2 l4 h
    rw [Rows_toldDigits_5]
    refine j_iload d_Rows_toldDigits_5 2 rfl ?_
    refine j_bipush (v := 12) d_Rows_toldDigits_7 (by decide) ?_
    refine j_icmp_ge (tgt := 38) d_Rows_toldDigits_9 (by decide) ?_ ?_
    · refine j_lload_n d_Rows_toldDigits_38 1 rfl rfl ?_
      exact j_retL d_Rows_toldDigits_39
    · refine j_lload_n d_Rows_toldDigits_12 0 rfl rfl ?_
      refine j_iload d_Rows_toldDigits_13 2 rfl ?_
      refine j_cSI2 d_Rows_toldDigits_15 sl_4_44 ks_Rows_digit (ct_Rows_digit N l D dA B l0 l4 h) (by decide) (by decide) (Nat.le_of_ble_eq_true rfl) (fun x2 h1 => ?_)
      refine j_if_eq (tgt := 32) d_Rows_toldDigits_18 (by decide) ?_ ?_
      · exact jc_Rows_toldDigits_32 N (Rows_toldDigits_5 N n) ih l0 l2 l4 h1
      · refine j_lload_n d_Rows_toldDigits_21 1 rfl rfl ?_
        refine j_ldc2 d_Rows_toldDigits_22 ckl_4_52 ?_
        refine j_iconst (v := 4) d_Rows_toldDigits_25 (by decide) ?_
        refine j_iload d_Rows_toldDigits_26 2 rfl ?_
        refine j_imul d_Rows_toldDigits_28 ?_
        refine j_lshl d_Rows_toldDigits_29 ?_
        refine j_lor d_Rows_toldDigits_30 ?_
        refine j_nml (fun x3 => ?_)
        refine j_lstore_n (lv' := [(2, vl x3), (0, vl l0), (4, vi l4)]) d_Rows_toldDigits_31 rfl (by decide) rfl ?_
        exact J.sub [1, 0, 2] rfl (jc_Rows_toldDigits_32 N (Rows_toldDigits_5 N n) ih l0 x3 l4 h1)
set_option maxRecDepth 20000 in
theorem jc_Rows_toldDigits (N : Nat) (l0 : Int64) (h : Hp) : J p l e R s m args below meth c prog_7_method_13_code 5 "RingingChamber$Rows" 1 22 (some .long) "toldDigits" D dA B n0 s0 (QM below args s D dA B n0 s0 vL) 0 [(0, vl l0)] [] h (Rows_toldDigits N l0 h) := by
  unfold Rows_toldDigits
  refine j_lconst (v := 0) d_Rows_toldDigits_0 (by decide) ?_
  refine j_lstore_n (lv' := [(2, vl 0), (0, vl l0)]) d_Rows_toldDigits_1 rfl (by decide) rfl ?_
  refine j_iconst (v := 0) d_Rows_toldDigits_2 (by decide) ?_
  refine j_istore (lv' := [(4, vi 0), (2, vl 0), (0, vl l0)]) d_Rows_toldDigits_3 (by decide) rfl ?_
  exact J.sub [2, 1, 0] rfl (jc_Rows_toldDigits_5 N N l0 0 0 h)
set_option maxRecDepth 20000 in
theorem ct_Rows_toldDigits (N : Nat) (l : Launch) (D : va_G) (dA : Nat → ClassId) (B : Nat) (l0 : Int64) (h : Hp) : Ct l (⟨"RingingChamber$Rows", "toldDigits", "(J)J"⟩ : MethodName) prog_7_method_13_code 5 (some .long) 1 22 D dA B [vl l0] h vL (Rows_toldDigits N l0 h) :=
  Ct.of2 (own := "RingingChamber$Rows") (nme := "toldDigits") (lv := [(0, vl l0)]) rfl rfl (by decide) (Nat.le_of_ble_eq_true rfl) rfl (fun p e R s m args below meth c => jc_Rows_toldDigits N l0 h)
theorem d_Rows_countFitting_0 : decode prog_7_method_6_code 0 = .ok (.lload_n 1, 1) := by decide +kernel
theorem d_Rows_countFitting_1 : decode prog_7_method_6_code 1 = .ok (.invokestatic 36, 3) := by decide +kernel
theorem d_Rows_countFitting_4 : decode prog_7_method_6_code 4 = .ok (.lstore_n 3, 1) := by decide +kernel
theorem d_Rows_countFitting_5 : decode prog_7_method_6_code 5 = .ok (.iconst 0, 1) := by decide +kernel
theorem d_Rows_countFitting_6 : decode prog_7_method_6_code 6 = .ok (.istore 5, 2) := by decide +kernel
theorem d_Rows_countFitting_8 : decode prog_7_method_6_code 8 = .ok (.iconst 1, 1) := by decide +kernel
theorem d_Rows_countFitting_9 : decode prog_7_method_6_code 9 = .ok (.istore 6, 2) := by decide +kernel
theorem d_Rows_countFitting_11 : decode prog_7_method_6_code 11 = .ok (.iload 6, 2) := by decide +kernel
theorem d_Rows_countFitting_13 : decode prog_7_method_6_code 13 = .ok (.aload_n 0, 1) := by decide +kernel
theorem d_Rows_countFitting_14 : decode prog_7_method_6_code 14 = .ok (.getfield 28, 3) := by decide +kernel
theorem d_Rows_countFitting_17 : decode prog_7_method_6_code 17 = .ok (.if_icmp .ge 26, 3) := by decide +kernel
theorem d_Rows_countFitting_20 : decode prog_7_method_6_code 20 = .ok (.aload_n 0, 1) := by decide +kernel
theorem d_Rows_countFitting_21 : decode prog_7_method_6_code 21 = .ok (.getfield 21, 3) := by decide +kernel
theorem d_Rows_countFitting_24 : decode prog_7_method_6_code 24 = .ok (.iload 6, 2) := by decide +kernel
theorem d_Rows_countFitting_26 : decode prog_7_method_6_code 26 = .ok (.laload, 1) := by decide +kernel
theorem d_Rows_countFitting_27 : decode prog_7_method_6_code 27 = .ok (.lload_n 3, 1) := by decide +kernel
theorem d_Rows_countFitting_28 : decode prog_7_method_6_code 28 = .ok (.land, 1) := by decide +kernel
theorem d_Rows_countFitting_29 : decode prog_7_method_6_code 29 = .ok (.lload_n 1, 1) := by decide +kernel
theorem d_Rows_countFitting_30 : decode prog_7_method_6_code 30 = .ok (.lcmp, 1) := by decide +kernel
theorem d_Rows_countFitting_31 : decode prog_7_method_6_code 31 = .ok (.ifCond .ne 6, 3) := by decide +kernel
theorem d_Rows_countFitting_34 : decode prog_7_method_6_code 34 = .ok (.iinc 5 1, 3) := by decide +kernel
theorem d_Rows_countFitting_37 : decode prog_7_method_6_code 37 = .ok (.iinc 6 1, 3) := by decide +kernel
theorem d_Rows_countFitting_40 : decode prog_7_method_6_code 40 = .ok (.goto (-29), 3) := by decide +kernel
theorem d_Rows_countFitting_43 : decode prog_7_method_6_code 43 = .ok (.iload 5, 2) := by decide +kernel
theorem d_Rows_countFitting_45 : decode prog_7_method_6_code 45 = .ok (.ireturn, 1) := by decide +kernel
set_option maxRecDepth 20000 in
theorem jc_Rows_countFitting_37 (N : Nat) (re11 : Option Nat → Int64 → Int64 → Int32 → Int32 → Hp → Option (Int32 × Hp)) (hre11 : ∀ y0 y1 y2 y3 y4 h, J p l e R s m args below meth c prog_7_method_6_code 7 "RingingChamber$Rows" 2 46 (some .int) "countFitting" D dA B n0 s0 (QM below args s D dA B n0 s0 vI) 11 [(0, vr y0), (1, vl y1), (3, vl y2), (5, vi y3), (6, vi y4)] [] h (re11 y0 y1 y2 y3 y4 h)) (l0 : Option Nat) (l1 : Int64) (l3 : Int64) (l5 : Int32) (l6 : Int32) (h : Hp) : J p l e R s m args below meth c prog_7_method_6_code 7 "RingingChamber$Rows" 2 46 (some .int) "countFitting" D dA B n0 s0 (QM below args s D dA B n0 s0 vI) 37 [(0, vr l0), (1, vl l1), (3, vl l3), (5, vi l5), (6, vi l6)] [] h (Rows_countFitting_37 N re11 l0 l1 l3 l5 l6 h) := by
  unfold Rows_countFitting_37
  refine j_iinc (lvv := fun x1 => [(6, vi x1), (0, vr l0), (1, vl l1), (3, vl l3), (5, vi l5)]) d_Rows_countFitting_37 4 rfl rfl (by decide) (fun _ => rfl) (fun x1 => ?_)
  refine j_goto (tgt := 11) d_Rows_countFitting_40 (by decide) ?_
  exact J.sub [1, 2, 3, 4, 0] rfl (hre11 l0 l1 l3 l5 x1 h)
set_option maxRecDepth 20000 in
theorem jc_Rows_countFitting_11 (N : Nat) : ∀ (n : Nat) (l0 : Option Nat) (l1 : Int64) (l3 : Int64) (l5 : Int32) (l6 : Int32) (h : Hp), J p l e R s m args below meth c prog_7_method_6_code 7 "RingingChamber$Rows" 2 46 (some .int) "countFitting" D dA B n0 s0 (QM below args s D dA B n0 s0 vI) 11 [(0, vr l0), (1, vl l1), (3, vl l3), (5, vi l5), (6, vi l6)] [] h (Rows_countFitting_11 N n l0 l1 l3 l5 l6 h) := by
  intro n
  induction n with
  | zero => intros; exact J.none
  | succ n ih =>
    intro l0 l1 l3 l5 l6 h
    rw [Rows_countFitting_11]
    refine j_iload d_Rows_countFitting_11 4 rfl ?_
    refine j_aload_n d_Rows_countFitting_13 0 rfl rfl ?_
    refine j_getI d_Rows_countFitting_14 fl_4_28.r (fun x1 => ?_)
    refine j_icmp_ge (tgt := 43) d_Rows_countFitting_17 (by decide) ?_ ?_
    · refine j_iload d_Rows_countFitting_43 3 rfl ?_
      exact j_retI d_Rows_countFitting_45
    · refine j_aload_n d_Rows_countFitting_20 0 rfl rfl ?_
      refine j_getR d_Rows_countFitting_21 fl_4_21.r (fun x2 => ?_)
      refine j_iload d_Rows_countFitting_24 4 rfl ?_
      refine j_lald d_Rows_countFitting_26 (fun x3 => ?_)
      refine j_lload_n d_Rows_countFitting_27 2 rfl rfl ?_
      refine j_land d_Rows_countFitting_28 ?_
      refine j_lload_n d_Rows_countFitting_29 1 rfl rfl ?_
      refine j_lcmp d_Rows_countFitting_30 ?_
      refine j_if_ne (tgt := 37) d_Rows_countFitting_31 (by decide) ?_ ?_
      · refine j_iinc (lvv := fun x4 => [(5, vi x4), (0, vr l0), (1, vl l1), (3, vl l3), (6, vi l6)]) d_Rows_countFitting_34 3 rfl rfl (by decide) (fun _ => rfl) (fun x4 => ?_)
        exact J.sub [1, 2, 3, 0, 4] rfl (jc_Rows_countFitting_37 N (Rows_countFitting_11 N n) ih l0 l1 l3 x4 l6 h)
      · exact jc_Rows_countFitting_37 N (Rows_countFitting_11 N n) ih l0 l1 l3 l5 l6 h
set_option maxRecDepth 20000 in
theorem jc_Rows_countFitting (N : Nat) (l0 : Option Nat) (l1 : Int64) (h : Hp) : J p l e R s m args below meth c prog_7_method_6_code 7 "RingingChamber$Rows" 2 46 (some .int) "countFitting" D dA B n0 s0 (QM below args s D dA B n0 s0 vI) 0 [(0, vr l0), (1, vl l1)] [] h (Rows_countFitting N l0 l1 h) := by
  unfold Rows_countFitting
  refine j_lload_n d_Rows_countFitting_0 1 rfl rfl ?_
  refine j_cSL1 d_Rows_countFitting_1 sl_4_36 ks_Rows_toldDigits (ct_Rows_toldDigits N l D dA B l1 h) (by decide) (by decide) (Nat.le_of_ble_eq_true rfl) (fun x2 h1 => ?_)
  refine j_lstore_n (lv' := [(3, vl x2), (0, vr l0), (1, vl l1)]) d_Rows_countFitting_4 rfl (by decide) rfl ?_
  refine j_iconst (v := 0) d_Rows_countFitting_5 (by decide) ?_
  refine j_istore (lv' := [(5, vi 0), (3, vl x2), (0, vr l0), (1, vl l1)]) d_Rows_countFitting_6 (by decide) rfl ?_
  refine j_iconst (v := 1) d_Rows_countFitting_8 (by decide) ?_
  refine j_istore (lv' := [(6, vi 1), (5, vi 0), (3, vl x2), (0, vr l0), (1, vl l1)]) d_Rows_countFitting_9 (by decide) rfl ?_
  exact J.sub [3, 4, 2, 1, 0] rfl (jc_Rows_countFitting_11 N N l0 l1 x2 0 1 h1)
set_option maxRecDepth 20000 in
theorem ct_Rows_countFitting (N : Nat) (l : Launch) (D : va_G) (dA : Nat → ClassId) (B : Nat) (l0 : Option Nat) (l1 : Int64) (h : Hp) : Ct l (⟨"RingingChamber$Rows", "countFitting", "(J)I"⟩ : MethodName) prog_7_method_6_code 7 (some .int) 2 46 D dA B [vr l0, vl l1] h vI (Rows_countFitting N l0 l1 h) :=
  Ct.of2 (own := "RingingChamber$Rows") (nme := "countFitting") (lv := [(0, vr l0), (1, vl l1)]) rfl rfl (by decide) (Nat.le_of_ble_eq_true rfl) rfl (fun p e R s m args below meth c => jc_Rows_countFitting N l0 l1 h)
theorem d_Rows_rounds_0 : decode prog_7_method_8_code 0 = .ok (.ldc2_w 42, 3) := by decide +kernel
theorem d_Rows_rounds_3 : decode prog_7_method_8_code 3 = .ok (.lconst 1, 1) := by decide +kernel
theorem d_Rows_rounds_4 : decode prog_7_method_8_code 4 = .ok (.iconst 4, 1) := by decide +kernel
theorem d_Rows_rounds_5 : decode prog_7_method_8_code 5 = .ok (.iload_n 0, 1) := by decide +kernel
theorem d_Rows_rounds_6 : decode prog_7_method_8_code 6 = .ok (.imul, 1) := by decide +kernel
theorem d_Rows_rounds_7 : decode prog_7_method_8_code 7 = .ok (.lshl, 1) := by decide +kernel
theorem d_Rows_rounds_8 : decode prog_7_method_8_code 8 = .ok (.lconst 1, 1) := by decide +kernel
theorem d_Rows_rounds_9 : decode prog_7_method_8_code 9 = .ok (.lsub, 1) := by decide +kernel
theorem d_Rows_rounds_10 : decode prog_7_method_8_code 10 = .ok (.land, 1) := by decide +kernel
theorem d_Rows_rounds_11 : decode prog_7_method_8_code 11 = .ok (.lreturn, 1) := by decide +kernel
set_option maxRecDepth 20000 in
theorem jc_Rows_rounds (N : Nat) (l0 : Int32) (h : Hp) : J p l e R s m args below meth c prog_7_method_8_code 1 "RingingChamber$Rows" 0 0 (some .long) "rounds" D dA B n0 s0 (QM below args s D dA B n0 s0 vL) 0 [(0, vi l0)] [] h (Rows_rounds N l0 h) := by
  unfold Rows_rounds
  refine j_ldc2 d_Rows_rounds_0 ckl_4_42 ?_
  refine j_lconst (v := 1) d_Rows_rounds_3 (by decide) ?_
  refine j_iconst (v := 4) d_Rows_rounds_4 (by decide) ?_
  refine j_iload_n d_Rows_rounds_5 0 rfl rfl ?_
  refine j_imul d_Rows_rounds_6 ?_
  refine j_lshl d_Rows_rounds_7 ?_
  refine j_lconst (v := 1) d_Rows_rounds_8 (by decide) ?_
  refine j_lsub d_Rows_rounds_9 ?_
  refine j_land d_Rows_rounds_10 ?_
  exact j_retL d_Rows_rounds_11
set_option maxRecDepth 20000 in
theorem ct_Rows_rounds (N : Nat) (l : Launch) (D : va_G) (dA : Nat → ClassId) (B : Nat) (l0 : Int32) (h : Hp) : Ct l (⟨"RingingChamber$Rows", "rounds", "(I)J"⟩ : MethodName) prog_7_method_8_code 1 (some .long) 0 0 D dA B [vi l0] h vL (Rows_rounds N l0 h) :=
  Ct.of2 (own := "RingingChamber$Rows") (nme := "rounds") (lv := [(0, vi l0)]) rfl rfl (by decide) (Nat.le_of_ble_eq_true rfl) rfl (fun p e R s m args below meth c => jc_Rows_rounds N l0 h)
theorem d_Rows_isPattern_0 : decode prog_7_method_10_code 0 = .ok (.lload_n 0, 1) := by decide +kernel
theorem d_Rows_isPattern_1 : decode prog_7_method_10_code 1 = .ok (.lconst 0, 1) := by decide +kernel
theorem d_Rows_isPattern_2 : decode prog_7_method_10_code 2 = .ok (.lcmp, 1) := by decide +kernel
theorem d_Rows_isPattern_3 : decode prog_7_method_10_code 3 = .ok (.ifCond .lt 13, 3) := by decide +kernel
theorem d_Rows_isPattern_6 : decode prog_7_method_10_code 6 = .ok (.lload_n 0, 1) := by decide +kernel
theorem d_Rows_isPattern_7 : decode prog_7_method_10_code 7 = .ok (.iconst 4, 1) := by decide +kernel
theorem d_Rows_isPattern_8 : decode prog_7_method_10_code 8 = .ok (.iload_n 2, 1) := by decide +kernel
theorem d_Rows_isPattern_9 : decode prog_7_method_10_code 9 = .ok (.imul, 1) := by decide +kernel
theorem d_Rows_isPattern_10 : decode prog_7_method_10_code 10 = .ok (.lushr, 1) := by decide +kernel
theorem d_Rows_isPattern_11 : decode prog_7_method_10_code 11 = .ok (.lconst 0, 1) := by decide +kernel
theorem d_Rows_isPattern_12 : decode prog_7_method_10_code 12 = .ok (.lcmp, 1) := by decide +kernel
theorem d_Rows_isPattern_13 : decode prog_7_method_10_code 13 = .ok (.ifCond .eq 5, 3) := by decide +kernel
theorem d_Rows_isPattern_16 : decode prog_7_method_10_code 16 = .ok (.iconst 0, 1) := by decide +kernel
theorem d_Rows_isPattern_17 : decode prog_7_method_10_code 17 = .ok (.ireturn, 1) := by decide +kernel
theorem d_Rows_isPattern_18 : decode prog_7_method_10_code 18 = .ok (.iconst 0, 1) := by decide +kernel
theorem d_Rows_isPattern_19 : decode prog_7_method_10_code 19 = .ok (.istore_n 3, 1) := by decide +kernel
theorem d_Rows_isPattern_20 : decode prog_7_method_10_code 20 = .ok (.iload_n 3, 1) := by decide +kernel
theorem d_Rows_isPattern_21 : decode prog_7_method_10_code 21 = .ok (.iload_n 2, 1) := by decide +kernel
theorem d_Rows_isPattern_22 : decode prog_7_method_10_code 22 = .ok (.if_icmp .ge 20, 3) := by decide +kernel
theorem d_Rows_isPattern_25 : decode prog_7_method_10_code 25 = .ok (.lload_n 0, 1) := by decide +kernel
theorem d_Rows_isPattern_26 : decode prog_7_method_10_code 26 = .ok (.iload_n 3, 1) := by decide +kernel
theorem d_Rows_isPattern_27 : decode prog_7_method_10_code 27 = .ok (.invokestatic 44, 3) := by decide +kernel
theorem d_Rows_isPattern_30 : decode prog_7_method_10_code 30 = .ok (.iload_n 2, 1) := by decide +kernel
theorem d_Rows_isPattern_31 : decode prog_7_method_10_code 31 = .ok (.if_icmp .le 5, 3) := by decide +kernel
theorem d_Rows_isPattern_34 : decode prog_7_method_10_code 34 = .ok (.iconst 0, 1) := by decide +kernel
theorem d_Rows_isPattern_35 : decode prog_7_method_10_code 35 = .ok (.ireturn, 1) := by decide +kernel
theorem d_Rows_isPattern_36 : decode prog_7_method_10_code 36 = .ok (.iinc 3 1, 3) := by decide +kernel
theorem d_Rows_isPattern_39 : decode prog_7_method_10_code 39 = .ok (.goto (-19), 3) := by decide +kernel
theorem d_Rows_isPattern_42 : decode prog_7_method_10_code 42 = .ok (.iconst 1, 1) := by decide +kernel
theorem d_Rows_isPattern_43 : decode prog_7_method_10_code 43 = .ok (.ireturn, 1) := by decide +kernel
set_option maxRecDepth 20000 in
theorem jc_Rows_isPattern_20 (N : Nat) : ∀ (n : Nat) (l0 : Int64) (l2 : Int32) (l3 : Int32) (h : Hp), J p l e R s m args below meth c prog_7_method_10_code 4 "RingingChamber$Rows" 1 22 (some .boolean) "isPattern" D dA B n0 s0 (QM below args s D dA B n0 s0 vI) 20 [(0, vl l0), (2, vi l2), (3, vi l3)] [] h (Rows_isPattern_20 N n l0 l2 l3 h) := by
  intro n
  induction n with
  | zero => intros; exact J.none
  | succ n ih =>
    intro l0 l2 l3 h
    rw [Rows_isPattern_20]
    refine j_iload_n d_Rows_isPattern_20 2 rfl rfl ?_
    refine j_iload_n d_Rows_isPattern_21 1 rfl rfl ?_
    refine j_icmp_ge (tgt := 42) d_Rows_isPattern_22 (by decide) ?_ ?_
    · refine j_iconst (v := 1) d_Rows_isPattern_42 (by decide) ?_
      exact j_retZ d_Rows_isPattern_43
    · refine j_lload_n d_Rows_isPattern_25 0 rfl rfl ?_
      refine j_iload_n d_Rows_isPattern_26 2 rfl rfl ?_
      refine j_cSI2 d_Rows_isPattern_27 sl_4_44 ks_Rows_digit (ct_Rows_digit N l D dA B l0 l3 h) (by decide) (by decide) (Nat.le_of_ble_eq_true rfl) (fun x2 h1 => ?_)
      refine j_iload_n d_Rows_isPattern_30 1 rfl rfl ?_
      refine j_icmp_le (tgt := 36) d_Rows_isPattern_31 (by decide) ?_ ?_
      · refine j_iinc (lvv := fun x3 => [(3, vi x3), (0, vl l0), (2, vi l2)]) d_Rows_isPattern_36 2 rfl rfl (by decide) (fun _ => rfl) (fun x3 => ?_)
        refine j_goto (tgt := 20) d_Rows_isPattern_39 (by decide) ?_
        exact J.sub [1, 2, 0] rfl (ih l0 l2 x3 h1)
      · refine j_iconst (v := 0) d_Rows_isPattern_34 (by decide) ?_
        exact j_retZ d_Rows_isPattern_35
set_option maxRecDepth 20000 in
theorem jc_Rows_isPattern (N : Nat) (l0 : Int64) (l2 : Int32) (h : Hp) : J p l e R s m args below meth c prog_7_method_10_code 4 "RingingChamber$Rows" 1 22 (some .boolean) "isPattern" D dA B n0 s0 (QM below args s D dA B n0 s0 vI) 0 [(0, vl l0), (2, vi l2)] [] h (Rows_isPattern N l0 l2 h) := by
  unfold Rows_isPattern
  refine j_lload_n d_Rows_isPattern_0 0 rfl rfl ?_
  refine j_lconst (v := 0) d_Rows_isPattern_1 (by decide) ?_
  refine j_lcmp d_Rows_isPattern_2 ?_
  refine j_if_lt (tgt := 16) d_Rows_isPattern_3 (by decide) ?_ ?_
  · refine j_iconst (v := 0) d_Rows_isPattern_16 (by decide) ?_
    exact j_retZ d_Rows_isPattern_17
  · refine j_lload_n d_Rows_isPattern_6 0 rfl rfl ?_
    refine j_iconst (v := 4) d_Rows_isPattern_7 (by decide) ?_
    refine j_iload_n d_Rows_isPattern_8 1 rfl rfl ?_
    refine j_imul d_Rows_isPattern_9 ?_
    refine j_lushr d_Rows_isPattern_10 ?_
    refine j_lconst (v := 0) d_Rows_isPattern_11 (by decide) ?_
    refine j_lcmp d_Rows_isPattern_12 ?_
    refine j_if_eq (tgt := 18) d_Rows_isPattern_13 (by decide) ?_ ?_
    · refine j_iconst (v := 0) d_Rows_isPattern_18 (by decide) ?_
      refine j_istore_n (lv' := [(3, vi 0), (0, vl l0), (2, vi l2)]) d_Rows_isPattern_19 rfl (by decide) rfl ?_
      exact J.sub [1, 2, 0] rfl (jc_Rows_isPattern_20 N N l0 l2 0 h)
    · refine j_iconst (v := 0) d_Rows_isPattern_16 (by decide) ?_
      exact j_retZ d_Rows_isPattern_17
set_option maxRecDepth 20000 in
theorem ct_Rows_isPattern (N : Nat) (l : Launch) (D : va_G) (dA : Nat → ClassId) (B : Nat) (l0 : Int64) (l2 : Int32) (h : Hp) : Ct l (⟨"RingingChamber$Rows", "isPattern", "(JI)Z"⟩ : MethodName) prog_7_method_10_code 4 (some .boolean) 1 22 D dA B [vl l0, vi l2] h vI (Rows_isPattern N l0 l2 h) :=
  Ct.of2 (own := "RingingChamber$Rows") (nme := "isPattern") (lv := [(0, vl l0), (2, vi l2)]) rfl rfl (by decide) (Nat.le_of_ble_eq_true rfl) rfl (fun p e R s m args below meth c => jc_Rows_isPattern N l0 l2 h)
theorem d_Rows_isRow_0 : decode prog_7_method_11_code 0 = .ok (.lload_n 0, 1) := by decide +kernel
theorem d_Rows_isRow_1 : decode prog_7_method_11_code 1 = .ok (.iload_n 2, 1) := by decide +kernel
theorem d_Rows_isRow_2 : decode prog_7_method_11_code 2 = .ok (.invokestatic 48, 3) := by decide +kernel
theorem d_Rows_isRow_5 : decode prog_7_method_11_code 5 = .ok (.ifCond .ne 5, 3) := by decide +kernel
theorem d_Rows_isRow_8 : decode prog_7_method_11_code 8 = .ok (.iconst 0, 1) := by decide +kernel
theorem d_Rows_isRow_9 : decode prog_7_method_11_code 9 = .ok (.ireturn, 1) := by decide +kernel
theorem d_Rows_isRow_10 : decode prog_7_method_11_code 10 = .ok (.iconst 0, 1) := by decide +kernel
theorem d_Rows_isRow_11 : decode prog_7_method_11_code 11 = .ok (.istore_n 3, 1) := by decide +kernel
theorem d_Rows_isRow_12 : decode prog_7_method_11_code 12 = .ok (.iconst 0, 1) := by decide +kernel
theorem d_Rows_isRow_13 : decode prog_7_method_11_code 13 = .ok (.istore 4, 2) := by decide +kernel
theorem d_Rows_isRow_15 : decode prog_7_method_11_code 15 = .ok (.iload 4, 2) := by decide +kernel
theorem d_Rows_isRow_17 : decode prog_7_method_11_code 17 = .ok (.iload_n 2, 1) := by decide +kernel
theorem d_Rows_isRow_18 : decode prog_7_method_11_code 18 = .ok (.if_icmp .ge 20, 3) := by decide +kernel
theorem d_Rows_isRow_21 : decode prog_7_method_11_code 21 = .ok (.iload_n 3, 1) := by decide +kernel
theorem d_Rows_isRow_22 : decode prog_7_method_11_code 22 = .ok (.iconst 1, 1) := by decide +kernel
theorem d_Rows_isRow_23 : decode prog_7_method_11_code 23 = .ok (.lload_n 0, 1) := by decide +kernel
theorem d_Rows_isRow_24 : decode prog_7_method_11_code 24 = .ok (.iload 4, 2) := by decide +kernel
theorem d_Rows_isRow_26 : decode prog_7_method_11_code 26 = .ok (.invokestatic 44, 3) := by decide +kernel
theorem d_Rows_isRow_29 : decode prog_7_method_11_code 29 = .ok (.ishl, 1) := by decide +kernel
theorem d_Rows_isRow_30 : decode prog_7_method_11_code 30 = .ok (.ior, 1) := by decide +kernel
theorem d_Rows_isRow_31 : decode prog_7_method_11_code 31 = .ok (.istore_n 3, 1) := by decide +kernel
theorem d_Rows_isRow_32 : decode prog_7_method_11_code 32 = .ok (.iinc 4 1, 3) := by decide +kernel
theorem d_Rows_isRow_35 : decode prog_7_method_11_code 35 = .ok (.goto (-20), 3) := by decide +kernel
theorem d_Rows_isRow_38 : decode prog_7_method_11_code 38 = .ok (.iload_n 3, 1) := by decide +kernel
theorem d_Rows_isRow_39 : decode prog_7_method_11_code 39 = .ok (.iconst 1, 1) := by decide +kernel
theorem d_Rows_isRow_40 : decode prog_7_method_11_code 40 = .ok (.iload_n 2, 1) := by decide +kernel
theorem d_Rows_isRow_41 : decode prog_7_method_11_code 41 = .ok (.iconst 1, 1) := by decide +kernel
theorem d_Rows_isRow_42 : decode prog_7_method_11_code 42 = .ok (.iadd, 1) := by decide +kernel
theorem d_Rows_isRow_43 : decode prog_7_method_11_code 43 = .ok (.ishl, 1) := by decide +kernel
theorem d_Rows_isRow_44 : decode prog_7_method_11_code 44 = .ok (.iconst 2, 1) := by decide +kernel
theorem d_Rows_isRow_45 : decode prog_7_method_11_code 45 = .ok (.isub, 1) := by decide +kernel
theorem d_Rows_isRow_46 : decode prog_7_method_11_code 46 = .ok (.if_icmp .ne 7, 3) := by decide +kernel
theorem d_Rows_isRow_49 : decode prog_7_method_11_code 49 = .ok (.iconst 1, 1) := by decide +kernel
theorem d_Rows_isRow_50 : decode prog_7_method_11_code 50 = .ok (.goto 4, 3) := by decide +kernel
theorem d_Rows_isRow_53 : decode prog_7_method_11_code 53 = .ok (.iconst 0, 1) := by decide +kernel
theorem d_Rows_isRow_54 : decode prog_7_method_11_code 54 = .ok (.ireturn, 1) := by decide +kernel
set_option maxRecDepth 20000 in
theorem jc_Rows_isRow_15 (N : Nat) : ∀ (n : Nat) (l0 : Int64) (l2 : Int32) (l3 : Int32) (l4 : Int32) (h : Hp), J p l e R s m args below meth c prog_7_method_11_code 5 "RingingChamber$Rows" 2 45 (some .boolean) "isRow" D dA B n0 s0 (QM below args s D dA B n0 s0 vI) 15 [(0, vl l0), (2, vi l2), (3, vi l3), (4, vi l4)] [] h (Rows_isRow_15 N n l0 l2 l3 l4 h) := by
  intro n
  induction n with
  | zero => intros; exact J.none
  | succ n ih =>
    intro l0 l2 l3 l4 h
    rw [Rows_isRow_15]
    refine j_iload d_Rows_isRow_15 3 rfl ?_
    refine j_iload_n d_Rows_isRow_17 1 rfl rfl ?_
    refine j_icmp_ge (tgt := 38) d_Rows_isRow_18 (by decide) ?_ ?_
    · refine j_iload_n d_Rows_isRow_38 2 rfl rfl ?_
      refine j_iconst (v := 1) d_Rows_isRow_39 (by decide) ?_
      refine j_iload_n d_Rows_isRow_40 1 rfl rfl ?_
      refine j_iconst (v := 1) d_Rows_isRow_41 (by decide) ?_
      refine j_iadd d_Rows_isRow_42 ?_
      refine j_ishl d_Rows_isRow_43 ?_
      refine j_iconst (v := 2) d_Rows_isRow_44 (by decide) ?_
      refine j_isub d_Rows_isRow_45 ?_
      refine j_icmp_ne (tgt := 53) d_Rows_isRow_46 (by decide) ?_ ?_
      · refine j_iconst (v := 1) d_Rows_isRow_49 (by decide) ?_
        refine j_goto (tgt := 54) d_Rows_isRow_50 (by decide) ?_
        exact j_retZ d_Rows_isRow_54
      · refine j_iconst (v := 0) d_Rows_isRow_53 (by decide) ?_
        exact j_retZ d_Rows_isRow_54
    · refine j_iload_n d_Rows_isRow_21 2 rfl rfl ?_
      refine j_iconst (v := 1) d_Rows_isRow_22 (by decide) ?_
      refine j_lload_n d_Rows_isRow_23 0 rfl rfl ?_
      refine j_iload d_Rows_isRow_24 3 rfl ?_
      refine j_cSI2 d_Rows_isRow_26 sl_4_44 ks_Rows_digit (ct_Rows_digit N l D dA B l0 l4 h) (by decide) (by decide) (Nat.le_of_ble_eq_true rfl) (fun x2 h1 => ?_)
      refine j_ishl d_Rows_isRow_29 ?_
      refine j_ior d_Rows_isRow_30 ?_
      refine j_nmi (fun x3 => ?_)
      refine j_istore_n (lv' := [(3, vi x3), (0, vl l0), (2, vi l2), (4, vi l4)]) d_Rows_isRow_31 rfl (by decide) rfl ?_
      refine j_iinc (lvv := fun x4 => [(4, vi x4), (3, vi x3), (0, vl l0), (2, vi l2)]) d_Rows_isRow_32 3 rfl rfl (by decide) (fun _ => rfl) (fun x4 => ?_)
      refine j_goto (tgt := 15) d_Rows_isRow_35 (by decide) ?_
      exact J.sub [2, 3, 1, 0] rfl (ih l0 l2 x3 x4 h1)
set_option maxRecDepth 20000 in
theorem jc_Rows_isRow (N : Nat) (l0 : Int64) (l2 : Int32) (h : Hp) : J p l e R s m args below meth c prog_7_method_11_code 5 "RingingChamber$Rows" 2 45 (some .boolean) "isRow" D dA B n0 s0 (QM below args s D dA B n0 s0 vI) 0 [(0, vl l0), (2, vi l2)] [] h (Rows_isRow N l0 l2 h) := by
  unfold Rows_isRow
  refine j_lload_n d_Rows_isRow_0 0 rfl rfl ?_
  refine j_iload_n d_Rows_isRow_1 1 rfl rfl ?_
  refine j_cSI2 d_Rows_isRow_2 sl_4_48 ks_Rows_isPattern (ct_Rows_isPattern N l D dA B l0 l2 h) (by decide) (by decide) (Nat.le_of_ble_eq_true rfl) (fun x2 h1 => ?_)
  refine j_if_ne (tgt := 10) d_Rows_isRow_5 (by decide) ?_ ?_
  · refine j_iconst (v := 0) d_Rows_isRow_8 (by decide) ?_
    exact j_retZ d_Rows_isRow_9
  · refine j_iconst (v := 0) d_Rows_isRow_10 (by decide) ?_
    refine j_istore_n (lv' := [(3, vi 0), (0, vl l0), (2, vi l2)]) d_Rows_isRow_11 rfl (by decide) rfl ?_
    refine j_iconst (v := 0) d_Rows_isRow_12 (by decide) ?_
    refine j_istore (lv' := [(4, vi 0), (3, vi 0), (0, vl l0), (2, vi l2)]) d_Rows_isRow_13 (by decide) rfl ?_
    exact J.sub [2, 3, 1, 0] rfl (jc_Rows_isRow_15 N N l0 l2 0 0 h1)
set_option maxRecDepth 20000 in
theorem ct_Rows_isRow (N : Nat) (l : Launch) (D : va_G) (dA : Nat → ClassId) (B : Nat) (l0 : Int64) (l2 : Int32) (h : Hp) : Ct l (⟨"RingingChamber$Rows", "isRow", "(JI)Z"⟩ : MethodName) prog_7_method_11_code 5 (some .boolean) 2 45 D dA B [vl l0, vi l2] h vI (Rows_isRow N l0 l2 h) :=
  Ct.of2 (own := "RingingChamber$Rows") (nme := "isRow") (lv := [(0, vl l0), (2, vi l2)]) rfl rfl (by decide) (Nat.le_of_ble_eq_true rfl) rfl (fun p e R s m args below meth c => jc_Rows_isRow N l0 l2 h)
theorem d_Rows_isChange_0 : decode prog_7_method_12_code 0 = .ok (.iload_n 0, 1) := by decide +kernel
theorem d_Rows_isChange_1 : decode prog_7_method_12_code 1 = .ok (.ifCond .lt 24, 3) := by decide +kernel
theorem d_Rows_isChange_4 : decode prog_7_method_12_code 4 = .ok (.iload_n 0, 1) := by decide +kernel
theorem d_Rows_isChange_5 : decode prog_7_method_12_code 5 = .ok (.iconst 1, 1) := by decide +kernel
theorem d_Rows_isChange_6 : decode prog_7_method_12_code 6 = .ok (.iload_n 1, 1) := by decide +kernel
theorem d_Rows_isChange_7 : decode prog_7_method_12_code 7 = .ok (.iconst 1, 1) := by decide +kernel
theorem d_Rows_isChange_8 : decode prog_7_method_12_code 8 = .ok (.isub, 1) := by decide +kernel
theorem d_Rows_isChange_9 : decode prog_7_method_12_code 9 = .ok (.ishl, 1) := by decide +kernel
theorem d_Rows_isChange_10 : decode prog_7_method_12_code 10 = .ok (.if_icmp .ge 15, 3) := by decide +kernel
theorem d_Rows_isChange_13 : decode prog_7_method_12_code 13 = .ok (.iload_n 0, 1) := by decide +kernel
theorem d_Rows_isChange_14 : decode prog_7_method_12_code 14 = .ok (.iload_n 0, 1) := by decide +kernel
theorem d_Rows_isChange_15 : decode prog_7_method_12_code 15 = .ok (.iconst 1, 1) := by decide +kernel
theorem d_Rows_isChange_16 : decode prog_7_method_12_code 16 = .ok (.ishr, 1) := by decide +kernel
theorem d_Rows_isChange_17 : decode prog_7_method_12_code 17 = .ok (.iand, 1) := by decide +kernel
theorem d_Rows_isChange_18 : decode prog_7_method_12_code 18 = .ok (.ifCond .ne 7, 3) := by decide +kernel
theorem d_Rows_isChange_21 : decode prog_7_method_12_code 21 = .ok (.iconst 1, 1) := by decide +kernel
theorem d_Rows_isChange_22 : decode prog_7_method_12_code 22 = .ok (.goto 4, 3) := by decide +kernel
theorem d_Rows_isChange_25 : decode prog_7_method_12_code 25 = .ok (.iconst 0, 1) := by decide +kernel
theorem d_Rows_isChange_26 : decode prog_7_method_12_code 26 = .ok (.ireturn, 1) := by decide +kernel
set_option maxRecDepth 20000 in
theorem jc_Rows_isChange (N : Nat) (l0 : Int32) (l1 : Int32) (h : Hp) : J p l e R s m args below meth c prog_7_method_12_code 2 "RingingChamber$Rows" 0 0 (some .boolean) "isChange" D dA B n0 s0 (QM below args s D dA B n0 s0 vI) 0 [(0, vi l0), (1, vi l1)] [] h (Rows_isChange N l0 l1 h) := by
  unfold Rows_isChange
  refine j_iload_n d_Rows_isChange_0 0 rfl rfl ?_
  refine j_if_lt (tgt := 25) d_Rows_isChange_1 (by decide) ?_ ?_
  · refine j_iconst (v := 0) d_Rows_isChange_25 (by decide) ?_
    exact j_retZ d_Rows_isChange_26
  · refine j_iload_n d_Rows_isChange_4 0 rfl rfl ?_
    refine j_iconst (v := 1) d_Rows_isChange_5 (by decide) ?_
    refine j_iload_n d_Rows_isChange_6 1 rfl rfl ?_
    refine j_iconst (v := 1) d_Rows_isChange_7 (by decide) ?_
    refine j_isub d_Rows_isChange_8 ?_
    refine j_ishl d_Rows_isChange_9 ?_
    refine j_icmp_ge (tgt := 25) d_Rows_isChange_10 (by decide) ?_ ?_
    · refine j_iconst (v := 0) d_Rows_isChange_25 (by decide) ?_
      exact j_retZ d_Rows_isChange_26
    · refine j_iload_n d_Rows_isChange_13 0 rfl rfl ?_
      refine j_iload_n d_Rows_isChange_14 0 rfl rfl ?_
      refine j_iconst (v := 1) d_Rows_isChange_15 (by decide) ?_
      refine j_ishr d_Rows_isChange_16 ?_
      refine j_iand d_Rows_isChange_17 ?_
      refine j_if_ne (tgt := 25) d_Rows_isChange_18 (by decide) ?_ ?_
      · refine j_iconst (v := 1) d_Rows_isChange_21 (by decide) ?_
        refine j_goto (tgt := 26) d_Rows_isChange_22 (by decide) ?_
        exact j_retZ d_Rows_isChange_26
      · refine j_iconst (v := 0) d_Rows_isChange_25 (by decide) ?_
        exact j_retZ d_Rows_isChange_26
set_option maxRecDepth 20000 in
theorem ct_Rows_isChange (N : Nat) (l : Launch) (D : va_G) (dA : Nat → ClassId) (B : Nat) (l0 : Int32) (l1 : Int32) (h : Hp) : Ct l (⟨"RingingChamber$Rows", "isChange", "(II)Z"⟩ : MethodName) prog_7_method_12_code 2 (some .boolean) 0 0 D dA B [vi l0, vi l1] h vI (Rows_isChange N l0 l1 h) :=
  Ct.of2 (own := "RingingChamber$Rows") (nme := "isChange") (lv := [(0, vi l0), (1, vi l1)]) rfl rfl (by decide) (Nat.le_of_ble_eq_true rfl) rfl (fun p e R s m args below meth c => jc_Rows_isChange N l0 l1 h)
theorem d_Jk_bitCount_0 : decode prog_16_method_49_code 0 = .ok (.iload_n 0, 1) := by decide +kernel
theorem d_Jk_bitCount_1 : decode prog_16_method_49_code 1 = .ok (.iload_n 0, 1) := by decide +kernel
theorem d_Jk_bitCount_2 : decode prog_16_method_49_code 2 = .ok (.iconst 1, 1) := by decide +kernel
theorem d_Jk_bitCount_3 : decode prog_16_method_49_code 3 = .ok (.iushr, 1) := by decide +kernel
theorem d_Jk_bitCount_4 : decode prog_16_method_49_code 4 = .ok (.ldc_w 265, 3) := by decide +kernel
theorem d_Jk_bitCount_7 : decode prog_16_method_49_code 7 = .ok (.iand, 1) := by decide +kernel
theorem d_Jk_bitCount_8 : decode prog_16_method_49_code 8 = .ok (.isub, 1) := by decide +kernel
theorem d_Jk_bitCount_9 : decode prog_16_method_49_code 9 = .ok (.istore_n 0, 1) := by decide +kernel
theorem d_Jk_bitCount_10 : decode prog_16_method_49_code 10 = .ok (.iload_n 0, 1) := by decide +kernel
theorem d_Jk_bitCount_11 : decode prog_16_method_49_code 11 = .ok (.ldc_w 266, 3) := by decide +kernel
theorem d_Jk_bitCount_14 : decode prog_16_method_49_code 14 = .ok (.iand, 1) := by decide +kernel
theorem d_Jk_bitCount_15 : decode prog_16_method_49_code 15 = .ok (.iload_n 0, 1) := by decide +kernel
theorem d_Jk_bitCount_16 : decode prog_16_method_49_code 16 = .ok (.iconst 2, 1) := by decide +kernel
theorem d_Jk_bitCount_17 : decode prog_16_method_49_code 17 = .ok (.iushr, 1) := by decide +kernel
theorem d_Jk_bitCount_18 : decode prog_16_method_49_code 18 = .ok (.ldc_w 266, 3) := by decide +kernel
theorem d_Jk_bitCount_21 : decode prog_16_method_49_code 21 = .ok (.iand, 1) := by decide +kernel
theorem d_Jk_bitCount_22 : decode prog_16_method_49_code 22 = .ok (.iadd, 1) := by decide +kernel
theorem d_Jk_bitCount_23 : decode prog_16_method_49_code 23 = .ok (.istore_n 0, 1) := by decide +kernel
theorem d_Jk_bitCount_24 : decode prog_16_method_49_code 24 = .ok (.iload_n 0, 1) := by decide +kernel
theorem d_Jk_bitCount_25 : decode prog_16_method_49_code 25 = .ok (.iload_n 0, 1) := by decide +kernel
theorem d_Jk_bitCount_26 : decode prog_16_method_49_code 26 = .ok (.iconst 4, 1) := by decide +kernel
theorem d_Jk_bitCount_27 : decode prog_16_method_49_code 27 = .ok (.iushr, 1) := by decide +kernel
theorem d_Jk_bitCount_28 : decode prog_16_method_49_code 28 = .ok (.iadd, 1) := by decide +kernel
theorem d_Jk_bitCount_29 : decode prog_16_method_49_code 29 = .ok (.ldc_w 267, 3) := by decide +kernel
theorem d_Jk_bitCount_32 : decode prog_16_method_49_code 32 = .ok (.iand, 1) := by decide +kernel
theorem d_Jk_bitCount_33 : decode prog_16_method_49_code 33 = .ok (.istore_n 0, 1) := by decide +kernel
theorem d_Jk_bitCount_34 : decode prog_16_method_49_code 34 = .ok (.iload_n 0, 1) := by decide +kernel
theorem d_Jk_bitCount_35 : decode prog_16_method_49_code 35 = .ok (.iload_n 0, 1) := by decide +kernel
theorem d_Jk_bitCount_36 : decode prog_16_method_49_code 36 = .ok (.bipush 8, 2) := by decide +kernel
theorem d_Jk_bitCount_38 : decode prog_16_method_49_code 38 = .ok (.iushr, 1) := by decide +kernel
theorem d_Jk_bitCount_39 : decode prog_16_method_49_code 39 = .ok (.iadd, 1) := by decide +kernel
theorem d_Jk_bitCount_40 : decode prog_16_method_49_code 40 = .ok (.istore_n 0, 1) := by decide +kernel
theorem d_Jk_bitCount_41 : decode prog_16_method_49_code 41 = .ok (.iload_n 0, 1) := by decide +kernel
theorem d_Jk_bitCount_42 : decode prog_16_method_49_code 42 = .ok (.iload_n 0, 1) := by decide +kernel
theorem d_Jk_bitCount_43 : decode prog_16_method_49_code 43 = .ok (.bipush 16, 2) := by decide +kernel
theorem d_Jk_bitCount_45 : decode prog_16_method_49_code 45 = .ok (.iushr, 1) := by decide +kernel
theorem d_Jk_bitCount_46 : decode prog_16_method_49_code 46 = .ok (.iadd, 1) := by decide +kernel
theorem d_Jk_bitCount_47 : decode prog_16_method_49_code 47 = .ok (.istore_n 0, 1) := by decide +kernel
theorem d_Jk_bitCount_48 : decode prog_16_method_49_code 48 = .ok (.iload_n 0, 1) := by decide +kernel
theorem d_Jk_bitCount_49 : decode prog_16_method_49_code 49 = .ok (.bipush 63, 2) := by decide +kernel
theorem d_Jk_bitCount_51 : decode prog_16_method_49_code 51 = .ok (.iand, 1) := by decide +kernel
theorem d_Jk_bitCount_52 : decode prog_16_method_49_code 52 = .ok (.ireturn, 1) := by decide +kernel
set_option maxRecDepth 20000 in
theorem jc_Jk_bitCount (N : Nat) (l0 : Int32) (h : Hp) : J p l e R s m args below meth c prog_16_method_49_code 1 "java/lang/Integer" 0 0 (some .int) "bitCount" D dA B n0 s0 (QM below args s D dA B n0 s0 vI) 0 [(0, vi l0)] [] h (Jk_bitCount N l0 h) := by
  unfold Jk_bitCount
  refine j_iload_n d_Jk_bitCount_0 0 rfl rfl ?_
  refine j_iload_n d_Jk_bitCount_1 0 rfl rfl ?_
  refine j_iconst (v := 1) d_Jk_bitCount_2 (by decide) ?_
  refine j_iushr d_Jk_bitCount_3 ?_
  refine j_ldcw d_Jk_bitCount_4 ck_J_265_Int ?_
  refine j_iand d_Jk_bitCount_7 ?_
  refine j_isub d_Jk_bitCount_8 ?_
  refine j_nmi (fun x1 => ?_)
  refine j_istore_n (lv' := [(0, vi x1)]) d_Jk_bitCount_9 rfl (by decide) rfl ?_
  refine j_iload_n d_Jk_bitCount_10 0 rfl rfl ?_
  refine j_ldcw d_Jk_bitCount_11 ck_J_266_Int ?_
  refine j_iand d_Jk_bitCount_14 ?_
  refine j_iload_n d_Jk_bitCount_15 0 rfl rfl ?_
  refine j_iconst (v := 2) d_Jk_bitCount_16 (by decide) ?_
  refine j_iushr d_Jk_bitCount_17 ?_
  refine j_ldcw d_Jk_bitCount_18 ck_J_266_Int ?_
  refine j_iand d_Jk_bitCount_21 ?_
  refine j_iadd d_Jk_bitCount_22 ?_
  refine j_nmi (fun x2 => ?_)
  refine j_istore_n (lv' := [(0, vi x2)]) d_Jk_bitCount_23 rfl (by decide) rfl ?_
  refine j_iload_n d_Jk_bitCount_24 0 rfl rfl ?_
  refine j_iload_n d_Jk_bitCount_25 0 rfl rfl ?_
  refine j_iconst (v := 4) d_Jk_bitCount_26 (by decide) ?_
  refine j_iushr d_Jk_bitCount_27 ?_
  refine j_iadd d_Jk_bitCount_28 ?_
  refine j_ldcw d_Jk_bitCount_29 ck_J_267_Int ?_
  refine j_iand d_Jk_bitCount_32 ?_
  refine j_nmi (fun x3 => ?_)
  refine j_istore_n (lv' := [(0, vi x3)]) d_Jk_bitCount_33 rfl (by decide) rfl ?_
  refine j_iload_n d_Jk_bitCount_34 0 rfl rfl ?_
  refine j_iload_n d_Jk_bitCount_35 0 rfl rfl ?_
  refine j_bipush (v := 8) d_Jk_bitCount_36 (by decide) ?_
  refine j_iushr d_Jk_bitCount_38 ?_
  refine j_iadd d_Jk_bitCount_39 ?_
  refine j_nmi (fun x4 => ?_)
  refine j_istore_n (lv' := [(0, vi x4)]) d_Jk_bitCount_40 rfl (by decide) rfl ?_
  refine j_iload_n d_Jk_bitCount_41 0 rfl rfl ?_
  refine j_iload_n d_Jk_bitCount_42 0 rfl rfl ?_
  refine j_bipush (v := 16) d_Jk_bitCount_43 (by decide) ?_
  refine j_iushr d_Jk_bitCount_45 ?_
  refine j_iadd d_Jk_bitCount_46 ?_
  refine j_nmi (fun x5 => ?_)
  refine j_istore_n (lv' := [(0, vi x5)]) d_Jk_bitCount_47 rfl (by decide) rfl ?_
  refine j_iload_n d_Jk_bitCount_48 0 rfl rfl ?_
  refine j_bipush (v := 63) d_Jk_bitCount_49 (by decide) ?_
  refine j_iand d_Jk_bitCount_51 ?_
  exact j_retI d_Jk_bitCount_52
set_option maxRecDepth 20000 in
theorem ct_Jk_bitCount (N : Nat) (l : Launch) (D : va_G) (dA : Nat → ClassId) (B : Nat) (l0 : Int32) (h : Hp) : Ct l (⟨"java/lang/Integer", "bitCount", "(I)I"⟩ : MethodName) prog_16_method_49_code 1 (some .int) 0 0 D dA B [vi l0] h vI (Jk_bitCount N l0 h) :=
  Ct.of2 (own := "java/lang/Integer") (nme := "bitCount") (lv := [(0, vi l0)]) rfl rfl (by decide) (Nat.le_of_ble_eq_true rfl) rfl (fun p e R s m args below meth c => jc_Jk_bitCount N l0 h)
theorem d_Rows_numberOf_0 : decode prog_7_method_15_code 0 = .ok (.iconst 0, 1) := by decide +kernel
theorem d_Rows_numberOf_1 : decode prog_7_method_15_code 1 = .ok (.istore_n 3, 1) := by decide +kernel
theorem d_Rows_numberOf_2 : decode prog_7_method_15_code 2 = .ok (.iconst 1, 1) := by decide +kernel
theorem d_Rows_numberOf_3 : decode prog_7_method_15_code 3 = .ok (.iload_n 2, 1) := by decide +kernel
theorem d_Rows_numberOf_4 : decode prog_7_method_15_code 4 = .ok (.iconst 1, 1) := by decide +kernel
theorem d_Rows_numberOf_5 : decode prog_7_method_15_code 5 = .ok (.iadd, 1) := by decide +kernel
theorem d_Rows_numberOf_6 : decode prog_7_method_15_code 6 = .ok (.ishl, 1) := by decide +kernel
theorem d_Rows_numberOf_7 : decode prog_7_method_15_code 7 = .ok (.iconst 2, 1) := by decide +kernel
theorem d_Rows_numberOf_8 : decode prog_7_method_15_code 8 = .ok (.isub, 1) := by decide +kernel
theorem d_Rows_numberOf_9 : decode prog_7_method_15_code 9 = .ok (.istore 4, 2) := by decide +kernel
theorem d_Rows_numberOf_11 : decode prog_7_method_15_code 11 = .ok (.iconst 0, 1) := by decide +kernel
theorem d_Rows_numberOf_12 : decode prog_7_method_15_code 12 = .ok (.istore 5, 2) := by decide +kernel
theorem d_Rows_numberOf_14 : decode prog_7_method_15_code 14 = .ok (.iload 5, 2) := by decide +kernel
theorem d_Rows_numberOf_16 : decode prog_7_method_15_code 16 = .ok (.iload_n 2, 1) := by decide +kernel
theorem d_Rows_numberOf_17 : decode prog_7_method_15_code 17 = .ok (.if_icmp .ge 46, 3) := by decide +kernel
theorem d_Rows_numberOf_20 : decode prog_7_method_15_code 20 = .ok (.iconst 1, 1) := by decide +kernel
theorem d_Rows_numberOf_21 : decode prog_7_method_15_code 21 = .ok (.lload_n 0, 1) := by decide +kernel
theorem d_Rows_numberOf_22 : decode prog_7_method_15_code 22 = .ok (.iload 5, 2) := by decide +kernel
theorem d_Rows_numberOf_24 : decode prog_7_method_15_code 24 = .ok (.invokestatic 44, 3) := by decide +kernel
theorem d_Rows_numberOf_27 : decode prog_7_method_15_code 27 = .ok (.ishl, 1) := by decide +kernel
theorem d_Rows_numberOf_28 : decode prog_7_method_15_code 28 = .ok (.istore 6, 2) := by decide +kernel
theorem d_Rows_numberOf_30 : decode prog_7_method_15_code 30 = .ok (.iload 4, 2) := by decide +kernel
theorem d_Rows_numberOf_32 : decode prog_7_method_15_code 32 = .ok (.iload 6, 2) := by decide +kernel
theorem d_Rows_numberOf_34 : decode prog_7_method_15_code 34 = .ok (.iconst (-1), 1) := by decide +kernel
theorem d_Rows_numberOf_35 : decode prog_7_method_15_code 35 = .ok (.ixor, 1) := by decide +kernel
theorem d_Rows_numberOf_36 : decode prog_7_method_15_code 36 = .ok (.iand, 1) := by decide +kernel
theorem d_Rows_numberOf_37 : decode prog_7_method_15_code 37 = .ok (.istore 4, 2) := by decide +kernel
theorem d_Rows_numberOf_39 : decode prog_7_method_15_code 39 = .ok (.iload_n 3, 1) := by decide +kernel
theorem d_Rows_numberOf_40 : decode prog_7_method_15_code 40 = .ok (.iload_n 2, 1) := by decide +kernel
theorem d_Rows_numberOf_41 : decode prog_7_method_15_code 41 = .ok (.iload 5, 2) := by decide +kernel
theorem d_Rows_numberOf_43 : decode prog_7_method_15_code 43 = .ok (.isub, 1) := by decide +kernel
theorem d_Rows_numberOf_44 : decode prog_7_method_15_code 44 = .ok (.imul, 1) := by decide +kernel
theorem d_Rows_numberOf_45 : decode prog_7_method_15_code 45 = .ok (.iload 4, 2) := by decide +kernel
theorem d_Rows_numberOf_47 : decode prog_7_method_15_code 47 = .ok (.iload 6, 2) := by decide +kernel
theorem d_Rows_numberOf_49 : decode prog_7_method_15_code 49 = .ok (.iconst 1, 1) := by decide +kernel
theorem d_Rows_numberOf_50 : decode prog_7_method_15_code 50 = .ok (.isub, 1) := by decide +kernel
theorem d_Rows_numberOf_51 : decode prog_7_method_15_code 51 = .ok (.iand, 1) := by decide +kernel
theorem d_Rows_numberOf_52 : decode prog_7_method_15_code 52 = .ok (.invokestatic 54, 3) := by decide +kernel
theorem d_Rows_numberOf_55 : decode prog_7_method_15_code 55 = .ok (.iadd, 1) := by decide +kernel
theorem d_Rows_numberOf_56 : decode prog_7_method_15_code 56 = .ok (.istore_n 3, 1) := by decide +kernel
theorem d_Rows_numberOf_57 : decode prog_7_method_15_code 57 = .ok (.iinc 5 1, 3) := by decide +kernel
theorem d_Rows_numberOf_60 : decode prog_7_method_15_code 60 = .ok (.goto (-46), 3) := by decide +kernel
theorem d_Rows_numberOf_63 : decode prog_7_method_15_code 63 = .ok (.iload_n 3, 1) := by decide +kernel
theorem d_Rows_numberOf_64 : decode prog_7_method_15_code 64 = .ok (.ireturn, 1) := by decide +kernel
set_option maxRecDepth 20000 in
theorem jc_Rows_numberOf_14 (N : Nat) : ∀ (n : Nat) (l0 : Int64) (l2 : Int32) (l3 : Int32) (l4 : Int32) (l5 : Int32) (h : Hp), J p l e R s m args below meth c prog_7_method_15_code 7 "RingingChamber$Rows" 1 22 (some .int) "numberOf" D dA B n0 s0 (QM below args s D dA B n0 s0 vI) 14 [(0, vl l0), (2, vi l2), (3, vi l3), (4, vi l4), (5, vi l5)] [] h (Rows_numberOf_14 N n l0 l2 l3 l4 l5 h) := by
  intro n
  induction n with
  | zero => intros; exact J.none
  | succ n ih =>
    intro l0 l2 l3 l4 l5 h
    rw [Rows_numberOf_14]
    refine j_iload d_Rows_numberOf_14 4 rfl ?_
    refine j_iload_n d_Rows_numberOf_16 1 rfl rfl ?_
    refine j_icmp_ge (tgt := 63) d_Rows_numberOf_17 (by decide) ?_ ?_
    · refine j_iload_n d_Rows_numberOf_63 2 rfl rfl ?_
      exact j_retI d_Rows_numberOf_64
    · refine j_iconst (v := 1) d_Rows_numberOf_20 (by decide) ?_
      refine j_lload_n d_Rows_numberOf_21 0 rfl rfl ?_
      refine j_iload d_Rows_numberOf_22 4 rfl ?_
      refine j_cSI2 d_Rows_numberOf_24 sl_4_44 ks_Rows_digit (ct_Rows_digit N l D dA B l0 l5 h) (by decide) (by decide) (Nat.le_of_ble_eq_true rfl) (fun x2 h1 => ?_)
      refine j_ishl d_Rows_numberOf_27 ?_
      refine j_nmi (fun x3 => ?_)
      refine j_istore (lv' := [(6, vi x3), (0, vl l0), (2, vi l2), (3, vi l3), (4, vi l4), (5, vi l5)]) d_Rows_numberOf_28 (by decide) rfl ?_
      refine j_iload d_Rows_numberOf_30 4 rfl ?_
      refine j_iload d_Rows_numberOf_32 0 rfl ?_
      refine j_iconst (v := -1) d_Rows_numberOf_34 (by decide) ?_
      refine j_ixor d_Rows_numberOf_35 ?_
      refine j_iand d_Rows_numberOf_36 ?_
      refine j_nmi (fun x4 => ?_)
      refine j_istore (lv' := [(4, vi x4), (6, vi x3), (0, vl l0), (2, vi l2), (3, vi l3), (5, vi l5)]) d_Rows_numberOf_37 (by decide) rfl ?_
      refine j_iload_n d_Rows_numberOf_39 4 rfl rfl ?_
      refine j_iload_n d_Rows_numberOf_40 3 rfl rfl ?_
      refine j_iload d_Rows_numberOf_41 5 rfl ?_
      refine j_isub d_Rows_numberOf_43 ?_
      refine j_imul d_Rows_numberOf_44 ?_
      refine j_iload d_Rows_numberOf_45 0 rfl ?_
      refine j_iload d_Rows_numberOf_47 1 rfl ?_
      refine j_iconst (v := 1) d_Rows_numberOf_49 (by decide) ?_
      refine j_isub d_Rows_numberOf_50 ?_
      refine j_iand d_Rows_numberOf_51 ?_
      refine j_cSI1 d_Rows_numberOf_52 sl_4_54 ks_Jk_bitCount (ct_Jk_bitCount N l D dA B (x4 &&& (x3 - (1 : Int32))) h1) (by decide) (by decide) (Nat.le_of_ble_eq_true rfl) (fun x6 h5 => ?_)
      refine j_iadd d_Rows_numberOf_55 ?_
      refine j_nmi (fun x7 => ?_)
      refine j_istore_n (lv' := [(3, vi x7), (4, vi x4), (6, vi x3), (0, vl l0), (2, vi l2), (5, vi l5)]) d_Rows_numberOf_56 rfl (by decide) rfl ?_
      refine j_iinc (lvv := fun x8 => [(5, vi x8), (3, vi x7), (4, vi x4), (6, vi x3), (0, vl l0), (2, vi l2)]) d_Rows_numberOf_57 5 rfl rfl (by decide) (fun _ => rfl) (fun x8 => ?_)
      refine j_goto (tgt := 14) d_Rows_numberOf_60 (by decide) ?_
      exact J.sub [4, 5, 1, 2, 0] rfl (ih l0 l2 x7 x4 x8 h5)
set_option maxRecDepth 20000 in
theorem jc_Rows_numberOf (N : Nat) (l0 : Int64) (l2 : Int32) (h : Hp) : J p l e R s m args below meth c prog_7_method_15_code 7 "RingingChamber$Rows" 1 22 (some .int) "numberOf" D dA B n0 s0 (QM below args s D dA B n0 s0 vI) 0 [(0, vl l0), (2, vi l2)] [] h (Rows_numberOf N l0 l2 h) := by
  unfold Rows_numberOf
  refine j_iconst (v := 0) d_Rows_numberOf_0 (by decide) ?_
  refine j_istore_n (lv' := [(3, vi 0), (0, vl l0), (2, vi l2)]) d_Rows_numberOf_1 rfl (by decide) rfl ?_
  refine j_iconst (v := 1) d_Rows_numberOf_2 (by decide) ?_
  refine j_iload_n d_Rows_numberOf_3 2 rfl rfl ?_
  refine j_iconst (v := 1) d_Rows_numberOf_4 (by decide) ?_
  refine j_iadd d_Rows_numberOf_5 ?_
  refine j_ishl d_Rows_numberOf_6 ?_
  refine j_iconst (v := 2) d_Rows_numberOf_7 (by decide) ?_
  refine j_isub d_Rows_numberOf_8 ?_
  refine j_nmi (fun x1 => ?_)
  refine j_istore (lv' := [(4, vi x1), (3, vi 0), (0, vl l0), (2, vi l2)]) d_Rows_numberOf_9 (by decide) rfl ?_
  refine j_iconst (v := 0) d_Rows_numberOf_11 (by decide) ?_
  refine j_istore (lv' := [(5, vi 0), (4, vi x1), (3, vi 0), (0, vl l0), (2, vi l2)]) d_Rows_numberOf_12 (by decide) rfl ?_
  exact J.sub [3, 4, 2, 1, 0] rfl (jc_Rows_numberOf_14 N N l0 l2 0 x1 0 h)
set_option maxRecDepth 20000 in
theorem ct_Rows_numberOf (N : Nat) (l : Launch) (D : va_G) (dA : Nat → ClassId) (B : Nat) (l0 : Int64) (l2 : Int32) (h : Hp) : Ct l (⟨"RingingChamber$Rows", "numberOf", "(JI)I"⟩ : MethodName) prog_7_method_15_code 7 (some .int) 1 22 D dA B [vl l0, vi l2] h vI (Rows_numberOf N l0 l2 h) :=
  Ct.of2 (own := "RingingChamber$Rows") (nme := "numberOf") (lv := [(0, vl l0), (2, vi l2)]) rfl rfl (by decide) (Nat.le_of_ble_eq_true rfl) rfl (fun p e R s m args below meth c => jc_Rows_numberOf N l0 l2 h)
theorem d_Rows_bellLeft_0 : decode prog_7_method_18_code 0 = .ok (.iload_n 1, 1) := by decide +kernel
theorem d_Rows_bellLeft_1 : decode prog_7_method_18_code 1 = .ok (.istore_n 2, 1) := by decide +kernel
theorem d_Rows_bellLeft_2 : decode prog_7_method_18_code 2 = .ok (.iconst 1, 1) := by decide +kernel
theorem d_Rows_bellLeft_3 : decode prog_7_method_18_code 3 = .ok (.istore_n 3, 1) := by decide +kernel
theorem d_Rows_bellLeft_4 : decode prog_7_method_18_code 4 = .ok (.iload_n 3, 1) := by decide +kernel
theorem d_Rows_bellLeft_5 : decode prog_7_method_18_code 5 = .ok (.bipush 12, 2) := by decide +kernel
theorem d_Rows_bellLeft_7 : decode prog_7_method_18_code 7 = .ok (.if_icmp .gt 26, 3) := by decide +kernel
theorem d_Rows_bellLeft_10 : decode prog_7_method_18_code 10 = .ok (.iload_n 0, 1) := by decide +kernel
theorem d_Rows_bellLeft_11 : decode prog_7_method_18_code 11 = .ok (.iload_n 3, 1) := by decide +kernel
theorem d_Rows_bellLeft_12 : decode prog_7_method_18_code 12 = .ok (.ishr, 1) := by decide +kernel
theorem d_Rows_bellLeft_13 : decode prog_7_method_18_code 13 = .ok (.iconst 1, 1) := by decide +kernel
theorem d_Rows_bellLeft_14 : decode prog_7_method_18_code 14 = .ok (.iand, 1) := by decide +kernel
theorem d_Rows_bellLeft_15 : decode prog_7_method_18_code 15 = .ok (.ifCond .eq 12, 3) := by decide +kernel
theorem d_Rows_bellLeft_18 : decode prog_7_method_18_code 18 = .ok (.iload_n 2, 1) := by decide +kernel
theorem d_Rows_bellLeft_19 : decode prog_7_method_18_code 19 = .ok (.ifCond .ne 5, 3) := by decide +kernel
theorem d_Rows_bellLeft_22 : decode prog_7_method_18_code 22 = .ok (.iload_n 3, 1) := by decide +kernel
theorem d_Rows_bellLeft_23 : decode prog_7_method_18_code 23 = .ok (.ireturn, 1) := by decide +kernel
theorem d_Rows_bellLeft_24 : decode prog_7_method_18_code 24 = .ok (.iinc 2 (-1), 3) := by decide +kernel
theorem d_Rows_bellLeft_27 : decode prog_7_method_18_code 27 = .ok (.iinc 3 1, 3) := by decide +kernel
theorem d_Rows_bellLeft_30 : decode prog_7_method_18_code 30 = .ok (.goto (-26), 3) := by decide +kernel
theorem d_Rows_bellLeft_33 : decode prog_7_method_18_code 33 = .ok (.iconst 0, 1) := by decide +kernel
theorem d_Rows_bellLeft_34 : decode prog_7_method_18_code 34 = .ok (.ireturn, 1) := by decide +kernel
set_option maxRecDepth 20000 in
theorem jc_Rows_bellLeft_27 (N : Nat) (re4 : Int32 → Int32 → Int32 → Hp → Option (Int32 × Hp)) (hre4 : ∀ y0 y1 y2 h, J p l e R s m args below meth c prog_7_method_18_code 4 "RingingChamber$Rows" 0 0 (some .int) "bellLeft" D dA B n0 s0 (QM below args s D dA B n0 s0 vI) 4 [(0, vi y0), (2, vi y1), (3, vi y2)] [] h (re4 y0 y1 y2 h)) (l0 : Int32) (l2 : Int32) (l3 : Int32) (h : Hp) : J p l e R s m args below meth c prog_7_method_18_code 4 "RingingChamber$Rows" 0 0 (some .int) "bellLeft" D dA B n0 s0 (QM below args s D dA B n0 s0 vI) 27 [(0, vi l0), (2, vi l2), (3, vi l3)] [] h (Rows_bellLeft_27 N re4 l0 l2 l3 h) := by
  unfold Rows_bellLeft_27
  refine j_iinc (lvv := fun x1 => [(3, vi x1), (0, vi l0), (2, vi l2)]) d_Rows_bellLeft_27 2 rfl rfl (by decide) (fun _ => rfl) (fun x1 => ?_)
  refine j_goto (tgt := 4) d_Rows_bellLeft_30 (by decide) ?_
  exact J.sub [1, 2, 0] rfl (hre4 l0 l2 x1 h)
set_option maxRecDepth 20000 in
theorem jc_Rows_bellLeft_4 (N : Nat) : ∀ (n : Nat) (l0 : Int32) (l2 : Int32) (l3 : Int32) (h : Hp), J p l e R s m args below meth c prog_7_method_18_code 4 "RingingChamber$Rows" 0 0 (some .int) "bellLeft" D dA B n0 s0 (QM below args s D dA B n0 s0 vI) 4 [(0, vi l0), (2, vi l2), (3, vi l3)] [] h (Rows_bellLeft_4 N n l0 l2 l3 h) := by
  intro n
  induction n with
  | zero => intros; exact J.none
  | succ n ih =>
    intro l0 l2 l3 h
    rw [Rows_bellLeft_4]
    refine j_iload_n d_Rows_bellLeft_4 2 rfl rfl ?_
    refine j_bipush (v := 12) d_Rows_bellLeft_5 (by decide) ?_
    refine j_icmp_gt (tgt := 33) d_Rows_bellLeft_7 (by decide) ?_ ?_
    · refine j_iconst (v := 0) d_Rows_bellLeft_33 (by decide) ?_
      exact j_retI d_Rows_bellLeft_34
    · refine j_iload_n d_Rows_bellLeft_10 0 rfl rfl ?_
      refine j_iload_n d_Rows_bellLeft_11 2 rfl rfl ?_
      refine j_ishr d_Rows_bellLeft_12 ?_
      refine j_iconst (v := 1) d_Rows_bellLeft_13 (by decide) ?_
      refine j_iand d_Rows_bellLeft_14 ?_
      refine j_if_eq (tgt := 27) d_Rows_bellLeft_15 (by decide) ?_ ?_
      · exact jc_Rows_bellLeft_27 N (Rows_bellLeft_4 N n) ih l0 l2 l3 h
      · refine j_iload_n d_Rows_bellLeft_18 1 rfl rfl ?_
        refine j_if_ne (tgt := 24) d_Rows_bellLeft_19 (by decide) ?_ ?_
        · refine j_iload_n d_Rows_bellLeft_22 2 rfl rfl ?_
          exact j_retI d_Rows_bellLeft_23
        · refine j_iinc (lvv := fun x1 => [(2, vi x1), (0, vi l0), (3, vi l3)]) d_Rows_bellLeft_24 1 rfl rfl (by decide) (fun _ => rfl) (fun x1 => ?_)
          exact J.sub [1, 0, 2] rfl (jc_Rows_bellLeft_27 N (Rows_bellLeft_4 N n) ih l0 x1 l3 h)
set_option maxRecDepth 20000 in
theorem jc_Rows_bellLeft (N : Nat) (l0 : Int32) (l1 : Int32) (h : Hp) : J p l e R s m args below meth c prog_7_method_18_code 4 "RingingChamber$Rows" 0 0 (some .int) "bellLeft" D dA B n0 s0 (QM below args s D dA B n0 s0 vI) 0 [(0, vi l0), (1, vi l1)] [] h (Rows_bellLeft N l0 l1 h) := by
  unfold Rows_bellLeft
  refine j_iload_n d_Rows_bellLeft_0 1 rfl rfl ?_
  refine j_istore_n (lv' := [(2, vi l1), (0, vi l0), (1, vi l1)]) d_Rows_bellLeft_1 rfl (by decide) rfl ?_
  refine j_iconst (v := 1) d_Rows_bellLeft_2 (by decide) ?_
  refine j_istore_n (lv' := [(3, vi 1), (2, vi l1), (0, vi l0), (1, vi l1)]) d_Rows_bellLeft_3 rfl (by decide) rfl ?_
  exact J.sub [2, 1, 0] rfl (jc_Rows_bellLeft_4 N N l0 l1 1 h)
set_option maxRecDepth 20000 in
theorem ct_Rows_bellLeft (N : Nat) (l : Launch) (D : va_G) (dA : Nat → ClassId) (B : Nat) (l0 : Int32) (l1 : Int32) (h : Hp) : Ct l (⟨"RingingChamber$Rows", "bellLeft", "(II)I"⟩ : MethodName) prog_7_method_18_code 4 (some .int) 0 0 D dA B [vi l0, vi l1] h vI (Rows_bellLeft N l0 l1 h) :=
  Ct.of2 (own := "RingingChamber$Rows") (nme := "bellLeft") (lv := [(0, vi l0), (1, vi l1)]) rfl rfl (by decide) (Nat.le_of_ble_eq_true rfl) rfl (fun p e R s m args below meth c => jc_Rows_bellLeft N l0 l1 h)
theorem d_Rows_taken_0 : decode prog_7_method_17_code 0 = .ok (.lconst 0, 1) := by decide +kernel
theorem d_Rows_taken_1 : decode prog_7_method_17_code 1 = .ok (.lstore_n 3, 1) := by decide +kernel
theorem d_Rows_taken_2 : decode prog_7_method_17_code 2 = .ok (.iconst 1, 1) := by decide +kernel
theorem d_Rows_taken_3 : decode prog_7_method_17_code 3 = .ok (.iload_n 2, 1) := by decide +kernel
theorem d_Rows_taken_4 : decode prog_7_method_17_code 4 = .ok (.iconst 1, 1) := by decide +kernel
theorem d_Rows_taken_5 : decode prog_7_method_17_code 5 = .ok (.iadd, 1) := by decide +kernel
theorem d_Rows_taken_6 : decode prog_7_method_17_code 6 = .ok (.ishl, 1) := by decide +kernel
theorem d_Rows_taken_7 : decode prog_7_method_17_code 7 = .ok (.iconst 2, 1) := by decide +kernel
theorem d_Rows_taken_8 : decode prog_7_method_17_code 8 = .ok (.isub, 1) := by decide +kernel
theorem d_Rows_taken_9 : decode prog_7_method_17_code 9 = .ok (.istore 5, 2) := by decide +kernel
theorem d_Rows_taken_11 : decode prog_7_method_17_code 11 = .ok (.iconst 0, 1) := by decide +kernel
theorem d_Rows_taken_12 : decode prog_7_method_17_code 12 = .ok (.istore 6, 2) := by decide +kernel
theorem d_Rows_taken_14 : decode prog_7_method_17_code 14 = .ok (.iload 6, 2) := by decide +kernel
theorem d_Rows_taken_16 : decode prog_7_method_17_code 16 = .ok (.iload_n 2, 1) := by decide +kernel
theorem d_Rows_taken_17 : decode prog_7_method_17_code 17 = .ok (.if_icmp .ge 44, 3) := by decide +kernel
theorem d_Rows_taken_20 : decode prog_7_method_17_code 20 = .ok (.iload 5, 2) := by decide +kernel
theorem d_Rows_taken_22 : decode prog_7_method_17_code 22 = .ok (.lload_n 0, 1) := by decide +kernel
theorem d_Rows_taken_23 : decode prog_7_method_17_code 23 = .ok (.iload 6, 2) := by decide +kernel
theorem d_Rows_taken_25 : decode prog_7_method_17_code 25 = .ok (.invokestatic 44, 3) := by decide +kernel
theorem d_Rows_taken_28 : decode prog_7_method_17_code 28 = .ok (.invokestatic 64, 3) := by decide +kernel
theorem d_Rows_taken_31 : decode prog_7_method_17_code 31 = .ok (.istore 7, 2) := by decide +kernel
theorem d_Rows_taken_33 : decode prog_7_method_17_code 33 = .ok (.lload_n 3, 1) := by decide +kernel
theorem d_Rows_taken_34 : decode prog_7_method_17_code 34 = .ok (.iload 7, 2) := by decide +kernel
theorem d_Rows_taken_36 : decode prog_7_method_17_code 36 = .ok (.i2l, 1) := by decide +kernel
theorem d_Rows_taken_37 : decode prog_7_method_17_code 37 = .ok (.iconst 4, 1) := by decide +kernel
theorem d_Rows_taken_38 : decode prog_7_method_17_code 38 = .ok (.iload 6, 2) := by decide +kernel
theorem d_Rows_taken_40 : decode prog_7_method_17_code 40 = .ok (.imul, 1) := by decide +kernel
theorem d_Rows_taken_41 : decode prog_7_method_17_code 41 = .ok (.lshl, 1) := by decide +kernel
theorem d_Rows_taken_42 : decode prog_7_method_17_code 42 = .ok (.lor, 1) := by decide +kernel
theorem d_Rows_taken_43 : decode prog_7_method_17_code 43 = .ok (.lstore_n 3, 1) := by decide +kernel
theorem d_Rows_taken_44 : decode prog_7_method_17_code 44 = .ok (.iload 5, 2) := by decide +kernel
theorem d_Rows_taken_46 : decode prog_7_method_17_code 46 = .ok (.iconst 1, 1) := by decide +kernel
theorem d_Rows_taken_47 : decode prog_7_method_17_code 47 = .ok (.iload 7, 2) := by decide +kernel
theorem d_Rows_taken_49 : decode prog_7_method_17_code 49 = .ok (.ishl, 1) := by decide +kernel
theorem d_Rows_taken_50 : decode prog_7_method_17_code 50 = .ok (.iconst (-1), 1) := by decide +kernel
theorem d_Rows_taken_51 : decode prog_7_method_17_code 51 = .ok (.ixor, 1) := by decide +kernel
theorem d_Rows_taken_52 : decode prog_7_method_17_code 52 = .ok (.iand, 1) := by decide +kernel
theorem d_Rows_taken_53 : decode prog_7_method_17_code 53 = .ok (.istore 5, 2) := by decide +kernel
theorem d_Rows_taken_55 : decode prog_7_method_17_code 55 = .ok (.iinc 6 1, 3) := by decide +kernel
theorem d_Rows_taken_58 : decode prog_7_method_17_code 58 = .ok (.goto (-44), 3) := by decide +kernel
theorem d_Rows_taken_61 : decode prog_7_method_17_code 61 = .ok (.lload_n 3, 1) := by decide +kernel
theorem d_Rows_taken_62 : decode prog_7_method_17_code 62 = .ok (.lreturn, 1) := by decide +kernel
set_option maxRecDepth 20000 in
theorem jc_Rows_taken_14 (N : Nat) : ∀ (n : Nat) (l0 : Int64) (l2 : Int32) (l3 : Int64) (l5 : Int32) (l6 : Int32) (h : Hp), J p l e R s m args below meth c prog_7_method_17_code 8 "RingingChamber$Rows" 1 23 (some .long) "taken" D dA B n0 s0 (QM below args s D dA B n0 s0 vL) 14 [(0, vl l0), (2, vi l2), (3, vl l3), (5, vi l5), (6, vi l6)] [] h (Rows_taken_14 N n l0 l2 l3 l5 l6 h) := by
  intro n
  induction n with
  | zero => intros; exact J.none
  | succ n ih =>
    intro l0 l2 l3 l5 l6 h
    rw [Rows_taken_14]
    refine j_iload d_Rows_taken_14 4 rfl ?_
    refine j_iload_n d_Rows_taken_16 1 rfl rfl ?_
    refine j_icmp_ge (tgt := 61) d_Rows_taken_17 (by decide) ?_ ?_
    · refine j_lload_n d_Rows_taken_61 2 rfl rfl ?_
      exact j_retL d_Rows_taken_62
    · refine j_iload d_Rows_taken_20 3 rfl ?_
      refine j_lload_n d_Rows_taken_22 0 rfl rfl ?_
      refine j_iload d_Rows_taken_23 4 rfl ?_
      refine j_cSI2 d_Rows_taken_25 sl_4_44 ks_Rows_digit (ct_Rows_digit N l D dA B l0 l6 h) (by decide) (by decide) (Nat.le_of_ble_eq_true rfl) (fun x2 h1 => ?_)
      refine j_cSI2 d_Rows_taken_28 sl_4_64 ks_Rows_bellLeft (ct_Rows_bellLeft N l D dA B l5 x2 h1) (by decide) (by decide) (Nat.le_of_ble_eq_true rfl) (fun x4 h3 => ?_)
      refine j_istore (lv' := [(7, vi x4), (0, vl l0), (2, vi l2), (3, vl l3), (5, vi l5), (6, vi l6)]) d_Rows_taken_31 (by decide) rfl ?_
      refine j_lload_n d_Rows_taken_33 3 rfl rfl ?_
      refine j_iload d_Rows_taken_34 0 rfl ?_
      refine j_i2l d_Rows_taken_36 ?_
      refine j_iconst (v := 4) d_Rows_taken_37 (by decide) ?_
      refine j_iload d_Rows_taken_38 5 rfl ?_
      refine j_imul d_Rows_taken_40 ?_
      refine j_lshl d_Rows_taken_41 ?_
      refine j_lor d_Rows_taken_42 ?_
      refine j_nml (fun x5 => ?_)
      refine j_lstore_n (lv' := [(3, vl x5), (7, vi x4), (0, vl l0), (2, vi l2), (5, vi l5), (6, vi l6)]) d_Rows_taken_43 rfl (by decide) rfl ?_
      refine j_iload d_Rows_taken_44 4 rfl ?_
      refine j_iconst (v := 1) d_Rows_taken_46 (by decide) ?_
      refine j_iload d_Rows_taken_47 1 rfl ?_
      refine j_ishl d_Rows_taken_49 ?_
      refine j_iconst (v := -1) d_Rows_taken_50 (by decide) ?_
      refine j_ixor d_Rows_taken_51 ?_
      refine j_iand d_Rows_taken_52 ?_
      refine j_nmi (fun x6 => ?_)
      refine j_istore (lv' := [(5, vi x6), (3, vl x5), (7, vi x4), (0, vl l0), (2, vi l2), (6, vi l6)]) d_Rows_taken_53 (by decide) rfl ?_
      refine j_iinc (lvv := fun x7 => [(6, vi x7), (5, vi x6), (3, vl x5), (7, vi x4), (0, vl l0), (2, vi l2)]) d_Rows_taken_55 5 rfl rfl (by decide) (fun _ => rfl) (fun x7 => ?_)
      refine j_goto (tgt := 14) d_Rows_taken_58 (by decide) ?_
      exact J.sub [4, 5, 2, 1, 0] rfl (ih l0 l2 x5 x6 x7 h3)
set_option maxRecDepth 20000 in
theorem jc_Rows_taken (N : Nat) (l0 : Int64) (l2 : Int32) (h : Hp) : J p l e R s m args below meth c prog_7_method_17_code 8 "RingingChamber$Rows" 1 23 (some .long) "taken" D dA B n0 s0 (QM below args s D dA B n0 s0 vL) 0 [(0, vl l0), (2, vi l2)] [] h (Rows_taken N l0 l2 h) := by
  unfold Rows_taken
  refine j_lconst (v := 0) d_Rows_taken_0 (by decide) ?_
  refine j_lstore_n (lv' := [(3, vl 0), (0, vl l0), (2, vi l2)]) d_Rows_taken_1 rfl (by decide) rfl ?_
  refine j_iconst (v := 1) d_Rows_taken_2 (by decide) ?_
  refine j_iload_n d_Rows_taken_3 2 rfl rfl ?_
  refine j_iconst (v := 1) d_Rows_taken_4 (by decide) ?_
  refine j_iadd d_Rows_taken_5 ?_
  refine j_ishl d_Rows_taken_6 ?_
  refine j_iconst (v := 2) d_Rows_taken_7 (by decide) ?_
  refine j_isub d_Rows_taken_8 ?_
  refine j_nmi (fun x1 => ?_)
  refine j_istore (lv' := [(5, vi x1), (3, vl 0), (0, vl l0), (2, vi l2)]) d_Rows_taken_9 (by decide) rfl ?_
  refine j_iconst (v := 0) d_Rows_taken_11 (by decide) ?_
  refine j_istore (lv' := [(6, vi 0), (5, vi x1), (3, vl 0), (0, vl l0), (2, vi l2)]) d_Rows_taken_12 (by decide) rfl ?_
  exact J.sub [3, 4, 2, 1, 0] rfl (jc_Rows_taken_14 N N l0 l2 0 x1 0 h)
set_option maxRecDepth 20000 in
theorem ct_Rows_taken (N : Nat) (l : Launch) (D : va_G) (dA : Nat → ClassId) (B : Nat) (l0 : Int64) (l2 : Int32) (h : Hp) : Ct l (⟨"RingingChamber$Rows", "taken", "(JI)J"⟩ : MethodName) prog_7_method_17_code 8 (some .long) 1 23 D dA B [vl l0, vi l2] h vL (Rows_taken N l0 l2 h) :=
  Ct.of2 (own := "RingingChamber$Rows") (nme := "taken") (lv := [(0, vl l0), (2, vi l2)]) rfl rfl (by decide) (Nat.le_of_ble_eq_true rfl) rfl (fun p e R s m args below meth c => jc_Rows_taken N l0 l2 h)
theorem d_Rows_rowOf_0 : decode prog_7_method_16_code 0 = .ok (.iload_n 0, 1) := by decide +kernel
theorem d_Rows_rowOf_1 : decode prog_7_method_16_code 1 = .ok (.ifCond .ge 5, 3) := by decide +kernel
theorem d_Rows_rowOf_4 : decode prog_7_method_16_code 4 = .ok (.lconst 0, 1) := by decide +kernel
theorem d_Rows_rowOf_5 : decode prog_7_method_16_code 5 = .ok (.lreturn, 1) := by decide +kernel
theorem d_Rows_rowOf_6 : decode prog_7_method_16_code 6 = .ok (.lconst 0, 1) := by decide +kernel
theorem d_Rows_rowOf_7 : decode prog_7_method_16_code 7 = .ok (.lstore_n 2, 1) := by decide +kernel
theorem d_Rows_rowOf_8 : decode prog_7_method_16_code 8 = .ok (.iload_n 0, 1) := by decide +kernel
theorem d_Rows_rowOf_9 : decode prog_7_method_16_code 9 = .ok (.istore 4, 2) := by decide +kernel
theorem d_Rows_rowOf_11 : decode prog_7_method_16_code 11 = .ok (.iconst 1, 1) := by decide +kernel
theorem d_Rows_rowOf_12 : decode prog_7_method_16_code 12 = .ok (.istore 5, 2) := by decide +kernel
theorem d_Rows_rowOf_14 : decode prog_7_method_16_code 14 = .ok (.iload 5, 2) := by decide +kernel
theorem d_Rows_rowOf_16 : decode prog_7_method_16_code 16 = .ok (.iload_n 1, 1) := by decide +kernel
theorem d_Rows_rowOf_17 : decode prog_7_method_16_code 17 = .ok (.if_icmp .gt 27, 3) := by decide +kernel
theorem d_Rows_rowOf_20 : decode prog_7_method_16_code 20 = .ok (.lload_n 2, 1) := by decide +kernel
theorem d_Rows_rowOf_21 : decode prog_7_method_16_code 21 = .ok (.iconst 4, 1) := by decide +kernel
theorem d_Rows_rowOf_22 : decode prog_7_method_16_code 22 = .ok (.lshl, 1) := by decide +kernel
theorem d_Rows_rowOf_23 : decode prog_7_method_16_code 23 = .ok (.iload 4, 2) := by decide +kernel
theorem d_Rows_rowOf_25 : decode prog_7_method_16_code 25 = .ok (.iload 5, 2) := by decide +kernel
theorem d_Rows_rowOf_27 : decode prog_7_method_16_code 27 = .ok (.irem, 1) := by decide +kernel
theorem d_Rows_rowOf_28 : decode prog_7_method_16_code 28 = .ok (.i2l, 1) := by decide +kernel
theorem d_Rows_rowOf_29 : decode prog_7_method_16_code 29 = .ok (.lor, 1) := by decide +kernel
theorem d_Rows_rowOf_30 : decode prog_7_method_16_code 30 = .ok (.lstore_n 2, 1) := by decide +kernel
theorem d_Rows_rowOf_31 : decode prog_7_method_16_code 31 = .ok (.iload 4, 2) := by decide +kernel
theorem d_Rows_rowOf_33 : decode prog_7_method_16_code 33 = .ok (.iload 5, 2) := by decide +kernel
theorem d_Rows_rowOf_35 : decode prog_7_method_16_code 35 = .ok (.idiv, 1) := by decide +kernel
theorem d_Rows_rowOf_36 : decode prog_7_method_16_code 36 = .ok (.istore 4, 2) := by decide +kernel
theorem d_Rows_rowOf_38 : decode prog_7_method_16_code 38 = .ok (.iinc 5 1, 3) := by decide +kernel
theorem d_Rows_rowOf_41 : decode prog_7_method_16_code 41 = .ok (.goto (-27), 3) := by decide +kernel
theorem d_Rows_rowOf_44 : decode prog_7_method_16_code 44 = .ok (.iload 4, 2) := by decide +kernel
theorem d_Rows_rowOf_46 : decode prog_7_method_16_code 46 = .ok (.ifCond .eq 7, 3) := by decide +kernel
theorem d_Rows_rowOf_49 : decode prog_7_method_16_code 49 = .ok (.lconst 0, 1) := by decide +kernel
theorem d_Rows_rowOf_50 : decode prog_7_method_16_code 50 = .ok (.goto 8, 3) := by decide +kernel
theorem d_Rows_rowOf_53 : decode prog_7_method_16_code 53 = .ok (.lload_n 2, 1) := by decide +kernel
theorem d_Rows_rowOf_54 : decode prog_7_method_16_code 54 = .ok (.iload_n 1, 1) := by decide +kernel
theorem d_Rows_rowOf_55 : decode prog_7_method_16_code 55 = .ok (.invokestatic 60, 3) := by decide +kernel
theorem d_Rows_rowOf_58 : decode prog_7_method_16_code 58 = .ok (.lreturn, 1) := by decide +kernel
set_option maxRecDepth 20000 in
theorem jc_Rows_rowOf_14 (N : Nat) : ∀ (n : Nat) (l1 : Int32) (l2 : Int64) (l4 : Int32) (l5 : Int32) (h : Hp), J p l e R s m args below meth c prog_7_method_16_code 6 "RingingChamber$Rows" 2 50 (some .long) "rowOf" D dA B n0 s0 (QM below args s D dA B n0 s0 vL) 14 [(1, vi l1), (2, vl l2), (4, vi l4), (5, vi l5)] [] h (Rows_rowOf_14 N n l1 l2 l4 l5 h) := by
  intro n
  induction n with
  | zero => intros; exact J.none
  | succ n ih =>
    intro l1 l2 l4 l5 h
    rw [Rows_rowOf_14]
    refine j_iload d_Rows_rowOf_14 3 rfl ?_
    refine j_iload_n d_Rows_rowOf_16 0 rfl rfl ?_
    refine j_icmp_gt (tgt := 44) d_Rows_rowOf_17 (by decide) ?_ ?_
    · refine j_iload d_Rows_rowOf_44 2 rfl ?_
      refine j_if_eq (tgt := 53) d_Rows_rowOf_46 (by decide) ?_ ?_
      · refine j_lload_n d_Rows_rowOf_53 1 rfl rfl ?_
        refine j_iload_n d_Rows_rowOf_54 0 rfl rfl ?_
        refine j_cSL2 d_Rows_rowOf_55 sl_4_60 ks_Rows_taken (ct_Rows_taken N l D dA B l2 l1 h) (by decide) (by decide) (Nat.le_of_ble_eq_true rfl) (fun x2 h1 => ?_)
        exact j_retL d_Rows_rowOf_58
      · refine j_lconst (v := 0) d_Rows_rowOf_49 (by decide) ?_
        refine j_goto (tgt := 58) d_Rows_rowOf_50 (by decide) ?_
        exact j_retL d_Rows_rowOf_58
    · refine j_lload_n d_Rows_rowOf_20 1 rfl rfl ?_
      refine j_iconst (v := 4) d_Rows_rowOf_21 (by decide) ?_
      refine j_lshl d_Rows_rowOf_22 ?_
      refine j_iload d_Rows_rowOf_23 2 rfl ?_
      refine j_iload d_Rows_rowOf_25 3 rfl ?_
      refine j_irem d_Rows_rowOf_27 ?_
      refine j_i2l d_Rows_rowOf_28 ?_
      refine j_lor d_Rows_rowOf_29 ?_
      refine j_nml (fun x3 => ?_)
      refine j_lstore_n (lv' := [(2, vl x3), (1, vi l1), (4, vi l4), (5, vi l5)]) d_Rows_rowOf_30 rfl (by decide) rfl ?_
      refine j_iload d_Rows_rowOf_31 2 rfl ?_
      refine j_iload d_Rows_rowOf_33 3 rfl ?_
      refine j_idiv d_Rows_rowOf_35 ?_
      refine j_nmi (fun x4 => ?_)
      refine j_istore (lv' := [(4, vi x4), (2, vl x3), (1, vi l1), (5, vi l5)]) d_Rows_rowOf_36 (by decide) rfl ?_
      refine j_iinc (lvv := fun x5 => [(5, vi x5), (4, vi x4), (2, vl x3), (1, vi l1)]) d_Rows_rowOf_38 3 rfl rfl (by decide) (fun _ => rfl) (fun x5 => ?_)
      refine j_goto (tgt := 14) d_Rows_rowOf_41 (by decide) ?_
      exact J.sub [3, 2, 1, 0] rfl (ih l1 x3 x4 x5 h)
set_option maxRecDepth 20000 in
theorem jc_Rows_rowOf (N : Nat) (l0 : Int32) (l1 : Int32) (h : Hp) : J p l e R s m args below meth c prog_7_method_16_code 6 "RingingChamber$Rows" 2 50 (some .long) "rowOf" D dA B n0 s0 (QM below args s D dA B n0 s0 vL) 0 [(0, vi l0), (1, vi l1)] [] h (Rows_rowOf N l0 l1 h) := by
  unfold Rows_rowOf
  refine j_iload_n d_Rows_rowOf_0 0 rfl rfl ?_
  refine j_if_ge (tgt := 6) d_Rows_rowOf_1 (by decide) ?_ ?_
  · refine j_lconst (v := 0) d_Rows_rowOf_6 (by decide) ?_
    refine j_lstore_n (lv' := [(2, vl 0), (0, vi l0), (1, vi l1)]) d_Rows_rowOf_7 rfl (by decide) rfl ?_
    refine j_iload_n d_Rows_rowOf_8 1 rfl rfl ?_
    refine j_istore (lv' := [(4, vi l0), (2, vl 0), (0, vi l0), (1, vi l1)]) d_Rows_rowOf_9 (by decide) rfl ?_
    refine j_iconst (v := 1) d_Rows_rowOf_11 (by decide) ?_
    refine j_istore (lv' := [(5, vi 1), (4, vi l0), (2, vl 0), (0, vi l0), (1, vi l1)]) d_Rows_rowOf_12 (by decide) rfl ?_
    exact J.sub [4, 2, 1, 0] rfl (jc_Rows_rowOf_14 N N l1 0 l0 1 h)
  · refine j_lconst (v := 0) d_Rows_rowOf_4 (by decide) ?_
    exact j_retL d_Rows_rowOf_5
set_option maxRecDepth 20000 in
theorem ct_Rows_rowOf (N : Nat) (l : Launch) (D : va_G) (dA : Nat → ClassId) (B : Nat) (l0 : Int32) (l1 : Int32) (h : Hp) : Ct l (⟨"RingingChamber$Rows", "rowOf", "(II)J"⟩ : MethodName) prog_7_method_16_code 6 (some .long) 2 50 D dA B [vi l0, vi l1] h vL (Rows_rowOf N l0 l1 h) :=
  Ct.of2 (own := "RingingChamber$Rows") (nme := "rowOf") (lv := [(0, vi l0), (1, vi l1)]) rfl rfl (by decide) (Nat.le_of_ble_eq_true rfl) rfl (fun p e R s m args below meth c => jc_Rows_rowOf N l0 l1 h)
theorem d_Rows_times_0 : decode prog_7_method_19_code 0 = .ok (.lconst 0, 1) := by decide +kernel
theorem d_Rows_times_1 : decode prog_7_method_19_code 1 = .ok (.lstore 5, 2) := by decide +kernel
theorem d_Rows_times_3 : decode prog_7_method_19_code 3 = .ok (.iconst 0, 1) := by decide +kernel
theorem d_Rows_times_4 : decode prog_7_method_19_code 4 = .ok (.istore 7, 2) := by decide +kernel
theorem d_Rows_times_6 : decode prog_7_method_19_code 6 = .ok (.iload 7, 2) := by decide +kernel
theorem d_Rows_times_8 : decode prog_7_method_19_code 8 = .ok (.iload 4, 2) := by decide +kernel
theorem d_Rows_times_10 : decode prog_7_method_19_code 10 = .ok (.if_icmp .ge 36, 3) := by decide +kernel
theorem d_Rows_times_13 : decode prog_7_method_19_code 13 = .ok (.lload_n 0, 1) := by decide +kernel
theorem d_Rows_times_14 : decode prog_7_method_19_code 14 = .ok (.lload_n 2, 1) := by decide +kernel
theorem d_Rows_times_15 : decode prog_7_method_19_code 15 = .ok (.iload 7, 2) := by decide +kernel
theorem d_Rows_times_17 : decode prog_7_method_19_code 17 = .ok (.invokestatic 44, 3) := by decide +kernel
theorem d_Rows_times_20 : decode prog_7_method_19_code 20 = .ok (.iconst 1, 1) := by decide +kernel
theorem d_Rows_times_21 : decode prog_7_method_19_code 21 = .ok (.isub, 1) := by decide +kernel
theorem d_Rows_times_22 : decode prog_7_method_19_code 22 = .ok (.invokestatic 44, 3) := by decide +kernel
theorem d_Rows_times_25 : decode prog_7_method_19_code 25 = .ok (.i2l, 1) := by decide +kernel
theorem d_Rows_times_26 : decode prog_7_method_19_code 26 = .ok (.lstore 8, 2) := by decide +kernel
theorem d_Rows_times_28 : decode prog_7_method_19_code 28 = .ok (.lload 5, 2) := by decide +kernel
theorem d_Rows_times_30 : decode prog_7_method_19_code 30 = .ok (.lload 8, 2) := by decide +kernel
theorem d_Rows_times_32 : decode prog_7_method_19_code 32 = .ok (.iconst 4, 1) := by decide +kernel
theorem d_Rows_times_33 : decode prog_7_method_19_code 33 = .ok (.iload 7, 2) := by decide +kernel
theorem d_Rows_times_35 : decode prog_7_method_19_code 35 = .ok (.imul, 1) := by decide +kernel
theorem d_Rows_times_36 : decode prog_7_method_19_code 36 = .ok (.lshl, 1) := by decide +kernel
theorem d_Rows_times_37 : decode prog_7_method_19_code 37 = .ok (.lor, 1) := by decide +kernel
theorem d_Rows_times_38 : decode prog_7_method_19_code 38 = .ok (.lstore 5, 2) := by decide +kernel
theorem d_Rows_times_40 : decode prog_7_method_19_code 40 = .ok (.iinc 7 1, 3) := by decide +kernel
theorem d_Rows_times_43 : decode prog_7_method_19_code 43 = .ok (.goto (-37), 3) := by decide +kernel
theorem d_Rows_times_46 : decode prog_7_method_19_code 46 = .ok (.lload 5, 2) := by decide +kernel
theorem d_Rows_times_48 : decode prog_7_method_19_code 48 = .ok (.lreturn, 1) := by decide +kernel
set_option maxRecDepth 20000 in
theorem jc_Rows_times_6 (N : Nat) : ∀ (n : Nat) (l0 : Int64) (l2 : Int64) (l4 : Int32) (l5 : Int64) (l7 : Int32) (h : Hp), J p l e R s m args below meth c prog_7_method_19_code 10 "RingingChamber$Rows" 1 22 (some .long) "times" D dA B n0 s0 (QM below args s D dA B n0 s0 vL) 6 [(0, vl l0), (2, vl l2), (4, vi l4), (5, vl l5), (7, vi l7)] [] h (Rows_times_6 N n l0 l2 l4 l5 l7 h) := by
  intro n
  induction n with
  | zero => intros; exact J.none
  | succ n ih =>
    intro l0 l2 l4 l5 l7 h
    rw [Rows_times_6]
    refine j_iload d_Rows_times_6 4 rfl ?_
    refine j_iload d_Rows_times_8 2 rfl ?_
    refine j_icmp_ge (tgt := 46) d_Rows_times_10 (by decide) ?_ ?_
    · refine j_lload d_Rows_times_46 3 rfl ?_
      exact j_retL d_Rows_times_48
    · refine j_lload_n d_Rows_times_13 0 rfl rfl ?_
      refine j_lload_n d_Rows_times_14 1 rfl rfl ?_
      refine j_iload d_Rows_times_15 4 rfl ?_
      refine j_cSI2 d_Rows_times_17 sl_4_44 ks_Rows_digit (ct_Rows_digit N l D dA B l2 l7 h) (by decide) (by decide) (Nat.le_of_ble_eq_true rfl) (fun x2 h1 => ?_)
      refine j_iconst (v := 1) d_Rows_times_20 (by decide) ?_
      refine j_isub d_Rows_times_21 ?_
      refine j_cSI2 d_Rows_times_22 sl_4_44 ks_Rows_digit (ct_Rows_digit N l D dA B l0 (x2 - (1 : Int32)) h1) (by decide) (by decide) (Nat.le_of_ble_eq_true rfl) (fun x4 h3 => ?_)
      refine j_i2l d_Rows_times_25 ?_
      refine j_nml (fun x5 => ?_)
      refine j_lstore (lv' := [(8, vl x5), (0, vl l0), (2, vl l2), (4, vi l4), (5, vl l5), (7, vi l7)]) d_Rows_times_26 (by decide) rfl ?_
      refine j_lload d_Rows_times_28 4 rfl ?_
      refine j_lload d_Rows_times_30 0 rfl ?_
      refine j_iconst (v := 4) d_Rows_times_32 (by decide) ?_
      refine j_iload d_Rows_times_33 5 rfl ?_
      refine j_imul d_Rows_times_35 ?_
      refine j_lshl d_Rows_times_36 ?_
      refine j_lor d_Rows_times_37 ?_
      refine j_nml (fun x6 => ?_)
      refine j_lstore (lv' := [(5, vl x6), (8, vl x5), (0, vl l0), (2, vl l2), (4, vi l4), (7, vi l7)]) d_Rows_times_38 (by decide) rfl ?_
      refine j_iinc (lvv := fun x7 => [(7, vi x7), (5, vl x6), (8, vl x5), (0, vl l0), (2, vl l2), (4, vi l4)]) d_Rows_times_40 5 rfl rfl (by decide) (fun _ => rfl) (fun x7 => ?_)
      refine j_goto (tgt := 6) d_Rows_times_43 (by decide) ?_
      exact J.sub [3, 4, 5, 1, 0] rfl (ih l0 l2 l4 x6 x7 h3)
set_option maxRecDepth 20000 in
theorem jc_Rows_times (N : Nat) (l0 : Int64) (l2 : Int64) (l4 : Int32) (h : Hp) : J p l e R s m args below meth c prog_7_method_19_code 10 "RingingChamber$Rows" 1 22 (some .long) "times" D dA B n0 s0 (QM below args s D dA B n0 s0 vL) 0 [(0, vl l0), (2, vl l2), (4, vi l4)] [] h (Rows_times N l0 l2 l4 h) := by
  unfold Rows_times
  refine j_lconst (v := 0) d_Rows_times_0 (by decide) ?_
  refine j_lstore (lv' := [(5, vl 0), (0, vl l0), (2, vl l2), (4, vi l4)]) d_Rows_times_1 (by decide) rfl ?_
  refine j_iconst (v := 0) d_Rows_times_3 (by decide) ?_
  refine j_istore (lv' := [(7, vi 0), (5, vl 0), (0, vl l0), (2, vl l2), (4, vi l4)]) d_Rows_times_4 (by decide) rfl ?_
  exact J.sub [2, 3, 4, 1, 0] rfl (jc_Rows_times_6 N N l0 l2 l4 0 0 h)
set_option maxRecDepth 20000 in
theorem ct_Rows_times (N : Nat) (l : Launch) (D : va_G) (dA : Nat → ClassId) (B : Nat) (l0 : Int64) (l2 : Int64) (l4 : Int32) (h : Hp) : Ct l (⟨"RingingChamber$Rows", "times", "(JJI)J"⟩ : MethodName) prog_7_method_19_code 10 (some .long) 1 22 D dA B [vl l0, vl l2, vi l4] h vL (Rows_times N l0 l2 l4 h) :=
  Ct.of2 (own := "RingingChamber$Rows") (nme := "times") (lv := [(0, vl l0), (2, vl l2), (4, vi l4)]) rfl rfl (by decide) (Nat.le_of_ble_eq_true rfl) rfl (fun p e R s m args below meth c => jc_Rows_times N l0 l2 l4 h)
theorem d_Rows_inverseOf_0 : decode prog_7_method_20_code 0 = .ok (.lconst 0, 1) := by decide +kernel
theorem d_Rows_inverseOf_1 : decode prog_7_method_20_code 1 = .ok (.lstore_n 3, 1) := by decide +kernel
theorem d_Rows_inverseOf_2 : decode prog_7_method_20_code 2 = .ok (.iconst 0, 1) := by decide +kernel
theorem d_Rows_inverseOf_3 : decode prog_7_method_20_code 3 = .ok (.istore 5, 2) := by decide +kernel
theorem d_Rows_inverseOf_5 : decode prog_7_method_20_code 5 = .ok (.iload 5, 2) := by decide +kernel
theorem d_Rows_inverseOf_7 : decode prog_7_method_20_code 7 = .ok (.iload_n 2, 1) := by decide +kernel
theorem d_Rows_inverseOf_8 : decode prog_7_method_20_code 8 = .ok (.if_icmp .ge 28, 3) := by decide +kernel
theorem d_Rows_inverseOf_11 : decode prog_7_method_20_code 11 = .ok (.lload_n 3, 1) := by decide +kernel
theorem d_Rows_inverseOf_12 : decode prog_7_method_20_code 12 = .ok (.iload 5, 2) := by decide +kernel
theorem d_Rows_inverseOf_14 : decode prog_7_method_20_code 14 = .ok (.i2l, 1) := by decide +kernel
theorem d_Rows_inverseOf_15 : decode prog_7_method_20_code 15 = .ok (.lconst 1, 1) := by decide +kernel
theorem d_Rows_inverseOf_16 : decode prog_7_method_20_code 16 = .ok (.ladd, 1) := by decide +kernel
theorem d_Rows_inverseOf_17 : decode prog_7_method_20_code 17 = .ok (.iconst 4, 1) := by decide +kernel
theorem d_Rows_inverseOf_18 : decode prog_7_method_20_code 18 = .ok (.lload_n 0, 1) := by decide +kernel
theorem d_Rows_inverseOf_19 : decode prog_7_method_20_code 19 = .ok (.iload 5, 2) := by decide +kernel
theorem d_Rows_inverseOf_21 : decode prog_7_method_20_code 21 = .ok (.invokestatic 44, 3) := by decide +kernel
theorem d_Rows_inverseOf_24 : decode prog_7_method_20_code 24 = .ok (.iconst 1, 1) := by decide +kernel
theorem d_Rows_inverseOf_25 : decode prog_7_method_20_code 25 = .ok (.isub, 1) := by decide +kernel
theorem d_Rows_inverseOf_26 : decode prog_7_method_20_code 26 = .ok (.imul, 1) := by decide +kernel
theorem d_Rows_inverseOf_27 : decode prog_7_method_20_code 27 = .ok (.lshl, 1) := by decide +kernel
theorem d_Rows_inverseOf_28 : decode prog_7_method_20_code 28 = .ok (.lor, 1) := by decide +kernel
theorem d_Rows_inverseOf_29 : decode prog_7_method_20_code 29 = .ok (.lstore_n 3, 1) := by decide +kernel
theorem d_Rows_inverseOf_30 : decode prog_7_method_20_code 30 = .ok (.iinc 5 1, 3) := by decide +kernel
theorem d_Rows_inverseOf_33 : decode prog_7_method_20_code 33 = .ok (.goto (-28), 3) := by decide +kernel
theorem d_Rows_inverseOf_36 : decode prog_7_method_20_code 36 = .ok (.lload_n 3, 1) := by decide +kernel
theorem d_Rows_inverseOf_37 : decode prog_7_method_20_code 37 = .ok (.lreturn, 1) := by decide +kernel
set_option maxRecDepth 20000 in
theorem jc_Rows_inverseOf_5 (N : Nat) : ∀ (n : Nat) (l0 : Int64) (l2 : Int32) (l3 : Int64) (l5 : Int32) (h : Hp), J p l e R s m args below meth c prog_7_method_20_code 6 "RingingChamber$Rows" 1 22 (some .long) "inverseOf" D dA B n0 s0 (QM below args s D dA B n0 s0 vL) 5 [(0, vl l0), (2, vi l2), (3, vl l3), (5, vi l5)] [] h (Rows_inverseOf_5 N n l0 l2 l3 l5 h) := by
  intro n
  induction n with
  | zero => intros; exact J.none
  | succ n ih =>
    intro l0 l2 l3 l5 h
    rw [Rows_inverseOf_5]
    refine j_iload d_Rows_inverseOf_5 3 rfl ?_
    refine j_iload_n d_Rows_inverseOf_7 1 rfl rfl ?_
    refine j_icmp_ge (tgt := 36) d_Rows_inverseOf_8 (by decide) ?_ ?_
    · refine j_lload_n d_Rows_inverseOf_36 2 rfl rfl ?_
      exact j_retL d_Rows_inverseOf_37
    · refine j_lload_n d_Rows_inverseOf_11 2 rfl rfl ?_
      refine j_iload d_Rows_inverseOf_12 3 rfl ?_
      refine j_i2l d_Rows_inverseOf_14 ?_
      refine j_lconst (v := 1) d_Rows_inverseOf_15 (by decide) ?_
      refine j_ladd d_Rows_inverseOf_16 ?_
      refine j_iconst (v := 4) d_Rows_inverseOf_17 (by decide) ?_
      refine j_lload_n d_Rows_inverseOf_18 0 rfl rfl ?_
      refine j_iload d_Rows_inverseOf_19 3 rfl ?_
      refine j_cSI2 d_Rows_inverseOf_21 sl_4_44 ks_Rows_digit (ct_Rows_digit N l D dA B l0 l5 h) (by decide) (by decide) (Nat.le_of_ble_eq_true rfl) (fun x2 h1 => ?_)
      refine j_iconst (v := 1) d_Rows_inverseOf_24 (by decide) ?_
      refine j_isub d_Rows_inverseOf_25 ?_
      refine j_imul d_Rows_inverseOf_26 ?_
      refine j_lshl d_Rows_inverseOf_27 ?_
      refine j_lor d_Rows_inverseOf_28 ?_
      refine j_nml (fun x3 => ?_)
      refine j_lstore_n (lv' := [(3, vl x3), (0, vl l0), (2, vi l2), (5, vi l5)]) d_Rows_inverseOf_29 rfl (by decide) rfl ?_
      refine j_iinc (lvv := fun x4 => [(5, vi x4), (3, vl x3), (0, vl l0), (2, vi l2)]) d_Rows_inverseOf_30 3 rfl rfl (by decide) (fun _ => rfl) (fun x4 => ?_)
      refine j_goto (tgt := 5) d_Rows_inverseOf_33 (by decide) ?_
      exact J.sub [2, 3, 1, 0] rfl (ih l0 l2 x3 x4 h1)
set_option maxRecDepth 20000 in
theorem jc_Rows_inverseOf (N : Nat) (l0 : Int64) (l2 : Int32) (h : Hp) : J p l e R s m args below meth c prog_7_method_20_code 6 "RingingChamber$Rows" 1 22 (some .long) "inverseOf" D dA B n0 s0 (QM below args s D dA B n0 s0 vL) 0 [(0, vl l0), (2, vi l2)] [] h (Rows_inverseOf N l0 l2 h) := by
  unfold Rows_inverseOf
  refine j_lconst (v := 0) d_Rows_inverseOf_0 (by decide) ?_
  refine j_lstore_n (lv' := [(3, vl 0), (0, vl l0), (2, vi l2)]) d_Rows_inverseOf_1 rfl (by decide) rfl ?_
  refine j_iconst (v := 0) d_Rows_inverseOf_2 (by decide) ?_
  refine j_istore (lv' := [(5, vi 0), (3, vl 0), (0, vl l0), (2, vi l2)]) d_Rows_inverseOf_3 (by decide) rfl ?_
  exact J.sub [2, 3, 1, 0] rfl (jc_Rows_inverseOf_5 N N l0 l2 0 0 h)
set_option maxRecDepth 20000 in
theorem ct_Rows_inverseOf (N : Nat) (l : Launch) (D : va_G) (dA : Nat → ClassId) (B : Nat) (l0 : Int64) (l2 : Int32) (h : Hp) : Ct l (⟨"RingingChamber$Rows", "inverseOf", "(JI)J"⟩ : MethodName) prog_7_method_20_code 6 (some .long) 1 22 D dA B [vl l0, vi l2] h vL (Rows_inverseOf N l0 l2 h) :=
  Ct.of2 (own := "RingingChamber$Rows") (nme := "inverseOf") (lv := [(0, vl l0), (2, vi l2)]) rfl rfl (by decide) (Nat.le_of_ble_eq_true rfl) rfl (fun p e R s m args below meth c => jc_Rows_inverseOf N l0 l2 h)
theorem d_Rows_orderOf_0 : decode prog_7_method_21_code 0 = .ok (.iload_n 2, 1) := by decide +kernel
theorem d_Rows_orderOf_1 : decode prog_7_method_21_code 1 = .ok (.invokestatic 67, 3) := by decide +kernel
theorem d_Rows_orderOf_4 : decode prog_7_method_21_code 4 = .ok (.lstore_n 3, 1) := by decide +kernel
theorem d_Rows_orderOf_5 : decode prog_7_method_21_code 5 = .ok (.lload_n 0, 1) := by decide +kernel
theorem d_Rows_orderOf_6 : decode prog_7_method_21_code 6 = .ok (.lstore 5, 2) := by decide +kernel
theorem d_Rows_orderOf_8 : decode prog_7_method_21_code 8 = .ok (.iconst 1, 1) := by decide +kernel
theorem d_Rows_orderOf_9 : decode prog_7_method_21_code 9 = .ok (.istore 7, 2) := by decide +kernel
theorem d_Rows_orderOf_11 : decode prog_7_method_21_code 11 = .ok (.lload 5, 2) := by decide +kernel
theorem d_Rows_orderOf_13 : decode prog_7_method_21_code 13 = .ok (.lload_n 3, 1) := by decide +kernel
theorem d_Rows_orderOf_14 : decode prog_7_method_21_code 14 = .ok (.lcmp, 1) := by decide +kernel
theorem d_Rows_orderOf_15 : decode prog_7_method_21_code 15 = .ok (.ifCond .eq 25, 3) := by decide +kernel
theorem d_Rows_orderOf_18 : decode prog_7_method_21_code 18 = .ok (.iload 7, 2) := by decide +kernel
theorem d_Rows_orderOf_20 : decode prog_7_method_21_code 20 = .ok (.bipush 60, 2) := by decide +kernel
theorem d_Rows_orderOf_22 : decode prog_7_method_21_code 22 = .ok (.if_icmp .ge 18, 3) := by decide +kernel
theorem d_Rows_orderOf_25 : decode prog_7_method_21_code 25 = .ok (.lload 5, 2) := by decide +kernel
theorem d_Rows_orderOf_27 : decode prog_7_method_21_code 27 = .ok (.lload_n 0, 1) := by decide +kernel
theorem d_Rows_orderOf_28 : decode prog_7_method_21_code 28 = .ok (.iload_n 2, 1) := by decide +kernel
theorem d_Rows_orderOf_29 : decode prog_7_method_21_code 29 = .ok (.invokestatic 71, 3) := by decide +kernel
theorem d_Rows_orderOf_32 : decode prog_7_method_21_code 32 = .ok (.lstore 5, 2) := by decide +kernel
theorem d_Rows_orderOf_34 : decode prog_7_method_21_code 34 = .ok (.iinc 7 1, 3) := by decide +kernel
theorem d_Rows_orderOf_37 : decode prog_7_method_21_code 37 = .ok (.goto (-26), 3) := by decide +kernel
theorem d_Rows_orderOf_40 : decode prog_7_method_21_code 40 = .ok (.iload 7, 2) := by decide +kernel
theorem d_Rows_orderOf_42 : decode prog_7_method_21_code 42 = .ok (.ireturn, 1) := by decide +kernel
set_option maxRecDepth 20000 in
theorem jc_Rows_orderOf_11 (N : Nat) : ∀ (n : Nat) (l0 : Int64) (l2 : Int32) (l3 : Int64) (l5 : Int64) (l7 : Int32) (h : Hp), J p l e R s m args below meth c prog_7_method_21_code 8 "RingingChamber$Rows" 2 51 (some .int) "orderOf" D dA B n0 s0 (QM below args s D dA B n0 s0 vI) 11 [(0, vl l0), (2, vi l2), (3, vl l3), (5, vl l5), (7, vi l7)] [] h (Rows_orderOf_11 N n l0 l2 l3 l5 l7 h) := by
  intro n
  induction n with
  | zero => intros; exact J.none
  | succ n ih =>
    intro l0 l2 l3 l5 l7 h
    rw [Rows_orderOf_11]
    refine j_lload d_Rows_orderOf_11 3 rfl ?_
    refine j_lload_n d_Rows_orderOf_13 2 rfl rfl ?_
    refine j_lcmp d_Rows_orderOf_14 ?_
    refine j_if_eq (tgt := 40) d_Rows_orderOf_15 (by decide) ?_ ?_
    · refine j_iload d_Rows_orderOf_40 4 rfl ?_
      exact j_retI d_Rows_orderOf_42
    · refine j_iload d_Rows_orderOf_18 4 rfl ?_
      refine j_bipush (v := 60) d_Rows_orderOf_20 (by decide) ?_
      refine j_icmp_ge (tgt := 40) d_Rows_orderOf_22 (by decide) ?_ ?_
      · refine j_iload d_Rows_orderOf_40 4 rfl ?_
        exact j_retI d_Rows_orderOf_42
      · refine j_lload d_Rows_orderOf_25 3 rfl ?_
        refine j_lload_n d_Rows_orderOf_27 0 rfl rfl ?_
        refine j_iload_n d_Rows_orderOf_28 1 rfl rfl ?_
        refine j_cSL3 d_Rows_orderOf_29 sl_4_71 ks_Rows_times (ct_Rows_times N l D dA B l5 l0 l2 h) (by decide) (by decide) (Nat.le_of_ble_eq_true rfl) (fun x2 h1 => ?_)
        refine j_lstore (lv' := [(5, vl x2), (0, vl l0), (2, vi l2), (3, vl l3), (7, vi l7)]) d_Rows_orderOf_32 (by decide) rfl ?_
        refine j_iinc (lvv := fun x3 => [(7, vi x3), (5, vl x2), (0, vl l0), (2, vi l2), (3, vl l3)]) d_Rows_orderOf_34 4 rfl rfl (by decide) (fun _ => rfl) (fun x3 => ?_)
        refine j_goto (tgt := 11) d_Rows_orderOf_37 (by decide) ?_
        exact J.sub [2, 3, 4, 1, 0] rfl (ih l0 l2 l3 x2 x3 h1)
set_option maxRecDepth 20000 in
theorem jc_Rows_orderOf (N : Nat) (l0 : Int64) (l2 : Int32) (h : Hp) : J p l e R s m args below meth c prog_7_method_21_code 8 "RingingChamber$Rows" 2 51 (some .int) "orderOf" D dA B n0 s0 (QM below args s D dA B n0 s0 vI) 0 [(0, vl l0), (2, vi l2)] [] h (Rows_orderOf N l0 l2 h) := by
  unfold Rows_orderOf
  refine j_iload_n d_Rows_orderOf_0 1 rfl rfl ?_
  refine j_cSL1 d_Rows_orderOf_1 sl_4_67 ks_Rows_rounds (ct_Rows_rounds N l D dA B l2 h) (by decide) (by decide) (Nat.le_of_ble_eq_true rfl) (fun x2 h1 => ?_)
  refine j_lstore_n (lv' := [(3, vl x2), (0, vl l0), (2, vi l2)]) d_Rows_orderOf_4 rfl (by decide) rfl ?_
  refine j_lload_n d_Rows_orderOf_5 1 rfl rfl ?_
  refine j_lstore (lv' := [(5, vl l0), (3, vl x2), (0, vl l0), (2, vi l2)]) d_Rows_orderOf_6 (by decide) rfl ?_
  refine j_iconst (v := 1) d_Rows_orderOf_8 (by decide) ?_
  refine j_istore (lv' := [(7, vi 1), (5, vl l0), (3, vl x2), (0, vl l0), (2, vi l2)]) d_Rows_orderOf_9 (by decide) rfl ?_
  exact J.sub [3, 4, 2, 1, 0] rfl (jc_Rows_orderOf_11 N N l0 l2 x2 l0 1 h1)
set_option maxRecDepth 20000 in
theorem ct_Rows_orderOf (N : Nat) (l : Launch) (D : va_G) (dA : Nat → ClassId) (B : Nat) (l0 : Int64) (l2 : Int32) (h : Hp) : Ct l (⟨"RingingChamber$Rows", "orderOf", "(JI)I"⟩ : MethodName) prog_7_method_21_code 8 (some .int) 2 51 D dA B [vl l0, vi l2] h vI (Rows_orderOf N l0 l2 h) :=
  Ct.of2 (own := "RingingChamber$Rows") (nme := "orderOf") (lv := [(0, vl l0), (2, vi l2)]) rfl rfl (by decide) (Nat.le_of_ble_eq_true rfl) rfl (fun p e R s m args below meth c => jc_Rows_orderOf N l0 l2 h)
theorem d_Rows_closedUp_0 : decode prog_7_method_22_code 0 = .ok (.lconst 0, 1) := by decide +kernel
theorem d_Rows_closedUp_1 : decode prog_7_method_22_code 1 = .ok (.lstore_n 3, 1) := by decide +kernel
theorem d_Rows_closedUp_2 : decode prog_7_method_22_code 2 = .ok (.iconst 0, 1) := by decide +kernel
theorem d_Rows_closedUp_3 : decode prog_7_method_22_code 3 = .ok (.istore 5, 2) := by decide +kernel
theorem d_Rows_closedUp_5 : decode prog_7_method_22_code 5 = .ok (.iconst 0, 1) := by decide +kernel
theorem d_Rows_closedUp_6 : decode prog_7_method_22_code 6 = .ok (.istore 6, 2) := by decide +kernel
theorem d_Rows_closedUp_8 : decode prog_7_method_22_code 8 = .ok (.iload 6, 2) := by decide +kernel
theorem d_Rows_closedUp_10 : decode prog_7_method_22_code 10 = .ok (.bipush 12, 2) := by decide +kernel
theorem d_Rows_closedUp_12 : decode prog_7_method_22_code 12 = .ok (.if_icmp .ge 48, 3) := by decide +kernel
theorem d_Rows_closedUp_15 : decode prog_7_method_22_code 15 = .ok (.lload_n 0, 1) := by decide +kernel
theorem d_Rows_closedUp_16 : decode prog_7_method_22_code 16 = .ok (.iload 6, 2) := by decide +kernel
theorem d_Rows_closedUp_18 : decode prog_7_method_22_code 18 = .ok (.invokestatic 44, 3) := by decide +kernel
theorem d_Rows_closedUp_21 : decode prog_7_method_22_code 21 = .ok (.i2l, 1) := by decide +kernel
theorem d_Rows_closedUp_22 : decode prog_7_method_22_code 22 = .ok (.lstore 7, 2) := by decide +kernel
theorem d_Rows_closedUp_24 : decode prog_7_method_22_code 24 = .ok (.lload 7, 2) := by decide +kernel
theorem d_Rows_closedUp_26 : decode prog_7_method_22_code 26 = .ok (.lconst 0, 1) := by decide +kernel
theorem d_Rows_closedUp_27 : decode prog_7_method_22_code 27 = .ok (.lcmp, 1) := by decide +kernel
theorem d_Rows_closedUp_28 : decode prog_7_method_22_code 28 = .ok (.ifCond .le 26, 3) := by decide +kernel
theorem d_Rows_closedUp_31 : decode prog_7_method_22_code 31 = .ok (.iload_n 2, 1) := by decide +kernel
theorem d_Rows_closedUp_32 : decode prog_7_method_22_code 32 = .ok (.lload 7, 2) := by decide +kernel
theorem d_Rows_closedUp_34 : decode prog_7_method_22_code 34 = .ok (.l2i, 1) := by decide +kernel
theorem d_Rows_closedUp_35 : decode prog_7_method_22_code 35 = .ok (.iconst 1, 1) := by decide +kernel
theorem d_Rows_closedUp_36 : decode prog_7_method_22_code 36 = .ok (.isub, 1) := by decide +kernel
theorem d_Rows_closedUp_37 : decode prog_7_method_22_code 37 = .ok (.ishr, 1) := by decide +kernel
theorem d_Rows_closedUp_38 : decode prog_7_method_22_code 38 = .ok (.iconst 1, 1) := by decide +kernel
theorem d_Rows_closedUp_39 : decode prog_7_method_22_code 39 = .ok (.iand, 1) := by decide +kernel
theorem d_Rows_closedUp_40 : decode prog_7_method_22_code 40 = .ok (.ifCond .eq 14, 3) := by decide +kernel
theorem d_Rows_closedUp_43 : decode prog_7_method_22_code 43 = .ok (.lload_n 3, 1) := by decide +kernel
theorem d_Rows_closedUp_44 : decode prog_7_method_22_code 44 = .ok (.lload 7, 2) := by decide +kernel
theorem d_Rows_closedUp_46 : decode prog_7_method_22_code 46 = .ok (.iload 5, 2) := by decide +kernel
theorem d_Rows_closedUp_48 : decode prog_7_method_22_code 48 = .ok (.lshl, 1) := by decide +kernel
theorem d_Rows_closedUp_49 : decode prog_7_method_22_code 49 = .ok (.lor, 1) := by decide +kernel
theorem d_Rows_closedUp_50 : decode prog_7_method_22_code 50 = .ok (.lstore_n 3, 1) := by decide +kernel
theorem d_Rows_closedUp_51 : decode prog_7_method_22_code 51 = .ok (.iinc 5 4, 3) := by decide +kernel
theorem d_Rows_closedUp_54 : decode prog_7_method_22_code 54 = .ok (.iinc 6 1, 3) := by decide +kernel
theorem d_Rows_closedUp_57 : decode prog_7_method_22_code 57 = .ok (.goto (-49), 3) := by decide +kernel
theorem d_Rows_closedUp_60 : decode prog_7_method_22_code 60 = .ok (.lload_n 3, 1) := by decide +kernel
theorem d_Rows_closedUp_61 : decode prog_7_method_22_code 61 = .ok (.lreturn, 1) := by decide +kernel
set_option maxRecDepth 20000 in
theorem jc_Rows_closedUp_54 (N : Nat) (re8 : Int64 → Int32 → Int64 → Int32 → Int32 → Hp → Option (Int64 × Hp)) (hre8 : ∀ y0 y1 y2 y3 y4 h, J p l e R s m args below meth c prog_7_method_22_code 9 "RingingChamber$Rows" 1 22 (some .long) "closedUp" D dA B n0 s0 (QM below args s D dA B n0 s0 vL) 8 [(0, vl y0), (2, vi y1), (3, vl y2), (5, vi y3), (6, vi y4)] [] h (re8 y0 y1 y2 y3 y4 h)) (l0 : Int64) (l2 : Int32) (l3 : Int64) (l5 : Int32) (l6 : Int32) (h : Hp) : J p l e R s m args below meth c prog_7_method_22_code 9 "RingingChamber$Rows" 1 22 (some .long) "closedUp" D dA B n0 s0 (QM below args s D dA B n0 s0 vL) 54 [(0, vl l0), (2, vi l2), (3, vl l3), (5, vi l5), (6, vi l6)] [] h (Rows_closedUp_54 N re8 l0 l2 l3 l5 l6 h) := by
  unfold Rows_closedUp_54
  refine j_iinc (lvv := fun x1 => [(6, vi x1), (0, vl l0), (2, vi l2), (3, vl l3), (5, vi l5)]) d_Rows_closedUp_54 4 rfl rfl (by decide) (fun _ => rfl) (fun x1 => ?_)
  refine j_goto (tgt := 8) d_Rows_closedUp_57 (by decide) ?_
  exact J.sub [1, 2, 3, 4, 0] rfl (hre8 l0 l2 l3 l5 x1 h)
set_option maxRecDepth 20000 in
theorem jc_Rows_closedUp_8 (N : Nat) : ∀ (n : Nat) (l0 : Int64) (l2 : Int32) (l3 : Int64) (l5 : Int32) (l6 : Int32) (h : Hp), J p l e R s m args below meth c prog_7_method_22_code 9 "RingingChamber$Rows" 1 22 (some .long) "closedUp" D dA B n0 s0 (QM below args s D dA B n0 s0 vL) 8 [(0, vl l0), (2, vi l2), (3, vl l3), (5, vi l5), (6, vi l6)] [] h (Rows_closedUp_8 N n l0 l2 l3 l5 l6 h) := by
  intro n
  induction n with
  | zero => intros; exact J.none
  | succ n ih =>
    intro l0 l2 l3 l5 l6 h
    rw [Rows_closedUp_8]
    refine j_iload d_Rows_closedUp_8 4 rfl ?_
    refine j_bipush (v := 12) d_Rows_closedUp_10 (by decide) ?_
    refine j_icmp_ge (tgt := 60) d_Rows_closedUp_12 (by decide) ?_ ?_
    · refine j_lload_n d_Rows_closedUp_60 2 rfl rfl ?_
      exact j_retL d_Rows_closedUp_61
    · refine j_lload_n d_Rows_closedUp_15 0 rfl rfl ?_
      refine j_iload d_Rows_closedUp_16 4 rfl ?_
      refine j_cSI2 d_Rows_closedUp_18 sl_4_44 ks_Rows_digit (ct_Rows_digit N l D dA B l0 l6 h) (by decide) (by decide) (Nat.le_of_ble_eq_true rfl) (fun x2 h1 => ?_)
      refine j_i2l d_Rows_closedUp_21 ?_
      refine j_nml (fun x3 => ?_)
      refine j_lstore (lv' := [(7, vl x3), (0, vl l0), (2, vi l2), (3, vl l3), (5, vi l5), (6, vi l6)]) d_Rows_closedUp_22 (by decide) rfl ?_
      refine j_lload d_Rows_closedUp_24 0 rfl ?_
      refine j_lconst (v := 0) d_Rows_closedUp_26 (by decide) ?_
      refine j_lcmp d_Rows_closedUp_27 ?_
      refine j_if_le (tgt := 54) d_Rows_closedUp_28 (by decide) ?_ ?_
      · exact J.sub [1, 2, 3, 4, 5] rfl (jc_Rows_closedUp_54 N (Rows_closedUp_8 N n) ih l0 l2 l3 l5 l6 h1)
      · refine j_iload_n d_Rows_closedUp_31 2 rfl rfl ?_
        refine j_lload d_Rows_closedUp_32 0 rfl ?_
        refine j_l2i d_Rows_closedUp_34 ?_
        refine j_iconst (v := 1) d_Rows_closedUp_35 (by decide) ?_
        refine j_isub d_Rows_closedUp_36 ?_
        refine j_ishr d_Rows_closedUp_37 ?_
        refine j_iconst (v := 1) d_Rows_closedUp_38 (by decide) ?_
        refine j_iand d_Rows_closedUp_39 ?_
        refine j_if_eq (tgt := 54) d_Rows_closedUp_40 (by decide) ?_ ?_
        · exact J.sub [1, 2, 3, 4, 5] rfl (jc_Rows_closedUp_54 N (Rows_closedUp_8 N n) ih l0 l2 l3 l5 l6 h1)
        · refine j_lload_n d_Rows_closedUp_43 3 rfl rfl ?_
          refine j_lload d_Rows_closedUp_44 0 rfl ?_
          refine j_iload d_Rows_closedUp_46 4 rfl ?_
          refine j_lshl d_Rows_closedUp_48 ?_
          refine j_lor d_Rows_closedUp_49 ?_
          refine j_nml (fun x4 => ?_)
          refine j_lstore_n (lv' := [(3, vl x4), (7, vl x3), (0, vl l0), (2, vi l2), (5, vi l5), (6, vi l6)]) d_Rows_closedUp_50 rfl (by decide) rfl ?_
          refine j_iinc (lvv := fun x5 => [(5, vi x5), (3, vl x4), (7, vl x3), (0, vl l0), (2, vi l2), (6, vi l6)]) d_Rows_closedUp_51 4 rfl rfl (by decide) (fun _ => rfl) (fun x5 => ?_)
          exact J.sub [3, 4, 1, 0, 5] rfl (jc_Rows_closedUp_54 N (Rows_closedUp_8 N n) ih l0 l2 x4 x5 l6 h1)
set_option maxRecDepth 20000 in
theorem jc_Rows_closedUp (N : Nat) (l0 : Int64) (l2 : Int32) (h : Hp) : J p l e R s m args below meth c prog_7_method_22_code 9 "RingingChamber$Rows" 1 22 (some .long) "closedUp" D dA B n0 s0 (QM below args s D dA B n0 s0 vL) 0 [(0, vl l0), (2, vi l2)] [] h (Rows_closedUp N l0 l2 h) := by
  unfold Rows_closedUp
  refine j_lconst (v := 0) d_Rows_closedUp_0 (by decide) ?_
  refine j_lstore_n (lv' := [(3, vl 0), (0, vl l0), (2, vi l2)]) d_Rows_closedUp_1 rfl (by decide) rfl ?_
  refine j_iconst (v := 0) d_Rows_closedUp_2 (by decide) ?_
  refine j_istore (lv' := [(5, vi 0), (3, vl 0), (0, vl l0), (2, vi l2)]) d_Rows_closedUp_3 (by decide) rfl ?_
  refine j_iconst (v := 0) d_Rows_closedUp_5 (by decide) ?_
  refine j_istore (lv' := [(6, vi 0), (5, vi 0), (3, vl 0), (0, vl l0), (2, vi l2)]) d_Rows_closedUp_6 (by decide) rfl ?_
  exact J.sub [3, 4, 2, 1, 0] rfl (jc_Rows_closedUp_8 N N l0 l2 0 0 0 h)
set_option maxRecDepth 20000 in
theorem ct_Rows_closedUp (N : Nat) (l : Launch) (D : va_G) (dA : Nat → ClassId) (B : Nat) (l0 : Int64) (l2 : Int32) (h : Hp) : Ct l (⟨"RingingChamber$Rows", "closedUp", "(JI)J"⟩ : MethodName) prog_7_method_22_code 9 (some .long) 1 22 D dA B [vl l0, vi l2] h vL (Rows_closedUp N l0 l2 h) :=
  Ct.of2 (own := "RingingChamber$Rows") (nme := "closedUp") (lv := [(0, vl l0), (2, vi l2)]) rfl rfl (by decide) (Nat.le_of_ble_eq_true rfl) rfl (fun p e R s m args below meth c => jc_Rows_closedUp N l0 l2 h)
theorem d_Search_init_0 : decode prog_8_method_1_code 0 = .ok (.aload_n 0, 1) := by decide +kernel
theorem d_Search_init_1 : decode prog_8_method_1_code 1 = .ok (.invokespecial 3, 3) := by decide +kernel
theorem d_Search_init_4 : decode prog_8_method_1_code 4 = .ok (.aload_n 0, 1) := by decide +kernel
theorem d_Search_init_5 : decode prog_8_method_1_code 5 = .ok (.bipush 90, 2) := by decide +kernel
theorem d_Search_init_7 : decode prog_8_method_1_code 7 = .ok (.newarray .int, 2) := by decide +kernel
theorem d_Search_init_9 : decode prog_8_method_1_code 9 = .ok (.putfield 11, 3) := by decide +kernel
theorem d_Search_init_12 : decode prog_8_method_1_code 12 = .ok (.aload_n 0, 1) := by decide +kernel
theorem d_Search_init_13 : decode prog_8_method_1_code 13 = .ok (.bipush 90, 2) := by decide +kernel
theorem d_Search_init_15 : decode prog_8_method_1_code 15 = .ok (.anewarray 15, 3) := by decide +kernel
theorem d_Search_init_18 : decode prog_8_method_1_code 18 = .ok (.putfield 17, 3) := by decide +kernel
theorem d_Search_init_21 : decode prog_8_method_1_code 21 = .ok (.aload_n 0, 1) := by decide +kernel
theorem d_Search_init_22 : decode prog_8_method_1_code 22 = .ok (.sipush 1080, 3) := by decide +kernel
theorem d_Search_init_25 : decode prog_8_method_1_code 25 = .ok (.anewarray 21, 3) := by decide +kernel
theorem d_Search_init_28 : decode prog_8_method_1_code 28 = .ok (.putfield 23, 3) := by decide +kernel
theorem d_Search_init_31 : decode prog_8_method_1_code 31 = .ok (.aload_n 0, 1) := by decide +kernel
theorem d_Search_init_32 : decode prog_8_method_1_code 32 = .ok (.sipush 1080, 3) := by decide +kernel
theorem d_Search_init_35 : decode prog_8_method_1_code 35 = .ok (.newarray .int, 2) := by decide +kernel
theorem d_Search_init_37 : decode prog_8_method_1_code 37 = .ok (.putfield 27, 3) := by decide +kernel
theorem d_Search_init_40 : decode prog_8_method_1_code 40 = .ok (.aload_n 0, 1) := by decide +kernel
theorem d_Search_init_41 : decode prog_8_method_1_code 41 = .ok (.new 30, 3) := by decide +kernel
theorem d_Search_init_44 : decode prog_8_method_1_code 44 = .ok (.dup, 1) := by decide +kernel
theorem d_Search_init_45 : decode prog_8_method_1_code 45 = .ok (.sipush 1201, 3) := by decide +kernel
theorem d_Search_init_48 : decode prog_8_method_1_code 48 = .ok (.invokespecial 32, 3) := by decide +kernel
theorem d_Search_init_51 : decode prog_8_method_1_code 51 = .ok (.putfield 35, 3) := by decide +kernel
theorem d_Search_init_54 : decode prog_8_method_1_code 54 = .ok (.aload_n 0, 1) := by decide +kernel
theorem d_Search_init_55 : decode prog_8_method_1_code 55 = .ok (.sipush 1201, 3) := by decide +kernel
theorem d_Search_init_58 : decode prog_8_method_1_code 58 = .ok (.newarray .int, 2) := by decide +kernel
theorem d_Search_init_60 : decode prog_8_method_1_code 60 = .ok (.putfield 39, 3) := by decide +kernel
theorem d_Search_init_63 : decode prog_8_method_1_code 63 = .ok (.aload_n 0, 1) := by decide +kernel
theorem d_Search_init_64 : decode prog_8_method_1_code 64 = .ok (.bipush 12, 2) := by decide +kernel
theorem d_Search_init_66 : decode prog_8_method_1_code 66 = .ok (.newarray .int, 2) := by decide +kernel
theorem d_Search_init_68 : decode prog_8_method_1_code 68 = .ok (.putfield 42, 3) := by decide +kernel
theorem d_Search_init_71 : decode prog_8_method_1_code 71 = .ok (.aload_n 0, 1) := by decide +kernel
theorem d_Search_init_72 : decode prog_8_method_1_code 72 = .ok (.bipush 12, 2) := by decide +kernel
theorem d_Search_init_74 : decode prog_8_method_1_code 74 = .ok (.newarray .int, 2) := by decide +kernel
theorem d_Search_init_76 : decode prog_8_method_1_code 76 = .ok (.putfield 45, 3) := by decide +kernel
theorem d_Search_init_79 : decode prog_8_method_1_code 79 = .ok (.aload_n 0, 1) := by decide +kernel
theorem d_Search_init_80 : decode prog_8_method_1_code 80 = .ok (.iconst (-1), 1) := by decide +kernel
theorem d_Search_init_81 : decode prog_8_method_1_code 81 = .ok (.putfield 48, 3) := by decide +kernel
theorem d_Search_init_84 : decode prog_8_method_1_code 84 = .ok (.return_, 1) := by decide +kernel
set_option maxRecDepth 20000 in
theorem jc_Search_init (N : Nat) (l0 : Option Nat) (h : Hp) : J p l e R s m args below meth c prog_8_method_1_code 1 "RingingChamber$Search" 2 51 none "<init>" D dA B n0 s0 (QM below args s D dA B n0 s0 vU) 0 [(0, vr l0)] [] h (Search_init N l0 h) := by
  unfold Search_init
  refine j_aload_n d_Search_init_0 0 rfl rfl ?_
  refine j_obj d_Search_init_1 ko_5_3 ko_i ko_c (by decide) (by decide) (Nat.le_of_ble_eq_true rfl) ?_
  refine j_aload_n d_Search_init_4 0 rfl rfl ?_
  refine j_bipush (v := 90) d_Search_init_5 (by decide) ?_
  refine j_newa13 d_Search_init_7 ka_int (fun x1 h2 => ?_)
  refine j_putR d_Search_init_9 fl_5_11 (Or.inr rfl) (Or.inr ⟨_, rfl⟩) (fun h3 => ?_)
  refine j_aload_n d_Search_init_12 0 rfl rfl ?_
  refine j_bipush (v := 90) d_Search_init_13 (by decide) ?_
  refine j_newa18 d_Search_init_15 kl_5_15 (fun x4 h5 => ?_)
  refine j_putR d_Search_init_18 fl_5_17 (Or.inr rfl) (Or.inr ⟨_, rfl⟩) (fun h6 => ?_)
  refine j_aload_n d_Search_init_21 0 rfl rfl ?_
  refine j_sipush (v := 1080) d_Search_init_22 (by decide) ?_
  refine j_newa17 d_Search_init_25 kl_5_21 (fun x7 h8 => ?_)
  refine j_putR d_Search_init_28 fl_5_23 (Or.inr rfl) (Or.inr ⟨_, rfl⟩) (fun h9 => ?_)
  refine j_aload_n d_Search_init_31 0 rfl rfl ?_
  refine j_sipush (v := 1080) d_Search_init_32 (by decide) ?_
  refine j_newa13 d_Search_init_35 ka_int (fun x10 h11 => ?_)
  refine j_putR d_Search_init_37 fl_5_27 (Or.inr rfl) (Or.inr ⟨_, rfl⟩) (fun h12 => ?_)
  refine j_aload_n d_Search_init_40 0 rfl rfl ?_
  refine j_new d_Search_init_41 nl_5_30 (fun x13 h14 => ?_)
  refine j_dup d_Search_init_44 rfl ?_
  refine j_sipush (v := 1201) d_Search_init_45 (by decide) ?_
  refine j_i1 d_Search_init_48 sl_5_32 ki_Rows_init (ct_Rows_init N l D dA B x13 1201 h14) (by decide) (by decide) (Nat.le_of_ble_eq_true rfl) (fun _ h15 => ?_)
  refine j_putR d_Search_init_51 fl_5_35 (Or.inr rfl) (Or.inl ⟨_, rfl⟩) (fun h16 => ?_)
  refine j_aload_n d_Search_init_54 0 rfl rfl ?_
  refine j_sipush (v := 1201) d_Search_init_55 (by decide) ?_
  refine j_newa13 d_Search_init_58 ka_int (fun x17 h18 => ?_)
  refine j_putR d_Search_init_60 fl_5_39 (Or.inr rfl) (Or.inr ⟨_, rfl⟩) (fun h19 => ?_)
  refine j_aload_n d_Search_init_63 0 rfl rfl ?_
  refine j_bipush (v := 12) d_Search_init_64 (by decide) ?_
  refine j_newa13 d_Search_init_66 ka_int (fun x20 h21 => ?_)
  refine j_putR d_Search_init_68 fl_5_42 (Or.inr rfl) (Or.inr ⟨_, rfl⟩) (fun h22 => ?_)
  refine j_aload_n d_Search_init_71 0 rfl rfl ?_
  refine j_bipush (v := 12) d_Search_init_72 (by decide) ?_
  refine j_newa13 d_Search_init_74 ka_int (fun x23 h24 => ?_)
  refine j_putR d_Search_init_76 fl_5_45 (Or.inr rfl) (Or.inr ⟨_, rfl⟩) (fun h25 => ?_)
  refine j_aload_n d_Search_init_79 0 rfl rfl ?_
  refine j_iconst (v := -1) d_Search_init_80 (by decide) ?_
  refine j_putI d_Search_init_81 fl_5_48 (Or.inl rfl) (fun h26 => ?_)
  exact j_retU d_Search_init_84
set_option maxRecDepth 20000 in
theorem ct_Search_init (N : Nat) (l : Launch) (D : va_G) (dA : Nat → ClassId) (B : Nat) (l0 : Option Nat) (h : Hp) : Ct l (⟨"RingingChamber$Search", "<init>", "()V"⟩ : MethodName) prog_8_method_1_code 1 none 2 51 D dA B [vr l0] h vU (Search_init N l0 h) :=
  Ct.of2 (own := "RingingChamber$Search") (nme := "<init>") (lv := [(0, vr l0)]) rfl rfl (by decide) (Nat.le_of_ble_eq_true rfl) rfl (fun p e R s m args below meth c => jc_Search_init N l0 h)
theorem d_Search_forget_0 : decode prog_8_method_2_code 0 = .ok (.aload_n 0, 1) := by decide +kernel
theorem d_Search_forget_1 : decode prog_8_method_2_code 1 = .ok (.iconst (-1), 1) := by decide +kernel
theorem d_Search_forget_2 : decode prog_8_method_2_code 2 = .ok (.putfield 48, 3) := by decide +kernel
theorem d_Search_forget_5 : decode prog_8_method_2_code 5 = .ok (.aload_n 0, 1) := by decide +kernel
theorem d_Search_forget_6 : decode prog_8_method_2_code 6 = .ok (.iconst 0, 1) := by decide +kernel
theorem d_Search_forget_7 : decode prog_8_method_2_code 7 = .ok (.putfield 52, 3) := by decide +kernel
theorem d_Search_forget_10 : decode prog_8_method_2_code 10 = .ok (.return_, 1) := by decide +kernel
set_option maxRecDepth 20000 in
theorem jc_Search_forget (N : Nat) (l0 : Option Nat) (h : Hp) : J p l e R s m args below meth c prog_8_method_2_code 1 "RingingChamber$Search" 0 0 none "forget" D dA B n0 s0 (QM below args s D dA B n0 s0 vU) 0 [(0, vr l0)] [] h (Search_forget N l0 h) := by
  unfold Search_forget
  refine j_aload_n d_Search_forget_0 0 rfl rfl ?_
  refine j_iconst (v := -1) d_Search_forget_1 (by decide) ?_
  refine j_putI d_Search_forget_2 fl_5_48 (Or.inl rfl) (fun h1 => ?_)
  refine j_aload_n d_Search_forget_5 0 rfl rfl ?_
  refine j_iconst (v := 0) d_Search_forget_6 (by decide) ?_
  refine j_putI d_Search_forget_7 fl_5_52 (Or.inl rfl) (fun h2 => ?_)
  exact j_retU d_Search_forget_10
set_option maxRecDepth 20000 in
theorem ct_Search_forget (N : Nat) (l : Launch) (D : va_G) (dA : Nat → ClassId) (B : Nat) (l0 : Option Nat) (h : Hp) : Ct l (⟨"RingingChamber$Search", "forget", "()V"⟩ : MethodName) prog_8_method_2_code 1 none 0 0 D dA B [vr l0] h vU (Search_forget N l0 h) :=
  Ct.of2 (own := "RingingChamber$Search") (nme := "forget") (lv := [(0, vr l0)]) rfl rfl (by decide) (Nat.le_of_ble_eq_true rfl) rfl (fun p e R s m args below meth c => jc_Search_forget N l0 h)
theorem d_Jk_fill_0 : decode prog_19_method_103_code 0 = .ok (.iconst 0, 1) := by decide +kernel
theorem d_Jk_fill_1 : decode prog_19_method_103_code 1 = .ok (.istore_n 2, 1) := by decide +kernel
theorem d_Jk_fill_2 : decode prog_19_method_103_code 2 = .ok (.aload_n 0, 1) := by decide +kernel
theorem d_Jk_fill_3 : decode prog_19_method_103_code 3 = .ok (.arraylength, 1) := by decide +kernel
theorem d_Jk_fill_4 : decode prog_19_method_103_code 4 = .ok (.istore_n 3, 1) := by decide +kernel
theorem d_Jk_fill_5 : decode prog_19_method_103_code 5 = .ok (.iload_n 2, 1) := by decide +kernel
theorem d_Jk_fill_6 : decode prog_19_method_103_code 6 = .ok (.iload_n 3, 1) := by decide +kernel
theorem d_Jk_fill_7 : decode prog_19_method_103_code 7 = .ok (.if_icmp .ge 13, 3) := by decide +kernel
theorem d_Jk_fill_10 : decode prog_19_method_103_code 10 = .ok (.aload_n 0, 1) := by decide +kernel
theorem d_Jk_fill_11 : decode prog_19_method_103_code 11 = .ok (.iload_n 2, 1) := by decide +kernel
theorem d_Jk_fill_12 : decode prog_19_method_103_code 12 = .ok (.iload_n 1, 1) := by decide +kernel
theorem d_Jk_fill_13 : decode prog_19_method_103_code 13 = .ok (.iastore, 1) := by decide +kernel
theorem d_Jk_fill_14 : decode prog_19_method_103_code 14 = .ok (.iinc 2 1, 3) := by decide +kernel
theorem d_Jk_fill_17 : decode prog_19_method_103_code 17 = .ok (.goto (-12), 3) := by decide +kernel
theorem d_Jk_fill_20 : decode prog_19_method_103_code 20 = .ok (.return_, 1) := by decide +kernel
set_option maxRecDepth 20000 in
theorem jc_Jk_fill_5 (N : Nat) : ∀ (n : Nat) (l0 : Option Nat) (l1 : Int32) (l2 : Int32) (l3 : Int32) (h : Hp), J p l e R s m args below meth c prog_19_method_103_code 4 "java/util/Arrays" 0 0 none "fill" D dA B n0 s0 (QM below args s D dA B n0 s0 vU) 5 [(0, vr l0), (1, vi l1), (2, vi l2), (3, vi l3)] [] h (Jk_fill_5 N n l0 l1 l2 l3 h) := by
  intro n
  induction n with
  | zero => intros; exact J.none
  | succ n ih =>
    intro l0 l1 l2 l3 h
    rw [Jk_fill_5]
    refine j_iload_n d_Jk_fill_5 2 rfl rfl ?_
    refine j_iload_n d_Jk_fill_6 3 rfl rfl ?_
    refine j_icmp_ge (tgt := 20) d_Jk_fill_7 (by decide) ?_ ?_
    · exact j_retU d_Jk_fill_20
    · refine j_aload_n d_Jk_fill_10 0 rfl rfl ?_
      refine j_iload_n d_Jk_fill_11 2 rfl rfl ?_
      refine j_iload_n d_Jk_fill_12 1 rfl rfl ?_
      refine j_iast d_Jk_fill_13 (fun h1 => ?_)
      refine j_iinc (lvv := fun x2 => [(2, vi x2), (0, vr l0), (1, vi l1), (3, vi l3)]) d_Jk_fill_14 2 rfl rfl (by decide) (fun _ => rfl) (fun x2 => ?_)
      refine j_goto (tgt := 5) d_Jk_fill_17 (by decide) ?_
      exact J.sub [1, 2, 0, 3] rfl (ih l0 l1 x2 l3 h1)
set_option maxRecDepth 20000 in
theorem jc_Jk_fill (N : Nat) (l0 : Option Nat) (l1 : Int32) (h : Hp) : J p l e R s m args below meth c prog_19_method_103_code 4 "java/util/Arrays" 0 0 none "fill" D dA B n0 s0 (QM below args s D dA B n0 s0 vU) 0 [(0, vr l0), (1, vi l1)] [] h (Jk_fill N l0 l1 h) := by
  unfold Jk_fill
  refine j_iconst (v := 0) d_Jk_fill_0 (by decide) ?_
  refine j_istore_n (lv' := [(2, vi 0), (0, vr l0), (1, vi l1)]) d_Jk_fill_1 rfl (by decide) rfl ?_
  refine j_aload_n d_Jk_fill_2 1 rfl rfl ?_
  refine j_alen d_Jk_fill_3 (fun x1 => ?_)
  refine j_istore_n (lv' := [(3, vi x1), (2, vi 0), (0, vr l0), (1, vi l1)]) d_Jk_fill_4 rfl (by decide) rfl ?_
  exact J.sub [2, 3, 1, 0] rfl (jc_Jk_fill_5 N N l0 l1 0 x1 h)
set_option maxRecDepth 20000 in
theorem ct_Jk_fill (N : Nat) (l : Launch) (D : va_G) (dA : Nat → ClassId) (B : Nat) (l0 : Option Nat) (l1 : Int32) (h : Hp) : Ct l (⟨"java/util/Arrays", "fill", "([II)V"⟩ : MethodName) prog_19_method_103_code 4 none 0 0 D dA B [vr l0, vi l1] h vU (Jk_fill N l0 l1 h) :=
  Ct.of2 (own := "java/util/Arrays") (nme := "fill") (lv := [(0, vr l0), (1, vi l1)]) rfl rfl (by decide) (Nat.le_of_ble_eq_true rfl) rfl (fun p e R s m args below meth c => jc_Jk_fill N l0 l1 h)
end
