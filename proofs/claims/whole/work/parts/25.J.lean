section
variable {p : Program} {l : Launch} {e : Env} {R : Room} {s : State} {m : MethodId} {args : Array Value} {below : List Frame} {meth : Method} {c : Code} {D : va_G} {dA : Nat → ClassId} {B n0 s0 : Nat}
theorem d_M_placeOfOne_0 : decode prog_15_method_37_code 0 = .ok (.iconst 1, 1) := by decide +kernel
theorem d_M_placeOfOne_1 : decode prog_15_method_37_code 1 = .ok (.istore_n 3, 1) := by decide +kernel
theorem d_M_placeOfOne_2 : decode prog_15_method_37_code 2 = .ok (.lload_n 1, 1) := by decide +kernel
theorem d_M_placeOfOne_3 : decode prog_15_method_37_code 3 = .ok (.iload_n 3, 1) := by decide +kernel
theorem d_M_placeOfOne_4 : decode prog_15_method_37_code 4 = .ok (.invokestatic 157, 3) := by decide +kernel
theorem d_M_placeOfOne_7 : decode prog_15_method_37_code 7 = .ok (.iconst 1, 1) := by decide +kernel
theorem d_M_placeOfOne_8 : decode prog_15_method_37_code 8 = .ok (.if_icmp .eq 9, 3) := by decide +kernel
theorem d_M_placeOfOne_11 : decode prog_15_method_37_code 11 = .ok (.iinc 3 1, 3) := by decide +kernel
theorem d_M_placeOfOne_14 : decode prog_15_method_37_code 14 = .ok (.goto (-12), 3) := by decide +kernel
theorem d_M_placeOfOne_17 : decode prog_15_method_37_code 17 = .ok (.iload_n 3, 1) := by decide +kernel
theorem d_M_placeOfOne_18 : decode prog_15_method_37_code 18 = .ok (.ireturn, 1) := by decide +kernel
set_option maxRecDepth 20000 in
theorem jc_M_placeOfOne_2 (N : Nat) : ∀ (n : Nat) (l1 : Int64) (l3 : Int32) (h : Hp), J p l e R s m args below meth c prog_15_method_37_code 4 "RingingChamberModel" 1 22 (some .int) "placeOfOne" D dA B n0 s0 (QM below args s D dA B n0 s0 vI) 2 [(1, vl l1), (3, vi l3)] [] h (M_placeOfOne_2 N n l1 l3 h) := by
  intro n
  induction n with
  | zero => intros; exact J.none
  | succ n ih =>
    intro l1 l3 h
    rw [M_placeOfOne_2]
    refine j_lload_n d_M_placeOfOne_2 0 rfl rfl ?_
    refine j_iload_n d_M_placeOfOne_3 1 rfl rfl ?_
    refine j_cSI2 d_M_placeOfOne_4 sl_12_157 ks_M_bell (ct_M_bell N l D dA B l1 l3 h) (by decide) (by decide) (Nat.le_of_ble_eq_true rfl) (fun x2 h1 => ?_)
    refine j_iconst (v := 1) d_M_placeOfOne_7 (by decide) ?_
    refine j_icmp_eq (tgt := 17) d_M_placeOfOne_8 (by decide) ?_ ?_
    · refine j_iload_n d_M_placeOfOne_17 1 rfl rfl ?_
      exact j_retI d_M_placeOfOne_18
    · refine j_iinc (lvv := fun x3 => [(3, vi x3), (1, vl l1)]) d_M_placeOfOne_11 1 rfl rfl (by decide) (fun _ => rfl) (fun x3 => ?_)
      refine j_goto (tgt := 2) d_M_placeOfOne_14 (by decide) ?_
      exact J.sub [1, 0] rfl (ih l1 x3 h1)
set_option maxRecDepth 20000 in
theorem jc_M_placeOfOne (N : Nat) (l0 : Option Nat) (l1 : Int64) (h : Hp) : J p l e R s m args below meth c prog_15_method_37_code 4 "RingingChamberModel" 1 22 (some .int) "placeOfOne" D dA B n0 s0 (QM below args s D dA B n0 s0 vI) 0 [(0, vr l0), (1, vl l1)] [] h (M_placeOfOne N l0 l1 h) := by
  unfold M_placeOfOne
  refine j_iconst (v := 1) d_M_placeOfOne_0 (by decide) ?_
  refine j_istore_n (lv' := [(3, vi 1), (0, vr l0), (1, vl l1)]) d_M_placeOfOne_1 rfl (by decide) rfl ?_
  exact J.sub [2, 0] rfl (jc_M_placeOfOne_2 N N l1 1 h)
set_option maxRecDepth 20000 in
theorem ct_M_placeOfOne (N : Nat) (l : Launch) (D : va_G) (dA : Nat → ClassId) (B : Nat) (l0 : Option Nat) (l1 : Int64) (h : Hp) : Ct l (⟨"RingingChamberModel", "placeOfOne", "(J)I"⟩ : MethodName) prog_15_method_37_code 4 (some .int) 1 22 D dA B [vr l0, vl l1] h vI (M_placeOfOne N l0 l1 h) :=
  Ct.of2 (own := "RingingChamberModel") (nme := "placeOfOne") (lv := [(0, vr l0), (1, vl l1)]) rfl rfl (by decide) (Nat.le_of_ble_eq_true rfl) rfl (fun p e R s m args below meth c => jc_M_placeOfOne N l0 l1 h)
theorem d_M_hunt_0 : decode prog_15_method_36_code 0 = .ok (.iconst 1, 1) := by decide +kernel
theorem d_M_hunt_1 : decode prog_15_method_36_code 1 = .ok (.istore_n 1, 1) := by decide +kernel
theorem d_M_hunt_2 : decode prog_15_method_36_code 2 = .ok (.iload_n 1, 1) := by decide +kernel
theorem d_M_hunt_3 : decode prog_15_method_36_code 3 = .ok (.aload_n 0, 1) := by decide +kernel
theorem d_M_hunt_4 : decode prog_15_method_36_code 4 = .ok (.getfield 105, 3) := by decide +kernel
theorem d_M_hunt_7 : decode prog_15_method_36_code 7 = .ok (.if_icmp .gt 16, 3) := by decide +kernel
theorem d_M_hunt_10 : decode prog_15_method_36_code 10 = .ok (.aload_n 0, 1) := by decide +kernel
theorem d_M_hunt_11 : decode prog_15_method_36_code 11 = .ok (.getfield 95, 3) := by decide +kernel
theorem d_M_hunt_14 : decode prog_15_method_36_code 14 = .ok (.iload_n 1, 1) := by decide +kernel
theorem d_M_hunt_15 : decode prog_15_method_36_code 15 = .ok (.iconst 0, 1) := by decide +kernel
theorem d_M_hunt_16 : decode prog_15_method_36_code 16 = .ok (.iastore, 1) := by decide +kernel
theorem d_M_hunt_17 : decode prog_15_method_36_code 17 = .ok (.iinc 1 1, 3) := by decide +kernel
theorem d_M_hunt_20 : decode prog_15_method_36_code 20 = .ok (.goto (-18), 3) := by decide +kernel
theorem d_M_hunt_23 : decode prog_15_method_36_code 23 = .ok (.aload_n 0, 1) := by decide +kernel
theorem d_M_hunt_24 : decode prog_15_method_36_code 24 = .ok (.invokevirtual 133, 3) := by decide +kernel
theorem d_M_hunt_27 : decode prog_15_method_36_code 27 = .ok (.lstore_n 1, 1) := by decide +kernel
theorem d_M_hunt_28 : decode prog_15_method_36_code 28 = .ok (.iconst 0, 1) := by decide +kernel
theorem d_M_hunt_29 : decode prog_15_method_36_code 29 = .ok (.istore_n 3, 1) := by decide +kernel
theorem d_M_hunt_30 : decode prog_15_method_36_code 30 = .ok (.iload_n 3, 1) := by decide +kernel
theorem d_M_hunt_31 : decode prog_15_method_36_code 31 = .ok (.aload_n 0, 1) := by decide +kernel
theorem d_M_hunt_32 : decode prog_15_method_36_code 32 = .ok (.getfield 217, 3) := by decide +kernel
theorem d_M_hunt_35 : decode prog_15_method_36_code 35 = .ok (.if_icmp .ge 34, 3) := by decide +kernel
theorem d_M_hunt_38 : decode prog_15_method_36_code 38 = .ok (.lload_n 1, 1) := by decide +kernel
theorem d_M_hunt_39 : decode prog_15_method_36_code 39 = .ok (.aload_n 0, 1) := by decide +kernel
theorem d_M_hunt_40 : decode prog_15_method_36_code 40 = .ok (.getfield 37, 3) := by decide +kernel
theorem d_M_hunt_43 : decode prog_15_method_36_code 43 = .ok (.iload_n 3, 1) := by decide +kernel
theorem d_M_hunt_44 : decode prog_15_method_36_code 44 = .ok (.iaload, 1) := by decide +kernel
theorem d_M_hunt_45 : decode prog_15_method_36_code 45 = .ok (.invokestatic 224, 3) := by decide +kernel
theorem d_M_hunt_48 : decode prog_15_method_36_code 48 = .ok (.lstore_n 1, 1) := by decide +kernel
theorem d_M_hunt_49 : decode prog_15_method_36_code 49 = .ok (.aload_n 0, 1) := by decide +kernel
theorem d_M_hunt_50 : decode prog_15_method_36_code 50 = .ok (.getfield 95, 3) := by decide +kernel
theorem d_M_hunt_53 : decode prog_15_method_36_code 53 = .ok (.aload_n 0, 1) := by decide +kernel
theorem d_M_hunt_54 : decode prog_15_method_36_code 54 = .ok (.lload_n 1, 1) := by decide +kernel
theorem d_M_hunt_55 : decode prog_15_method_36_code 55 = .ok (.invokevirtual 228, 3) := by decide +kernel
theorem d_M_hunt_58 : decode prog_15_method_36_code 58 = .ok (.dup2, 1) := by decide +kernel
theorem d_M_hunt_59 : decode prog_15_method_36_code 59 = .ok (.iaload, 1) := by decide +kernel
theorem d_M_hunt_60 : decode prog_15_method_36_code 60 = .ok (.iconst 1, 1) := by decide +kernel
theorem d_M_hunt_61 : decode prog_15_method_36_code 61 = .ok (.iadd, 1) := by decide +kernel
theorem d_M_hunt_62 : decode prog_15_method_36_code 62 = .ok (.iastore, 1) := by decide +kernel
theorem d_M_hunt_63 : decode prog_15_method_36_code 63 = .ok (.iinc 3 1, 3) := by decide +kernel
theorem d_M_hunt_66 : decode prog_15_method_36_code 66 = .ok (.goto (-36), 3) := by decide +kernel
theorem d_M_hunt_69 : decode prog_15_method_36_code 69 = .ok (.return_, 1) := by decide +kernel
set_option maxRecDepth 20000 in
theorem jc_M_hunt_30 (N : Nat) : ∀ (n : Nat) (l0 : Option Nat) (l1 : Int64) (l3 : Int32) (h : Hp), J p l e R s m args below meth c prog_15_method_36_code 4 "RingingChamberModel" 2 51 none "hunt" D dA B n0 s0 (QM below args s D dA B n0 s0 vU) 30 [(0, vr l0), (1, vl l1), (3, vi l3)] [] h (M_hunt_30 N n l0 l1 l3 h) := by
  intro n
  induction n with
  | zero => intros; exact J.none
  | succ n ih =>
    intro l0 l1 l3 h
    rw [M_hunt_30]
    refine j_iload_n d_M_hunt_30 2 rfl rfl ?_
    refine j_aload_n d_M_hunt_31 0 rfl rfl ?_
    refine j_getI d_M_hunt_32 fl_12_217.r (fun x1 => ?_)
    refine j_icmp_ge (tgt := 69) d_M_hunt_35 (by decide) ?_ ?_
    · exact j_retU d_M_hunt_69
    · refine j_lload_n d_M_hunt_38 1 rfl rfl ?_
      refine j_aload_n d_M_hunt_39 0 rfl rfl ?_
      refine j_getR d_M_hunt_40 fl_12_37.r (fun x2 => ?_)
      refine j_iload_n d_M_hunt_43 2 rfl rfl ?_
      refine j_iald d_M_hunt_44 (fun x3 => ?_)
      refine j_cSL2 d_M_hunt_45 sl_12_224 ks_M_done (ct_M_done N l D dA B l1 x3 h) (by decide) (by decide) (Nat.le_of_ble_eq_true rfl) (fun x5 h4 => ?_)
      refine j_lstore_n (lv' := [(1, vl x5), (0, vr l0), (3, vi l3)]) d_M_hunt_48 rfl (by decide) rfl ?_
      refine j_aload_n d_M_hunt_49 1 rfl rfl ?_
      refine j_getR d_M_hunt_50 fl_12_95.r (fun x6 => ?_)
      refine j_aload_n d_M_hunt_53 1 rfl rfl ?_
      refine j_lload_n d_M_hunt_54 0 rfl rfl ?_
      refine j_vI1 d_M_hunt_55 (allQ.cons (VD.mk vt_12_228_12 (ct_M_placeOfOne N l D dA B l0 x5 h4) (by decide) (by decide)) allQ.nil) (Nat.le_of_ble_eq_true rfl) (fun x8 h7 => ?_)
      refine j_dup2_11 d_M_hunt_58 rfl rfl ?_
      refine j_iald d_M_hunt_59 (fun x9 => ?_)
      refine j_iconst (v := 1) d_M_hunt_60 (by decide) ?_
      refine j_iadd d_M_hunt_61 ?_
      refine j_iast d_M_hunt_62 (fun h10 => ?_)
      refine j_iinc (lvv := fun x11 => [(3, vi x11), (1, vl x5), (0, vr l0)]) d_M_hunt_63 2 rfl rfl (by decide) (fun _ => rfl) (fun x11 => ?_)
      refine j_goto (tgt := 30) d_M_hunt_66 (by decide) ?_
      exact J.sub [2, 1, 0] rfl (ih l0 x5 x11 h10)
set_option maxRecDepth 20000 in
theorem jc_M_hunt_2 (N : Nat) : ∀ (n : Nat) (l0 : Option Nat) (l1 : Int32) (h : Hp), J p l e R s m args below meth c prog_15_method_36_code 4 "RingingChamberModel" 2 51 none "hunt" D dA B n0 s0 (QM below args s D dA B n0 s0 vU) 2 [(0, vr l0), (1, vi l1)] [] h (M_hunt_2 N n l0 l1 h) := by
  intro n
  induction n with
  | zero => intros; exact J.none
  | succ n ih =>
    intro l0 l1 h
    rw [M_hunt_2]
    refine j_iload_n d_M_hunt_2 1 rfl rfl ?_
    refine j_aload_n d_M_hunt_3 0 rfl rfl ?_
    refine j_getI d_M_hunt_4 fl_12_105.r (fun x1 => ?_)
    refine j_icmp_gt (tgt := 23) d_M_hunt_7 (by decide) ?_ ?_
    · refine j_aload_n d_M_hunt_23 0 rfl rfl ?_
      refine j_vL0 d_M_hunt_24 (allQ.cons (VD.mk vt_12_133_12 (ct_M_rounds N l D dA B l0 h) (by decide) (by decide)) allQ.nil) (Nat.le_of_ble_eq_true rfl) (fun x3 h2 => ?_)
      refine j_lstore_n (lv' := [(1, vl x3), (0, vr l0)]) d_M_hunt_27 rfl (by decide) rfl ?_
      refine j_iconst (v := 0) d_M_hunt_28 (by decide) ?_
      refine j_istore_n (lv' := [(3, vi 0), (1, vl x3), (0, vr l0)]) d_M_hunt_29 rfl (by decide) rfl ?_
      exact J.sub [2, 1, 0] rfl (jc_M_hunt_30 N N l0 x3 0 h2)
    · refine j_aload_n d_M_hunt_10 0 rfl rfl ?_
      refine j_getR d_M_hunt_11 fl_12_95.r (fun x4 => ?_)
      refine j_iload_n d_M_hunt_14 1 rfl rfl ?_
      refine j_iconst (v := 0) d_M_hunt_15 (by decide) ?_
      refine j_iast d_M_hunt_16 (fun h5 => ?_)
      refine j_iinc (lvv := fun x6 => [(1, vi x6), (0, vr l0)]) d_M_hunt_17 1 rfl rfl (by decide) (fun _ => rfl) (fun x6 => ?_)
      refine j_goto (tgt := 2) d_M_hunt_20 (by decide) ?_
      exact J.sub [1, 0] rfl (ih l0 x6 h5)
set_option maxRecDepth 20000 in
theorem jc_M_hunt (N : Nat) (l0 : Option Nat) (h : Hp) : J p l e R s m args below meth c prog_15_method_36_code 4 "RingingChamberModel" 2 51 none "hunt" D dA B n0 s0 (QM below args s D dA B n0 s0 vU) 0 [(0, vr l0)] [] h (M_hunt N l0 h) := by
  unfold M_hunt
  refine j_iconst (v := 1) d_M_hunt_0 (by decide) ?_
  refine j_istore_n (lv' := [(1, vi 1), (0, vr l0)]) d_M_hunt_1 rfl (by decide) rfl ?_
  exact J.sub [1, 0] rfl (jc_M_hunt_2 N N l0 1 h)
set_option maxRecDepth 20000 in
theorem ct_M_hunt (N : Nat) (l : Launch) (D : va_G) (dA : Nat → ClassId) (B : Nat) (l0 : Option Nat) (h : Hp) : Ct l (⟨"RingingChamberModel", "hunt", "()V"⟩ : MethodName) prog_15_method_36_code 4 none 2 51 D dA B [vr l0] h vU (M_hunt N l0 h) :=
  Ct.of2 (own := "RingingChamberModel") (nme := "hunt") (lv := [(0, vr l0)]) rfl rfl (by decide) (Nat.le_of_ble_eq_true rfl) rfl (fun p e R s m args below meth c => jc_M_hunt N l0 h)
theorem d_M_isEven_0 : decode prog_15_method_38_code 0 = .ok (.iconst 0, 1) := by decide +kernel
theorem d_M_isEven_1 : decode prog_15_method_38_code 1 = .ok (.istore_n 1, 1) := by decide +kernel
theorem d_M_isEven_2 : decode prog_15_method_38_code 2 = .ok (.iconst 1, 1) := by decide +kernel
theorem d_M_isEven_3 : decode prog_15_method_38_code 3 = .ok (.istore_n 2, 1) := by decide +kernel
theorem d_M_isEven_4 : decode prog_15_method_38_code 4 = .ok (.iload_n 2, 1) := by decide +kernel
theorem d_M_isEven_5 : decode prog_15_method_38_code 5 = .ok (.aload_n 0, 1) := by decide +kernel
theorem d_M_isEven_6 : decode prog_15_method_38_code 6 = .ok (.getfield 105, 3) := by decide +kernel
theorem d_M_isEven_9 : decode prog_15_method_38_code 9 = .ok (.if_icmp .gt 44, 3) := by decide +kernel
theorem d_M_isEven_12 : decode prog_15_method_38_code 12 = .ok (.aload_n 0, 1) := by decide +kernel
theorem d_M_isEven_13 : decode prog_15_method_38_code 13 = .ok (.getfield 95, 3) := by decide +kernel
theorem d_M_isEven_16 : decode prog_15_method_38_code 16 = .ok (.iload_n 2, 1) := by decide +kernel
theorem d_M_isEven_17 : decode prog_15_method_38_code 17 = .ok (.iaload, 1) := by decide +kernel
theorem d_M_isEven_18 : decode prog_15_method_38_code 18 = .ok (.ifCond .ne 6, 3) := by decide +kernel
theorem d_M_isEven_21 : decode prog_15_method_38_code 21 = .ok (.goto 26, 3) := by decide +kernel
theorem d_M_isEven_24 : decode prog_15_method_38_code 24 = .ok (.iload_n 1, 1) := by decide +kernel
theorem d_M_isEven_25 : decode prog_15_method_38_code 25 = .ok (.ifCond .eq 15, 3) := by decide +kernel
theorem d_M_isEven_28 : decode prog_15_method_38_code 28 = .ok (.iload_n 1, 1) := by decide +kernel
theorem d_M_isEven_29 : decode prog_15_method_38_code 29 = .ok (.aload_n 0, 1) := by decide +kernel
theorem d_M_isEven_30 : decode prog_15_method_38_code 30 = .ok (.getfield 95, 3) := by decide +kernel
theorem d_M_isEven_33 : decode prog_15_method_38_code 33 = .ok (.iload_n 2, 1) := by decide +kernel
theorem d_M_isEven_34 : decode prog_15_method_38_code 34 = .ok (.iaload, 1) := by decide +kernel
theorem d_M_isEven_35 : decode prog_15_method_38_code 35 = .ok (.if_icmp .eq 5, 3) := by decide +kernel
theorem d_M_isEven_38 : decode prog_15_method_38_code 38 = .ok (.iconst 0, 1) := by decide +kernel
theorem d_M_isEven_39 : decode prog_15_method_38_code 39 = .ok (.ireturn, 1) := by decide +kernel
theorem d_M_isEven_40 : decode prog_15_method_38_code 40 = .ok (.aload_n 0, 1) := by decide +kernel
theorem d_M_isEven_41 : decode prog_15_method_38_code 41 = .ok (.getfield 95, 3) := by decide +kernel
theorem d_M_isEven_44 : decode prog_15_method_38_code 44 = .ok (.iload_n 2, 1) := by decide +kernel
theorem d_M_isEven_45 : decode prog_15_method_38_code 45 = .ok (.iaload, 1) := by decide +kernel
theorem d_M_isEven_46 : decode prog_15_method_38_code 46 = .ok (.istore_n 1, 1) := by decide +kernel
theorem d_M_isEven_47 : decode prog_15_method_38_code 47 = .ok (.iinc 2 1, 3) := by decide +kernel
theorem d_M_isEven_50 : decode prog_15_method_38_code 50 = .ok (.goto (-46), 3) := by decide +kernel
theorem d_M_isEven_53 : decode prog_15_method_38_code 53 = .ok (.iconst 1, 1) := by decide +kernel
theorem d_M_isEven_54 : decode prog_15_method_38_code 54 = .ok (.ireturn, 1) := by decide +kernel
set_option maxRecDepth 20000 in
theorem jc_M_isEven_47 (N : Nat) (re4 : Option Nat → Int32 → Int32 → Hp → Option (Int32 × Hp)) (hre4 : ∀ y0 y1 y2 h, J p l e R s m args below meth c prog_15_method_38_code 3 "RingingChamberModel" 0 0 (some .boolean) "isEven" D dA B n0 s0 (QM below args s D dA B n0 s0 vI) 4 [(0, vr y0), (1, vi y1), (2, vi y2)] [] h (re4 y0 y1 y2 h)) (l0 : Option Nat) (l1 : Int32) (l2 : Int32) (h : Hp) : J p l e R s m args below meth c prog_15_method_38_code 3 "RingingChamberModel" 0 0 (some .boolean) "isEven" D dA B n0 s0 (QM below args s D dA B n0 s0 vI) 47 [(0, vr l0), (1, vi l1), (2, vi l2)] [] h (M_isEven_47 N re4 l0 l1 l2 h) := by
  unfold M_isEven_47
  refine j_iinc (lvv := fun x1 => [(2, vi x1), (0, vr l0), (1, vi l1)]) d_M_isEven_47 2 rfl rfl (by decide) (fun _ => rfl) (fun x1 => ?_)
  refine j_goto (tgt := 4) d_M_isEven_50 (by decide) ?_
  exact J.sub [1, 2, 0] rfl (hre4 l0 l1 x1 h)
set_option maxRecDepth 20000 in
theorem jc_M_isEven_40 (N : Nat) (re4 : Option Nat → Int32 → Int32 → Hp → Option (Int32 × Hp)) (hre4 : ∀ y0 y1 y2 h, J p l e R s m args below meth c prog_15_method_38_code 3 "RingingChamberModel" 0 0 (some .boolean) "isEven" D dA B n0 s0 (QM below args s D dA B n0 s0 vI) 4 [(0, vr y0), (1, vi y1), (2, vi y2)] [] h (re4 y0 y1 y2 h)) (l0 : Option Nat) (l2 : Int32) (h : Hp) : J p l e R s m args below meth c prog_15_method_38_code 3 "RingingChamberModel" 0 0 (some .boolean) "isEven" D dA B n0 s0 (QM below args s D dA B n0 s0 vI) 40 [(0, vr l0), (2, vi l2)] [] h (M_isEven_40 N re4 l0 l2 h) := by
  unfold M_isEven_40
  refine j_aload_n d_M_isEven_40 0 rfl rfl ?_
  refine j_getR d_M_isEven_41 fl_12_95.r (fun x1 => ?_)
  refine j_iload_n d_M_isEven_44 1 rfl rfl ?_
  refine j_iald d_M_isEven_45 (fun x2 => ?_)
  refine j_istore_n (lv' := [(1, vi x2), (0, vr l0), (2, vi l2)]) d_M_isEven_46 rfl (by decide) rfl ?_
  exact J.sub [1, 0, 2] rfl (jc_M_isEven_47 N re4 hre4 l0 x2 l2 h)
set_option maxRecDepth 20000 in
theorem jc_M_isEven_4 (N : Nat) : ∀ (n : Nat) (l0 : Option Nat) (l1 : Int32) (l2 : Int32) (h : Hp), J p l e R s m args below meth c prog_15_method_38_code 3 "RingingChamberModel" 0 0 (some .boolean) "isEven" D dA B n0 s0 (QM below args s D dA B n0 s0 vI) 4 [(0, vr l0), (1, vi l1), (2, vi l2)] [] h (M_isEven_4 N n l0 l1 l2 h) := by
  intro n
  induction n with
  | zero => intros; exact J.none
  | succ n ih =>
    intro l0 l1 l2 h
    rw [M_isEven_4]
    refine j_iload_n d_M_isEven_4 2 rfl rfl ?_
    refine j_aload_n d_M_isEven_5 0 rfl rfl ?_
    refine j_getI d_M_isEven_6 fl_12_105.r (fun x1 => ?_)
    refine j_icmp_gt (tgt := 53) d_M_isEven_9 (by decide) ?_ ?_
    · refine j_iconst (v := 1) d_M_isEven_53 (by decide) ?_
      exact j_retZ d_M_isEven_54
    · refine j_aload_n d_M_isEven_12 0 rfl rfl ?_
      refine j_getR d_M_isEven_13 fl_12_95.r (fun x2 => ?_)
      refine j_iload_n d_M_isEven_16 2 rfl rfl ?_
      refine j_iald d_M_isEven_17 (fun x3 => ?_)
      refine j_if_ne (tgt := 24) d_M_isEven_18 (by decide) ?_ ?_
      · refine j_goto (tgt := 47) d_M_isEven_21 (by decide) ?_
        exact jc_M_isEven_47 N (M_isEven_4 N n) ih l0 l1 l2 h
      · refine j_iload_n d_M_isEven_24 1 rfl rfl ?_
        refine j_if_eq (tgt := 40) d_M_isEven_25 (by decide) ?_ ?_
        · exact J.sub [0, 2] rfl (jc_M_isEven_40 N (M_isEven_4 N n) ih l0 l2 h)
        · refine j_iload_n d_M_isEven_28 1 rfl rfl ?_
          refine j_aload_n d_M_isEven_29 0 rfl rfl ?_
          refine j_getR d_M_isEven_30 fl_12_95.r (fun x4 => ?_)
          refine j_iload_n d_M_isEven_33 2 rfl rfl ?_
          refine j_iald d_M_isEven_34 (fun x5 => ?_)
          refine j_icmp_eq (tgt := 40) d_M_isEven_35 (by decide) ?_ ?_
          · exact J.sub [0, 2] rfl (jc_M_isEven_40 N (M_isEven_4 N n) ih l0 l2 h)
          · refine j_iconst (v := 0) d_M_isEven_38 (by decide) ?_
            exact j_retZ d_M_isEven_39
set_option maxRecDepth 20000 in
theorem jc_M_isEven (N : Nat) (l0 : Option Nat) (h : Hp) : J p l e R s m args below meth c prog_15_method_38_code 3 "RingingChamberModel" 0 0 (some .boolean) "isEven" D dA B n0 s0 (QM below args s D dA B n0 s0 vI) 0 [(0, vr l0)] [] h (M_isEven N l0 h) := by
  unfold M_isEven
  refine j_iconst (v := 0) d_M_isEven_0 (by decide) ?_
  refine j_istore_n (lv' := [(1, vi 0), (0, vr l0)]) d_M_isEven_1 rfl (by decide) rfl ?_
  refine j_iconst (v := 1) d_M_isEven_2 (by decide) ?_
  refine j_istore_n (lv' := [(2, vi 1), (1, vi 0), (0, vr l0)]) d_M_isEven_3 rfl (by decide) rfl ?_
  exact J.sub [2, 1, 0] rfl (jc_M_isEven_4 N N l0 0 1 h)
set_option maxRecDepth 20000 in
theorem ct_M_isEven (N : Nat) (l : Launch) (D : va_G) (dA : Nat → ClassId) (B : Nat) (l0 : Option Nat) (h : Hp) : Ct l (⟨"RingingChamberModel", "isEven", "()Z"⟩ : MethodName) prog_15_method_38_code 3 (some .boolean) 0 0 D dA B [vr l0] h vI (M_isEven N l0 h) :=
  Ct.of2 (own := "RingingChamberModel") (nme := "isEven") (lv := [(0, vr l0)]) rfl rfl (by decide) (Nat.le_of_ble_eq_true rfl) rfl (fun p e R s m args below meth c => jc_M_isEven N l0 h)
theorem d_M_staysWithin_0 : decode prog_15_method_39_code 0 = .ok (.iconst 2, 1) := by decide +kernel
theorem d_M_staysWithin_1 : decode prog_15_method_39_code 1 = .ok (.istore_n 2, 1) := by decide +kernel
theorem d_M_staysWithin_2 : decode prog_15_method_39_code 2 = .ok (.iload_n 2, 1) := by decide +kernel
theorem d_M_staysWithin_3 : decode prog_15_method_39_code 3 = .ok (.aload_n 0, 1) := by decide +kernel
theorem d_M_staysWithin_4 : decode prog_15_method_39_code 4 = .ok (.getfield 105, 3) := by decide +kernel
theorem d_M_staysWithin_7 : decode prog_15_method_39_code 7 = .ok (.if_icmp .ge 31, 3) := by decide +kernel
theorem d_M_staysWithin_10 : decode prog_15_method_39_code 10 = .ok (.iload_n 1, 1) := by decide +kernel
theorem d_M_staysWithin_11 : decode prog_15_method_39_code 11 = .ok (.iload_n 2, 1) := by decide +kernel
theorem d_M_staysWithin_12 : decode prog_15_method_39_code 12 = .ok (.iconst 1, 1) := by decide +kernel
theorem d_M_staysWithin_13 : decode prog_15_method_39_code 13 = .ok (.isub, 1) := by decide +kernel
theorem d_M_staysWithin_14 : decode prog_15_method_39_code 14 = .ok (.ishr, 1) := by decide +kernel
theorem d_M_staysWithin_15 : decode prog_15_method_39_code 15 = .ok (.iconst 1, 1) := by decide +kernel
theorem d_M_staysWithin_16 : decode prog_15_method_39_code 16 = .ok (.iand, 1) := by decide +kernel
theorem d_M_staysWithin_17 : decode prog_15_method_39_code 17 = .ok (.ifCond .ne 15, 3) := by decide +kernel
theorem d_M_staysWithin_20 : decode prog_15_method_39_code 20 = .ok (.iload_n 1, 1) := by decide +kernel
theorem d_M_staysWithin_21 : decode prog_15_method_39_code 21 = .ok (.iload_n 2, 1) := by decide +kernel
theorem d_M_staysWithin_22 : decode prog_15_method_39_code 22 = .ok (.iconst 2, 1) := by decide +kernel
theorem d_M_staysWithin_23 : decode prog_15_method_39_code 23 = .ok (.isub, 1) := by decide +kernel
theorem d_M_staysWithin_24 : decode prog_15_method_39_code 24 = .ok (.ishr, 1) := by decide +kernel
theorem d_M_staysWithin_25 : decode prog_15_method_39_code 25 = .ok (.iconst 1, 1) := by decide +kernel
theorem d_M_staysWithin_26 : decode prog_15_method_39_code 26 = .ok (.iand, 1) := by decide +kernel
theorem d_M_staysWithin_27 : decode prog_15_method_39_code 27 = .ok (.ifCond .ne 5, 3) := by decide +kernel
theorem d_M_staysWithin_30 : decode prog_15_method_39_code 30 = .ok (.iconst 1, 1) := by decide +kernel
theorem d_M_staysWithin_31 : decode prog_15_method_39_code 31 = .ok (.ireturn, 1) := by decide +kernel
theorem d_M_staysWithin_32 : decode prog_15_method_39_code 32 = .ok (.iinc 2 1, 3) := by decide +kernel
theorem d_M_staysWithin_35 : decode prog_15_method_39_code 35 = .ok (.goto (-33), 3) := by decide +kernel
theorem d_M_staysWithin_38 : decode prog_15_method_39_code 38 = .ok (.iconst 0, 1) := by decide +kernel
theorem d_M_staysWithin_39 : decode prog_15_method_39_code 39 = .ok (.ireturn, 1) := by decide +kernel
set_option maxRecDepth 20000 in
theorem jc_M_staysWithin_32 (N : Nat) (re2 : Option Nat → Int32 → Int32 → Hp → Option (Int32 × Hp)) (hre2 : ∀ y0 y1 y2 h, J p l e R s m args below meth c prog_15_method_39_code 3 "RingingChamberModel" 0 0 (some .boolean) "staysWithin" D dA B n0 s0 (QM below args s D dA B n0 s0 vI) 2 [(0, vr y0), (1, vi y1), (2, vi y2)] [] h (re2 y0 y1 y2 h)) (l0 : Option Nat) (l1 : Int32) (l2 : Int32) (h : Hp) : J p l e R s m args below meth c prog_15_method_39_code 3 "RingingChamberModel" 0 0 (some .boolean) "staysWithin" D dA B n0 s0 (QM below args s D dA B n0 s0 vI) 32 [(0, vr l0), (1, vi l1), (2, vi l2)] [] h (M_staysWithin_32 N re2 l0 l1 l2 h) := by
  unfold M_staysWithin_32
  refine j_iinc (lvv := fun x1 => [(2, vi x1), (0, vr l0), (1, vi l1)]) d_M_staysWithin_32 2 rfl rfl (by decide) (fun _ => rfl) (fun x1 => ?_)
  refine j_goto (tgt := 2) d_M_staysWithin_35 (by decide) ?_
  exact J.sub [1, 2, 0] rfl (hre2 l0 l1 x1 h)
set_option maxRecDepth 20000 in
theorem jc_M_staysWithin_2 (N : Nat) : ∀ (n : Nat) (l0 : Option Nat) (l1 : Int32) (l2 : Int32) (h : Hp), J p l e R s m args below meth c prog_15_method_39_code 3 "RingingChamberModel" 0 0 (some .boolean) "staysWithin" D dA B n0 s0 (QM below args s D dA B n0 s0 vI) 2 [(0, vr l0), (1, vi l1), (2, vi l2)] [] h (M_staysWithin_2 N n l0 l1 l2 h) := by
  intro n
  induction n with
  | zero => intros; exact J.none
  | succ n ih =>
    intro l0 l1 l2 h
    rw [M_staysWithin_2]
    refine j_iload_n d_M_staysWithin_2 2 rfl rfl ?_
    refine j_aload_n d_M_staysWithin_3 0 rfl rfl ?_
    refine j_getI d_M_staysWithin_4 fl_12_105.r (fun x1 => ?_)
    refine j_icmp_ge (tgt := 38) d_M_staysWithin_7 (by decide) ?_ ?_
    · refine j_iconst (v := 0) d_M_staysWithin_38 (by decide) ?_
      exact j_retZ d_M_staysWithin_39
    · refine j_iload_n d_M_staysWithin_10 1 rfl rfl ?_
      refine j_iload_n d_M_staysWithin_11 2 rfl rfl ?_
      refine j_iconst (v := 1) d_M_staysWithin_12 (by decide) ?_
      refine j_isub d_M_staysWithin_13 ?_
      refine j_ishr d_M_staysWithin_14 ?_
      refine j_iconst (v := 1) d_M_staysWithin_15 (by decide) ?_
      refine j_iand d_M_staysWithin_16 ?_
      refine j_if_ne (tgt := 32) d_M_staysWithin_17 (by decide) ?_ ?_
      · refine j_iload_n d_M_staysWithin_20 1 rfl rfl ?_
        refine j_iload_n d_M_staysWithin_21 2 rfl rfl ?_
        refine j_iconst (v := 2) d_M_staysWithin_22 (by decide) ?_
        refine j_isub d_M_staysWithin_23 ?_
        refine j_ishr d_M_staysWithin_24 ?_
        refine j_iconst (v := 1) d_M_staysWithin_25 (by decide) ?_
        refine j_iand d_M_staysWithin_26 ?_
        refine j_if_ne (tgt := 32) d_M_staysWithin_27 (by decide) ?_ ?_
        · refine j_iconst (v := 1) d_M_staysWithin_30 (by decide) ?_
          exact j_retZ d_M_staysWithin_31
        · exact jc_M_staysWithin_32 N (M_staysWithin_2 N n) ih l0 l1 l2 h
      · exact jc_M_staysWithin_32 N (M_staysWithin_2 N n) ih l0 l1 l2 h
set_option maxRecDepth 20000 in
theorem jc_M_staysWithin (N : Nat) (l0 : Option Nat) (l1 : Int32) (h : Hp) : J p l e R s m args below meth c prog_15_method_39_code 3 "RingingChamberModel" 0 0 (some .boolean) "staysWithin" D dA B n0 s0 (QM below args s D dA B n0 s0 vI) 0 [(0, vr l0), (1, vi l1)] [] h (M_staysWithin N l0 l1 h) := by
  unfold M_staysWithin
  refine j_iconst (v := 2) d_M_staysWithin_0 (by decide) ?_
  refine j_istore_n (lv' := [(2, vi 2), (0, vr l0), (1, vi l1)]) d_M_staysWithin_1 rfl (by decide) rfl ?_
  exact J.sub [1, 2, 0] rfl (jc_M_staysWithin_2 N N l0 l1 2 h)
set_option maxRecDepth 20000 in
theorem ct_M_staysWithin (N : Nat) (l : Launch) (D : va_G) (dA : Nat → ClassId) (B : Nat) (l0 : Option Nat) (l1 : Int32) (h : Hp) : Ct l (⟨"RingingChamberModel", "staysWithin", "(I)Z"⟩ : MethodName) prog_15_method_39_code 3 (some .boolean) 0 0 D dA B [vr l0, vi l1] h vI (M_staysWithin N l0 l1 h) :=
  Ct.of2 (own := "RingingChamberModel") (nme := "staysWithin") (lv := [(0, vr l0), (1, vi l1)]) rfl rfl (by decide) (Nat.le_of_ble_eq_true rfl) rfl (fun p e R s m args below meth c => jc_M_staysWithin N l0 l1 h)
theorem d_M_isSurprising_0 : decode prog_15_method_40_code 0 = .ok (.aload_n 0, 1) := by decide +kernel
theorem d_M_isSurprising_1 : decode prog_15_method_40_code 1 = .ok (.invokevirtual 133, 3) := by decide +kernel
theorem d_M_isSurprising_4 : decode prog_15_method_40_code 4 = .ok (.lstore_n 1, 1) := by decide +kernel
theorem d_M_isSurprising_5 : decode prog_15_method_40_code 5 = .ok (.iconst 0, 1) := by decide +kernel
theorem d_M_isSurprising_6 : decode prog_15_method_40_code 6 = .ok (.istore_n 3, 1) := by decide +kernel
theorem d_M_isSurprising_7 : decode prog_15_method_40_code 7 = .ok (.iload_n 3, 1) := by decide +kernel
theorem d_M_isSurprising_8 : decode prog_15_method_40_code 8 = .ok (.aload_n 0, 1) := by decide +kernel
theorem d_M_isSurprising_9 : decode prog_15_method_40_code 9 = .ok (.getfield 217, 3) := by decide +kernel
theorem d_M_isSurprising_12 : decode prog_15_method_40_code 12 = .ok (.if_icmp .ge 68, 3) := by decide +kernel
theorem d_M_isSurprising_15 : decode prog_15_method_40_code 15 = .ok (.aload_n 0, 1) := by decide +kernel
theorem d_M_isSurprising_16 : decode prog_15_method_40_code 16 = .ok (.lload_n 1, 1) := by decide +kernel
theorem d_M_isSurprising_17 : decode prog_15_method_40_code 17 = .ok (.invokevirtual 228, 3) := by decide +kernel
theorem d_M_isSurprising_20 : decode prog_15_method_40_code 20 = .ok (.istore 4, 2) := by decide +kernel
theorem d_M_isSurprising_22 : decode prog_15_method_40_code 22 = .ok (.lload_n 1, 1) := by decide +kernel
theorem d_M_isSurprising_23 : decode prog_15_method_40_code 23 = .ok (.aload_n 0, 1) := by decide +kernel
theorem d_M_isSurprising_24 : decode prog_15_method_40_code 24 = .ok (.getfield 37, 3) := by decide +kernel
theorem d_M_isSurprising_27 : decode prog_15_method_40_code 27 = .ok (.iload_n 3, 1) := by decide +kernel
theorem d_M_isSurprising_28 : decode prog_15_method_40_code 28 = .ok (.iaload, 1) := by decide +kernel
theorem d_M_isSurprising_29 : decode prog_15_method_40_code 29 = .ok (.invokestatic 224, 3) := by decide +kernel
theorem d_M_isSurprising_32 : decode prog_15_method_40_code 32 = .ok (.lstore_n 1, 1) := by decide +kernel
theorem d_M_isSurprising_33 : decode prog_15_method_40_code 33 = .ok (.aload_n 0, 1) := by decide +kernel
theorem d_M_isSurprising_34 : decode prog_15_method_40_code 34 = .ok (.lload_n 1, 1) := by decide +kernel
theorem d_M_isSurprising_35 : decode prog_15_method_40_code 35 = .ok (.invokevirtual 228, 3) := by decide +kernel
theorem d_M_isSurprising_38 : decode prog_15_method_40_code 38 = .ok (.istore 5, 2) := by decide +kernel
theorem d_M_isSurprising_40 : decode prog_15_method_40_code 40 = .ok (.iload 5, 2) := by decide +kernel
theorem d_M_isSurprising_42 : decode prog_15_method_40_code 42 = .ok (.iload 4, 2) := by decide +kernel
theorem d_M_isSurprising_44 : decode prog_15_method_40_code 44 = .ok (.if_icmp .eq 30, 3) := by decide +kernel
theorem d_M_isSurprising_47 : decode prog_15_method_40_code 47 = .ok (.iload 5, 2) := by decide +kernel
theorem d_M_isSurprising_49 : decode prog_15_method_40_code 49 = .ok (.iload 4, 2) := by decide +kernel
theorem d_M_isSurprising_51 : decode prog_15_method_40_code 51 = .ok (.invokestatic 232, 3) := by decide +kernel
theorem d_M_isSurprising_54 : decode prog_15_method_40_code 54 = .ok (.iconst 2, 1) := by decide +kernel
theorem d_M_isSurprising_55 : decode prog_15_method_40_code 55 = .ok (.irem, 1) := by decide +kernel
theorem d_M_isSurprising_56 : decode prog_15_method_40_code 56 = .ok (.ifCond .ne 18, 3) := by decide +kernel
theorem d_M_isSurprising_59 : decode prog_15_method_40_code 59 = .ok (.aload_n 0, 1) := by decide +kernel
theorem d_M_isSurprising_60 : decode prog_15_method_40_code 60 = .ok (.aload_n 0, 1) := by decide +kernel
theorem d_M_isSurprising_61 : decode prog_15_method_40_code 61 = .ok (.getfield 37, 3) := by decide +kernel
theorem d_M_isSurprising_64 : decode prog_15_method_40_code 64 = .ok (.iload_n 3, 1) := by decide +kernel
theorem d_M_isSurprising_65 : decode prog_15_method_40_code 65 = .ok (.iaload, 1) := by decide +kernel
theorem d_M_isSurprising_66 : decode prog_15_method_40_code 66 = .ok (.invokevirtual 237, 3) := by decide +kernel
theorem d_M_isSurprising_69 : decode prog_15_method_40_code 69 = .ok (.ifCond .ne 5, 3) := by decide +kernel
theorem d_M_isSurprising_72 : decode prog_15_method_40_code 72 = .ok (.iconst 0, 1) := by decide +kernel
theorem d_M_isSurprising_73 : decode prog_15_method_40_code 73 = .ok (.ireturn, 1) := by decide +kernel
theorem d_M_isSurprising_74 : decode prog_15_method_40_code 74 = .ok (.iinc 3 1, 3) := by decide +kernel
theorem d_M_isSurprising_77 : decode prog_15_method_40_code 77 = .ok (.goto (-70), 3) := by decide +kernel
theorem d_M_isSurprising_80 : decode prog_15_method_40_code 80 = .ok (.iconst 1, 1) := by decide +kernel
theorem d_M_isSurprising_81 : decode prog_15_method_40_code 81 = .ok (.ireturn, 1) := by decide +kernel
set_option maxRecDepth 20000 in
theorem jc_M_isSurprising_74 (N : Nat) (re7 : Option Nat → Int64 → Int32 → Hp → Option (Int32 × Hp)) (hre7 : ∀ y0 y1 y2 h, J p l e R s m args below meth c prog_15_method_40_code 6 "RingingChamberModel" 2 51 (some .boolean) "isSurprising" D dA B n0 s0 (QM below args s D dA B n0 s0 vI) 7 [(0, vr y0), (1, vl y1), (3, vi y2)] [] h (re7 y0 y1 y2 h)) (l0 : Option Nat) (l1 : Int64) (l3 : Int32) (h : Hp) : J p l e R s m args below meth c prog_15_method_40_code 6 "RingingChamberModel" 2 51 (some .boolean) "isSurprising" D dA B n0 s0 (QM below args s D dA B n0 s0 vI) 74 [(0, vr l0), (1, vl l1), (3, vi l3)] [] h (M_isSurprising_74 N re7 l0 l1 l3 h) := by
  unfold M_isSurprising_74
  refine j_iinc (lvv := fun x1 => [(3, vi x1), (0, vr l0), (1, vl l1)]) d_M_isSurprising_74 2 rfl rfl (by decide) (fun _ => rfl) (fun x1 => ?_)
  refine j_goto (tgt := 7) d_M_isSurprising_77 (by decide) ?_
  exact J.sub [1, 2, 0] rfl (hre7 l0 l1 x1 h)
set_option maxRecDepth 20000 in
theorem jc_M_isSurprising_7 (N : Nat) : ∀ (n : Nat) (l0 : Option Nat) (l1 : Int64) (l3 : Int32) (h : Hp), J p l e R s m args below meth c prog_15_method_40_code 6 "RingingChamberModel" 2 51 (some .boolean) "isSurprising" D dA B n0 s0 (QM below args s D dA B n0 s0 vI) 7 [(0, vr l0), (1, vl l1), (3, vi l3)] [] h (M_isSurprising_7 N n l0 l1 l3 h) := by
  intro n
  induction n with
  | zero => intros; exact J.none
  | succ n ih =>
    intro l0 l1 l3 h
    rw [M_isSurprising_7]
    refine j_iload_n d_M_isSurprising_7 2 rfl rfl ?_
    refine j_aload_n d_M_isSurprising_8 0 rfl rfl ?_
    refine j_getI d_M_isSurprising_9 fl_12_217.r (fun x1 => ?_)
    refine j_icmp_ge (tgt := 80) d_M_isSurprising_12 (by decide) ?_ ?_
    · refine j_iconst (v := 1) d_M_isSurprising_80 (by decide) ?_
      exact j_retZ d_M_isSurprising_81
    · refine j_aload_n d_M_isSurprising_15 0 rfl rfl ?_
      refine j_lload_n d_M_isSurprising_16 1 rfl rfl ?_
      refine j_vI1 d_M_isSurprising_17 (allQ.cons (VD.mk vt_12_228_12 (ct_M_placeOfOne N l D dA B l0 l1 h) (by decide) (by decide)) allQ.nil) (Nat.le_of_ble_eq_true rfl) (fun x3 h2 => ?_)
      refine j_istore (lv' := [(4, vi x3), (0, vr l0), (1, vl l1), (3, vi l3)]) d_M_isSurprising_20 (by decide) rfl ?_
      refine j_lload_n d_M_isSurprising_22 2 rfl rfl ?_
      refine j_aload_n d_M_isSurprising_23 1 rfl rfl ?_
      refine j_getR d_M_isSurprising_24 fl_12_37.r (fun x4 => ?_)
      refine j_iload_n d_M_isSurprising_27 3 rfl rfl ?_
      refine j_iald d_M_isSurprising_28 (fun x5 => ?_)
      refine j_cSL2 d_M_isSurprising_29 sl_12_224 ks_M_done (ct_M_done N l D dA B l1 x5 h2) (by decide) (by decide) (Nat.le_of_ble_eq_true rfl) (fun x7 h6 => ?_)
      refine j_lstore_n (lv' := [(1, vl x7), (4, vi x3), (0, vr l0), (3, vi l3)]) d_M_isSurprising_32 rfl (by decide) rfl ?_
      refine j_aload_n d_M_isSurprising_33 2 rfl rfl ?_
      refine j_lload_n d_M_isSurprising_34 0 rfl rfl ?_
      refine j_vI1 d_M_isSurprising_35 (allQ.cons (VD.mk vt_12_228_12 (ct_M_placeOfOne N l D dA B l0 x7 h6) (by decide) (by decide)) allQ.nil) (Nat.le_of_ble_eq_true rfl) (fun x9 h8 => ?_)
      refine j_istore (lv' := [(5, vi x9), (1, vl x7), (4, vi x3), (0, vr l0), (3, vi l3)]) d_M_isSurprising_38 (by decide) rfl ?_
      refine j_iload d_M_isSurprising_40 0 rfl ?_
      refine j_iload d_M_isSurprising_42 2 rfl ?_
      refine j_icmp_eq (tgt := 74) d_M_isSurprising_44 (by decide) ?_ ?_
      · exact J.sub [3, 1, 4] rfl (jc_M_isSurprising_74 N (M_isSurprising_7 N n) ih l0 x7 l3 h8)
      · refine j_iload d_M_isSurprising_47 0 rfl ?_
        refine j_iload d_M_isSurprising_49 2 rfl ?_
        refine j_mmin d_M_isSurprising_51 kmt_12_232 kms_min kmi kmc_min (by decide) (by decide) (Nat.le_of_ble_eq_true rfl) ?_
        refine j_iconst (v := 2) d_M_isSurprising_54 (by decide) ?_
        refine j_irem d_M_isSurprising_55 ?_
        refine j_if_ne (tgt := 74) d_M_isSurprising_56 (by decide) ?_ ?_
        · refine j_aload_n d_M_isSurprising_59 3 rfl rfl ?_
          refine j_aload_n d_M_isSurprising_60 3 rfl rfl ?_
          refine j_getR d_M_isSurprising_61 fl_12_37.r (fun x10 => ?_)
          refine j_iload_n d_M_isSurprising_64 4 rfl rfl ?_
          refine j_iald d_M_isSurprising_65 (fun x11 => ?_)
          refine j_vI1 d_M_isSurprising_66 (allQ.cons (VD.mk vt_12_237_12 (ct_M_staysWithin N l D dA B l0 x11 h8) (by decide) (by decide)) allQ.nil) (Nat.le_of_ble_eq_true rfl) (fun x13 h12 => ?_)
          refine j_if_ne (tgt := 74) d_M_isSurprising_69 (by decide) ?_ ?_
          · refine j_iconst (v := 0) d_M_isSurprising_72 (by decide) ?_
            exact j_retZ d_M_isSurprising_73
          · exact J.sub [3, 1, 4] rfl (jc_M_isSurprising_74 N (M_isSurprising_7 N n) ih l0 x7 l3 h12)
        · exact J.sub [3, 1, 4] rfl (jc_M_isSurprising_74 N (M_isSurprising_7 N n) ih l0 x7 l3 h8)
set_option maxRecDepth 20000 in
theorem jc_M_isSurprising (N : Nat) (l0 : Option Nat) (h : Hp) : J p l e R s m args below meth c prog_15_method_40_code 6 "RingingChamberModel" 2 51 (some .boolean) "isSurprising" D dA B n0 s0 (QM below args s D dA B n0 s0 vI) 0 [(0, vr l0)] [] h (M_isSurprising N l0 h) := by
  unfold M_isSurprising
  refine j_aload_n d_M_isSurprising_0 0 rfl rfl ?_
  refine j_vL0 d_M_isSurprising_1 (allQ.cons (VD.mk vt_12_133_12 (ct_M_rounds N l D dA B l0 h) (by decide) (by decide)) allQ.nil) (Nat.le_of_ble_eq_true rfl) (fun x2 h1 => ?_)
  refine j_lstore_n (lv' := [(1, vl x2), (0, vr l0)]) d_M_isSurprising_4 rfl (by decide) rfl ?_
  refine j_iconst (v := 0) d_M_isSurprising_5 (by decide) ?_
  refine j_istore_n (lv' := [(3, vi 0), (1, vl x2), (0, vr l0)]) d_M_isSurprising_6 rfl (by decide) rfl ?_
  exact J.sub [2, 1, 0] rfl (jc_M_isSurprising_7 N N l0 x2 0 h1)
set_option maxRecDepth 20000 in
theorem ct_M_isSurprising (N : Nat) (l : Launch) (D : va_G) (dA : Nat → ClassId) (B : Nat) (l0 : Option Nat) (h : Hp) : Ct l (⟨"RingingChamberModel", "isSurprising", "()Z"⟩ : MethodName) prog_15_method_40_code 6 (some .boolean) 2 51 D dA B [vr l0] h vI (M_isSurprising N l0 h) :=
  Ct.of2 (own := "RingingChamberModel") (nme := "isSurprising") (lv := [(0, vr l0)]) rfl rfl (by decide) (Nat.le_of_ble_eq_true rfl) rfl (fun p e R s m args below meth c => jc_M_isSurprising N l0 h)
theorem d_M_judgeOf_0 : decode prog_15_method_41_code 0 = .ok (.aload_n 0, 1) := by decide +kernel
theorem d_M_judgeOf_1 : decode prog_15_method_41_code 1 = .ok (.getfield 16, 3) := by decide +kernel
theorem d_M_judgeOf_101 : decode prog_15_method_41_code 101 = .ok (.iconst (-1), 1) := by decide +kernel
theorem d_M_judgeOf_102 : decode prog_15_method_41_code 102 = .ok (.ireturn, 1) := by decide +kernel
theorem d_M_judgeOf_103 : decode prog_15_method_41_code 103 = .ok (.aload_n 0, 1) := by decide +kernel
theorem d_M_judgeOf_104 : decode prog_15_method_41_code 104 = .ok (.aload_n 0, 1) := by decide +kernel
theorem d_M_judgeOf_105 : decode prog_15_method_41_code 105 = .ok (.invokevirtual 133, 3) := by decide +kernel
theorem d_M_judgeOf_108 : decode prog_15_method_41_code 108 = .ok (.aload_n 0, 1) := by decide +kernel
theorem d_M_judgeOf_109 : decode prog_15_method_41_code 109 = .ok (.getfield 217, 3) := by decide +kernel
theorem d_M_judgeOf_112 : decode prog_15_method_41_code 112 = .ok (.invokevirtual 243, 3) := by decide +kernel
theorem d_M_judgeOf_115 : decode prog_15_method_41_code 115 = .ok (.iconst 1, 1) := by decide +kernel
theorem d_M_judgeOf_116 : decode prog_15_method_41_code 116 = .ok (.invokestatic 157, 3) := by decide +kernel
theorem d_M_judgeOf_119 : decode prog_15_method_41_code 119 = .ok (.iconst 1, 1) := by decide +kernel
theorem d_M_judgeOf_12 : decode prog_15_method_41_code 12 = .ok (.aload_n 0, 1) := by decide +kernel
theorem d_M_judgeOf_120 : decode prog_15_method_41_code 120 = .ok (.if_icmp .eq 7, 3) := by decide +kernel
theorem d_M_judgeOf_123 : decode prog_15_method_41_code 123 = .ok (.iconst 1, 1) := by decide +kernel
theorem d_M_judgeOf_124 : decode prog_15_method_41_code 124 = .ok (.goto 4, 3) := by decide +kernel
theorem d_M_judgeOf_127 : decode prog_15_method_41_code 127 = .ok (.iconst 0, 1) := by decide +kernel
theorem d_M_judgeOf_128 : decode prog_15_method_41_code 128 = .ok (.ireturn, 1) := by decide +kernel
theorem d_M_judgeOf_129 : decode prog_15_method_41_code 129 = .ok (.iload_n 2, 1) := by decide +kernel
theorem d_M_judgeOf_13 : decode prog_15_method_41_code 13 = .ok (.iconst 5, 1) := by decide +kernel
theorem d_M_judgeOf_130 : decode prog_15_method_41_code 130 = .ok (.ifCond .eq 9, 3) := by decide +kernel
theorem d_M_judgeOf_133 : decode prog_15_method_41_code 133 = .ok (.aload_n 0, 1) := by decide +kernel
theorem d_M_judgeOf_134 : decode prog_15_method_41_code 134 = .ok (.iload_n 2, 1) := by decide +kernel
theorem d_M_judgeOf_135 : decode prog_15_method_41_code 135 = .ok (.iconst 2, 1) := by decide +kernel
theorem d_M_judgeOf_136 : decode prog_15_method_41_code 136 = .ok (.invokevirtual 206, 3) := by decide +kernel
theorem d_M_judgeOf_139 : decode prog_15_method_41_code 139 = .ok (.iload_n 2, 1) := by decide +kernel
theorem d_M_judgeOf_14 : decode prog_15_method_41_code 14 = .ok (.iconst 2, 1) := by decide +kernel
theorem d_M_judgeOf_140 : decode prog_15_method_41_code 140 = .ok (.iconst 3, 1) := by decide +kernel
theorem d_M_judgeOf_141 : decode prog_15_method_41_code 141 = .ok (.if_icmp .ne 9, 3) := by decide +kernel
theorem d_M_judgeOf_144 : decode prog_15_method_41_code 144 = .ok (.aload_n 0, 1) := by decide +kernel
theorem d_M_judgeOf_145 : decode prog_15_method_41_code 145 = .ok (.iconst 2, 1) := by decide +kernel
theorem d_M_judgeOf_146 : decode prog_15_method_41_code 146 = .ok (.iconst 2, 1) := by decide +kernel
theorem d_M_judgeOf_147 : decode prog_15_method_41_code 147 = .ok (.invokevirtual 206, 3) := by decide +kernel
theorem d_M_judgeOf_15 : decode prog_15_method_41_code 15 = .ok (.invokevirtual 206, 3) := by decide +kernel
theorem d_M_judgeOf_150 : decode prog_15_method_41_code 150 = .ok (.aload_n 0, 1) := by decide +kernel
theorem d_M_judgeOf_151 : decode prog_15_method_41_code 151 = .ok (.iconst 0, 1) := by decide +kernel
theorem d_M_judgeOf_152 : decode prog_15_method_41_code 152 = .ok (.iconst 2, 1) := by decide +kernel
theorem d_M_judgeOf_153 : decode prog_15_method_41_code 153 = .ok (.invokevirtual 206, 3) := by decide +kernel
theorem d_M_judgeOf_156 : decode prog_15_method_41_code 156 = .ok (.aload_n 0, 1) := by decide +kernel
theorem d_M_judgeOf_157 : decode prog_15_method_41_code 157 = .ok (.iload_n 1, 1) := by decide +kernel
theorem d_M_judgeOf_158 : decode prog_15_method_41_code 158 = .ok (.iconst 0, 1) := by decide +kernel
theorem d_M_judgeOf_159 : decode prog_15_method_41_code 159 = .ok (.invokevirtual 220, 3) := by decide +kernel
theorem d_M_judgeOf_162 : decode prog_15_method_41_code 162 = .ok (.ifCond .ne 5, 3) := by decide +kernel
theorem d_M_judgeOf_165 : decode prog_15_method_41_code 165 = .ok (.iconst (-1), 1) := by decide +kernel
theorem d_M_judgeOf_166 : decode prog_15_method_41_code 166 = .ok (.ireturn, 1) := by decide +kernel
theorem d_M_judgeOf_167 : decode prog_15_method_41_code 167 = .ok (.aload_n 0, 1) := by decide +kernel
theorem d_M_judgeOf_168 : decode prog_15_method_41_code 168 = .ok (.aload_n 0, 1) := by decide +kernel
theorem d_M_judgeOf_169 : decode prog_15_method_41_code 169 = .ok (.invokevirtual 133, 3) := by decide +kernel
theorem d_M_judgeOf_172 : decode prog_15_method_41_code 172 = .ok (.aload_n 0, 1) := by decide +kernel
theorem d_M_judgeOf_173 : decode prog_15_method_41_code 173 = .ok (.getfield 217, 3) := by decide +kernel
theorem d_M_judgeOf_176 : decode prog_15_method_41_code 176 = .ok (.invokevirtual 243, 3) := by decide +kernel
theorem d_M_judgeOf_179 : decode prog_15_method_41_code 179 = .ok (.iconst 1, 1) := by decide +kernel
theorem d_M_judgeOf_18 : decode prog_15_method_41_code 18 = .ok (.aload_n 0, 1) := by decide +kernel
theorem d_M_judgeOf_180 : decode prog_15_method_41_code 180 = .ok (.invokestatic 157, 3) := by decide +kernel
theorem d_M_judgeOf_183 : decode prog_15_method_41_code 183 = .ok (.iconst 1, 1) := by decide +kernel
theorem d_M_judgeOf_184 : decode prog_15_method_41_code 184 = .ok (.if_icmp .ne 7, 3) := by decide +kernel
theorem d_M_judgeOf_187 : decode prog_15_method_41_code 187 = .ok (.iconst 1, 1) := by decide +kernel
theorem d_M_judgeOf_188 : decode prog_15_method_41_code 188 = .ok (.goto 4, 3) := by decide +kernel
theorem d_M_judgeOf_19 : decode prog_15_method_41_code 19 = .ok (.getfield 31, 3) := by decide +kernel
theorem d_M_judgeOf_191 : decode prog_15_method_41_code 191 = .ok (.iconst 0, 1) := by decide +kernel
theorem d_M_judgeOf_192 : decode prog_15_method_41_code 192 = .ok (.istore_n 3, 1) := by decide +kernel
theorem d_M_judgeOf_193 : decode prog_15_method_41_code 193 = .ok (.iload_n 2, 1) := by decide +kernel
theorem d_M_judgeOf_194 : decode prog_15_method_41_code 194 = .ok (.ifCond .ne 13, 3) := by decide +kernel
theorem d_M_judgeOf_197 : decode prog_15_method_41_code 197 = .ok (.iload_n 3, 1) := by decide +kernel
theorem d_M_judgeOf_198 : decode prog_15_method_41_code 198 = .ok (.ifCond .eq 7, 3) := by decide +kernel
theorem d_M_judgeOf_201 : decode prog_15_method_41_code 201 = .ok (.iconst 1, 1) := by decide +kernel
theorem d_M_judgeOf_202 : decode prog_15_method_41_code 202 = .ok (.goto 4, 3) := by decide +kernel
theorem d_M_judgeOf_205 : decode prog_15_method_41_code 205 = .ok (.iconst 0, 1) := by decide +kernel
theorem d_M_judgeOf_206 : decode prog_15_method_41_code 206 = .ok (.ireturn, 1) := by decide +kernel
theorem d_M_judgeOf_207 : decode prog_15_method_41_code 207 = .ok (.aload_n 0, 1) := by decide +kernel
theorem d_M_judgeOf_208 : decode prog_15_method_41_code 208 = .ok (.iload_n 1, 1) := by decide +kernel
theorem d_M_judgeOf_209 : decode prog_15_method_41_code 209 = .ok (.iconst 0, 1) := by decide +kernel
theorem d_M_judgeOf_210 : decode prog_15_method_41_code 210 = .ok (.invokevirtual 220, 3) := by decide +kernel
theorem d_M_judgeOf_213 : decode prog_15_method_41_code 213 = .ok (.pop, 1) := by decide +kernel
theorem d_M_judgeOf_214 : decode prog_15_method_41_code 214 = .ok (.aload_n 0, 1) := by decide +kernel
theorem d_M_judgeOf_215 : decode prog_15_method_41_code 215 = .ok (.invokevirtual 246, 3) := by decide +kernel
theorem d_M_judgeOf_218 : decode prog_15_method_41_code 218 = .ok (.iload_n 3, 1) := by decide +kernel
theorem d_M_judgeOf_219 : decode prog_15_method_41_code 219 = .ok (.iload_n 2, 1) := by decide +kernel
theorem d_M_judgeOf_22 : decode prog_15_method_41_code 22 = .ok (.iload_n 1, 1) := by decide +kernel
theorem d_M_judgeOf_220 : decode prog_15_method_41_code 220 = .ok (.iconst 1, 1) := by decide +kernel
theorem d_M_judgeOf_221 : decode prog_15_method_41_code 221 = .ok (.if_icmp .ne 23, 3) := by decide +kernel
theorem d_M_judgeOf_224 : decode prog_15_method_41_code 224 = .ok (.aload_n 0, 1) := by decide +kernel
theorem d_M_judgeOf_225 : decode prog_15_method_41_code 225 = .ok (.getfield 95, 3) := by decide +kernel
theorem d_M_judgeOf_228 : decode prog_15_method_41_code 228 = .ok (.aload_n 0, 1) := by decide +kernel
theorem d_M_judgeOf_229 : decode prog_15_method_41_code 229 = .ok (.getfield 105, 3) := by decide +kernel
theorem d_M_judgeOf_23 : decode prog_15_method_41_code 23 = .ok (.iaload, 1) := by decide +kernel
theorem d_M_judgeOf_232 : decode prog_15_method_41_code 232 = .ok (.iaload, 1) := by decide +kernel
theorem d_M_judgeOf_233 : decode prog_15_method_41_code 233 = .ok (.ifCond .ne 7, 3) := by decide +kernel
theorem d_M_judgeOf_236 : decode prog_15_method_41_code 236 = .ok (.iconst 1, 1) := by decide +kernel
theorem d_M_judgeOf_237 : decode prog_15_method_41_code 237 = .ok (.goto 11, 3) := by decide +kernel
theorem d_M_judgeOf_24 : decode prog_15_method_41_code 24 = .ok (.ifCond .ne 11, 3) := by decide +kernel
theorem d_M_judgeOf_240 : decode prog_15_method_41_code 240 = .ok (.iconst 0, 1) := by decide +kernel
theorem d_M_judgeOf_241 : decode prog_15_method_41_code 241 = .ok (.goto 7, 3) := by decide +kernel
theorem d_M_judgeOf_244 : decode prog_15_method_41_code 244 = .ok (.aload_n 0, 1) := by decide +kernel
theorem d_M_judgeOf_245 : decode prog_15_method_41_code 245 = .ok (.invokevirtual 249, 3) := by decide +kernel
theorem d_M_judgeOf_248 : decode prog_15_method_41_code 248 = .ok (.iand, 1) := by decide +kernel
theorem d_M_judgeOf_249 : decode prog_15_method_41_code 249 = .ok (.istore_n 3, 1) := by decide +kernel
theorem d_M_judgeOf_250 : decode prog_15_method_41_code 250 = .ok (.iload_n 2, 1) := by decide +kernel
theorem d_M_judgeOf_251 : decode prog_15_method_41_code 251 = .ok (.iconst 3, 1) := by decide +kernel
theorem d_M_judgeOf_252 : decode prog_15_method_41_code 252 = .ok (.if_icmp .ne 17, 3) := by decide +kernel
theorem d_M_judgeOf_255 : decode prog_15_method_41_code 255 = .ok (.aload_n 0, 1) := by decide +kernel
theorem d_M_judgeOf_256 : decode prog_15_method_41_code 256 = .ok (.iload_n 1, 1) := by decide +kernel
theorem d_M_judgeOf_257 : decode prog_15_method_41_code 257 = .ok (.iconst 0, 1) := by decide +kernel
theorem d_M_judgeOf_258 : decode prog_15_method_41_code 258 = .ok (.invokevirtual 220, 3) := by decide +kernel
theorem d_M_judgeOf_261 : decode prog_15_method_41_code 261 = .ok (.pop, 1) := by decide +kernel
theorem d_M_judgeOf_262 : decode prog_15_method_41_code 262 = .ok (.iload_n 3, 1) := by decide +kernel
theorem d_M_judgeOf_263 : decode prog_15_method_41_code 263 = .ok (.aload_n 0, 1) := by decide +kernel
theorem d_M_judgeOf_264 : decode prog_15_method_41_code 264 = .ok (.invokevirtual 252, 3) := by decide +kernel
theorem d_M_judgeOf_267 : decode prog_15_method_41_code 267 = .ok (.iand, 1) := by decide +kernel
theorem d_M_judgeOf_268 : decode prog_15_method_41_code 268 = .ok (.istore_n 3, 1) := by decide +kernel
theorem d_M_judgeOf_269 : decode prog_15_method_41_code 269 = .ok (.iload_n 3, 1) := by decide +kernel
theorem d_M_judgeOf_27 : decode prog_15_method_41_code 27 = .ok (.aload_n 0, 1) := by decide +kernel
theorem d_M_judgeOf_270 : decode prog_15_method_41_code 270 = .ok (.ifCond .eq 7, 3) := by decide +kernel
theorem d_M_judgeOf_273 : decode prog_15_method_41_code 273 = .ok (.iconst 1, 1) := by decide +kernel
theorem d_M_judgeOf_274 : decode prog_15_method_41_code 274 = .ok (.goto 4, 3) := by decide +kernel
theorem d_M_judgeOf_277 : decode prog_15_method_41_code 277 = .ok (.iconst 0, 1) := by decide +kernel
theorem d_M_judgeOf_278 : decode prog_15_method_41_code 278 = .ok (.ireturn, 1) := by decide +kernel
theorem d_M_judgeOf_28 : decode prog_15_method_41_code 28 = .ok (.bipush 7, 2) := by decide +kernel
theorem d_M_judgeOf_30 : decode prog_15_method_41_code 30 = .ok (.putfield 203, 3) := by decide +kernel
theorem d_M_judgeOf_33 : decode prog_15_method_41_code 33 = .ok (.iconst (-1), 1) := by decide +kernel
theorem d_M_judgeOf_34 : decode prog_15_method_41_code 34 = .ok (.ireturn, 1) := by decide +kernel
theorem d_M_judgeOf_35 : decode prog_15_method_41_code 35 = .ok (.iconst 0, 1) := by decide +kernel
theorem d_M_judgeOf_36 : decode prog_15_method_41_code 36 = .ok (.istore_n 3, 1) := by decide +kernel
theorem d_M_judgeOf_37 : decode prog_15_method_41_code 37 = .ok (.iload_n 3, 1) := by decide +kernel
theorem d_M_judgeOf_38 : decode prog_15_method_41_code 38 = .ok (.aload_n 0, 1) := by decide +kernel
theorem d_M_judgeOf_39 : decode prog_15_method_41_code 39 = .ok (.getfield 31, 3) := by decide +kernel
theorem d_M_judgeOf_4 : decode prog_15_method_41_code 4 = .ok (.iload_n 1, 1) := by decide +kernel
theorem d_M_judgeOf_42 : decode prog_15_method_41_code 42 = .ok (.iload_n 1, 1) := by decide +kernel
theorem d_M_judgeOf_43 : decode prog_15_method_41_code 43 = .ok (.iaload, 1) := by decide +kernel
theorem d_M_judgeOf_44 : decode prog_15_method_41_code 44 = .ok (.if_icmp .ge 35, 3) := by decide +kernel
theorem d_M_judgeOf_47 : decode prog_15_method_41_code 47 = .ok (.aload_n 0, 1) := by decide +kernel
theorem d_M_judgeOf_48 : decode prog_15_method_41_code 48 = .ok (.aload_n 0, 1) := by decide +kernel
theorem d_M_judgeOf_49 : decode prog_15_method_41_code 49 = .ok (.getfield 34, 3) := by decide +kernel
theorem d_M_judgeOf_5 : decode prog_15_method_41_code 5 = .ok (.iaload, 1) := by decide +kernel
theorem d_M_judgeOf_52 : decode prog_15_method_41_code 52 = .ok (.bipush 6, 2) := by decide +kernel
theorem d_M_judgeOf_54 : decode prog_15_method_41_code 54 = .ok (.iload_n 1, 1) := by decide +kernel
theorem d_M_judgeOf_55 : decode prog_15_method_41_code 55 = .ok (.imul, 1) := by decide +kernel
theorem d_M_judgeOf_56 : decode prog_15_method_41_code 56 = .ok (.iload_n 3, 1) := by decide +kernel
theorem d_M_judgeOf_57 : decode prog_15_method_41_code 57 = .ok (.iadd, 1) := by decide +kernel
theorem d_M_judgeOf_58 : decode prog_15_method_41_code 58 = .ok (.iaload, 1) := by decide +kernel
theorem d_M_judgeOf_59 : decode prog_15_method_41_code 59 = .ok (.invokevirtual 240, 3) := by decide +kernel
theorem d_M_judgeOf_6 : decode prog_15_method_41_code 6 = .ok (.istore_n 2, 1) := by decide +kernel
theorem d_M_judgeOf_62 : decode prog_15_method_41_code 62 = .ok (.istore 4, 2) := by decide +kernel
theorem d_M_judgeOf_64 : decode prog_15_method_41_code 64 = .ok (.iload 4, 2) := by decide +kernel
theorem d_M_judgeOf_66 : decode prog_15_method_41_code 66 = .ok (.iconst 1, 1) := by decide +kernel
theorem d_M_judgeOf_67 : decode prog_15_method_41_code 67 = .ok (.if_icmp .ge 6, 3) := by decide +kernel
theorem d_M_judgeOf_7 : decode prog_15_method_41_code 7 = .ok (.iload_n 2, 1) := by decide +kernel
theorem d_M_judgeOf_70 : decode prog_15_method_41_code 70 = .ok (.iload 4, 2) := by decide +kernel
theorem d_M_judgeOf_72 : decode prog_15_method_41_code 72 = .ok (.ireturn, 1) := by decide +kernel
theorem d_M_judgeOf_73 : decode prog_15_method_41_code 73 = .ok (.iinc 3 1, 3) := by decide +kernel
theorem d_M_judgeOf_76 : decode prog_15_method_41_code 76 = .ok (.goto (-39), 3) := by decide +kernel
theorem d_M_judgeOf_79 : decode prog_15_method_41_code 79 = .ok (.iconst 1, 1) := by decide +kernel
theorem d_M_judgeOf_8 : decode prog_15_method_41_code 8 = .ok (.iconst 5, 1) := by decide +kernel
theorem d_M_judgeOf_80 : decode prog_15_method_41_code 80 = .ok (.ireturn, 1) := by decide +kernel
theorem d_M_judgeOf_81 : decode prog_15_method_41_code 81 = .ok (.iload_n 2, 1) := by decide +kernel
theorem d_M_judgeOf_82 : decode prog_15_method_41_code 82 = .ok (.iconst 4, 1) := by decide +kernel
theorem d_M_judgeOf_83 : decode prog_15_method_41_code 83 = .ok (.if_icmp .ne 46, 3) := by decide +kernel
theorem d_M_judgeOf_86 : decode prog_15_method_41_code 86 = .ok (.aload_n 0, 1) := by decide +kernel
theorem d_M_judgeOf_87 : decode prog_15_method_41_code 87 = .ok (.iconst 4, 1) := by decide +kernel
theorem d_M_judgeOf_88 : decode prog_15_method_41_code 88 = .ok (.iconst 2, 1) := by decide +kernel
theorem d_M_judgeOf_89 : decode prog_15_method_41_code 89 = .ok (.invokevirtual 206, 3) := by decide +kernel
theorem d_M_judgeOf_9 : decode prog_15_method_41_code 9 = .ok (.if_icmp .ne 72, 3) := by decide +kernel
theorem d_M_judgeOf_92 : decode prog_15_method_41_code 92 = .ok (.aload_n 0, 1) := by decide +kernel
theorem d_M_judgeOf_93 : decode prog_15_method_41_code 93 = .ok (.iload_n 1, 1) := by decide +kernel
theorem d_M_judgeOf_94 : decode prog_15_method_41_code 94 = .ok (.iconst 0, 1) := by decide +kernel
theorem d_M_judgeOf_95 : decode prog_15_method_41_code 95 = .ok (.invokevirtual 220, 3) := by decide +kernel
theorem d_M_judgeOf_98 : decode prog_15_method_41_code 98 = .ok (.ifCond .ne 5, 3) := by decide +kernel
set_option maxRecDepth 20000 in
theorem jc_M_judgeOf_0_37 (N : Nat) : ∀ (n : Nat) (l0 : Option Nat) (l1 : Int32) (l3 : Int32) (h : Hp), J p l e R s m args below meth c prog_15_method_41_code 5 "RingingChamberModel" 3 77 (some .int) "judgeOf" D dA B n0 s0 (QM below args s D dA B n0 s0 vI) 37 [(0, vr l0), (1, vi l1), (3, vi l3)] [] h (M_judgeOf_0_37 N n l0 l1 l3 h) := by
  intro n
  induction n with
  | zero => intros; exact J.none
  | succ n ih =>
    intro l0 l1 l3 h
    rw [M_judgeOf_0_37]
    refine j_iload_n d_M_judgeOf_37 2 rfl rfl ?_
    refine j_aload_n d_M_judgeOf_38 0 rfl rfl ?_
    refine j_getR d_M_judgeOf_39 fl_12_31.r (fun x1 => ?_)
    refine j_iload_n d_M_judgeOf_42 1 rfl rfl ?_
    refine j_iald d_M_judgeOf_43 (fun x2 => ?_)
    refine j_icmp_ge (tgt := 79) d_M_judgeOf_44 (by decide) ?_ ?_
    · refine j_iconst (v := 1) d_M_judgeOf_79 (by decide) ?_
      exact j_retI d_M_judgeOf_80
    · refine j_aload_n d_M_judgeOf_47 0 rfl rfl ?_
      refine j_aload_n d_M_judgeOf_48 0 rfl rfl ?_
      refine j_getR d_M_judgeOf_49 fl_12_34.r (fun x3 => ?_)
      refine j_bipush (v := 6) d_M_judgeOf_52 (by decide) ?_
      refine j_iload_n d_M_judgeOf_54 1 rfl rfl ?_
      refine j_imul d_M_judgeOf_55 ?_
      refine j_iload_n d_M_judgeOf_56 2 rfl rfl ?_
      refine j_iadd d_M_judgeOf_57 ?_
      refine j_iald d_M_judgeOf_58 (fun x4 => ?_)
      exact J.none
set_option maxRecDepth 20000 in
theorem jc_M_judgeOf_0_269 (N : Nat) (l3 : Int32) (h : Hp) : J p l e R s m args below meth c prog_15_method_41_code 5 "RingingChamberModel" 3 77 (some .int) "judgeOf" D dA B n0 s0 (QM below args s D dA B n0 s0 vI) 269 [(3, vi l3)] [] h (M_judgeOf_0_269 N l3 h) := by
  unfold M_judgeOf_0_269
  refine j_iload_n d_M_judgeOf_269 0 rfl rfl ?_
  refine j_if_eq (tgt := 277) d_M_judgeOf_270 (by decide) ?_ ?_
  · refine j_iconst (v := 0) d_M_judgeOf_277 (by decide) ?_
    exact j_retI d_M_judgeOf_278
  · refine j_iconst (v := 1) d_M_judgeOf_273 (by decide) ?_
    refine j_goto (tgt := 278) d_M_judgeOf_274 (by decide) ?_
    exact j_retI d_M_judgeOf_278
set_option maxRecDepth 20000 in
theorem jc_M_judgeOf_0_248 (N : Nat) (l0 : Option Nat) (l1 : Int32) (l2 : Int32) (u0 : Int32) (u1 : Int32) (h : Hp) : J p l e R s m args below meth c prog_15_method_41_code 5 "RingingChamberModel" 3 77 (some .int) "judgeOf" D dA B n0 s0 (QM below args s D dA B n0 s0 vI) 248 [(0, vr l0), (1, vi l1), (2, vi l2)] [vi u1, vi u0] h (M_judgeOf_0_248 N l0 l1 l2 u0 u1 h) := by
  unfold M_judgeOf_0_248
  refine j_iand d_M_judgeOf_248 ?_
  refine j_nmi (fun x1 => ?_)
  refine j_istore_n (lv' := [(3, vi x1), (0, vr l0), (1, vi l1), (2, vi l2)]) d_M_judgeOf_249 rfl (by decide) rfl ?_
  refine j_iload_n d_M_judgeOf_250 3 rfl rfl ?_
  refine j_iconst (v := 3) d_M_judgeOf_251 (by decide) ?_
  refine j_icmp_ne (tgt := 269) d_M_judgeOf_252 (by decide) ?_ ?_
  · refine j_aload_n d_M_judgeOf_255 1 rfl rfl ?_
    refine j_iload_n d_M_judgeOf_256 2 rfl rfl ?_
    refine j_iconst (v := 0) d_M_judgeOf_257 (by decide) ?_
    refine j_vI2 d_M_judgeOf_258 (allQ.cons (VD.mk vt_12_220_12 (ct_M_leadOf N l D dA B l0 l1 0 h) (by decide) (by decide)) allQ.nil) (Nat.le_of_ble_eq_true rfl) (fun x3 h2 => ?_)
    refine j_pop d_M_judgeOf_261 rfl ?_
    refine j_iload_n d_M_judgeOf_262 0 rfl rfl ?_
    refine j_aload_n d_M_judgeOf_263 1 rfl rfl ?_
    refine j_vI0 d_M_judgeOf_264 (allQ.cons (VD.mk vt_12_252_12 (ct_M_isSurprising N l D dA B l0 h2) (by decide) (by decide)) allQ.nil) (Nat.le_of_ble_eq_true rfl) (fun x5 h4 => ?_)
    refine j_iand d_M_judgeOf_267 ?_
    refine j_nmi (fun x6 => ?_)
    refine j_istore_n (lv' := [(3, vi x6), (0, vr l0), (1, vi l1), (2, vi l2)]) d_M_judgeOf_268 rfl (by decide) rfl ?_
    exact J.sub [0] rfl (jc_M_judgeOf_0_269 N x6 h4)
  · exact J.sub [0] rfl (jc_M_judgeOf_0_269 N x1 h)
set_option maxRecDepth 20000 in
theorem jc_M_judgeOf_0_192 (N : Nat) (l0 : Option Nat) (l1 : Int32) (l2 : Int32) (u0 : Int32) (h : Hp) : J p l e R s m args below meth c prog_15_method_41_code 5 "RingingChamberModel" 3 77 (some .int) "judgeOf" D dA B n0 s0 (QM below args s D dA B n0 s0 vI) 192 [(0, vr l0), (1, vi l1), (2, vi l2)] [vi u0] h (M_judgeOf_0_192 N l0 l1 l2 u0 h) := by
  unfold M_judgeOf_0_192
  refine j_istore_n (lv' := [(3, vi u0), (0, vr l0), (1, vi l1), (2, vi l2)]) d_M_judgeOf_192 rfl (by decide) rfl ?_
  refine j_iload_n d_M_judgeOf_193 3 rfl rfl ?_
  refine j_if_ne (tgt := 207) d_M_judgeOf_194 (by decide) ?_ ?_
  · refine j_iload_n d_M_judgeOf_197 0 rfl rfl ?_
    refine j_if_eq (tgt := 205) d_M_judgeOf_198 (by decide) ?_ ?_
    · refine j_iconst (v := 0) d_M_judgeOf_205 (by decide) ?_
      exact j_retI d_M_judgeOf_206
    · refine j_iconst (v := 1) d_M_judgeOf_201 (by decide) ?_
      refine j_goto (tgt := 206) d_M_judgeOf_202 (by decide) ?_
      exact j_retI d_M_judgeOf_206
  · refine j_aload_n d_M_judgeOf_207 1 rfl rfl ?_
    refine j_iload_n d_M_judgeOf_208 2 rfl rfl ?_
    refine j_iconst (v := 0) d_M_judgeOf_209 (by decide) ?_
    refine j_vI2 d_M_judgeOf_210 (allQ.cons (VD.mk vt_12_220_12 (ct_M_leadOf N l D dA B l0 l1 0 h) (by decide) (by decide)) allQ.nil) (Nat.le_of_ble_eq_true rfl) (fun x2 h1 => ?_)
    refine j_pop d_M_judgeOf_213 rfl ?_
    refine j_aload_n d_M_judgeOf_214 1 rfl rfl ?_
    refine j_vU0 d_M_judgeOf_215 (allQ.cons (VD.mk vt_12_246_12 (ct_M_hunt N l D dA B l0 h1) (by decide) (by decide)) allQ.nil) (Nat.le_of_ble_eq_true rfl) (fun _ h3 => ?_)
    refine j_iload_n d_M_judgeOf_218 0 rfl rfl ?_
    refine j_iload_n d_M_judgeOf_219 3 rfl rfl ?_
    refine j_iconst (v := 1) d_M_judgeOf_220 (by decide) ?_
    refine j_icmp_ne (tgt := 244) d_M_judgeOf_221 (by decide) ?_ ?_
    · refine j_aload_n d_M_judgeOf_224 1 rfl rfl ?_
      refine j_getR d_M_judgeOf_225 fl_12_95.r (fun x6 => ?_)
      refine j_aload_n d_M_judgeOf_228 1 rfl rfl ?_
      refine j_getI d_M_judgeOf_229 fl_12_105.r (fun x7 => ?_)
      refine j_iald d_M_judgeOf_232 (fun x8 => ?_)
      refine j_if_ne (tgt := 240) d_M_judgeOf_233 (by decide) ?_ ?_
      · refine j_iconst (v := 1) d_M_judgeOf_236 (by decide) ?_
        refine j_goto (tgt := 248) d_M_judgeOf_237 (by decide) ?_
        exact J.sub [1, 2, 3] rfl (jc_M_judgeOf_0_248 N l0 l1 l2 u0 1 h3)
      · refine j_iconst (v := 0) d_M_judgeOf_240 (by decide) ?_
        refine j_goto (tgt := 248) d_M_judgeOf_241 (by decide) ?_
        exact J.sub [1, 2, 3] rfl (jc_M_judgeOf_0_248 N l0 l1 l2 u0 0 h3)
    · refine j_aload_n d_M_judgeOf_244 1 rfl rfl ?_
      refine j_vI0 d_M_judgeOf_245 (allQ.cons (VD.mk vt_12_249_12 (ct_M_isEven N l D dA B l0 h3) (by decide) (by decide)) allQ.nil) (Nat.le_of_ble_eq_true rfl) (fun x5 h4 => ?_)
      exact J.sub [1, 2, 3] rfl (jc_M_judgeOf_0_248 N l0 l1 l2 u0 x5 h4)
set_option maxRecDepth 20000 in
theorem jc_M_judgeOf_0_150 (N : Nat) (l0 : Option Nat) (l1 : Int32) (l2 : Int32) (h : Hp) : J p l e R s m args below meth c prog_15_method_41_code 5 "RingingChamberModel" 3 77 (some .int) "judgeOf" D dA B n0 s0 (QM below args s D dA B n0 s0 vI) 150 [(0, vr l0), (1, vi l1), (2, vi l2)] [] h (M_judgeOf_0_150 N l0 l1 l2 h) := by
  unfold M_judgeOf_0_150
  refine j_aload_n d_M_judgeOf_150 0 rfl rfl ?_
  refine j_iconst (v := 0) d_M_judgeOf_151 (by decide) ?_
  refine j_iconst (v := 2) d_M_judgeOf_152 (by decide) ?_
  refine j_vU2 d_M_judgeOf_153 (allQ.cons (VD.mk vt_12_206_12 (ct_M_count N l D dA B l0 0 2 h) (by decide) (by decide)) allQ.nil) (Nat.le_of_ble_eq_true rfl) (fun _ h1 => ?_)
  refine j_aload_n d_M_judgeOf_156 0 rfl rfl ?_
  refine j_iload_n d_M_judgeOf_157 1 rfl rfl ?_
  refine j_iconst (v := 0) d_M_judgeOf_158 (by decide) ?_
  refine j_vI2 d_M_judgeOf_159 (allQ.cons (VD.mk vt_12_220_12 (ct_M_leadOf N l D dA B l0 l1 0 h1) (by decide) (by decide)) allQ.nil) (Nat.le_of_ble_eq_true rfl) (fun x3 h2 => ?_)
  refine j_if_ne (tgt := 167) d_M_judgeOf_162 (by decide) ?_ ?_
  · refine j_iconst (v := -1) d_M_judgeOf_165 (by decide) ?_
    exact j_retI d_M_judgeOf_166
  · refine j_aload_n d_M_judgeOf_167 0 rfl rfl ?_
    refine j_aload_n d_M_judgeOf_168 0 rfl rfl ?_
    refine j_vL0 d_M_judgeOf_169 (allQ.cons (VD.mk vt_12_133_12 (ct_M_rounds N l D dA B l0 h2) (by decide) (by decide)) allQ.nil) (Nat.le_of_ble_eq_true rfl) (fun x5 h4 => ?_)
    refine j_aload_n d_M_judgeOf_172 0 rfl rfl ?_
    refine j_getI d_M_judgeOf_173 fl_12_217.r (fun x6 => ?_)
    refine j_vL2 d_M_judgeOf_176 (allQ.cons (VD.mk vt_12_243_12 (ct_M_behind N l D dA B l0 x5 x6 h4) (by decide) (by decide)) allQ.nil) (Nat.le_of_ble_eq_true rfl) (fun x8 h7 => ?_)
    refine j_iconst (v := 1) d_M_judgeOf_179 (by decide) ?_
    refine j_cSI2 d_M_judgeOf_180 sl_12_157 ks_M_bell (ct_M_bell N l D dA B x8 1 h7) (by decide) (by decide) (Nat.le_of_ble_eq_true rfl) (fun x10 h9 => ?_)
    refine j_iconst (v := 1) d_M_judgeOf_183 (by decide) ?_
    refine j_icmp_ne (tgt := 191) d_M_judgeOf_184 (by decide) ?_ ?_
    · refine j_iconst (v := 1) d_M_judgeOf_187 (by decide) ?_
      refine j_goto (tgt := 192) d_M_judgeOf_188 (by decide) ?_
      exact jc_M_judgeOf_0_192 N l0 l1 l2 1 h9
    · refine j_iconst (v := 0) d_M_judgeOf_191 (by decide) ?_
      exact jc_M_judgeOf_0_192 N l0 l1 l2 0 h9
set_option maxRecDepth 20000 in
theorem jc_M_judgeOf_0_139 (N : Nat) (l0 : Option Nat) (l1 : Int32) (l2 : Int32) (h : Hp) : J p l e R s m args below meth c prog_15_method_41_code 5 "RingingChamberModel" 3 77 (some .int) "judgeOf" D dA B n0 s0 (QM below args s D dA B n0 s0 vI) 139 [(0, vr l0), (1, vi l1), (2, vi l2)] [] h (M_judgeOf_0_139 N l0 l1 l2 h) := by
  unfold M_judgeOf_0_139
  refine j_iload_n d_M_judgeOf_139 2 rfl rfl ?_
  refine j_iconst (v := 3) d_M_judgeOf_140 (by decide) ?_
  refine j_icmp_ne (tgt := 150) d_M_judgeOf_141 (by decide) ?_ ?_
  · refine j_aload_n d_M_judgeOf_144 0 rfl rfl ?_
    refine j_iconst (v := 2) d_M_judgeOf_145 (by decide) ?_
    refine j_iconst (v := 2) d_M_judgeOf_146 (by decide) ?_
    refine j_vU2 d_M_judgeOf_147 (allQ.cons (VD.mk vt_12_206_12 (ct_M_count N l D dA B l0 2 2 h) (by decide) (by decide)) allQ.nil) (Nat.le_of_ble_eq_true rfl) (fun _ h1 => ?_)
    exact jc_M_judgeOf_0_150 N l0 l1 l2 h1
  · exact jc_M_judgeOf_0_150 N l0 l1 l2 h
set_option maxRecDepth 20000 in
theorem jc_M_judgeOf_0 (N : Nat) (l0 : Option Nat) (l1 : Int32) (h : Hp) : J p l e R s m args below meth c prog_15_method_41_code 5 "RingingChamberModel" 3 77 (some .int) "judgeOf" D dA B n0 s0 (QM below args s D dA B n0 s0 vI) 0 [(0, vr l0), (1, vi l1)] [] h (M_judgeOf_0 N l0 l1 h) := by
  unfold M_judgeOf_0
  refine j_aload_n d_M_judgeOf_0 0 rfl rfl ?_
  refine j_getR d_M_judgeOf_1 fl_12_16.r (fun x1 => ?_)
  refine j_iload_n d_M_judgeOf_4 1 rfl rfl ?_
  refine j_iald d_M_judgeOf_5 (fun x2 => ?_)
  refine j_istore_n (lv' := [(2, vi x2), (0, vr l0), (1, vi l1)]) d_M_judgeOf_6 rfl (by decide) rfl ?_
  refine j_iload_n d_M_judgeOf_7 0 rfl rfl ?_
  refine j_iconst (v := 5) d_M_judgeOf_8 (by decide) ?_
  refine j_icmp_ne (tgt := 81) d_M_judgeOf_9 (by decide) ?_ ?_
  · refine j_aload_n d_M_judgeOf_12 1 rfl rfl ?_
    refine j_iconst (v := 5) d_M_judgeOf_13 (by decide) ?_
    refine j_iconst (v := 2) d_M_judgeOf_14 (by decide) ?_
    refine j_vU2 d_M_judgeOf_15 (allQ.cons (VD.mk vt_12_206_12 (ct_M_count N l D dA B l0 5 2 h) (by decide) (by decide)) allQ.nil) (Nat.le_of_ble_eq_true rfl) (fun _ h14 => ?_)
    refine j_aload_n d_M_judgeOf_18 1 rfl rfl ?_
    refine j_getR d_M_judgeOf_19 fl_12_31.r (fun x15 => ?_)
    refine j_iload_n d_M_judgeOf_22 2 rfl rfl ?_
    refine j_iald d_M_judgeOf_23 (fun x16 => ?_)
    refine j_if_ne (tgt := 35) d_M_judgeOf_24 (by decide) ?_ ?_
    · refine j_aload_n d_M_judgeOf_27 1 rfl rfl ?_
      refine j_bipush (v := 7) d_M_judgeOf_28 (by decide) ?_
      refine j_putI d_M_judgeOf_30 fl_12_203 (Or.inl rfl) (fun h17 => ?_)
      refine j_iconst (v := -1) d_M_judgeOf_33 (by decide) ?_
      exact j_retI d_M_judgeOf_34
    · refine j_iconst (v := 0) d_M_judgeOf_35 (by decide) ?_
      refine j_istore_n (lv' := [(3, vi 0), (2, vi x2), (0, vr l0), (1, vi l1)]) d_M_judgeOf_36 rfl (by decide) rfl ?_
      exact J.sub [2, 3, 0] rfl (jc_M_judgeOf_0_37 N N l0 l1 0 h14)
  · refine j_iload_n d_M_judgeOf_81 0 rfl rfl ?_
    refine j_iconst (v := 4) d_M_judgeOf_82 (by decide) ?_
    refine j_icmp_ne (tgt := 129) d_M_judgeOf_83 (by decide) ?_ ?_
    · refine j_aload_n d_M_judgeOf_86 1 rfl rfl ?_
      refine j_iconst (v := 4) d_M_judgeOf_87 (by decide) ?_
      refine j_iconst (v := 2) d_M_judgeOf_88 (by decide) ?_
      refine j_vU2 d_M_judgeOf_89 (allQ.cons (VD.mk vt_12_206_12 (ct_M_count N l D dA B l0 4 2 h) (by decide) (by decide)) allQ.nil) (Nat.le_of_ble_eq_true rfl) (fun _ h4 => ?_)
      refine j_aload_n d_M_judgeOf_92 1 rfl rfl ?_
      refine j_iload_n d_M_judgeOf_93 2 rfl rfl ?_
      refine j_iconst (v := 0) d_M_judgeOf_94 (by decide) ?_
      refine j_vI2 d_M_judgeOf_95 (allQ.cons (VD.mk vt_12_220_12 (ct_M_leadOf N l D dA B l0 l1 0 h4) (by decide) (by decide)) allQ.nil) (Nat.le_of_ble_eq_true rfl) (fun x6 h5 => ?_)
      refine j_if_ne (tgt := 103) d_M_judgeOf_98 (by decide) ?_ ?_
      · refine j_iconst (v := -1) d_M_judgeOf_101 (by decide) ?_
        exact j_retI d_M_judgeOf_102
      · refine j_aload_n d_M_judgeOf_103 1 rfl rfl ?_
        refine j_aload_n d_M_judgeOf_104 1 rfl rfl ?_
        refine j_vL0 d_M_judgeOf_105 (allQ.cons (VD.mk vt_12_133_12 (ct_M_rounds N l D dA B l0 h5) (by decide) (by decide)) allQ.nil) (Nat.le_of_ble_eq_true rfl) (fun x8 h7 => ?_)
        refine j_aload_n d_M_judgeOf_108 1 rfl rfl ?_
        refine j_getI d_M_judgeOf_109 fl_12_217.r (fun x9 => ?_)
        refine j_vL2 d_M_judgeOf_112 (allQ.cons (VD.mk vt_12_243_12 (ct_M_behind N l D dA B l0 x8 x9 h7) (by decide) (by decide)) allQ.nil) (Nat.le_of_ble_eq_true rfl) (fun x11 h10 => ?_)
        refine j_iconst (v := 1) d_M_judgeOf_115 (by decide) ?_
        refine j_cSI2 d_M_judgeOf_116 sl_12_157 ks_M_bell (ct_M_bell N l D dA B x11 1 h10) (by decide) (by decide) (Nat.le_of_ble_eq_true rfl) (fun x13 h12 => ?_)
        refine j_iconst (v := 1) d_M_judgeOf_119 (by decide) ?_
        refine j_icmp_eq (tgt := 127) d_M_judgeOf_120 (by decide) ?_ ?_
        · refine j_iconst (v := 0) d_M_judgeOf_127 (by decide) ?_
          exact j_retI d_M_judgeOf_128
        · refine j_iconst (v := 1) d_M_judgeOf_123 (by decide) ?_
          refine j_goto (tgt := 128) d_M_judgeOf_124 (by decide) ?_
          exact j_retI d_M_judgeOf_128
    · refine j_iload_n d_M_judgeOf_129 0 rfl rfl ?_
      refine j_if_eq (tgt := 139) d_M_judgeOf_130 (by decide) ?_ ?_
      · exact J.sub [1, 2, 0] rfl (jc_M_judgeOf_0_139 N l0 l1 x2 h)
      · refine j_aload_n d_M_judgeOf_133 1 rfl rfl ?_
        refine j_iload_n d_M_judgeOf_134 0 rfl rfl ?_
        refine j_iconst (v := 2) d_M_judgeOf_135 (by decide) ?_
        refine j_vU2 d_M_judgeOf_136 (allQ.cons (VD.mk vt_12_206_12 (ct_M_count N l D dA B l0 x2 2 h) (by decide) (by decide)) allQ.nil) (Nat.le_of_ble_eq_true rfl) (fun _ h3 => ?_)
        exact J.sub [1, 2, 0] rfl (jc_M_judgeOf_0_139 N l0 l1 x2 h3)
set_option maxRecDepth 20000 in
theorem ct_M_judgeOf_0 (N : Nat) (l : Launch) (D : va_G) (dA : Nat → ClassId) (B : Nat) (l0 : Option Nat) (l1 : Int32) (h : Hp) : Ct l (⟨"RingingChamberModel", "judgeOf", "(I)I"⟩ : MethodName) prog_15_method_41_code 5 (some .int) 3 77 D dA B [vr l0, vi l1] h vI (M_judgeOf_0 N l0 l1 h) :=
  Ct.of2 (own := "RingingChamberModel") (nme := "judgeOf") (lv := [(0, vr l0), (1, vi l1)]) rfl rfl (by decide) (Nat.le_of_ble_eq_true rfl) rfl (fun p e R s m args below meth c => jc_M_judgeOf_0 N l0 l1 h)
set_option maxRecDepth 20000 in
theorem jc_M_judgeOf_1_37 (N : Nat) : ∀ (n : Nat) (l0 : Option Nat) (l1 : Int32) (l3 : Int32) (h : Hp), J p l e R s m args below meth c prog_15_method_41_code 5 "RingingChamberModel" 4 101 (some .int) "judgeOf" D dA B n0 s0 (QM below args s D dA B n0 s0 vI) 37 [(0, vr l0), (1, vi l1), (3, vi l3)] [] h (M_judgeOf_1_37 N n l0 l1 l3 h) := by
  intro n
  induction n with
  | zero => intros; exact J.none
  | succ n ih =>
    intro l0 l1 l3 h
    rw [M_judgeOf_1_37]
    refine j_iload_n d_M_judgeOf_37 2 rfl rfl ?_
    refine j_aload_n d_M_judgeOf_38 0 rfl rfl ?_
    refine j_getR d_M_judgeOf_39 fl_12_31.r (fun x1 => ?_)
    refine j_iload_n d_M_judgeOf_42 1 rfl rfl ?_
    refine j_iald d_M_judgeOf_43 (fun x2 => ?_)
    refine j_icmp_ge (tgt := 79) d_M_judgeOf_44 (by decide) ?_ ?_
    · refine j_iconst (v := 1) d_M_judgeOf_79 (by decide) ?_
      exact j_retI d_M_judgeOf_80
    · refine j_aload_n d_M_judgeOf_47 0 rfl rfl ?_
      refine j_aload_n d_M_judgeOf_48 0 rfl rfl ?_
      refine j_getR d_M_judgeOf_49 fl_12_34.r (fun x3 => ?_)
      refine j_bipush (v := 6) d_M_judgeOf_52 (by decide) ?_
      refine j_iload_n d_M_judgeOf_54 1 rfl rfl ?_
      refine j_imul d_M_judgeOf_55 ?_
      refine j_iload_n d_M_judgeOf_56 2 rfl rfl ?_
      refine j_iadd d_M_judgeOf_57 ?_
      refine j_iald d_M_judgeOf_58 (fun x4 => ?_)
      refine j_vI1 d_M_judgeOf_59 (allQ.cons (VD.mk vt_12_240_12 (ct_M_judgeOf_0 N l D dA B l0 x4 h) (by decide) (by decide)) allQ.nil) (Nat.le_of_ble_eq_true rfl) (fun x6 h5 => ?_)
      refine j_istore (lv' := [(4, vi x6), (0, vr l0), (1, vi l1), (3, vi l3)]) d_M_judgeOf_62 (by decide) rfl ?_
      refine j_iload d_M_judgeOf_64 0 rfl ?_
      refine j_iconst (v := 1) d_M_judgeOf_66 (by decide) ?_
      refine j_icmp_ge (tgt := 73) d_M_judgeOf_67 (by decide) ?_ ?_
      · refine j_iinc (lvv := fun x7 => [(3, vi x7), (4, vi x6), (0, vr l0), (1, vi l1)]) d_M_judgeOf_73 3 rfl rfl (by decide) (fun _ => rfl) (fun x7 => ?_)
        refine j_goto (tgt := 37) d_M_judgeOf_76 (by decide) ?_
        exact J.sub [2, 3, 0] rfl (ih l0 l1 x7 h5)
      · refine j_iload d_M_judgeOf_70 0 rfl ?_
        exact j_retI d_M_judgeOf_72
set_option maxRecDepth 20000 in
theorem jc_M_judgeOf_1_269 (N : Nat) (l3 : Int32) (h : Hp) : J p l e R s m args below meth c prog_15_method_41_code 5 "RingingChamberModel" 4 101 (some .int) "judgeOf" D dA B n0 s0 (QM below args s D dA B n0 s0 vI) 269 [(3, vi l3)] [] h (M_judgeOf_1_269 N l3 h) := by
  unfold M_judgeOf_1_269
  refine j_iload_n d_M_judgeOf_269 0 rfl rfl ?_
  refine j_if_eq (tgt := 277) d_M_judgeOf_270 (by decide) ?_ ?_
  · refine j_iconst (v := 0) d_M_judgeOf_277 (by decide) ?_
    exact j_retI d_M_judgeOf_278
  · refine j_iconst (v := 1) d_M_judgeOf_273 (by decide) ?_
    refine j_goto (tgt := 278) d_M_judgeOf_274 (by decide) ?_
    exact j_retI d_M_judgeOf_278
set_option maxRecDepth 20000 in
theorem jc_M_judgeOf_1_248 (N : Nat) (l0 : Option Nat) (l1 : Int32) (l2 : Int32) (u0 : Int32) (u1 : Int32) (h : Hp) : J p l e R s m args below meth c prog_15_method_41_code 5 "RingingChamberModel" 4 101 (some .int) "judgeOf" D dA B n0 s0 (QM below args s D dA B n0 s0 vI) 248 [(0, vr l0), (1, vi l1), (2, vi l2)] [vi u1, vi u0] h (M_judgeOf_1_248 N l0 l1 l2 u0 u1 h) := by
  unfold M_judgeOf_1_248
  refine j_iand d_M_judgeOf_248 ?_
  refine j_nmi (fun x1 => ?_)
  refine j_istore_n (lv' := [(3, vi x1), (0, vr l0), (1, vi l1), (2, vi l2)]) d_M_judgeOf_249 rfl (by decide) rfl ?_
  refine j_iload_n d_M_judgeOf_250 3 rfl rfl ?_
  refine j_iconst (v := 3) d_M_judgeOf_251 (by decide) ?_
  refine j_icmp_ne (tgt := 269) d_M_judgeOf_252 (by decide) ?_ ?_
  · refine j_aload_n d_M_judgeOf_255 1 rfl rfl ?_
    refine j_iload_n d_M_judgeOf_256 2 rfl rfl ?_
    refine j_iconst (v := 0) d_M_judgeOf_257 (by decide) ?_
    refine j_vI2 d_M_judgeOf_258 (allQ.cons (VD.mk vt_12_220_12 (ct_M_leadOf N l D dA B l0 l1 0 h) (by decide) (by decide)) allQ.nil) (Nat.le_of_ble_eq_true rfl) (fun x3 h2 => ?_)
    refine j_pop d_M_judgeOf_261 rfl ?_
    refine j_iload_n d_M_judgeOf_262 0 rfl rfl ?_
    refine j_aload_n d_M_judgeOf_263 1 rfl rfl ?_
    refine j_vI0 d_M_judgeOf_264 (allQ.cons (VD.mk vt_12_252_12 (ct_M_isSurprising N l D dA B l0 h2) (by decide) (by decide)) allQ.nil) (Nat.le_of_ble_eq_true rfl) (fun x5 h4 => ?_)
    refine j_iand d_M_judgeOf_267 ?_
    refine j_nmi (fun x6 => ?_)
    refine j_istore_n (lv' := [(3, vi x6), (0, vr l0), (1, vi l1), (2, vi l2)]) d_M_judgeOf_268 rfl (by decide) rfl ?_
    exact J.sub [0] rfl (jc_M_judgeOf_1_269 N x6 h4)
  · exact J.sub [0] rfl (jc_M_judgeOf_1_269 N x1 h)
set_option maxRecDepth 20000 in
theorem jc_M_judgeOf_1_192 (N : Nat) (l0 : Option Nat) (l1 : Int32) (l2 : Int32) (u0 : Int32) (h : Hp) : J p l e R s m args below meth c prog_15_method_41_code 5 "RingingChamberModel" 4 101 (some .int) "judgeOf" D dA B n0 s0 (QM below args s D dA B n0 s0 vI) 192 [(0, vr l0), (1, vi l1), (2, vi l2)] [vi u0] h (M_judgeOf_1_192 N l0 l1 l2 u0 h) := by
  unfold M_judgeOf_1_192
  refine j_istore_n (lv' := [(3, vi u0), (0, vr l0), (1, vi l1), (2, vi l2)]) d_M_judgeOf_192 rfl (by decide) rfl ?_
  refine j_iload_n d_M_judgeOf_193 3 rfl rfl ?_
  refine j_if_ne (tgt := 207) d_M_judgeOf_194 (by decide) ?_ ?_
  · refine j_iload_n d_M_judgeOf_197 0 rfl rfl ?_
    refine j_if_eq (tgt := 205) d_M_judgeOf_198 (by decide) ?_ ?_
    · refine j_iconst (v := 0) d_M_judgeOf_205 (by decide) ?_
      exact j_retI d_M_judgeOf_206
    · refine j_iconst (v := 1) d_M_judgeOf_201 (by decide) ?_
      refine j_goto (tgt := 206) d_M_judgeOf_202 (by decide) ?_
      exact j_retI d_M_judgeOf_206
  · refine j_aload_n d_M_judgeOf_207 1 rfl rfl ?_
    refine j_iload_n d_M_judgeOf_208 2 rfl rfl ?_
    refine j_iconst (v := 0) d_M_judgeOf_209 (by decide) ?_
    refine j_vI2 d_M_judgeOf_210 (allQ.cons (VD.mk vt_12_220_12 (ct_M_leadOf N l D dA B l0 l1 0 h) (by decide) (by decide)) allQ.nil) (Nat.le_of_ble_eq_true rfl) (fun x2 h1 => ?_)
    refine j_pop d_M_judgeOf_213 rfl ?_
    refine j_aload_n d_M_judgeOf_214 1 rfl rfl ?_
    refine j_vU0 d_M_judgeOf_215 (allQ.cons (VD.mk vt_12_246_12 (ct_M_hunt N l D dA B l0 h1) (by decide) (by decide)) allQ.nil) (Nat.le_of_ble_eq_true rfl) (fun _ h3 => ?_)
    refine j_iload_n d_M_judgeOf_218 0 rfl rfl ?_
    refine j_iload_n d_M_judgeOf_219 3 rfl rfl ?_
    refine j_iconst (v := 1) d_M_judgeOf_220 (by decide) ?_
    refine j_icmp_ne (tgt := 244) d_M_judgeOf_221 (by decide) ?_ ?_
    · refine j_aload_n d_M_judgeOf_224 1 rfl rfl ?_
      refine j_getR d_M_judgeOf_225 fl_12_95.r (fun x6 => ?_)
      refine j_aload_n d_M_judgeOf_228 1 rfl rfl ?_
      refine j_getI d_M_judgeOf_229 fl_12_105.r (fun x7 => ?_)
      refine j_iald d_M_judgeOf_232 (fun x8 => ?_)
      refine j_if_ne (tgt := 240) d_M_judgeOf_233 (by decide) ?_ ?_
      · refine j_iconst (v := 1) d_M_judgeOf_236 (by decide) ?_
        refine j_goto (tgt := 248) d_M_judgeOf_237 (by decide) ?_
        exact J.sub [1, 2, 3] rfl (jc_M_judgeOf_1_248 N l0 l1 l2 u0 1 h3)
      · refine j_iconst (v := 0) d_M_judgeOf_240 (by decide) ?_
        refine j_goto (tgt := 248) d_M_judgeOf_241 (by decide) ?_
        exact J.sub [1, 2, 3] rfl (jc_M_judgeOf_1_248 N l0 l1 l2 u0 0 h3)
    · refine j_aload_n d_M_judgeOf_244 1 rfl rfl ?_
      refine j_vI0 d_M_judgeOf_245 (allQ.cons (VD.mk vt_12_249_12 (ct_M_isEven N l D dA B l0 h3) (by decide) (by decide)) allQ.nil) (Nat.le_of_ble_eq_true rfl) (fun x5 h4 => ?_)
      exact J.sub [1, 2, 3] rfl (jc_M_judgeOf_1_248 N l0 l1 l2 u0 x5 h4)
set_option maxRecDepth 20000 in
theorem jc_M_judgeOf_1_150 (N : Nat) (l0 : Option Nat) (l1 : Int32) (l2 : Int32) (h : Hp) : J p l e R s m args below meth c prog_15_method_41_code 5 "RingingChamberModel" 4 101 (some .int) "judgeOf" D dA B n0 s0 (QM below args s D dA B n0 s0 vI) 150 [(0, vr l0), (1, vi l1), (2, vi l2)] [] h (M_judgeOf_1_150 N l0 l1 l2 h) := by
  unfold M_judgeOf_1_150
  refine j_aload_n d_M_judgeOf_150 0 rfl rfl ?_
  refine j_iconst (v := 0) d_M_judgeOf_151 (by decide) ?_
  refine j_iconst (v := 2) d_M_judgeOf_152 (by decide) ?_
  refine j_vU2 d_M_judgeOf_153 (allQ.cons (VD.mk vt_12_206_12 (ct_M_count N l D dA B l0 0 2 h) (by decide) (by decide)) allQ.nil) (Nat.le_of_ble_eq_true rfl) (fun _ h1 => ?_)
  refine j_aload_n d_M_judgeOf_156 0 rfl rfl ?_
  refine j_iload_n d_M_judgeOf_157 1 rfl rfl ?_
  refine j_iconst (v := 0) d_M_judgeOf_158 (by decide) ?_
  refine j_vI2 d_M_judgeOf_159 (allQ.cons (VD.mk vt_12_220_12 (ct_M_leadOf N l D dA B l0 l1 0 h1) (by decide) (by decide)) allQ.nil) (Nat.le_of_ble_eq_true rfl) (fun x3 h2 => ?_)
  refine j_if_ne (tgt := 167) d_M_judgeOf_162 (by decide) ?_ ?_
  · refine j_iconst (v := -1) d_M_judgeOf_165 (by decide) ?_
    exact j_retI d_M_judgeOf_166
  · refine j_aload_n d_M_judgeOf_167 0 rfl rfl ?_
    refine j_aload_n d_M_judgeOf_168 0 rfl rfl ?_
    refine j_vL0 d_M_judgeOf_169 (allQ.cons (VD.mk vt_12_133_12 (ct_M_rounds N l D dA B l0 h2) (by decide) (by decide)) allQ.nil) (Nat.le_of_ble_eq_true rfl) (fun x5 h4 => ?_)
    refine j_aload_n d_M_judgeOf_172 0 rfl rfl ?_
    refine j_getI d_M_judgeOf_173 fl_12_217.r (fun x6 => ?_)
    refine j_vL2 d_M_judgeOf_176 (allQ.cons (VD.mk vt_12_243_12 (ct_M_behind N l D dA B l0 x5 x6 h4) (by decide) (by decide)) allQ.nil) (Nat.le_of_ble_eq_true rfl) (fun x8 h7 => ?_)
    refine j_iconst (v := 1) d_M_judgeOf_179 (by decide) ?_
    refine j_cSI2 d_M_judgeOf_180 sl_12_157 ks_M_bell (ct_M_bell N l D dA B x8 1 h7) (by decide) (by decide) (Nat.le_of_ble_eq_true rfl) (fun x10 h9 => ?_)
    refine j_iconst (v := 1) d_M_judgeOf_183 (by decide) ?_
    refine j_icmp_ne (tgt := 191) d_M_judgeOf_184 (by decide) ?_ ?_
    · refine j_iconst (v := 1) d_M_judgeOf_187 (by decide) ?_
      refine j_goto (tgt := 192) d_M_judgeOf_188 (by decide) ?_
      exact jc_M_judgeOf_1_192 N l0 l1 l2 1 h9
    · refine j_iconst (v := 0) d_M_judgeOf_191 (by decide) ?_
      exact jc_M_judgeOf_1_192 N l0 l1 l2 0 h9
set_option maxRecDepth 20000 in
theorem jc_M_judgeOf_1_139 (N : Nat) (l0 : Option Nat) (l1 : Int32) (l2 : Int32) (h : Hp) : J p l e R s m args below meth c prog_15_method_41_code 5 "RingingChamberModel" 4 101 (some .int) "judgeOf" D dA B n0 s0 (QM below args s D dA B n0 s0 vI) 139 [(0, vr l0), (1, vi l1), (2, vi l2)] [] h (M_judgeOf_1_139 N l0 l1 l2 h) := by
  unfold M_judgeOf_1_139
  refine j_iload_n d_M_judgeOf_139 2 rfl rfl ?_
  refine j_iconst (v := 3) d_M_judgeOf_140 (by decide) ?_
  refine j_icmp_ne (tgt := 150) d_M_judgeOf_141 (by decide) ?_ ?_
  · refine j_aload_n d_M_judgeOf_144 0 rfl rfl ?_
    refine j_iconst (v := 2) d_M_judgeOf_145 (by decide) ?_
    refine j_iconst (v := 2) d_M_judgeOf_146 (by decide) ?_
    refine j_vU2 d_M_judgeOf_147 (allQ.cons (VD.mk vt_12_206_12 (ct_M_count N l D dA B l0 2 2 h) (by decide) (by decide)) allQ.nil) (Nat.le_of_ble_eq_true rfl) (fun _ h1 => ?_)
    exact jc_M_judgeOf_1_150 N l0 l1 l2 h1
  · exact jc_M_judgeOf_1_150 N l0 l1 l2 h
set_option maxRecDepth 20000 in
theorem jc_M_judgeOf_1 (N : Nat) (l0 : Option Nat) (l1 : Int32) (h : Hp) : J p l e R s m args below meth c prog_15_method_41_code 5 "RingingChamberModel" 4 101 (some .int) "judgeOf" D dA B n0 s0 (QM below args s D dA B n0 s0 vI) 0 [(0, vr l0), (1, vi l1)] [] h (M_judgeOf_1 N l0 l1 h) := by
  unfold M_judgeOf_1
  refine j_aload_n d_M_judgeOf_0 0 rfl rfl ?_
  refine j_getR d_M_judgeOf_1 fl_12_16.r (fun x1 => ?_)
  refine j_iload_n d_M_judgeOf_4 1 rfl rfl ?_
  refine j_iald d_M_judgeOf_5 (fun x2 => ?_)
  refine j_istore_n (lv' := [(2, vi x2), (0, vr l0), (1, vi l1)]) d_M_judgeOf_6 rfl (by decide) rfl ?_
  refine j_iload_n d_M_judgeOf_7 0 rfl rfl ?_
  refine j_iconst (v := 5) d_M_judgeOf_8 (by decide) ?_
  refine j_icmp_ne (tgt := 81) d_M_judgeOf_9 (by decide) ?_ ?_
  · refine j_aload_n d_M_judgeOf_12 1 rfl rfl ?_
    refine j_iconst (v := 5) d_M_judgeOf_13 (by decide) ?_
    refine j_iconst (v := 2) d_M_judgeOf_14 (by decide) ?_
    refine j_vU2 d_M_judgeOf_15 (allQ.cons (VD.mk vt_12_206_12 (ct_M_count N l D dA B l0 5 2 h) (by decide) (by decide)) allQ.nil) (Nat.le_of_ble_eq_true rfl) (fun _ h14 => ?_)
    refine j_aload_n d_M_judgeOf_18 1 rfl rfl ?_
    refine j_getR d_M_judgeOf_19 fl_12_31.r (fun x15 => ?_)
    refine j_iload_n d_M_judgeOf_22 2 rfl rfl ?_
    refine j_iald d_M_judgeOf_23 (fun x16 => ?_)
    refine j_if_ne (tgt := 35) d_M_judgeOf_24 (by decide) ?_ ?_
    · refine j_aload_n d_M_judgeOf_27 1 rfl rfl ?_
      refine j_bipush (v := 7) d_M_judgeOf_28 (by decide) ?_
      refine j_putI d_M_judgeOf_30 fl_12_203 (Or.inl rfl) (fun h17 => ?_)
      refine j_iconst (v := -1) d_M_judgeOf_33 (by decide) ?_
      exact j_retI d_M_judgeOf_34
    · refine j_iconst (v := 0) d_M_judgeOf_35 (by decide) ?_
      refine j_istore_n (lv' := [(3, vi 0), (2, vi x2), (0, vr l0), (1, vi l1)]) d_M_judgeOf_36 rfl (by decide) rfl ?_
      exact J.sub [2, 3, 0] rfl (jc_M_judgeOf_1_37 N N l0 l1 0 h14)
  · refine j_iload_n d_M_judgeOf_81 0 rfl rfl ?_
    refine j_iconst (v := 4) d_M_judgeOf_82 (by decide) ?_
    refine j_icmp_ne (tgt := 129) d_M_judgeOf_83 (by decide) ?_ ?_
    · refine j_aload_n d_M_judgeOf_86 1 rfl rfl ?_
      refine j_iconst (v := 4) d_M_judgeOf_87 (by decide) ?_
      refine j_iconst (v := 2) d_M_judgeOf_88 (by decide) ?_
      refine j_vU2 d_M_judgeOf_89 (allQ.cons (VD.mk vt_12_206_12 (ct_M_count N l D dA B l0 4 2 h) (by decide) (by decide)) allQ.nil) (Nat.le_of_ble_eq_true rfl) (fun _ h4 => ?_)
      refine j_aload_n d_M_judgeOf_92 1 rfl rfl ?_
      refine j_iload_n d_M_judgeOf_93 2 rfl rfl ?_
      refine j_iconst (v := 0) d_M_judgeOf_94 (by decide) ?_
      refine j_vI2 d_M_judgeOf_95 (allQ.cons (VD.mk vt_12_220_12 (ct_M_leadOf N l D dA B l0 l1 0 h4) (by decide) (by decide)) allQ.nil) (Nat.le_of_ble_eq_true rfl) (fun x6 h5 => ?_)
      refine j_if_ne (tgt := 103) d_M_judgeOf_98 (by decide) ?_ ?_
      · refine j_iconst (v := -1) d_M_judgeOf_101 (by decide) ?_
        exact j_retI d_M_judgeOf_102
      · refine j_aload_n d_M_judgeOf_103 1 rfl rfl ?_
        refine j_aload_n d_M_judgeOf_104 1 rfl rfl ?_
        refine j_vL0 d_M_judgeOf_105 (allQ.cons (VD.mk vt_12_133_12 (ct_M_rounds N l D dA B l0 h5) (by decide) (by decide)) allQ.nil) (Nat.le_of_ble_eq_true rfl) (fun x8 h7 => ?_)
        refine j_aload_n d_M_judgeOf_108 1 rfl rfl ?_
        refine j_getI d_M_judgeOf_109 fl_12_217.r (fun x9 => ?_)
        refine j_vL2 d_M_judgeOf_112 (allQ.cons (VD.mk vt_12_243_12 (ct_M_behind N l D dA B l0 x8 x9 h7) (by decide) (by decide)) allQ.nil) (Nat.le_of_ble_eq_true rfl) (fun x11 h10 => ?_)
        refine j_iconst (v := 1) d_M_judgeOf_115 (by decide) ?_
        refine j_cSI2 d_M_judgeOf_116 sl_12_157 ks_M_bell (ct_M_bell N l D dA B x11 1 h10) (by decide) (by decide) (Nat.le_of_ble_eq_true rfl) (fun x13 h12 => ?_)
        refine j_iconst (v := 1) d_M_judgeOf_119 (by decide) ?_
        refine j_icmp_eq (tgt := 127) d_M_judgeOf_120 (by decide) ?_ ?_
        · refine j_iconst (v := 0) d_M_judgeOf_127 (by decide) ?_
          exact j_retI d_M_judgeOf_128
        · refine j_iconst (v := 1) d_M_judgeOf_123 (by decide) ?_
          refine j_goto (tgt := 128) d_M_judgeOf_124 (by decide) ?_
          exact j_retI d_M_judgeOf_128
    · refine j_iload_n d_M_judgeOf_129 0 rfl rfl ?_
      refine j_if_eq (tgt := 139) d_M_judgeOf_130 (by decide) ?_ ?_
      · exact J.sub [1, 2, 0] rfl (jc_M_judgeOf_1_139 N l0 l1 x2 h)
      · refine j_aload_n d_M_judgeOf_133 1 rfl rfl ?_
        refine j_iload_n d_M_judgeOf_134 0 rfl rfl ?_
        refine j_iconst (v := 2) d_M_judgeOf_135 (by decide) ?_
        refine j_vU2 d_M_judgeOf_136 (allQ.cons (VD.mk vt_12_206_12 (ct_M_count N l D dA B l0 x2 2 h) (by decide) (by decide)) allQ.nil) (Nat.le_of_ble_eq_true rfl) (fun _ h3 => ?_)
        exact J.sub [1, 2, 0] rfl (jc_M_judgeOf_1_139 N l0 l1 x2 h3)
set_option maxRecDepth 20000 in
theorem ct_M_judgeOf_1 (N : Nat) (l : Launch) (D : va_G) (dA : Nat → ClassId) (B : Nat) (l0 : Option Nat) (l1 : Int32) (h : Hp) : Ct l (⟨"RingingChamberModel", "judgeOf", "(I)I"⟩ : MethodName) prog_15_method_41_code 5 (some .int) 4 101 D dA B [vr l0, vi l1] h vI (M_judgeOf_1 N l0 l1 h) :=
  Ct.of2 (own := "RingingChamberModel") (nme := "judgeOf") (lv := [(0, vr l0), (1, vi l1)]) rfl rfl (by decide) (Nat.le_of_ble_eq_true rfl) rfl (fun p e R s m args below meth c => jc_M_judgeOf_1 N l0 l1 h)
theorem d_M_lead_0 : decode prog_15_method_42_code 0 = .ok (.aload_n 0, 1) := by decide +kernel
theorem d_M_lead_1 : decode prog_15_method_42_code 1 = .ok (.aload_n 0, 1) := by decide +kernel
theorem d_M_lead_2 : decode prog_15_method_42_code 2 = .ok (.iload_n 1, 1) := by decide +kernel
theorem d_M_lead_3 : decode prog_15_method_42_code 3 = .ok (.invokevirtual 187, 3) := by decide +kernel
theorem d_M_lead_6 : decode prog_15_method_42_code 6 = .ok (.ifCond .ne 7, 3) := by decide +kernel
theorem d_M_lead_9 : decode prog_15_method_42_code 9 = .ok (.iconst 4, 1) := by decide +kernel
theorem d_M_lead_10 : decode prog_15_method_42_code 10 = .ok (.goto 21, 3) := by decide +kernel
theorem d_M_lead_13 : decode prog_15_method_42_code 13 = .ok (.iload_n 2, 1) := by decide +kernel
theorem d_M_lead_14 : decode prog_15_method_42_code 14 = .ok (.ifCond .lt 12, 3) := by decide +kernel
theorem d_M_lead_17 : decode prog_15_method_42_code 17 = .ok (.iload_n 3, 1) := by decide +kernel
theorem d_M_lead_18 : decode prog_15_method_42_code 18 = .ok (.ifCond .lt 8, 3) := by decide +kernel
theorem d_M_lead_21 : decode prog_15_method_42_code 21 = .ok (.iload_n 3, 1) := by decide +kernel
theorem d_M_lead_22 : decode prog_15_method_42_code 22 = .ok (.iconst 2, 1) := by decide +kernel
theorem d_M_lead_23 : decode prog_15_method_42_code 23 = .ok (.if_icmp .le 7, 3) := by decide +kernel
theorem d_M_lead_26 : decode prog_15_method_42_code 26 = .ok (.iconst 2, 1) := by decide +kernel
theorem d_M_lead_27 : decode prog_15_method_42_code 27 = .ok (.goto 4, 3) := by decide +kernel
theorem d_M_lead_30 : decode prog_15_method_42_code 30 = .ok (.iconst 0, 1) := by decide +kernel
theorem d_M_lead_31 : decode prog_15_method_42_code 31 = .ok (.invokevirtual 191, 3) := by decide +kernel
theorem d_M_lead_34 : decode prog_15_method_42_code 34 = .ok (.ifCond .eq 5, 3) := by decide +kernel
theorem d_M_lead_37 : decode prog_15_method_42_code 37 = .ok (.iconst (-1), 1) := by decide +kernel
theorem d_M_lead_38 : decode prog_15_method_42_code 38 = .ok (.ireturn, 1) := by decide +kernel
theorem d_M_lead_39 : decode prog_15_method_42_code 39 = .ok (.aload_n 0, 1) := by decide +kernel
theorem d_M_lead_40 : decode prog_15_method_42_code 40 = .ok (.aload_n 0, 1) := by decide +kernel
theorem d_M_lead_41 : decode prog_15_method_42_code 41 = .ok (.iload_n 1, 1) := by decide +kernel
theorem d_M_lead_42 : decode prog_15_method_42_code 42 = .ok (.iload_n 2, 1) := by decide +kernel
theorem d_M_lead_43 : decode prog_15_method_42_code 43 = .ok (.iload_n 3, 1) := by decide +kernel
theorem d_M_lead_44 : decode prog_15_method_42_code 44 = .ok (.invokevirtual 255, 3) := by decide +kernel
theorem d_M_lead_47 : decode prog_15_method_42_code 47 = .ok (.ifCond .ne 10, 3) := by decide +kernel
theorem d_M_lead_50 : decode prog_15_method_42_code 50 = .ok (.aload_n 0, 1) := by decide +kernel
theorem d_M_lead_51 : decode prog_15_method_42_code 51 = .ok (.getfield 203, 3) := by decide +kernel
theorem d_M_lead_54 : decode prog_15_method_42_code 54 = .ok (.goto 22, 3) := by decide +kernel
theorem d_M_lead_57 : decode prog_15_method_42_code 57 = .ok (.iload 4, 2) := by decide +kernel
theorem d_M_lead_59 : decode prog_15_method_42_code 59 = .ok (.ifCond .lt 12, 3) := by decide +kernel
theorem d_M_lead_62 : decode prog_15_method_42_code 62 = .ok (.iload 4, 2) := by decide +kernel
theorem d_M_lead_64 : decode prog_15_method_42_code 64 = .ok (.aload_n 0, 1) := by decide +kernel
theorem d_M_lead_65 : decode prog_15_method_42_code 65 = .ok (.getfield 217, 3) := by decide +kernel
theorem d_M_lead_68 : decode prog_15_method_42_code 68 = .ok (.if_icmp .lt 7, 3) := by decide +kernel
theorem d_M_lead_71 : decode prog_15_method_42_code 71 = .ok (.iconst 2, 1) := by decide +kernel
theorem d_M_lead_72 : decode prog_15_method_42_code 72 = .ok (.goto 4, 3) := by decide +kernel
theorem d_M_lead_75 : decode prog_15_method_42_code 75 = .ok (.iconst 0, 1) := by decide +kernel
theorem d_M_lead_76 : decode prog_15_method_42_code 76 = .ok (.invokevirtual 191, 3) := by decide +kernel
theorem d_M_lead_79 : decode prog_15_method_42_code 79 = .ok (.ifCond .eq 5, 3) := by decide +kernel
theorem d_M_lead_82 : decode prog_15_method_42_code 82 = .ok (.iconst (-1), 1) := by decide +kernel
theorem d_M_lead_83 : decode prog_15_method_42_code 83 = .ok (.ireturn, 1) := by decide +kernel
theorem d_M_lead_84 : decode prog_15_method_42_code 84 = .ok (.aload_n 0, 1) := by decide +kernel
theorem d_M_lead_85 : decode prog_15_method_42_code 85 = .ok (.getfield 37, 3) := by decide +kernel
theorem d_M_lead_88 : decode prog_15_method_42_code 88 = .ok (.iload 4, 2) := by decide +kernel
theorem d_M_lead_90 : decode prog_15_method_42_code 90 = .ok (.iaload, 1) := by decide +kernel
theorem d_M_lead_91 : decode prog_15_method_42_code 91 = .ok (.ireturn, 1) := by decide +kernel
set_option maxRecDepth 20000 in
theorem jc_M_lead_76 (N : Nat) (l0 : Option Nat) (l4 : Int32) (u0 : Option Nat) (u1 : Int32) (h : Hp) : J p l e R s m args below meth c prog_15_method_42_code 5 "RingingChamberModel" 3 72 (some .int) "lead" D dA B n0 s0 (QM below args s D dA B n0 s0 vI) 76 [(0, vr l0), (4, vi l4)] [vi u1, vr u0] h (M_lead_76 N l0 l4 u0 u1 h) := by
  unfold M_lead_76
  refine j_vI1 d_M_lead_76 (allQ.cons (VD.mk vt_12_191_12 (ct_M_finds N l D dA B u0 u1 h) (by decide) (by decide)) allQ.nil) (Nat.le_of_ble_eq_true rfl) (fun x2 h1 => ?_)
  refine j_if_eq (tgt := 84) d_M_lead_79 (by decide) ?_ ?_
  · refine j_aload_n d_M_lead_84 0 rfl rfl ?_
    refine j_getR d_M_lead_85 fl_12_37.r (fun x3 => ?_)
    refine j_iload d_M_lead_88 1 rfl ?_
    refine j_iald d_M_lead_90 (fun x4 => ?_)
    exact j_retI d_M_lead_91
  · refine j_iconst (v := -1) d_M_lead_82 (by decide) ?_
    exact j_retI d_M_lead_83
set_option maxRecDepth 20000 in
theorem jc_M_lead_71 (N : Nat) (l0 : Option Nat) (l4 : Int32) (u0 : Option Nat) (h : Hp) : J p l e R s m args below meth c prog_15_method_42_code 5 "RingingChamberModel" 3 72 (some .int) "lead" D dA B n0 s0 (QM below args s D dA B n0 s0 vI) 71 [(0, vr l0), (4, vi l4)] [vr u0] h (M_lead_71 N l0 l4 u0 h) := by
  unfold M_lead_71
  refine j_iconst (v := 2) d_M_lead_71 (by decide) ?_
  refine j_goto (tgt := 76) d_M_lead_72 (by decide) ?_
  exact jc_M_lead_76 N l0 l4 u0 2 h
set_option maxRecDepth 20000 in
theorem jc_M_lead_31 (N : Nat) (l0 : Option Nat) (l1 : Int32) (l2 : Int32) (l3 : Int32) (l4 : Int32) (u0 : Option Nat) (u1 : Int32) (h : Hp) : J p l e R s m args below meth c prog_15_method_42_code 5 "RingingChamberModel" 3 72 (some .int) "lead" D dA B n0 s0 (QM below args s D dA B n0 s0 vI) 31 [(0, vr l0), (1, vi l1), (2, vi l2), (3, vi l3), (4, vi l4)] [vi u1, vr u0] h (M_lead_31 N l0 l1 l2 l3 l4 u0 u1 h) := by
  unfold M_lead_31
  refine j_vI1 d_M_lead_31 (allQ.cons (VD.mk vt_12_191_12 (ct_M_finds N l D dA B u0 u1 h) (by decide) (by decide)) allQ.nil) (Nat.le_of_ble_eq_true rfl) (fun x2 h1 => ?_)
  refine j_if_eq (tgt := 39) d_M_lead_34 (by decide) ?_ ?_
  · refine j_aload_n d_M_lead_39 0 rfl rfl ?_
    refine j_aload_n d_M_lead_40 0 rfl rfl ?_
    refine j_iload_n d_M_lead_41 1 rfl rfl ?_
    refine j_iload_n d_M_lead_42 2 rfl rfl ?_
    refine j_iload_n d_M_lead_43 3 rfl rfl ?_
    refine j_vI3 d_M_lead_44 (allQ.cons (VD.mk vt_12_255_12 (ct_M_calledOf N l D dA B l0 l1 l2 l3 h1) (by decide) (by decide)) allQ.nil) (Nat.le_of_ble_eq_true rfl) (fun x4 h3 => ?_)
    refine j_if_ne (tgt := 57) d_M_lead_47 (by decide) ?_ ?_
    · refine j_aload_n d_M_lead_50 0 rfl rfl ?_
      refine j_getI d_M_lead_51 fl_12_203.r (fun x6 => ?_)
      refine j_goto (tgt := 76) d_M_lead_54 (by decide) ?_
      exact J.sub [0, 4] rfl (jc_M_lead_76 N l0 l4 l0 x6 h3)
    · refine j_iload d_M_lead_57 4 rfl ?_
      refine j_if_lt (tgt := 71) d_M_lead_59 (by decide) ?_ ?_
      · exact J.sub [0, 4] rfl (jc_M_lead_71 N l0 l4 l0 h3)
      · refine j_iload d_M_lead_62 4 rfl ?_
        refine j_aload_n d_M_lead_64 0 rfl rfl ?_
        refine j_getI d_M_lead_65 fl_12_217.r (fun x5 => ?_)
        refine j_icmp_lt (tgt := 75) d_M_lead_68 (by decide) ?_ ?_
        · refine j_iconst (v := 0) d_M_lead_75 (by decide) ?_
          exact J.sub [0, 4] rfl (jc_M_lead_76 N l0 l4 l0 0 h3)
        · exact J.sub [0, 4] rfl (jc_M_lead_71 N l0 l4 l0 h3)
  · refine j_iconst (v := -1) d_M_lead_37 (by decide) ?_
    exact j_retI d_M_lead_38
set_option maxRecDepth 20000 in
theorem jc_M_lead_26 (N : Nat) (l0 : Option Nat) (l1 : Int32) (l2 : Int32) (l3 : Int32) (l4 : Int32) (u0 : Option Nat) (h : Hp) : J p l e R s m args below meth c prog_15_method_42_code 5 "RingingChamberModel" 3 72 (some .int) "lead" D dA B n0 s0 (QM below args s D dA B n0 s0 vI) 26 [(0, vr l0), (1, vi l1), (2, vi l2), (3, vi l3), (4, vi l4)] [vr u0] h (M_lead_26 N l0 l1 l2 l3 l4 u0 h) := by
  unfold M_lead_26
  refine j_iconst (v := 2) d_M_lead_26 (by decide) ?_
  refine j_goto (tgt := 31) d_M_lead_27 (by decide) ?_
  exact jc_M_lead_31 N l0 l1 l2 l3 l4 u0 2 h
set_option maxRecDepth 20000 in
theorem jc_M_lead (N : Nat) (l0 : Option Nat) (l1 : Int32) (l2 : Int32) (l3 : Int32) (l4 : Int32) (h : Hp) : J p l e R s m args below meth c prog_15_method_42_code 5 "RingingChamberModel" 3 72 (some .int) "lead" D dA B n0 s0 (QM below args s D dA B n0 s0 vI) 0 [(0, vr l0), (1, vi l1), (2, vi l2), (3, vi l3), (4, vi l4)] [] h (M_lead N l0 l1 l2 l3 l4 h) := by
  unfold M_lead
  refine j_aload_n d_M_lead_0 0 rfl rfl ?_
  refine j_aload_n d_M_lead_1 0 rfl rfl ?_
  refine j_iload_n d_M_lead_2 1 rfl rfl ?_
  refine j_vI1 d_M_lead_3 (allQ.cons (VD.mk vt_12_187_12 (ct_M_isMethod N l D dA B l0 l1 h) (by decide) (by decide)) allQ.nil) (Nat.le_of_ble_eq_true rfl) (fun x2 h1 => ?_)
  refine j_if_ne (tgt := 13) d_M_lead_6 (by decide) ?_ ?_
  · refine j_iconst (v := 4) d_M_lead_9 (by decide) ?_
    refine j_goto (tgt := 31) d_M_lead_10 (by decide) ?_
    exact jc_M_lead_31 N l0 l1 l2 l3 l4 l0 4 h1
  · refine j_iload_n d_M_lead_13 2 rfl rfl ?_
    refine j_if_lt (tgt := 26) d_M_lead_14 (by decide) ?_ ?_
    · exact jc_M_lead_26 N l0 l1 l2 l3 l4 l0 h1
    · refine j_iload_n d_M_lead_17 3 rfl rfl ?_
      refine j_if_lt (tgt := 26) d_M_lead_18 (by decide) ?_ ?_
      · exact jc_M_lead_26 N l0 l1 l2 l3 l4 l0 h1
      · refine j_iload_n d_M_lead_21 3 rfl rfl ?_
        refine j_iconst (v := 2) d_M_lead_22 (by decide) ?_
        refine j_icmp_le (tgt := 30) d_M_lead_23 (by decide) ?_ ?_
        · refine j_iconst (v := 0) d_M_lead_30 (by decide) ?_
          exact jc_M_lead_31 N l0 l1 l2 l3 l4 l0 0 h1
        · exact jc_M_lead_26 N l0 l1 l2 l3 l4 l0 h1
set_option maxRecDepth 20000 in
theorem ct_M_lead (N : Nat) (l : Launch) (D : va_G) (dA : Nat → ClassId) (B : Nat) (l0 : Option Nat) (l1 : Int32) (l2 : Int32) (l3 : Int32) (l4 : Int32) (h : Hp) : Ct l (⟨"RingingChamberModel", "lead", "(IIII)I"⟩ : MethodName) prog_15_method_42_code 5 (some .int) 3 72 D dA B [vr l0, vi l1, vi l2, vi l3, vi l4] h vI (M_lead N l0 l1 l2 l3 l4 h) :=
  Ct.of2 (own := "RingingChamberModel") (nme := "lead") (lv := [(0, vr l0), (1, vi l1), (2, vi l2), (3, vi l3), (4, vi l4)]) rfl rfl (by decide) (Nat.le_of_ble_eq_true rfl) rfl (fun p e R s m args below meth c => jc_M_lead N l0 l1 l2 l3 l4 h)
theorem d_M_judge_0 : decode prog_15_method_43_code 0 = .ok (.aload_n 0, 1) := by decide +kernel
theorem d_M_judge_1 : decode prog_15_method_43_code 1 = .ok (.aload_n 0, 1) := by decide +kernel
theorem d_M_judge_2 : decode prog_15_method_43_code 2 = .ok (.iload_n 1, 1) := by decide +kernel
theorem d_M_judge_3 : decode prog_15_method_43_code 3 = .ok (.invokevirtual 187, 3) := by decide +kernel
theorem d_M_judge_6 : decode prog_15_method_43_code 6 = .ok (.ifCond .eq 7, 3) := by decide +kernel
theorem d_M_judge_9 : decode prog_15_method_43_code 9 = .ok (.iconst 0, 1) := by decide +kernel
theorem d_M_judge_10 : decode prog_15_method_43_code 10 = .ok (.goto 4, 3) := by decide +kernel
theorem d_M_judge_13 : decode prog_15_method_43_code 13 = .ok (.iconst 4, 1) := by decide +kernel
theorem d_M_judge_14 : decode prog_15_method_43_code 14 = .ok (.invokevirtual 191, 3) := by decide +kernel
theorem d_M_judge_17 : decode prog_15_method_43_code 17 = .ok (.ifCond .eq 5, 3) := by decide +kernel
theorem d_M_judge_20 : decode prog_15_method_43_code 20 = .ok (.iconst 0, 1) := by decide +kernel
theorem d_M_judge_21 : decode prog_15_method_43_code 21 = .ok (.ireturn, 1) := by decide +kernel
theorem d_M_judge_22 : decode prog_15_method_43_code 22 = .ok (.aload_n 0, 1) := by decide +kernel
theorem d_M_judge_23 : decode prog_15_method_43_code 23 = .ok (.iload_n 1, 1) := by decide +kernel
theorem d_M_judge_24 : decode prog_15_method_43_code 24 = .ok (.invokevirtual 240, 3) := by decide +kernel
theorem d_M_judge_27 : decode prog_15_method_43_code 27 = .ok (.istore_n 2, 1) := by decide +kernel
theorem d_M_judge_28 : decode prog_15_method_43_code 28 = .ok (.aload_n 0, 1) := by decide +kernel
theorem d_M_judge_29 : decode prog_15_method_43_code 29 = .ok (.iload_n 2, 1) := by decide +kernel
theorem d_M_judge_30 : decode prog_15_method_43_code 30 = .ok (.ifCond .ge 10, 3) := by decide +kernel
theorem d_M_judge_33 : decode prog_15_method_43_code 33 = .ok (.aload_n 0, 1) := by decide +kernel
theorem d_M_judge_34 : decode prog_15_method_43_code 34 = .ok (.getfield 203, 3) := by decide +kernel
theorem d_M_judge_37 : decode prog_15_method_43_code 37 = .ok (.goto 4, 3) := by decide +kernel
theorem d_M_judge_40 : decode prog_15_method_43_code 40 = .ok (.iconst 0, 1) := by decide +kernel
theorem d_M_judge_41 : decode prog_15_method_43_code 41 = .ok (.invokevirtual 191, 3) := by decide +kernel
theorem d_M_judge_44 : decode prog_15_method_43_code 44 = .ok (.ifCond .eq 7, 3) := by decide +kernel
theorem d_M_judge_47 : decode prog_15_method_43_code 47 = .ok (.iconst 0, 1) := by decide +kernel
theorem d_M_judge_48 : decode prog_15_method_43_code 48 = .ok (.goto 4, 3) := by decide +kernel
theorem d_M_judge_51 : decode prog_15_method_43_code 51 = .ok (.iload_n 2, 1) := by decide +kernel
theorem d_M_judge_52 : decode prog_15_method_43_code 52 = .ok (.ireturn, 1) := by decide +kernel
set_option maxRecDepth 20000 in
theorem jc_M_judge_41 (N : Nat) (l2 : Int32) (u0 : Option Nat) (u1 : Int32) (h : Hp) : J p l e R s m args below meth c prog_15_method_43_code 3 "RingingChamberModel" 5 125 (some .int) "judge" D dA B n0 s0 (QM below args s D dA B n0 s0 vI) 41 [(2, vi l2)] [vi u1, vr u0] h (M_judge_41 N l2 u0 u1 h) := by
  unfold M_judge_41
  refine j_vI1 d_M_judge_41 (allQ.cons (VD.mk vt_12_191_12 (ct_M_finds N l D dA B u0 u1 h) (by decide) (by decide)) allQ.nil) (Nat.le_of_ble_eq_true rfl) (fun x2 h1 => ?_)
  refine j_if_eq (tgt := 51) d_M_judge_44 (by decide) ?_ ?_
  · refine j_iload_n d_M_judge_51 0 rfl rfl ?_
    exact j_retI d_M_judge_52
  · refine j_iconst (v := 0) d_M_judge_47 (by decide) ?_
    refine j_goto (tgt := 52) d_M_judge_48 (by decide) ?_
    exact j_retI d_M_judge_52
set_option maxRecDepth 20000 in
theorem jc_M_judge_14 (N : Nat) (l0 : Option Nat) (l1 : Int32) (u0 : Option Nat) (u1 : Int32) (h : Hp) : J p l e R s m args below meth c prog_15_method_43_code 3 "RingingChamberModel" 5 125 (some .int) "judge" D dA B n0 s0 (QM below args s D dA B n0 s0 vI) 14 [(0, vr l0), (1, vi l1)] [vi u1, vr u0] h (M_judge_14 N l0 l1 u0 u1 h) := by
  unfold M_judge_14
  refine j_vI1 d_M_judge_14 (allQ.cons (VD.mk vt_12_191_12 (ct_M_finds N l D dA B u0 u1 h) (by decide) (by decide)) allQ.nil) (Nat.le_of_ble_eq_true rfl) (fun x2 h1 => ?_)
  refine j_if_eq (tgt := 22) d_M_judge_17 (by decide) ?_ ?_
  · refine j_aload_n d_M_judge_22 0 rfl rfl ?_
    refine j_iload_n d_M_judge_23 1 rfl rfl ?_
    refine j_vI1 d_M_judge_24 (allQ.cons (VD.mk vt_12_240_12 (ct_M_judgeOf_1 N l D dA B l0 l1 h1) (by decide) (by decide)) allQ.nil) (Nat.le_of_ble_eq_true rfl) (fun x4 h3 => ?_)
    refine j_istore_n (lv' := [(2, vi x4), (0, vr l0), (1, vi l1)]) d_M_judge_27 rfl (by decide) rfl ?_
    refine j_aload_n d_M_judge_28 1 rfl rfl ?_
    refine j_iload_n d_M_judge_29 0 rfl rfl ?_
    refine j_if_ge (tgt := 40) d_M_judge_30 (by decide) ?_ ?_
    · refine j_iconst (v := 0) d_M_judge_40 (by decide) ?_
      exact J.sub [0] rfl (jc_M_judge_41 N x4 l0 0 h3)
    · refine j_aload_n d_M_judge_33 1 rfl rfl ?_
      refine j_getI d_M_judge_34 fl_12_203.r (fun x5 => ?_)
      refine j_goto (tgt := 41) d_M_judge_37 (by decide) ?_
      exact J.sub [0] rfl (jc_M_judge_41 N x4 l0 x5 h3)
  · refine j_iconst (v := 0) d_M_judge_20 (by decide) ?_
    exact j_retI d_M_judge_21
set_option maxRecDepth 20000 in
theorem jc_M_judge (N : Nat) (l0 : Option Nat) (l1 : Int32) (h : Hp) : J p l e R s m args below meth c prog_15_method_43_code 3 "RingingChamberModel" 5 125 (some .int) "judge" D dA B n0 s0 (QM below args s D dA B n0 s0 vI) 0 [(0, vr l0), (1, vi l1)] [] h (M_judge N l0 l1 h) := by
  unfold M_judge
  refine j_aload_n d_M_judge_0 0 rfl rfl ?_
  refine j_aload_n d_M_judge_1 0 rfl rfl ?_
  refine j_iload_n d_M_judge_2 1 rfl rfl ?_
  refine j_vI1 d_M_judge_3 (allQ.cons (VD.mk vt_12_187_12 (ct_M_isMethod N l D dA B l0 l1 h) (by decide) (by decide)) allQ.nil) (Nat.le_of_ble_eq_true rfl) (fun x2 h1 => ?_)
  refine j_if_eq (tgt := 13) d_M_judge_6 (by decide) ?_ ?_
  · refine j_iconst (v := 4) d_M_judge_13 (by decide) ?_
    exact jc_M_judge_14 N l0 l1 l0 4 h1
  · refine j_iconst (v := 0) d_M_judge_9 (by decide) ?_
    refine j_goto (tgt := 14) d_M_judge_10 (by decide) ?_
    exact jc_M_judge_14 N l0 l1 l0 0 h1
set_option maxRecDepth 20000 in
theorem ct_M_judge (N : Nat) (l : Launch) (D : va_G) (dA : Nat → ClassId) (B : Nat) (l0 : Option Nat) (l1 : Int32) (h : Hp) : Ct l (⟨"RingingChamberModel", "judge", "(I)I"⟩ : MethodName) prog_15_method_43_code 3 (some .int) 5 125 D dA B [vr l0, vi l1] h vI (M_judge N l0 l1 h) :=
  Ct.of2 (own := "RingingChamberModel") (nme := "judge") (lv := [(0, vr l0), (1, vi l1)]) rfl rfl (by decide) (Nat.le_of_ble_eq_true rfl) rfl (fun p e R s m args below meth c => jc_M_judge N l0 l1 h)
theorem d_M_leadHead_0 : decode prog_15_method_44_code 0 = .ok (.aload_n 0, 1) := by decide +kernel
theorem d_M_leadHead_1 : decode prog_15_method_44_code 1 = .ok (.aload_n 0, 1) := by decide +kernel
theorem d_M_leadHead_2 : decode prog_15_method_44_code 2 = .ok (.iload_n 1, 1) := by decide +kernel
theorem d_M_leadHead_3 : decode prog_15_method_44_code 3 = .ok (.invokevirtual 187, 3) := by decide +kernel
theorem d_M_leadHead_6 : decode prog_15_method_44_code 6 = .ok (.ifCond .ne 7, 3) := by decide +kernel
theorem d_M_leadHead_9 : decode prog_15_method_44_code 9 = .ok (.iconst 4, 1) := by decide +kernel
theorem d_M_leadHead_10 : decode prog_15_method_44_code 10 = .ok (.goto 17, 3) := by decide +kernel
theorem d_M_leadHead_13 : decode prog_15_method_44_code 13 = .ok (.iload_n 2, 1) := by decide +kernel
theorem d_M_leadHead_14 : decode prog_15_method_44_code 14 = .ok (.ifCond .lt 8, 3) := by decide +kernel
theorem d_M_leadHead_17 : decode prog_15_method_44_code 17 = .ok (.iload_n 2, 1) := by decide +kernel
theorem d_M_leadHead_18 : decode prog_15_method_44_code 18 = .ok (.iconst 2, 1) := by decide +kernel
theorem d_M_leadHead_19 : decode prog_15_method_44_code 19 = .ok (.if_icmp .le 7, 3) := by decide +kernel
theorem d_M_leadHead_22 : decode prog_15_method_44_code 22 = .ok (.iconst 2, 1) := by decide +kernel
theorem d_M_leadHead_23 : decode prog_15_method_44_code 23 = .ok (.goto 4, 3) := by decide +kernel
theorem d_M_leadHead_26 : decode prog_15_method_44_code 26 = .ok (.iconst 0, 1) := by decide +kernel
theorem d_M_leadHead_27 : decode prog_15_method_44_code 27 = .ok (.invokevirtual 191, 3) := by decide +kernel
theorem d_M_leadHead_30 : decode prog_15_method_44_code 30 = .ok (.ifCond .ne 28, 3) := by decide +kernel
theorem d_M_leadHead_33 : decode prog_15_method_44_code 33 = .ok (.aload_n 0, 1) := by decide +kernel
theorem d_M_leadHead_34 : decode prog_15_method_44_code 34 = .ok (.aload_n 0, 1) := by decide +kernel
theorem d_M_leadHead_35 : decode prog_15_method_44_code 35 = .ok (.iload_n 1, 1) := by decide +kernel
theorem d_M_leadHead_36 : decode prog_15_method_44_code 36 = .ok (.iconst 0, 1) := by decide +kernel
theorem d_M_leadHead_37 : decode prog_15_method_44_code 37 = .ok (.iload_n 2, 1) := by decide +kernel
theorem d_M_leadHead_38 : decode prog_15_method_44_code 38 = .ok (.invokevirtual 255, 3) := by decide +kernel
theorem d_M_leadHead_41 : decode prog_15_method_44_code 41 = .ok (.ifCond .eq 7, 3) := by decide +kernel
theorem d_M_leadHead_44 : decode prog_15_method_44_code 44 = .ok (.iconst 0, 1) := by decide +kernel
theorem d_M_leadHead_45 : decode prog_15_method_44_code 45 = .ok (.goto 7, 3) := by decide +kernel
theorem d_M_leadHead_48 : decode prog_15_method_44_code 48 = .ok (.aload_n 0, 1) := by decide +kernel
theorem d_M_leadHead_49 : decode prog_15_method_44_code 49 = .ok (.getfield 203, 3) := by decide +kernel
theorem d_M_leadHead_52 : decode prog_15_method_44_code 52 = .ok (.invokevirtual 191, 3) := by decide +kernel
theorem d_M_leadHead_55 : decode prog_15_method_44_code 55 = .ok (.ifCond .eq 5, 3) := by decide +kernel
theorem d_M_leadHead_58 : decode prog_15_method_44_code 58 = .ok (.lconst 0, 1) := by decide +kernel
theorem d_M_leadHead_59 : decode prog_15_method_44_code 59 = .ok (.lreturn, 1) := by decide +kernel
theorem d_M_leadHead_60 : decode prog_15_method_44_code 60 = .ok (.aload_n 0, 1) := by decide +kernel
theorem d_M_leadHead_61 : decode prog_15_method_44_code 61 = .ok (.aload_n 0, 1) := by decide +kernel
theorem d_M_leadHead_62 : decode prog_15_method_44_code 62 = .ok (.invokevirtual 133, 3) := by decide +kernel
theorem d_M_leadHead_65 : decode prog_15_method_44_code 65 = .ok (.aload_n 0, 1) := by decide +kernel
theorem d_M_leadHead_66 : decode prog_15_method_44_code 66 = .ok (.getfield 217, 3) := by decide +kernel
theorem d_M_leadHead_69 : decode prog_15_method_44_code 69 = .ok (.invokevirtual 243, 3) := by decide +kernel
theorem d_M_leadHead_72 : decode prog_15_method_44_code 72 = .ok (.lreturn, 1) := by decide +kernel
set_option maxRecDepth 20000 in
theorem jc_M_leadHead_52 (N : Nat) (l0 : Option Nat) (u0 : Option Nat) (u1 : Int32) (h : Hp) : J p l e R s m args below meth c prog_15_method_44_code 3 "RingingChamberModel" 3 77 (some .long) "leadHead" D dA B n0 s0 (QM below args s D dA B n0 s0 vL) 52 [(0, vr l0)] [vi u1, vr u0] h (M_leadHead_52 N l0 u0 u1 h) := by
  unfold M_leadHead_52
  refine j_vI1 d_M_leadHead_52 (allQ.cons (VD.mk vt_12_191_12 (ct_M_finds N l D dA B u0 u1 h) (by decide) (by decide)) allQ.nil) (Nat.le_of_ble_eq_true rfl) (fun x2 h1 => ?_)
  refine j_if_eq (tgt := 60) d_M_leadHead_55 (by decide) ?_ ?_
  · refine j_aload_n d_M_leadHead_60 0 rfl rfl ?_
    refine j_aload_n d_M_leadHead_61 0 rfl rfl ?_
    refine j_vL0 d_M_leadHead_62 (allQ.cons (VD.mk vt_12_133_12 (ct_M_rounds N l D dA B l0 h1) (by decide) (by decide)) allQ.nil) (Nat.le_of_ble_eq_true rfl) (fun x4 h3 => ?_)
    refine j_aload_n d_M_leadHead_65 0 rfl rfl ?_
    refine j_getI d_M_leadHead_66 fl_12_217.r (fun x5 => ?_)
    refine j_vL2 d_M_leadHead_69 (allQ.cons (VD.mk vt_12_243_12 (ct_M_behind N l D dA B l0 x4 x5 h3) (by decide) (by decide)) allQ.nil) (Nat.le_of_ble_eq_true rfl) (fun x7 h6 => ?_)
    exact j_retL d_M_leadHead_72
  · refine j_lconst (v := 0) d_M_leadHead_58 (by decide) ?_
    exact j_retL d_M_leadHead_59
set_option maxRecDepth 20000 in
theorem jc_M_leadHead_27 (N : Nat) (l0 : Option Nat) (l1 : Int32) (l2 : Int32) (u0 : Option Nat) (u1 : Int32) (h : Hp) : J p l e R s m args below meth c prog_15_method_44_code 3 "RingingChamberModel" 3 77 (some .long) "leadHead" D dA B n0 s0 (QM below args s D dA B n0 s0 vL) 27 [(0, vr l0), (1, vi l1), (2, vi l2)] [vi u1, vr u0] h (M_leadHead_27 N l0 l1 l2 u0 u1 h) := by
  unfold M_leadHead_27
  refine j_vI1 d_M_leadHead_27 (allQ.cons (VD.mk vt_12_191_12 (ct_M_finds N l D dA B u0 u1 h) (by decide) (by decide)) allQ.nil) (Nat.le_of_ble_eq_true rfl) (fun x2 h1 => ?_)
  refine j_if_ne (tgt := 58) d_M_leadHead_30 (by decide) ?_ ?_
  · refine j_aload_n d_M_leadHead_33 0 rfl rfl ?_
    refine j_aload_n d_M_leadHead_34 0 rfl rfl ?_
    refine j_iload_n d_M_leadHead_35 1 rfl rfl ?_
    refine j_iconst (v := 0) d_M_leadHead_36 (by decide) ?_
    refine j_iload_n d_M_leadHead_37 2 rfl rfl ?_
    refine j_vI3 d_M_leadHead_38 (allQ.cons (VD.mk vt_12_255_12 (ct_M_calledOf N l D dA B l0 l1 0 l2 h1) (by decide) (by decide)) allQ.nil) (Nat.le_of_ble_eq_true rfl) (fun x4 h3 => ?_)
    refine j_if_eq (tgt := 48) d_M_leadHead_41 (by decide) ?_ ?_
    · refine j_aload_n d_M_leadHead_48 0 rfl rfl ?_
      refine j_getI d_M_leadHead_49 fl_12_203.r (fun x5 => ?_)
      exact J.sub [0] rfl (jc_M_leadHead_52 N l0 l0 x5 h3)
    · refine j_iconst (v := 0) d_M_leadHead_44 (by decide) ?_
      refine j_goto (tgt := 52) d_M_leadHead_45 (by decide) ?_
      exact J.sub [0] rfl (jc_M_leadHead_52 N l0 l0 0 h3)
  · refine j_lconst (v := 0) d_M_leadHead_58 (by decide) ?_
    exact j_retL d_M_leadHead_59
set_option maxRecDepth 20000 in
theorem jc_M_leadHead_22 (N : Nat) (l0 : Option Nat) (l1 : Int32) (l2 : Int32) (u0 : Option Nat) (h : Hp) : J p l e R s m args below meth c prog_15_method_44_code 3 "RingingChamberModel" 3 77 (some .long) "leadHead" D dA B n0 s0 (QM below args s D dA B n0 s0 vL) 22 [(0, vr l0), (1, vi l1), (2, vi l2)] [vr u0] h (M_leadHead_22 N l0 l1 l2 u0 h) := by
  unfold M_leadHead_22
  refine j_iconst (v := 2) d_M_leadHead_22 (by decide) ?_
  refine j_goto (tgt := 27) d_M_leadHead_23 (by decide) ?_
  exact jc_M_leadHead_27 N l0 l1 l2 u0 2 h
set_option maxRecDepth 20000 in
theorem jc_M_leadHead (N : Nat) (l0 : Option Nat) (l1 : Int32) (l2 : Int32) (h : Hp) : J p l e R s m args below meth c prog_15_method_44_code 3 "RingingChamberModel" 3 77 (some .long) "leadHead" D dA B n0 s0 (QM below args s D dA B n0 s0 vL) 0 [(0, vr l0), (1, vi l1), (2, vi l2)] [] h (M_leadHead N l0 l1 l2 h) := by
  unfold M_leadHead
  refine j_aload_n d_M_leadHead_0 0 rfl rfl ?_
  refine j_aload_n d_M_leadHead_1 0 rfl rfl ?_
  refine j_iload_n d_M_leadHead_2 1 rfl rfl ?_
  refine j_vI1 d_M_leadHead_3 (allQ.cons (VD.mk vt_12_187_12 (ct_M_isMethod N l D dA B l0 l1 h) (by decide) (by decide)) allQ.nil) (Nat.le_of_ble_eq_true rfl) (fun x2 h1 => ?_)
  refine j_if_ne (tgt := 13) d_M_leadHead_6 (by decide) ?_ ?_
  · refine j_iconst (v := 4) d_M_leadHead_9 (by decide) ?_
    refine j_goto (tgt := 27) d_M_leadHead_10 (by decide) ?_
    exact jc_M_leadHead_27 N l0 l1 l2 l0 4 h1
  · refine j_iload_n d_M_leadHead_13 2 rfl rfl ?_
    refine j_if_lt (tgt := 22) d_M_leadHead_14 (by decide) ?_ ?_
    · exact jc_M_leadHead_22 N l0 l1 l2 l0 h1
    · refine j_iload_n d_M_leadHead_17 2 rfl rfl ?_
      refine j_iconst (v := 2) d_M_leadHead_18 (by decide) ?_
      refine j_icmp_le (tgt := 26) d_M_leadHead_19 (by decide) ?_ ?_
      · refine j_iconst (v := 0) d_M_leadHead_26 (by decide) ?_
        exact jc_M_leadHead_27 N l0 l1 l2 l0 0 h1
      · exact jc_M_leadHead_22 N l0 l1 l2 l0 h1
set_option maxRecDepth 20000 in
theorem ct_M_leadHead (N : Nat) (l : Launch) (D : va_G) (dA : Nat → ClassId) (B : Nat) (l0 : Option Nat) (l1 : Int32) (l2 : Int32) (h : Hp) : Ct l (⟨"RingingChamberModel", "leadHead", "(II)J"⟩ : MethodName) prog_15_method_44_code 3 (some .long) 3 77 D dA B [vr l0, vi l1, vi l2] h vL (M_leadHead N l0 l1 l2 h) :=
  Ct.of2 (own := "RingingChamberModel") (nme := "leadHead") (lv := [(0, vr l0), (1, vi l1), (2, vi l2)]) rfl rfl (by decide) (Nat.le_of_ble_eq_true rfl) rfl (fun p e R s m args below meth c => jc_M_leadHead N l0 l1 l2 h)
theorem d_M_orderOf_0 : decode prog_15_method_53_code 0 = .ok (.lload_n 1, 1) := by decide +kernel
theorem d_M_orderOf_1 : decode prog_15_method_53_code 1 = .ok (.lstore_n 3, 1) := by decide +kernel
theorem d_M_orderOf_2 : decode prog_15_method_53_code 2 = .ok (.iconst 1, 1) := by decide +kernel
theorem d_M_orderOf_3 : decode prog_15_method_53_code 3 = .ok (.istore 5, 2) := by decide +kernel
theorem d_M_orderOf_5 : decode prog_15_method_53_code 5 = .ok (.lload_n 3, 1) := by decide +kernel
theorem d_M_orderOf_6 : decode prog_15_method_53_code 6 = .ok (.aload_n 0, 1) := by decide +kernel
theorem d_M_orderOf_7 : decode prog_15_method_53_code 7 = .ok (.invokevirtual 133, 3) := by decide +kernel
theorem d_M_orderOf_10 : decode prog_15_method_53_code 10 = .ok (.lcmp, 1) := by decide +kernel
theorem d_M_orderOf_11 : decode prog_15_method_53_code 11 = .ok (.ifCond .eq 16, 3) := by decide +kernel
theorem d_M_orderOf_14 : decode prog_15_method_53_code 14 = .ok (.aload_n 0, 1) := by decide +kernel
theorem d_M_orderOf_15 : decode prog_15_method_53_code 15 = .ok (.lload_n 3, 1) := by decide +kernel
theorem d_M_orderOf_16 : decode prog_15_method_53_code 16 = .ok (.lload_n 1, 1) := by decide +kernel
theorem d_M_orderOf_17 : decode prog_15_method_53_code 17 = .ok (.invokevirtual 273, 3) := by decide +kernel
theorem d_M_orderOf_20 : decode prog_15_method_53_code 20 = .ok (.lstore_n 3, 1) := by decide +kernel
theorem d_M_orderOf_21 : decode prog_15_method_53_code 21 = .ok (.iinc 5 1, 3) := by decide +kernel
theorem d_M_orderOf_24 : decode prog_15_method_53_code 24 = .ok (.goto (-19), 3) := by decide +kernel
theorem d_M_orderOf_27 : decode prog_15_method_53_code 27 = .ok (.iload 5, 2) := by decide +kernel
theorem d_M_orderOf_29 : decode prog_15_method_53_code 29 = .ok (.ireturn, 1) := by decide +kernel
set_option maxRecDepth 20000 in
theorem jc_M_orderOf_5 (N : Nat) : ∀ (n : Nat) (l0 : Option Nat) (l1 : Int64) (l3 : Int64) (l5 : Int32) (h : Hp), J p l e R s m args below meth c prog_15_method_53_code 6 "RingingChamberModel" 2 49 (some .int) "orderOf" D dA B n0 s0 (QM below args s D dA B n0 s0 vI) 5 [(0, vr l0), (1, vl l1), (3, vl l3), (5, vi l5)] [] h (M_orderOf_5 N n l0 l1 l3 l5 h) := by
  intro n
  induction n with
  | zero => intros; exact J.none
  | succ n ih =>
    intro l0 l1 l3 l5 h
    rw [M_orderOf_5]
    refine j_lload_n d_M_orderOf_5 2 rfl rfl ?_
    refine j_aload_n d_M_orderOf_6 0 rfl rfl ?_
    refine j_vL0 d_M_orderOf_7 (allQ.cons (VD.mk vt_12_133_12 (ct_M_rounds N l D dA B l0 h) (by decide) (by decide)) allQ.nil) (Nat.le_of_ble_eq_true rfl) (fun x2 h1 => ?_)
    refine j_lcmp d_M_orderOf_10 ?_
    refine j_if_eq (tgt := 27) d_M_orderOf_11 (by decide) ?_ ?_
    · refine j_iload d_M_orderOf_27 3 rfl ?_
      exact j_retI d_M_orderOf_29
    · refine j_aload_n d_M_orderOf_14 0 rfl rfl ?_
      refine j_lload_n d_M_orderOf_15 2 rfl rfl ?_
      refine j_lload_n d_M_orderOf_16 1 rfl rfl ?_
      refine j_vL2 d_M_orderOf_17 (allQ.cons (VD.mk vt_12_273_12 (ct_M_times N l D dA B l0 l3 l1 h1) (by decide) (by decide)) allQ.nil) (Nat.le_of_ble_eq_true rfl) (fun x4 h3 => ?_)
      refine j_lstore_n (lv' := [(3, vl x4), (0, vr l0), (1, vl l1), (5, vi l5)]) d_M_orderOf_20 rfl (by decide) rfl ?_
      refine j_iinc (lvv := fun x5 => [(5, vi x5), (3, vl x4), (0, vr l0), (1, vl l1)]) d_M_orderOf_21 3 rfl rfl (by decide) (fun _ => rfl) (fun x5 => ?_)
      refine j_goto (tgt := 5) d_M_orderOf_24 (by decide) ?_
      exact J.sub [2, 3, 1, 0] rfl (ih l0 l1 x4 x5 h3)
set_option maxRecDepth 20000 in
theorem jc_M_orderOf (N : Nat) (l0 : Option Nat) (l1 : Int64) (h : Hp) : J p l e R s m args below meth c prog_15_method_53_code 6 "RingingChamberModel" 2 49 (some .int) "orderOf" D dA B n0 s0 (QM below args s D dA B n0 s0 vI) 0 [(0, vr l0), (1, vl l1)] [] h (M_orderOf N l0 l1 h) := by
  unfold M_orderOf
  refine j_lload_n d_M_orderOf_0 1 rfl rfl ?_
  refine j_lstore_n (lv' := [(3, vl l1), (0, vr l0), (1, vl l1)]) d_M_orderOf_1 rfl (by decide) rfl ?_
  refine j_iconst (v := 1) d_M_orderOf_2 (by decide) ?_
  refine j_istore (lv' := [(5, vi 1), (3, vl l1), (0, vr l0), (1, vl l1)]) d_M_orderOf_3 (by decide) rfl ?_
  exact J.sub [2, 3, 1, 0] rfl (jc_M_orderOf_5 N N l0 l1 l1 1 h)
set_option maxRecDepth 20000 in
theorem ct_M_orderOf (N : Nat) (l : Launch) (D : va_G) (dA : Nat → ClassId) (B : Nat) (l0 : Option Nat) (l1 : Int64) (h : Hp) : Ct l (⟨"RingingChamberModel", "orderOf", "(J)I"⟩ : MethodName) prog_15_method_53_code 6 (some .int) 2 49 D dA B [vr l0, vl l1] h vI (M_orderOf N l0 l1 h) :=
  Ct.of2 (own := "RingingChamberModel") (nme := "orderOf") (lv := [(0, vr l0), (1, vl l1)]) rfl rfl (by decide) (Nat.le_of_ble_eq_true rfl) rfl (fun p e R s m args below meth c => jc_M_orderOf N l0 l1 h)
theorem d_M_course_0 : decode prog_15_method_45_code 0 = .ok (.aload_n 0, 1) := by decide +kernel
theorem d_M_course_1 : decode prog_15_method_45_code 1 = .ok (.aload_n 0, 1) := by decide +kernel
theorem d_M_course_2 : decode prog_15_method_45_code 2 = .ok (.iload_n 1, 1) := by decide +kernel
theorem d_M_course_3 : decode prog_15_method_45_code 3 = .ok (.invokevirtual 187, 3) := by decide +kernel
theorem d_M_course_6 : decode prog_15_method_45_code 6 = .ok (.ifCond .eq 7, 3) := by decide +kernel
theorem d_M_course_9 : decode prog_15_method_45_code 9 = .ok (.iconst 0, 1) := by decide +kernel
theorem d_M_course_10 : decode prog_15_method_45_code 10 = .ok (.goto 4, 3) := by decide +kernel
theorem d_M_course_13 : decode prog_15_method_45_code 13 = .ok (.iconst 4, 1) := by decide +kernel
theorem d_M_course_14 : decode prog_15_method_45_code 14 = .ok (.invokevirtual 191, 3) := by decide +kernel
theorem d_M_course_17 : decode prog_15_method_45_code 17 = .ok (.ifCond .ne 27, 3) := by decide +kernel
theorem d_M_course_20 : decode prog_15_method_45_code 20 = .ok (.aload_n 0, 1) := by decide +kernel
theorem d_M_course_21 : decode prog_15_method_45_code 21 = .ok (.aload_n 0, 1) := by decide +kernel
theorem d_M_course_22 : decode prog_15_method_45_code 22 = .ok (.iload_n 1, 1) := by decide +kernel
theorem d_M_course_23 : decode prog_15_method_45_code 23 = .ok (.iconst 0, 1) := by decide +kernel
theorem d_M_course_24 : decode prog_15_method_45_code 24 = .ok (.invokevirtual 220, 3) := by decide +kernel
theorem d_M_course_27 : decode prog_15_method_45_code 27 = .ok (.ifCond .eq 7, 3) := by decide +kernel
theorem d_M_course_30 : decode prog_15_method_45_code 30 = .ok (.iconst 0, 1) := by decide +kernel
theorem d_M_course_31 : decode prog_15_method_45_code 31 = .ok (.goto 7, 3) := by decide +kernel
theorem d_M_course_34 : decode prog_15_method_45_code 34 = .ok (.aload_n 0, 1) := by decide +kernel
theorem d_M_course_35 : decode prog_15_method_45_code 35 = .ok (.getfield 203, 3) := by decide +kernel
theorem d_M_course_38 : decode prog_15_method_45_code 38 = .ok (.invokevirtual 191, 3) := by decide +kernel
theorem d_M_course_41 : decode prog_15_method_45_code 41 = .ok (.ifCond .eq 5, 3) := by decide +kernel
theorem d_M_course_44 : decode prog_15_method_45_code 44 = .ok (.iconst 0, 1) := by decide +kernel
theorem d_M_course_45 : decode prog_15_method_45_code 45 = .ok (.ireturn, 1) := by decide +kernel
theorem d_M_course_46 : decode prog_15_method_45_code 46 = .ok (.aload_n 0, 1) := by decide +kernel
theorem d_M_course_47 : decode prog_15_method_45_code 47 = .ok (.aload_n 0, 1) := by decide +kernel
theorem d_M_course_48 : decode prog_15_method_45_code 48 = .ok (.aload_n 0, 1) := by decide +kernel
theorem d_M_course_49 : decode prog_15_method_45_code 49 = .ok (.invokevirtual 133, 3) := by decide +kernel
theorem d_M_course_52 : decode prog_15_method_45_code 52 = .ok (.aload_n 0, 1) := by decide +kernel
theorem d_M_course_53 : decode prog_15_method_45_code 53 = .ok (.getfield 217, 3) := by decide +kernel
theorem d_M_course_56 : decode prog_15_method_45_code 56 = .ok (.invokevirtual 243, 3) := by decide +kernel
theorem d_M_course_59 : decode prog_15_method_45_code 59 = .ok (.invokevirtual 259, 3) := by decide +kernel
theorem d_M_course_62 : decode prog_15_method_45_code 62 = .ok (.ireturn, 1) := by decide +kernel
set_option maxRecDepth 20000 in
theorem jc_M_course_38 (N : Nat) (l0 : Option Nat) (u0 : Option Nat) (u1 : Int32) (h : Hp) : J p l e R s m args below meth c prog_15_method_45_code 2 "RingingChamberModel" 3 77 (some .int) "course" D dA B n0 s0 (QM below args s D dA B n0 s0 vI) 38 [(0, vr l0)] [vi u1, vr u0] h (M_course_38 N l0 u0 u1 h) := by
  unfold M_course_38
  refine j_vI1 d_M_course_38 (allQ.cons (VD.mk vt_12_191_12 (ct_M_finds N l D dA B u0 u1 h) (by decide) (by decide)) allQ.nil) (Nat.le_of_ble_eq_true rfl) (fun x2 h1 => ?_)
  refine j_if_eq (tgt := 46) d_M_course_41 (by decide) ?_ ?_
  · refine j_aload_n d_M_course_46 0 rfl rfl ?_
    refine j_aload_n d_M_course_47 0 rfl rfl ?_
    refine j_aload_n d_M_course_48 0 rfl rfl ?_
    refine j_vL0 d_M_course_49 (allQ.cons (VD.mk vt_12_133_12 (ct_M_rounds N l D dA B l0 h1) (by decide) (by decide)) allQ.nil) (Nat.le_of_ble_eq_true rfl) (fun x4 h3 => ?_)
    refine j_aload_n d_M_course_52 0 rfl rfl ?_
    refine j_getI d_M_course_53 fl_12_217.r (fun x5 => ?_)
    refine j_vL2 d_M_course_56 (allQ.cons (VD.mk vt_12_243_12 (ct_M_behind N l D dA B l0 x4 x5 h3) (by decide) (by decide)) allQ.nil) (Nat.le_of_ble_eq_true rfl) (fun x7 h6 => ?_)
    refine j_vI1 d_M_course_59 (allQ.cons (VD.mk vt_12_259_12 (ct_M_orderOf N l D dA B l0 x7 h6) (by decide) (by decide)) allQ.nil) (Nat.le_of_ble_eq_true rfl) (fun x9 h8 => ?_)
    exact j_retI d_M_course_62
  · refine j_iconst (v := 0) d_M_course_44 (by decide) ?_
    exact j_retI d_M_course_45
set_option maxRecDepth 20000 in
theorem jc_M_course_14 (N : Nat) (l0 : Option Nat) (l1 : Int32) (u0 : Option Nat) (u1 : Int32) (h : Hp) : J p l e R s m args below meth c prog_15_method_45_code 2 "RingingChamberModel" 3 77 (some .int) "course" D dA B n0 s0 (QM below args s D dA B n0 s0 vI) 14 [(0, vr l0), (1, vi l1)] [vi u1, vr u0] h (M_course_14 N l0 l1 u0 u1 h) := by
  unfold M_course_14
  refine j_vI1 d_M_course_14 (allQ.cons (VD.mk vt_12_191_12 (ct_M_finds N l D dA B u0 u1 h) (by decide) (by decide)) allQ.nil) (Nat.le_of_ble_eq_true rfl) (fun x2 h1 => ?_)
  refine j_if_ne (tgt := 44) d_M_course_17 (by decide) ?_ ?_
  · refine j_aload_n d_M_course_20 0 rfl rfl ?_
    refine j_aload_n d_M_course_21 0 rfl rfl ?_
    refine j_iload_n d_M_course_22 1 rfl rfl ?_
    refine j_iconst (v := 0) d_M_course_23 (by decide) ?_
    refine j_vI2 d_M_course_24 (allQ.cons (VD.mk vt_12_220_12 (ct_M_leadOf N l D dA B l0 l1 0 h1) (by decide) (by decide)) allQ.nil) (Nat.le_of_ble_eq_true rfl) (fun x4 h3 => ?_)
    refine j_if_eq (tgt := 34) d_M_course_27 (by decide) ?_ ?_
    · refine j_aload_n d_M_course_34 0 rfl rfl ?_
      refine j_getI d_M_course_35 fl_12_203.r (fun x5 => ?_)
      exact J.sub [0] rfl (jc_M_course_38 N l0 l0 x5 h3)
    · refine j_iconst (v := 0) d_M_course_30 (by decide) ?_
      refine j_goto (tgt := 38) d_M_course_31 (by decide) ?_
      exact J.sub [0] rfl (jc_M_course_38 N l0 l0 0 h3)
  · refine j_iconst (v := 0) d_M_course_44 (by decide) ?_
    exact j_retI d_M_course_45
set_option maxRecDepth 20000 in
theorem jc_M_course (N : Nat) (l0 : Option Nat) (l1 : Int32) (h : Hp) : J p l e R s m args below meth c prog_15_method_45_code 2 "RingingChamberModel" 3 77 (some .int) "course" D dA B n0 s0 (QM below args s D dA B n0 s0 vI) 0 [(0, vr l0), (1, vi l1)] [] h (M_course N l0 l1 h) := by
  unfold M_course
  refine j_aload_n d_M_course_0 0 rfl rfl ?_
  refine j_aload_n d_M_course_1 0 rfl rfl ?_
  refine j_iload_n d_M_course_2 1 rfl rfl ?_
  refine j_vI1 d_M_course_3 (allQ.cons (VD.mk vt_12_187_12 (ct_M_isMethod N l D dA B l0 l1 h) (by decide) (by decide)) allQ.nil) (Nat.le_of_ble_eq_true rfl) (fun x2 h1 => ?_)
  refine j_if_eq (tgt := 13) d_M_course_6 (by decide) ?_ ?_
  · refine j_iconst (v := 4) d_M_course_13 (by decide) ?_
    exact jc_M_course_14 N l0 l1 l0 4 h1
  · refine j_iconst (v := 0) d_M_course_9 (by decide) ?_
    refine j_goto (tgt := 14) d_M_course_10 (by decide) ?_
    exact jc_M_course_14 N l0 l1 l0 0 h1
set_option maxRecDepth 20000 in
theorem ct_M_course (N : Nat) (l : Launch) (D : va_G) (dA : Nat → ClassId) (B : Nat) (l0 : Option Nat) (l1 : Int32) (h : Hp) : Ct l (⟨"RingingChamberModel", "course", "(I)I"⟩ : MethodName) prog_15_method_45_code 2 (some .int) 3 77 D dA B [vr l0, vi l1] h vI (M_course N l0 l1 h) :=
  Ct.of2 (own := "RingingChamberModel") (nme := "course") (lv := [(0, vr l0), (1, vi l1)]) rfl rfl (by decide) (Nat.le_of_ble_eq_true rfl) rfl (fun p e R s m args below meth c => jc_M_course N l0 l1 h)
theorem d_M_falseness_0 : decode prog_15_method_46_code 0 = .ok (.aload_n 0, 1) := by decide +kernel
theorem d_M_falseness_1 : decode prog_15_method_46_code 1 = .ok (.aload_n 0, 1) := by decide +kernel
theorem d_M_falseness_2 : decode prog_15_method_46_code 2 = .ok (.iload_n 1, 1) := by decide +kernel
theorem d_M_falseness_3 : decode prog_15_method_46_code 3 = .ok (.invokevirtual 187, 3) := by decide +kernel
theorem d_M_falseness_6 : decode prog_15_method_46_code 6 = .ok (.ifCond .ne 7, 3) := by decide +kernel
theorem d_M_falseness_9 : decode prog_15_method_46_code 9 = .ok (.iconst 4, 1) := by decide +kernel
theorem d_M_falseness_10 : decode prog_15_method_46_code 10 = .ok (.goto 17, 3) := by decide +kernel
theorem d_M_falseness_13 : decode prog_15_method_46_code 13 = .ok (.aload_n 0, 1) := by decide +kernel
theorem d_M_falseness_14 : decode prog_15_method_46_code 14 = .ok (.lload_n 2, 1) := by decide +kernel
theorem d_M_falseness_15 : decode prog_15_method_46_code 15 = .ok (.invokevirtual 262, 3) := by decide +kernel
theorem d_M_falseness_18 : decode prog_15_method_46_code 18 = .ok (.ifCond .eq 7, 3) := by decide +kernel
theorem d_M_falseness_21 : decode prog_15_method_46_code 21 = .ok (.iconst 0, 1) := by decide +kernel
theorem d_M_falseness_22 : decode prog_15_method_46_code 22 = .ok (.goto 5, 3) := by decide +kernel
theorem d_M_falseness_25 : decode prog_15_method_46_code 25 = .ok (.bipush 8, 2) := by decide +kernel
theorem d_M_falseness_27 : decode prog_15_method_46_code 27 = .ok (.invokevirtual 191, 3) := by decide +kernel
theorem d_M_falseness_30 : decode prog_15_method_46_code 30 = .ok (.ifCond .ne 27, 3) := by decide +kernel
theorem d_M_falseness_33 : decode prog_15_method_46_code 33 = .ok (.aload_n 0, 1) := by decide +kernel
theorem d_M_falseness_34 : decode prog_15_method_46_code 34 = .ok (.aload_n 0, 1) := by decide +kernel
theorem d_M_falseness_35 : decode prog_15_method_46_code 35 = .ok (.iload_n 1, 1) := by decide +kernel
theorem d_M_falseness_36 : decode prog_15_method_46_code 36 = .ok (.iconst 0, 1) := by decide +kernel
theorem d_M_falseness_37 : decode prog_15_method_46_code 37 = .ok (.invokevirtual 220, 3) := by decide +kernel
theorem d_M_falseness_40 : decode prog_15_method_46_code 40 = .ok (.ifCond .eq 7, 3) := by decide +kernel
theorem d_M_falseness_43 : decode prog_15_method_46_code 43 = .ok (.iconst 0, 1) := by decide +kernel
theorem d_M_falseness_44 : decode prog_15_method_46_code 44 = .ok (.goto 7, 3) := by decide +kernel
theorem d_M_falseness_47 : decode prog_15_method_46_code 47 = .ok (.aload_n 0, 1) := by decide +kernel
theorem d_M_falseness_48 : decode prog_15_method_46_code 48 = .ok (.getfield 203, 3) := by decide +kernel
theorem d_M_falseness_51 : decode prog_15_method_46_code 51 = .ok (.invokevirtual 191, 3) := by decide +kernel
theorem d_M_falseness_54 : decode prog_15_method_46_code 54 = .ok (.ifCond .eq 5, 3) := by decide +kernel
theorem d_M_falseness_57 : decode prog_15_method_46_code 57 = .ok (.iconst 0, 1) := by decide +kernel
theorem d_M_falseness_58 : decode prog_15_method_46_code 58 = .ok (.ireturn, 1) := by decide +kernel
theorem d_M_falseness_59 : decode prog_15_method_46_code 59 = .ok (.lload_n 2, 1) := by decide +kernel
theorem d_M_falseness_60 : decode prog_15_method_46_code 60 = .ok (.lstore 4, 2) := by decide +kernel
theorem d_M_falseness_62 : decode prog_15_method_46_code 62 = .ok (.iconst 0, 1) := by decide +kernel
theorem d_M_falseness_63 : decode prog_15_method_46_code 63 = .ok (.istore 6, 2) := by decide +kernel
theorem d_M_falseness_65 : decode prog_15_method_46_code 65 = .ok (.iload 6, 2) := by decide +kernel
theorem d_M_falseness_67 : decode prog_15_method_46_code 67 = .ok (.aload_n 0, 1) := by decide +kernel
theorem d_M_falseness_68 : decode prog_15_method_46_code 68 = .ok (.getfield 217, 3) := by decide +kernel
theorem d_M_falseness_71 : decode prog_15_method_46_code 71 = .ok (.if_icmp .ge 32, 3) := by decide +kernel
theorem d_M_falseness_74 : decode prog_15_method_46_code 74 = .ok (.aload_n 0, 1) := by decide +kernel
theorem d_M_falseness_75 : decode prog_15_method_46_code 75 = .ok (.getfield 98, 3) := by decide +kernel
theorem d_M_falseness_78 : decode prog_15_method_46_code 78 = .ok (.iload 6, 2) := by decide +kernel
theorem d_M_falseness_80 : decode prog_15_method_46_code 80 = .ok (.lload 4, 2) := by decide +kernel
theorem d_M_falseness_82 : decode prog_15_method_46_code 82 = .ok (.lastore, 1) := by decide +kernel
theorem d_M_falseness_83 : decode prog_15_method_46_code 83 = .ok (.lload 4, 2) := by decide +kernel
theorem d_M_falseness_85 : decode prog_15_method_46_code 85 = .ok (.aload_n 0, 1) := by decide +kernel
theorem d_M_falseness_86 : decode prog_15_method_46_code 86 = .ok (.getfield 37, 3) := by decide +kernel
theorem d_M_falseness_89 : decode prog_15_method_46_code 89 = .ok (.iload 6, 2) := by decide +kernel
theorem d_M_falseness_91 : decode prog_15_method_46_code 91 = .ok (.iaload, 1) := by decide +kernel
theorem d_M_falseness_92 : decode prog_15_method_46_code 92 = .ok (.invokestatic 224, 3) := by decide +kernel
theorem d_M_falseness_95 : decode prog_15_method_46_code 95 = .ok (.lstore 4, 2) := by decide +kernel
theorem d_M_falseness_97 : decode prog_15_method_46_code 97 = .ok (.iinc 6 1, 3) := by decide +kernel
theorem d_M_falseness_100 : decode prog_15_method_46_code 100 = .ok (.goto (-35), 3) := by decide +kernel
theorem d_M_falseness_103 : decode prog_15_method_46_code 103 = .ok (.iconst 0, 1) := by decide +kernel
theorem d_M_falseness_104 : decode prog_15_method_46_code 104 = .ok (.istore 6, 2) := by decide +kernel
theorem d_M_falseness_106 : decode prog_15_method_46_code 106 = .ok (.aload_n 0, 1) := by decide +kernel
theorem d_M_falseness_107 : decode prog_15_method_46_code 107 = .ok (.invokevirtual 133, 3) := by decide +kernel
theorem d_M_falseness_110 : decode prog_15_method_46_code 110 = .ok (.lstore 4, 2) := by decide +kernel
theorem d_M_falseness_112 : decode prog_15_method_46_code 112 = .ok (.iconst 0, 1) := by decide +kernel
theorem d_M_falseness_113 : decode prog_15_method_46_code 113 = .ok (.istore 7, 2) := by decide +kernel
theorem d_M_falseness_115 : decode prog_15_method_46_code 115 = .ok (.iload 7, 2) := by decide +kernel
theorem d_M_falseness_117 : decode prog_15_method_46_code 117 = .ok (.aload_n 0, 1) := by decide +kernel
theorem d_M_falseness_118 : decode prog_15_method_46_code 118 = .ok (.getfield 217, 3) := by decide +kernel
theorem d_M_falseness_121 : decode prog_15_method_46_code 121 = .ok (.if_icmp .ge 84, 3) := by decide +kernel
theorem d_M_falseness_124 : decode prog_15_method_46_code 124 = .ok (.iconst 0, 1) := by decide +kernel
theorem d_M_falseness_125 : decode prog_15_method_46_code 125 = .ok (.istore 8, 2) := by decide +kernel
theorem d_M_falseness_127 : decode prog_15_method_46_code 127 = .ok (.iconst 0, 1) := by decide +kernel
theorem d_M_falseness_128 : decode prog_15_method_46_code 128 = .ok (.istore 9, 2) := by decide +kernel
theorem d_M_falseness_130 : decode prog_15_method_46_code 130 = .ok (.iload 9, 2) := by decide +kernel
theorem d_M_falseness_132 : decode prog_15_method_46_code 132 = .ok (.aload_n 0, 1) := by decide +kernel
theorem d_M_falseness_133 : decode prog_15_method_46_code 133 = .ok (.getfield 217, 3) := by decide +kernel
theorem d_M_falseness_136 : decode prog_15_method_46_code 136 = .ok (.if_icmp .ge 34, 3) := by decide +kernel
theorem d_M_falseness_139 : decode prog_15_method_46_code 139 = .ok (.iload 8, 2) := by decide +kernel
theorem d_M_falseness_141 : decode prog_15_method_46_code 141 = .ok (.ifCond .ne 29, 3) := by decide +kernel
theorem d_M_falseness_144 : decode prog_15_method_46_code 144 = .ok (.aload_n 0, 1) := by decide +kernel
theorem d_M_falseness_145 : decode prog_15_method_46_code 145 = .ok (.getfield 98, 3) := by decide +kernel
theorem d_M_falseness_148 : decode prog_15_method_46_code 148 = .ok (.iload 9, 2) := by decide +kernel
theorem d_M_falseness_150 : decode prog_15_method_46_code 150 = .ok (.laload, 1) := by decide +kernel
theorem d_M_falseness_151 : decode prog_15_method_46_code 151 = .ok (.lload 4, 2) := by decide +kernel
theorem d_M_falseness_153 : decode prog_15_method_46_code 153 = .ok (.lcmp, 1) := by decide +kernel
theorem d_M_falseness_154 : decode prog_15_method_46_code 154 = .ok (.ifCond .ne 7, 3) := by decide +kernel
theorem d_M_falseness_157 : decode prog_15_method_46_code 157 = .ok (.iconst 1, 1) := by decide +kernel
theorem d_M_falseness_158 : decode prog_15_method_46_code 158 = .ok (.goto 4, 3) := by decide +kernel
theorem d_M_falseness_161 : decode prog_15_method_46_code 161 = .ok (.iconst 0, 1) := by decide +kernel
theorem d_M_falseness_162 : decode prog_15_method_46_code 162 = .ok (.istore 8, 2) := by decide +kernel
theorem d_M_falseness_164 : decode prog_15_method_46_code 164 = .ok (.iinc 9 1, 3) := by decide +kernel
theorem d_M_falseness_167 : decode prog_15_method_46_code 167 = .ok (.goto (-37), 3) := by decide +kernel
theorem d_M_falseness_170 : decode prog_15_method_46_code 170 = .ok (.iload 6, 2) := by decide +kernel
theorem d_M_falseness_172 : decode prog_15_method_46_code 172 = .ok (.iload 8, 2) := by decide +kernel
theorem d_M_falseness_174 : decode prog_15_method_46_code 174 = .ok (.ifCond .eq 7, 3) := by decide +kernel
theorem d_M_falseness_177 : decode prog_15_method_46_code 177 = .ok (.iconst 1, 1) := by decide +kernel
theorem d_M_falseness_178 : decode prog_15_method_46_code 178 = .ok (.goto 4, 3) := by decide +kernel
theorem d_M_falseness_181 : decode prog_15_method_46_code 181 = .ok (.iconst 0, 1) := by decide +kernel
theorem d_M_falseness_182 : decode prog_15_method_46_code 182 = .ok (.iadd, 1) := by decide +kernel
theorem d_M_falseness_183 : decode prog_15_method_46_code 183 = .ok (.istore 6, 2) := by decide +kernel
theorem d_M_falseness_185 : decode prog_15_method_46_code 185 = .ok (.lload 4, 2) := by decide +kernel
theorem d_M_falseness_187 : decode prog_15_method_46_code 187 = .ok (.aload_n 0, 1) := by decide +kernel
theorem d_M_falseness_188 : decode prog_15_method_46_code 188 = .ok (.getfield 37, 3) := by decide +kernel
theorem d_M_falseness_191 : decode prog_15_method_46_code 191 = .ok (.iload 7, 2) := by decide +kernel
theorem d_M_falseness_193 : decode prog_15_method_46_code 193 = .ok (.iaload, 1) := by decide +kernel
theorem d_M_falseness_194 : decode prog_15_method_46_code 194 = .ok (.invokestatic 224, 3) := by decide +kernel
theorem d_M_falseness_197 : decode prog_15_method_46_code 197 = .ok (.lstore 4, 2) := by decide +kernel
theorem d_M_falseness_199 : decode prog_15_method_46_code 199 = .ok (.iinc 7 1, 3) := by decide +kernel
theorem d_M_falseness_202 : decode prog_15_method_46_code 202 = .ok (.goto (-87), 3) := by decide +kernel
theorem d_M_falseness_205 : decode prog_15_method_46_code 205 = .ok (.iload 6, 2) := by decide +kernel
theorem d_M_falseness_207 : decode prog_15_method_46_code 207 = .ok (.ireturn, 1) := by decide +kernel
set_option maxRecDepth 20000 in
theorem jc_M_falseness_182 (N : Nat) (re115 : Option Nat → Int64 → Int32 → Int32 → Hp → Option (Int32 × Hp)) (hre115 : ∀ y0 y1 y2 y3 h, J p l e R s m args below meth c prog_15_method_46_code 10 "RingingChamberModel" 2 51 (some .int) "falseness" D dA B n0 s0 (QM below args s D dA B n0 s0 vI) 115 [(0, vr y0), (4, vl y1), (6, vi y2), (7, vi y3)] [] h (re115 y0 y1 y2 y3 h)) (l0 : Option Nat) (l4 : Int64) (l7 : Int32) (u0 : Int32) (u1 : Int32) (h : Hp) : J p l e R s m args below meth c prog_15_method_46_code 10 "RingingChamberModel" 2 51 (some .int) "falseness" D dA B n0 s0 (QM below args s D dA B n0 s0 vI) 182 [(0, vr l0), (4, vl l4), (7, vi l7)] [vi u1, vi u0] h (M_falseness_182 N re115 l0 l4 l7 u0 u1 h) := by
  unfold M_falseness_182
  refine j_iadd d_M_falseness_182 ?_
  refine j_nmi (fun x1 => ?_)
  refine j_istore (lv' := [(6, vi x1), (0, vr l0), (4, vl l4), (7, vi l7)]) d_M_falseness_183 (by decide) rfl ?_
  refine j_lload d_M_falseness_185 2 rfl ?_
  refine j_aload_n d_M_falseness_187 1 rfl rfl ?_
  refine j_getR d_M_falseness_188 fl_12_37.r (fun x2 => ?_)
  refine j_iload d_M_falseness_191 3 rfl ?_
  refine j_iald d_M_falseness_193 (fun x3 => ?_)
  refine j_cSL2 d_M_falseness_194 sl_12_224 ks_M_done (ct_M_done N l D dA B l4 x3 h) (by decide) (by decide) (Nat.le_of_ble_eq_true rfl) (fun x5 h4 => ?_)
  refine j_lstore (lv' := [(4, vl x5), (6, vi x1), (0, vr l0), (7, vi l7)]) d_M_falseness_197 (by decide) rfl ?_
  refine j_iinc (lvv := fun x6 => [(7, vi x6), (4, vl x5), (6, vi x1), (0, vr l0)]) d_M_falseness_199 3 rfl rfl (by decide) (fun _ => rfl) (fun x6 => ?_)
  refine j_goto (tgt := 115) d_M_falseness_202 (by decide) ?_
  exact J.sub [3, 1, 2, 0] rfl (hre115 l0 x5 x1 x6 h4)
set_option maxRecDepth 20000 in
theorem jc_M_falseness_170 (N : Nat) (re115 : Option Nat → Int64 → Int32 → Int32 → Hp → Option (Int32 × Hp)) (hre115 : ∀ y0 y1 y2 y3 h, J p l e R s m args below meth c prog_15_method_46_code 10 "RingingChamberModel" 2 51 (some .int) "falseness" D dA B n0 s0 (QM below args s D dA B n0 s0 vI) 115 [(0, vr y0), (4, vl y1), (6, vi y2), (7, vi y3)] [] h (re115 y0 y1 y2 y3 h)) (l0 : Option Nat) (l4 : Int64) (l6 : Int32) (l7 : Int32) (l8 : Int32) (h : Hp) : J p l e R s m args below meth c prog_15_method_46_code 10 "RingingChamberModel" 2 51 (some .int) "falseness" D dA B n0 s0 (QM below args s D dA B n0 s0 vI) 170 [(0, vr l0), (4, vl l4), (6, vi l6), (7, vi l7), (8, vi l8)] [] h (M_falseness_170 N re115 l0 l4 l6 l7 l8 h) := by
  unfold M_falseness_170
  refine j_iload d_M_falseness_170 2 rfl ?_
  refine j_iload d_M_falseness_172 4 rfl ?_
  refine j_if_eq (tgt := 181) d_M_falseness_174 (by decide) ?_ ?_
  · refine j_iconst (v := 0) d_M_falseness_181 (by decide) ?_
    exact J.sub [0, 1, 3] rfl (jc_M_falseness_182 N re115 hre115 l0 l4 l7 l6 0 h)
  · refine j_iconst (v := 1) d_M_falseness_177 (by decide) ?_
    refine j_goto (tgt := 182) d_M_falseness_178 (by decide) ?_
    exact J.sub [0, 1, 3] rfl (jc_M_falseness_182 N re115 hre115 l0 l4 l7 l6 1 h)
set_option maxRecDepth 20000 in
theorem jc_M_falseness_162 (N : Nat) (re115 : Option Nat → Int64 → Int32 → Int32 → Hp → Option (Int32 × Hp)) (re130 : Option Nat → Int64 → Int32 → Int32 → Int32 → Int32 → Hp → Option (Int32 × Hp)) (hre115 : ∀ y0 y1 y2 y3 h, J p l e R s m args below meth c prog_15_method_46_code 10 "RingingChamberModel" 2 51 (some .int) "falseness" D dA B n0 s0 (QM below args s D dA B n0 s0 vI) 115 [(0, vr y0), (4, vl y1), (6, vi y2), (7, vi y3)] [] h (re115 y0 y1 y2 y3 h)) (hre130 : ∀ y0 y1 y2 y3 y4 y5 h, J p l e R s m args below meth c prog_15_method_46_code 10 "RingingChamberModel" 2 51 (some .int) "falseness" D dA B n0 s0 (QM below args s D dA B n0 s0 vI) 130 [(0, vr y0), (4, vl y1), (6, vi y2), (7, vi y3), (8, vi y4), (9, vi y5)] [] h (re130 y0 y1 y2 y3 y4 y5 h)) (l0 : Option Nat) (l4 : Int64) (l6 : Int32) (l7 : Int32) (l9 : Int32) (u0 : Int32) (h : Hp) : J p l e R s m args below meth c prog_15_method_46_code 10 "RingingChamberModel" 2 51 (some .int) "falseness" D dA B n0 s0 (QM below args s D dA B n0 s0 vI) 162 [(0, vr l0), (4, vl l4), (6, vi l6), (7, vi l7), (9, vi l9)] [vi u0] h (M_falseness_162 N re115 re130 l0 l4 l6 l7 l9 u0 h) := by
  unfold M_falseness_162
  refine j_istore (lv' := [(8, vi u0), (0, vr l0), (4, vl l4), (6, vi l6), (7, vi l7), (9, vi l9)]) d_M_falseness_162 (by decide) rfl ?_
  refine j_iinc (lvv := fun x1 => [(9, vi x1), (8, vi u0), (0, vr l0), (4, vl l4), (6, vi l6), (7, vi l7)]) d_M_falseness_164 5 rfl rfl (by decide) (fun _ => rfl) (fun x1 => ?_)
  refine j_goto (tgt := 130) d_M_falseness_167 (by decide) ?_
  exact J.sub [2, 3, 4, 5, 1, 0] rfl (hre130 l0 l4 l6 l7 u0 x1 h)
set_option maxRecDepth 20000 in
theorem jc_M_falseness_130 (N : Nat) (re115 : Option Nat → Int64 → Int32 → Int32 → Hp → Option (Int32 × Hp)) (hre115 : ∀ y0 y1 y2 y3 h, J p l e R s m args below meth c prog_15_method_46_code 10 "RingingChamberModel" 2 51 (some .int) "falseness" D dA B n0 s0 (QM below args s D dA B n0 s0 vI) 115 [(0, vr y0), (4, vl y1), (6, vi y2), (7, vi y3)] [] h (re115 y0 y1 y2 y3 h)) : ∀ (n : Nat) (l0 : Option Nat) (l4 : Int64) (l6 : Int32) (l7 : Int32) (l8 : Int32) (l9 : Int32) (h : Hp), J p l e R s m args below meth c prog_15_method_46_code 10 "RingingChamberModel" 2 51 (some .int) "falseness" D dA B n0 s0 (QM below args s D dA B n0 s0 vI) 130 [(0, vr l0), (4, vl l4), (6, vi l6), (7, vi l7), (8, vi l8), (9, vi l9)] [] h (M_falseness_130 N re115 n l0 l4 l6 l7 l8 l9 h) := by
  intro n
  induction n with
  | zero => intros; exact J.none
  | succ n ih =>
    intro l0 l4 l6 l7 l8 l9 h
    rw [M_falseness_130]
    refine j_iload d_M_falseness_130 5 rfl ?_
    refine j_aload_n d_M_falseness_132 0 rfl rfl ?_
    refine j_getI d_M_falseness_133 fl_12_217.r (fun x1 => ?_)
    refine j_icmp_ge (tgt := 170) d_M_falseness_136 (by decide) ?_ ?_
    · exact J.sub [0, 1, 2, 3, 4] rfl (jc_M_falseness_170 N re115 hre115 l0 l4 l6 l7 l8 h)
    · refine j_iload d_M_falseness_139 4 rfl ?_
      refine j_if_ne (tgt := 170) d_M_falseness_141 (by decide) ?_ ?_
      · refine j_aload_n d_M_falseness_144 0 rfl rfl ?_
        refine j_getR d_M_falseness_145 fl_12_98.r (fun x2 => ?_)
        refine j_iload d_M_falseness_148 5 rfl ?_
        refine j_lald d_M_falseness_150 (fun x3 => ?_)
        refine j_lload d_M_falseness_151 1 rfl ?_
        refine j_lcmp d_M_falseness_153 ?_
        refine j_if_ne (tgt := 161) d_M_falseness_154 (by decide) ?_ ?_
        · refine j_iconst (v := 1) d_M_falseness_157 (by decide) ?_
          refine j_goto (tgt := 162) d_M_falseness_158 (by decide) ?_
          exact J.sub [0, 1, 2, 3, 5] rfl (jc_M_falseness_162 N re115 (M_falseness_130 N re115 n) hre115 ih l0 l4 l6 l7 l9 1 h)
        · refine j_iconst (v := 0) d_M_falseness_161 (by decide) ?_
          exact J.sub [0, 1, 2, 3, 5] rfl (jc_M_falseness_162 N re115 (M_falseness_130 N re115 n) hre115 ih l0 l4 l6 l7 l9 0 h)
      · exact J.sub [0, 1, 2, 3, 4] rfl (jc_M_falseness_170 N re115 hre115 l0 l4 l6 l7 l8 h)
set_option maxRecDepth 20000 in
theorem jc_M_falseness_115 (N : Nat) : ∀ (n : Nat) (l0 : Option Nat) (l4 : Int64) (l6 : Int32) (l7 : Int32) (h : Hp), J p l e R s m args below meth c prog_15_method_46_code 10 "RingingChamberModel" 2 51 (some .int) "falseness" D dA B n0 s0 (QM below args s D dA B n0 s0 vI) 115 [(0, vr l0), (4, vl l4), (6, vi l6), (7, vi l7)] [] h (M_falseness_115 N n l0 l4 l6 l7 h) := by
  intro n
  induction n with
  | zero => intros; exact J.none
  | succ n ih =>
    intro l0 l4 l6 l7 h
    rw [M_falseness_115]
    refine j_iload d_M_falseness_115 3 rfl ?_
    refine j_aload_n d_M_falseness_117 0 rfl rfl ?_
    refine j_getI d_M_falseness_118 fl_12_217.r (fun x1 => ?_)
    refine j_icmp_ge (tgt := 205) d_M_falseness_121 (by decide) ?_ ?_
    · refine j_iload d_M_falseness_205 2 rfl ?_
      exact j_retI d_M_falseness_207
    · refine j_iconst (v := 0) d_M_falseness_124 (by decide) ?_
      refine j_istore (lv' := [(8, vi 0), (0, vr l0), (4, vl l4), (6, vi l6), (7, vi l7)]) d_M_falseness_125 (by decide) rfl ?_
      refine j_iconst (v := 0) d_M_falseness_127 (by decide) ?_
      refine j_istore (lv' := [(9, vi 0), (8, vi 0), (0, vr l0), (4, vl l4), (6, vi l6), (7, vi l7)]) d_M_falseness_128 (by decide) rfl ?_
      exact J.sub [2, 3, 4, 5, 1, 0] rfl (jc_M_falseness_130 N (M_falseness_115 N n) ih N l0 l4 l6 l7 0 0 h)
set_option maxRecDepth 20000 in
theorem jc_M_falseness_65 (N : Nat) : ∀ (n : Nat) (l0 : Option Nat) (l4 : Int64) (l6 : Int32) (h : Hp), J p l e R s m args below meth c prog_15_method_46_code 10 "RingingChamberModel" 2 51 (some .int) "falseness" D dA B n0 s0 (QM below args s D dA B n0 s0 vI) 65 [(0, vr l0), (4, vl l4), (6, vi l6)] [] h (M_falseness_65 N n l0 l4 l6 h) := by
  intro n
  induction n with
  | zero => intros; exact J.none
  | succ n ih =>
    intro l0 l4 l6 h
    rw [M_falseness_65]
    refine j_iload d_M_falseness_65 2 rfl ?_
    refine j_aload_n d_M_falseness_67 0 rfl rfl ?_
    refine j_getI d_M_falseness_68 fl_12_217.r (fun x1 => ?_)
    refine j_icmp_ge (tgt := 103) d_M_falseness_71 (by decide) ?_ ?_
    · refine j_iconst (v := 0) d_M_falseness_103 (by decide) ?_
      refine j_istore (lv' := [(6, vi 0), (0, vr l0), (4, vl l4)]) d_M_falseness_104 (by decide) rfl ?_
      refine j_aload_n d_M_falseness_106 1 rfl rfl ?_
      refine j_vL0 d_M_falseness_107 (allQ.cons (VD.mk vt_12_133_12 (ct_M_rounds N l D dA B l0 h) (by decide) (by decide)) allQ.nil) (Nat.le_of_ble_eq_true rfl) (fun x3 h2 => ?_)
      refine j_lstore (lv' := [(4, vl x3), (6, vi 0), (0, vr l0)]) d_M_falseness_110 (by decide) rfl ?_
      refine j_iconst (v := 0) d_M_falseness_112 (by decide) ?_
      refine j_istore (lv' := [(7, vi 0), (4, vl x3), (6, vi 0), (0, vr l0)]) d_M_falseness_113 (by decide) rfl ?_
      exact J.sub [3, 1, 2, 0] rfl (jc_M_falseness_115 N N l0 x3 0 0 h2)
    · refine j_aload_n d_M_falseness_74 0 rfl rfl ?_
      refine j_getR d_M_falseness_75 fl_12_98.r (fun x4 => ?_)
      refine j_iload d_M_falseness_78 2 rfl ?_
      refine j_lload d_M_falseness_80 1 rfl ?_
      refine j_last d_M_falseness_82 (fun h5 => ?_)
      refine j_lload d_M_falseness_83 1 rfl ?_
      refine j_aload_n d_M_falseness_85 0 rfl rfl ?_
      refine j_getR d_M_falseness_86 fl_12_37.r (fun x6 => ?_)
      refine j_iload d_M_falseness_89 2 rfl ?_
      refine j_iald d_M_falseness_91 (fun x7 => ?_)
      refine j_cSL2 d_M_falseness_92 sl_12_224 ks_M_done (ct_M_done N l D dA B l4 x7 h5) (by decide) (by decide) (Nat.le_of_ble_eq_true rfl) (fun x9 h8 => ?_)
      refine j_lstore (lv' := [(4, vl x9), (0, vr l0), (6, vi l6)]) d_M_falseness_95 (by decide) rfl ?_
      refine j_iinc (lvv := fun x10 => [(6, vi x10), (4, vl x9), (0, vr l0)]) d_M_falseness_97 2 rfl rfl (by decide) (fun _ => rfl) (fun x10 => ?_)
      refine j_goto (tgt := 65) d_M_falseness_100 (by decide) ?_
      exact J.sub [2, 1, 0] rfl (ih l0 x9 x10 h8)
set_option maxRecDepth 20000 in
theorem jc_M_falseness_51 (N : Nat) (l0 : Option Nat) (l2 : Int64) (u0 : Option Nat) (u1 : Int32) (h : Hp) : J p l e R s m args below meth c prog_15_method_46_code 10 "RingingChamberModel" 2 51 (some .int) "falseness" D dA B n0 s0 (QM below args s D dA B n0 s0 vI) 51 [(0, vr l0), (2, vl l2)] [vi u1, vr u0] h (M_falseness_51 N l0 l2 u0 u1 h) := by
  unfold M_falseness_51
  refine j_vI1 d_M_falseness_51 (allQ.cons (VD.mk vt_12_191_12 (ct_M_finds N l D dA B u0 u1 h) (by decide) (by decide)) allQ.nil) (Nat.le_of_ble_eq_true rfl) (fun x2 h1 => ?_)
  refine j_if_eq (tgt := 59) d_M_falseness_54 (by decide) ?_ ?_
  · refine j_lload_n d_M_falseness_59 1 rfl rfl ?_
    refine j_lstore (lv' := [(4, vl l2), (0, vr l0), (2, vl l2)]) d_M_falseness_60 (by decide) rfl ?_
    refine j_iconst (v := 0) d_M_falseness_62 (by decide) ?_
    refine j_istore (lv' := [(6, vi 0), (4, vl l2), (0, vr l0), (2, vl l2)]) d_M_falseness_63 (by decide) rfl ?_
    exact J.sub [2, 1, 0] rfl (jc_M_falseness_65 N N l0 l2 0 h1)
  · refine j_iconst (v := 0) d_M_falseness_57 (by decide) ?_
    exact j_retI d_M_falseness_58
set_option maxRecDepth 20000 in
theorem jc_M_falseness_27 (N : Nat) (l0 : Option Nat) (l1 : Int32) (l2 : Int64) (u0 : Option Nat) (u1 : Int32) (h : Hp) : J p l e R s m args below meth c prog_15_method_46_code 10 "RingingChamberModel" 2 51 (some .int) "falseness" D dA B n0 s0 (QM below args s D dA B n0 s0 vI) 27 [(0, vr l0), (1, vi l1), (2, vl l2)] [vi u1, vr u0] h (M_falseness_27 N l0 l1 l2 u0 u1 h) := by
  unfold M_falseness_27
  refine j_vI1 d_M_falseness_27 (allQ.cons (VD.mk vt_12_191_12 (ct_M_finds N l D dA B u0 u1 h) (by decide) (by decide)) allQ.nil) (Nat.le_of_ble_eq_true rfl) (fun x2 h1 => ?_)
  refine j_if_ne (tgt := 57) d_M_falseness_30 (by decide) ?_ ?_
  · refine j_aload_n d_M_falseness_33 0 rfl rfl ?_
    refine j_aload_n d_M_falseness_34 0 rfl rfl ?_
    refine j_iload_n d_M_falseness_35 1 rfl rfl ?_
    refine j_iconst (v := 0) d_M_falseness_36 (by decide) ?_
    refine j_vI2 d_M_falseness_37 (allQ.cons (VD.mk vt_12_220_12 (ct_M_leadOf N l D dA B l0 l1 0 h1) (by decide) (by decide)) allQ.nil) (Nat.le_of_ble_eq_true rfl) (fun x4 h3 => ?_)
    refine j_if_eq (tgt := 47) d_M_falseness_40 (by decide) ?_ ?_
    · refine j_aload_n d_M_falseness_47 0 rfl rfl ?_
      refine j_getI d_M_falseness_48 fl_12_203.r (fun x5 => ?_)
      exact J.sub [0, 2] rfl (jc_M_falseness_51 N l0 l2 l0 x5 h3)
    · refine j_iconst (v := 0) d_M_falseness_43 (by decide) ?_
      refine j_goto (tgt := 51) d_M_falseness_44 (by decide) ?_
      exact J.sub [0, 2] rfl (jc_M_falseness_51 N l0 l2 l0 0 h3)
  · refine j_iconst (v := 0) d_M_falseness_57 (by decide) ?_
    exact j_retI d_M_falseness_58
set_option maxRecDepth 20000 in
theorem jc_M_falseness (N : Nat) (l0 : Option Nat) (l1 : Int32) (l2 : Int64) (h : Hp) : J p l e R s m args below meth c prog_15_method_46_code 10 "RingingChamberModel" 2 51 (some .int) "falseness" D dA B n0 s0 (QM below args s D dA B n0 s0 vI) 0 [(0, vr l0), (1, vi l1), (2, vl l2)] [] h (M_falseness N l0 l1 l2 h) := by
  unfold M_falseness
  refine j_aload_n d_M_falseness_0 0 rfl rfl ?_
  refine j_aload_n d_M_falseness_1 0 rfl rfl ?_
  refine j_iload_n d_M_falseness_2 1 rfl rfl ?_
  refine j_vI1 d_M_falseness_3 (allQ.cons (VD.mk vt_12_187_12 (ct_M_isMethod N l D dA B l0 l1 h) (by decide) (by decide)) allQ.nil) (Nat.le_of_ble_eq_true rfl) (fun x2 h1 => ?_)
  refine j_if_ne (tgt := 13) d_M_falseness_6 (by decide) ?_ ?_
  · refine j_iconst (v := 4) d_M_falseness_9 (by decide) ?_
    refine j_goto (tgt := 27) d_M_falseness_10 (by decide) ?_
    exact jc_M_falseness_27 N l0 l1 l2 l0 4 h1
  · refine j_aload_n d_M_falseness_13 0 rfl rfl ?_
    refine j_lload_n d_M_falseness_14 2 rfl rfl ?_
    refine j_vI1 d_M_falseness_15 (allQ.cons (VD.mk vt_12_262_12 (ct_M_isRow N l D dA B l0 l2 h1) (by decide) (by decide)) allQ.nil) (Nat.le_of_ble_eq_true rfl) (fun x4 h3 => ?_)
    refine j_if_eq (tgt := 25) d_M_falseness_18 (by decide) ?_ ?_
    · refine j_bipush (v := 8) d_M_falseness_25 (by decide) ?_
      exact jc_M_falseness_27 N l0 l1 l2 l0 8 h3
    · refine j_iconst (v := 0) d_M_falseness_21 (by decide) ?_
      refine j_goto (tgt := 27) d_M_falseness_22 (by decide) ?_
      exact jc_M_falseness_27 N l0 l1 l2 l0 0 h3
set_option maxRecDepth 20000 in
theorem ct_M_falseness (N : Nat) (l : Launch) (D : va_G) (dA : Nat → ClassId) (B : Nat) (l0 : Option Nat) (l1 : Int32) (l2 : Int64) (h : Hp) : Ct l (⟨"RingingChamberModel", "falseness", "(IJ)I"⟩ : MethodName) prog_15_method_46_code 10 (some .int) 2 51 D dA B [vr l0, vi l1, vl l2] h vI (M_falseness N l0 l1 l2 h) :=
  Ct.of2 (own := "RingingChamberModel") (nme := "falseness") (lv := [(0, vr l0), (1, vi l1), (2, vl l2)]) rfl rfl (by decide) (Nat.le_of_ble_eq_true rfl) rfl (fun p e R s m args below meth c => jc_M_falseness N l0 l1 l2 h)
theorem d_M_trace_0 : decode prog_15_method_47_code 0 = .ok (.iload_n 1, 1) := by decide +kernel
theorem d_M_trace_1 : decode prog_15_method_47_code 1 = .ok (.ifCond .lt 18, 3) := by decide +kernel
theorem d_M_trace_4 : decode prog_15_method_47_code 4 = .ok (.iload_n 1, 1) := by decide +kernel
theorem d_M_trace_5 : decode prog_15_method_47_code 5 = .ok (.bipush 6, 2) := by decide +kernel
theorem d_M_trace_7 : decode prog_15_method_47_code 7 = .ok (.if_icmp .ge 12, 3) := by decide +kernel
theorem d_M_trace_10 : decode prog_15_method_47_code 10 = .ok (.iload_n 2, 1) := by decide +kernel
theorem d_M_trace_11 : decode prog_15_method_47_code 11 = .ok (.ifCond .lt 8, 3) := by decide +kernel
theorem d_M_trace_14 : decode prog_15_method_47_code 14 = .ok (.iload_n 2, 1) := by decide +kernel
theorem d_M_trace_15 : decode prog_15_method_47_code 15 = .ok (.iconst 2, 1) := by decide +kernel
theorem d_M_trace_16 : decode prog_15_method_47_code 16 = .ok (.if_icmp .le 5, 3) := by decide +kernel
theorem d_M_trace_19 : decode prog_15_method_47_code 19 = .ok (.iconst (-1), 1) := by decide +kernel
theorem d_M_trace_20 : decode prog_15_method_47_code 20 = .ok (.ireturn, 1) := by decide +kernel
theorem d_M_trace_21 : decode prog_15_method_47_code 21 = .ok (.iload_n 2, 1) := by decide +kernel
theorem d_M_trace_22 : decode prog_15_method_47_code 22 = .ok (.ifCond .ne 25, 3) := by decide +kernel
theorem d_M_trace_25 : decode prog_15_method_47_code 25 = .ok (.iload_n 1, 1) := by decide +kernel
theorem d_M_trace_26 : decode prog_15_method_47_code 26 = .ok (.ifCond .eq 13, 3) := by decide +kernel
theorem d_M_trace_29 : decode prog_15_method_47_code 29 = .ok (.iload_n 1, 1) := by decide +kernel
theorem d_M_trace_30 : decode prog_15_method_47_code 30 = .ok (.iconst 4, 1) := by decide +kernel
theorem d_M_trace_31 : decode prog_15_method_47_code 31 = .ok (.if_icmp .eq 8, 3) := by decide +kernel
theorem d_M_trace_34 : decode prog_15_method_47_code 34 = .ok (.iload_n 1, 1) := by decide +kernel
theorem d_M_trace_35 : decode prog_15_method_47_code 35 = .ok (.iconst 5, 1) := by decide +kernel
theorem d_M_trace_36 : decode prog_15_method_47_code 36 = .ok (.if_icmp .ne 7, 3) := by decide +kernel
theorem d_M_trace_39 : decode prog_15_method_47_code 39 = .ok (.iconst 1, 1) := by decide +kernel
theorem d_M_trace_40 : decode prog_15_method_47_code 40 = .ok (.goto 22, 3) := by decide +kernel
theorem d_M_trace_43 : decode prog_15_method_47_code 43 = .ok (.iconst 0, 1) := by decide +kernel
theorem d_M_trace_44 : decode prog_15_method_47_code 44 = .ok (.goto 18, 3) := by decide +kernel
theorem d_M_trace_47 : decode prog_15_method_47_code 47 = .ok (.iload_n 2, 1) := by decide +kernel
theorem d_M_trace_48 : decode prog_15_method_47_code 48 = .ok (.iconst 2, 1) := by decide +kernel
theorem d_M_trace_49 : decode prog_15_method_47_code 49 = .ok (.if_icmp .eq 8, 3) := by decide +kernel
theorem d_M_trace_52 : decode prog_15_method_47_code 52 = .ok (.iload_n 1, 1) := by decide +kernel
theorem d_M_trace_53 : decode prog_15_method_47_code 53 = .ok (.iconst 2, 1) := by decide +kernel
theorem d_M_trace_54 : decode prog_15_method_47_code 54 = .ok (.if_icmp .eq 7, 3) := by decide +kernel
theorem d_M_trace_57 : decode prog_15_method_47_code 57 = .ok (.iconst 1, 1) := by decide +kernel
theorem d_M_trace_58 : decode prog_15_method_47_code 58 = .ok (.goto 4, 3) := by decide +kernel
theorem d_M_trace_61 : decode prog_15_method_47_code 61 = .ok (.iconst 0, 1) := by decide +kernel
theorem d_M_trace_62 : decode prog_15_method_47_code 62 = .ok (.istore_n 3, 1) := by decide +kernel
theorem d_M_trace_63 : decode prog_15_method_47_code 63 = .ok (.iload_n 3, 1) := by decide +kernel
theorem d_M_trace_64 : decode prog_15_method_47_code 64 = .ok (.ifCond .eq 16, 3) := by decide +kernel
theorem d_M_trace_67 : decode prog_15_method_47_code 67 = .ok (.aload_n 0, 1) := by decide +kernel
theorem d_M_trace_68 : decode prog_15_method_47_code 68 = .ok (.getfield 13, 3) := by decide +kernel
theorem d_M_trace_71 : decode prog_15_method_47_code 71 = .ok (.iconst 3, 1) := by decide +kernel
theorem d_M_trace_72 : decode prog_15_method_47_code 72 = .ok (.iload_n 1, 1) := by decide +kernel
theorem d_M_trace_73 : decode prog_15_method_47_code 73 = .ok (.imul, 1) := by decide +kernel
theorem d_M_trace_74 : decode prog_15_method_47_code 74 = .ok (.iload_n 2, 1) := by decide +kernel
theorem d_M_trace_75 : decode prog_15_method_47_code 75 = .ok (.iadd, 1) := by decide +kernel
theorem d_M_trace_76 : decode prog_15_method_47_code 76 = .ok (.iaload, 1) := by decide +kernel
theorem d_M_trace_77 : decode prog_15_method_47_code 77 = .ok (.goto 4, 3) := by decide +kernel
theorem d_M_trace_80 : decode prog_15_method_47_code 80 = .ok (.iconst (-1), 1) := by decide +kernel
theorem d_M_trace_81 : decode prog_15_method_47_code 81 = .ok (.ireturn, 1) := by decide +kernel
set_option maxRecDepth 20000 in
theorem jc_M_trace_62 (N : Nat) (l0 : Option Nat) (l1 : Int32) (l2 : Int32) (u0 : Int32) (h : Hp) : J p l e R s m args below meth c prog_15_method_47_code 4 "RingingChamberModel" 0 0 (some .int) "trace" D dA B n0 s0 (QM below args s D dA B n0 s0 vI) 62 [(0, vr l0), (1, vi l1), (2, vi l2)] [vi u0] h (M_trace_62 N l0 l1 l2 u0 h) := by
  unfold M_trace_62
  refine j_istore_n (lv' := [(3, vi u0), (0, vr l0), (1, vi l1), (2, vi l2)]) d_M_trace_62 rfl (by decide) rfl ?_
  refine j_iload_n d_M_trace_63 0 rfl rfl ?_
  refine j_if_eq (tgt := 80) d_M_trace_64 (by decide) ?_ ?_
  · refine j_iconst (v := -1) d_M_trace_80 (by decide) ?_
    exact j_retI d_M_trace_81
  · refine j_aload_n d_M_trace_67 1 rfl rfl ?_
    refine j_getR d_M_trace_68 fl_12_13.r (fun x1 => ?_)
    refine j_iconst (v := 3) d_M_trace_71 (by decide) ?_
    refine j_iload_n d_M_trace_72 2 rfl rfl ?_
    refine j_imul d_M_trace_73 ?_
    refine j_iload_n d_M_trace_74 3 rfl rfl ?_
    refine j_iadd d_M_trace_75 ?_
    refine j_iald d_M_trace_76 (fun x2 => ?_)
    refine j_goto (tgt := 81) d_M_trace_77 (by decide) ?_
    exact j_retI d_M_trace_81
set_option maxRecDepth 20000 in
theorem jc_M_trace_39 (N : Nat) (l0 : Option Nat) (l1 : Int32) (l2 : Int32) (h : Hp) : J p l e R s m args below meth c prog_15_method_47_code 4 "RingingChamberModel" 0 0 (some .int) "trace" D dA B n0 s0 (QM below args s D dA B n0 s0 vI) 39 [(0, vr l0), (1, vi l1), (2, vi l2)] [] h (M_trace_39 N l0 l1 l2 h) := by
  unfold M_trace_39
  refine j_iconst (v := 1) d_M_trace_39 (by decide) ?_
  refine j_goto (tgt := 62) d_M_trace_40 (by decide) ?_
  exact jc_M_trace_62 N l0 l1 l2 1 h
set_option maxRecDepth 20000 in
theorem jc_M_trace_57 (N : Nat) (l0 : Option Nat) (l1 : Int32) (l2 : Int32) (h : Hp) : J p l e R s m args below meth c prog_15_method_47_code 4 "RingingChamberModel" 0 0 (some .int) "trace" D dA B n0 s0 (QM below args s D dA B n0 s0 vI) 57 [(0, vr l0), (1, vi l1), (2, vi l2)] [] h (M_trace_57 N l0 l1 l2 h) := by
  unfold M_trace_57
  refine j_iconst (v := 1) d_M_trace_57 (by decide) ?_
  refine j_goto (tgt := 62) d_M_trace_58 (by decide) ?_
  exact jc_M_trace_62 N l0 l1 l2 1 h
set_option maxRecDepth 20000 in
theorem jc_M_trace (N : Nat) (l0 : Option Nat) (l1 : Int32) (l2 : Int32) (h : Hp) : J p l e R s m args below meth c prog_15_method_47_code 4 "RingingChamberModel" 0 0 (some .int) "trace" D dA B n0 s0 (QM below args s D dA B n0 s0 vI) 0 [(0, vr l0), (1, vi l1), (2, vi l2)] [] h (M_trace N l0 l1 l2 h) := by
  unfold M_trace
  refine j_iload_n d_M_trace_0 1 rfl rfl ?_
  refine j_if_lt (tgt := 19) d_M_trace_1 (by decide) ?_ ?_
  · refine j_iconst (v := -1) d_M_trace_19 (by decide) ?_
    exact j_retI d_M_trace_20
  · refine j_iload_n d_M_trace_4 1 rfl rfl ?_
    refine j_bipush (v := 6) d_M_trace_5 (by decide) ?_
    refine j_icmp_ge (tgt := 19) d_M_trace_7 (by decide) ?_ ?_
    · refine j_iconst (v := -1) d_M_trace_19 (by decide) ?_
      exact j_retI d_M_trace_20
    · refine j_iload_n d_M_trace_10 2 rfl rfl ?_
      refine j_if_lt (tgt := 19) d_M_trace_11 (by decide) ?_ ?_
      · refine j_iconst (v := -1) d_M_trace_19 (by decide) ?_
        exact j_retI d_M_trace_20
      · refine j_iload_n d_M_trace_14 2 rfl rfl ?_
        refine j_iconst (v := 2) d_M_trace_15 (by decide) ?_
        refine j_icmp_le (tgt := 21) d_M_trace_16 (by decide) ?_ ?_
        · refine j_iload_n d_M_trace_21 2 rfl rfl ?_
          refine j_if_ne (tgt := 47) d_M_trace_22 (by decide) ?_ ?_
          · refine j_iload_n d_M_trace_25 1 rfl rfl ?_
            refine j_if_eq (tgt := 39) d_M_trace_26 (by decide) ?_ ?_
            · exact jc_M_trace_39 N l0 l1 l2 h
            · refine j_iload_n d_M_trace_29 1 rfl rfl ?_
              refine j_iconst (v := 4) d_M_trace_30 (by decide) ?_
              refine j_icmp_eq (tgt := 39) d_M_trace_31 (by decide) ?_ ?_
              · exact jc_M_trace_39 N l0 l1 l2 h
              · refine j_iload_n d_M_trace_34 1 rfl rfl ?_
                refine j_iconst (v := 5) d_M_trace_35 (by decide) ?_
                refine j_icmp_ne (tgt := 43) d_M_trace_36 (by decide) ?_ ?_
                · exact jc_M_trace_39 N l0 l1 l2 h
                · refine j_iconst (v := 0) d_M_trace_43 (by decide) ?_
                  refine j_goto (tgt := 62) d_M_trace_44 (by decide) ?_
                  exact jc_M_trace_62 N l0 l1 l2 0 h
          · refine j_iload_n d_M_trace_47 2 rfl rfl ?_
            refine j_iconst (v := 2) d_M_trace_48 (by decide) ?_
            refine j_icmp_eq (tgt := 57) d_M_trace_49 (by decide) ?_ ?_
            · exact jc_M_trace_57 N l0 l1 l2 h
            · refine j_iload_n d_M_trace_52 1 rfl rfl ?_
              refine j_iconst (v := 2) d_M_trace_53 (by decide) ?_
              refine j_icmp_eq (tgt := 61) d_M_trace_54 (by decide) ?_ ?_
              · refine j_iconst (v := 0) d_M_trace_61 (by decide) ?_
                exact jc_M_trace_62 N l0 l1 l2 0 h
              · exact jc_M_trace_57 N l0 l1 l2 h
        · refine j_iconst (v := -1) d_M_trace_19 (by decide) ?_
          exact j_retI d_M_trace_20
set_option maxRecDepth 20000 in
theorem ct_M_trace (N : Nat) (l : Launch) (D : va_G) (dA : Nat → ClassId) (B : Nat) (l0 : Option Nat) (l1 : Int32) (l2 : Int32) (h : Hp) : Ct l (⟨"RingingChamberModel", "trace", "(II)I"⟩ : MethodName) prog_15_method_47_code 4 (some .int) 0 0 D dA B [vr l0, vi l1, vi l2] h vI (M_trace N l0 l1 l2 h) :=
  Ct.of2 (own := "RingingChamberModel") (nme := "trace") (lv := [(0, vr l0), (1, vi l1), (2, vi l2)]) rfl rfl (by decide) (Nat.le_of_ble_eq_true rfl) rfl (fun p e R s m args below meth c => jc_M_trace N l0 l1 l2 h)
theorem d_M_change_0 : decode prog_15_method_48_code 0 = .ok (.aload_n 0, 1) := by decide +kernel
theorem d_M_change_1 : decode prog_15_method_48_code 1 = .ok (.aload_n 0, 1) := by decide +kernel
theorem d_M_change_2 : decode prog_15_method_48_code 2 = .ok (.lload_n 1, 1) := by decide +kernel
theorem d_M_change_3 : decode prog_15_method_48_code 3 = .ok (.invokevirtual 262, 3) := by decide +kernel
theorem d_M_change_6 : decode prog_15_method_48_code 6 = .ok (.ifCond .eq 15, 3) := by decide +kernel
theorem d_M_change_9 : decode prog_15_method_48_code 9 = .ok (.aload_n 0, 1) := by decide +kernel
theorem d_M_change_10 : decode prog_15_method_48_code 10 = .ok (.iload_n 3, 1) := by decide +kernel
theorem d_M_change_11 : decode prog_15_method_48_code 11 = .ok (.invokevirtual 200, 3) := by decide +kernel
theorem d_M_change_14 : decode prog_15_method_48_code 14 = .ok (.ifCond .eq 7, 3) := by decide +kernel
theorem d_M_change_17 : decode prog_15_method_48_code 17 = .ok (.iconst 0, 1) := by decide +kernel
theorem d_M_change_18 : decode prog_15_method_48_code 18 = .ok (.goto 5, 3) := by decide +kernel
theorem d_M_change_21 : decode prog_15_method_48_code 21 = .ok (.bipush 8, 2) := by decide +kernel
theorem d_M_change_23 : decode prog_15_method_48_code 23 = .ok (.invokevirtual 191, 3) := by decide +kernel
theorem d_M_change_26 : decode prog_15_method_48_code 26 = .ok (.ifCond .eq 7, 3) := by decide +kernel
theorem d_M_change_29 : decode prog_15_method_48_code 29 = .ok (.lconst 0, 1) := by decide +kernel
theorem d_M_change_30 : decode prog_15_method_48_code 30 = .ok (.goto 8, 3) := by decide +kernel
theorem d_M_change_33 : decode prog_15_method_48_code 33 = .ok (.lload_n 1, 1) := by decide +kernel
theorem d_M_change_34 : decode prog_15_method_48_code 34 = .ok (.iload_n 3, 1) := by decide +kernel
theorem d_M_change_35 : decode prog_15_method_48_code 35 = .ok (.invokestatic 224, 3) := by decide +kernel
theorem d_M_change_38 : decode prog_15_method_48_code 38 = .ok (.lreturn, 1) := by decide +kernel
set_option maxRecDepth 20000 in
theorem jc_M_change_23 (N : Nat) (l1 : Int64) (l3 : Int32) (u0 : Option Nat) (u1 : Int32) (h : Hp) : J p l e R s m args below meth c prog_15_method_48_code 4 "RingingChamberModel" 2 51 (some .long) "change" D dA B n0 s0 (QM below args s D dA B n0 s0 vL) 23 [(1, vl l1), (3, vi l3)] [vi u1, vr u0] h (M_change_23 N l1 l3 u0 u1 h) := by
  unfold M_change_23
  refine j_vI1 d_M_change_23 (allQ.cons (VD.mk vt_12_191_12 (ct_M_finds N l D dA B u0 u1 h) (by decide) (by decide)) allQ.nil) (Nat.le_of_ble_eq_true rfl) (fun x2 h1 => ?_)
  refine j_if_eq (tgt := 33) d_M_change_26 (by decide) ?_ ?_
  · refine j_lload_n d_M_change_33 0 rfl rfl ?_
    refine j_iload_n d_M_change_34 1 rfl rfl ?_
    refine j_cSL2 d_M_change_35 sl_12_224 ks_M_done (ct_M_done N l D dA B l1 l3 h1) (by decide) (by decide) (Nat.le_of_ble_eq_true rfl) (fun x4 h3 => ?_)
    exact j_retL d_M_change_38
  · refine j_lconst (v := 0) d_M_change_29 (by decide) ?_
    refine j_goto (tgt := 38) d_M_change_30 (by decide) ?_
    exact j_retL d_M_change_38
set_option maxRecDepth 20000 in
theorem jc_M_change_21 (N : Nat) (l1 : Int64) (l3 : Int32) (u0 : Option Nat) (h : Hp) : J p l e R s m args below meth c prog_15_method_48_code 4 "RingingChamberModel" 2 51 (some .long) "change" D dA B n0 s0 (QM below args s D dA B n0 s0 vL) 21 [(1, vl l1), (3, vi l3)] [vr u0] h (M_change_21 N l1 l3 u0 h) := by
  unfold M_change_21
  refine j_bipush (v := 8) d_M_change_21 (by decide) ?_
  exact jc_M_change_23 N l1 l3 u0 8 h
set_option maxRecDepth 20000 in
theorem jc_M_change (N : Nat) (l0 : Option Nat) (l1 : Int64) (l3 : Int32) (h : Hp) : J p l e R s m args below meth c prog_15_method_48_code 4 "RingingChamberModel" 2 51 (some .long) "change" D dA B n0 s0 (QM below args s D dA B n0 s0 vL) 0 [(0, vr l0), (1, vl l1), (3, vi l3)] [] h (M_change N l0 l1 l3 h) := by
  unfold M_change
  refine j_aload_n d_M_change_0 0 rfl rfl ?_
  refine j_aload_n d_M_change_1 0 rfl rfl ?_
  refine j_lload_n d_M_change_2 1 rfl rfl ?_
  refine j_vI1 d_M_change_3 (allQ.cons (VD.mk vt_12_262_12 (ct_M_isRow N l D dA B l0 l1 h) (by decide) (by decide)) allQ.nil) (Nat.le_of_ble_eq_true rfl) (fun x2 h1 => ?_)
  refine j_if_eq (tgt := 21) d_M_change_6 (by decide) ?_ ?_
  · exact J.sub [1, 2] rfl (jc_M_change_21 N l1 l3 l0 h1)
  · refine j_aload_n d_M_change_9 0 rfl rfl ?_
    refine j_iload_n d_M_change_10 2 rfl rfl ?_
    refine j_vI1 d_M_change_11 (allQ.cons (VD.mk vt_12_200_12 (ct_M_isChange N l D dA B l0 l3 h1) (by decide) (by decide)) allQ.nil) (Nat.le_of_ble_eq_true rfl) (fun x4 h3 => ?_)
    refine j_if_eq (tgt := 21) d_M_change_14 (by decide) ?_ ?_
    · exact J.sub [1, 2] rfl (jc_M_change_21 N l1 l3 l0 h3)
    · refine j_iconst (v := 0) d_M_change_17 (by decide) ?_
      refine j_goto (tgt := 23) d_M_change_18 (by decide) ?_
      exact J.sub [1, 2] rfl (jc_M_change_23 N l1 l3 l0 0 h3)
set_option maxRecDepth 20000 in
theorem ct_M_change (N : Nat) (l : Launch) (D : va_G) (dA : Nat → ClassId) (B : Nat) (l0 : Option Nat) (l1 : Int64) (l3 : Int32) (h : Hp) : Ct l (⟨"RingingChamberModel", "change", "(JI)J"⟩ : MethodName) prog_15_method_48_code 4 (some .long) 2 51 D dA B [vr l0, vl l1, vi l3] h vL (M_change N l0 l1 l3 h) :=
  Ct.of2 (own := "RingingChamberModel") (nme := "change") (lv := [(0, vr l0), (1, vl l1), (3, vi l3)]) rfl rfl (by decide) (Nat.le_of_ble_eq_true rfl) rfl (fun p e R s m args below meth c => jc_M_change N l0 l1 l3 h)
theorem d_M_number_0 : decode prog_15_method_49_code 0 = .ok (.aload_n 0, 1) := by decide +kernel
theorem d_M_number_1 : decode prog_15_method_49_code 1 = .ok (.aload_n 0, 1) := by decide +kernel
theorem d_M_number_2 : decode prog_15_method_49_code 2 = .ok (.lload_n 1, 1) := by decide +kernel
theorem d_M_number_3 : decode prog_15_method_49_code 3 = .ok (.invokevirtual 262, 3) := by decide +kernel
theorem d_M_number_6 : decode prog_15_method_49_code 6 = .ok (.ifCond .eq 7, 3) := by decide +kernel
theorem d_M_number_9 : decode prog_15_method_49_code 9 = .ok (.iconst 0, 1) := by decide +kernel
theorem d_M_number_10 : decode prog_15_method_49_code 10 = .ok (.goto 5, 3) := by decide +kernel
theorem d_M_number_13 : decode prog_15_method_49_code 13 = .ok (.bipush 8, 2) := by decide +kernel
theorem d_M_number_15 : decode prog_15_method_49_code 15 = .ok (.invokevirtual 191, 3) := by decide +kernel
theorem d_M_number_18 : decode prog_15_method_49_code 18 = .ok (.ifCond .eq 7, 3) := by decide +kernel
theorem d_M_number_21 : decode prog_15_method_49_code 21 = .ok (.iconst (-1), 1) := by decide +kernel
theorem d_M_number_22 : decode prog_15_method_49_code 22 = .ok (.goto 8, 3) := by decide +kernel
theorem d_M_number_25 : decode prog_15_method_49_code 25 = .ok (.aload_n 0, 1) := by decide +kernel
theorem d_M_number_26 : decode prog_15_method_49_code 26 = .ok (.lload_n 1, 1) := by decide +kernel
theorem d_M_number_27 : decode prog_15_method_49_code 27 = .ok (.invokevirtual 266, 3) := by decide +kernel
theorem d_M_number_30 : decode prog_15_method_49_code 30 = .ok (.ireturn, 1) := by decide +kernel
set_option maxRecDepth 20000 in
theorem jc_M_number_15 (N : Nat) (l0 : Option Nat) (l1 : Int64) (u0 : Option Nat) (u1 : Int32) (h : Hp) : J p l e R s m args below meth c prog_15_method_49_code 3 "RingingChamberModel" 2 48 (some .int) "number" D dA B n0 s0 (QM below args s D dA B n0 s0 vI) 15 [(0, vr l0), (1, vl l1)] [vi u1, vr u0] h (M_number_15 N l0 l1 u0 u1 h) := by
  unfold M_number_15
  refine j_vI1 d_M_number_15 (allQ.cons (VD.mk vt_12_191_12 (ct_M_finds N l D dA B u0 u1 h) (by decide) (by decide)) allQ.nil) (Nat.le_of_ble_eq_true rfl) (fun x2 h1 => ?_)
  refine j_if_eq (tgt := 25) d_M_number_18 (by decide) ?_ ?_
  · refine j_aload_n d_M_number_25 0 rfl rfl ?_
    refine j_lload_n d_M_number_26 1 rfl rfl ?_
    refine j_vI1 d_M_number_27 (allQ.cons (VD.mk vt_12_266_12 (ct_M_numberOf N l D dA B l0 l1 h1) (by decide) (by decide)) allQ.nil) (Nat.le_of_ble_eq_true rfl) (fun x4 h3 => ?_)
    exact j_retI d_M_number_30
  · refine j_iconst (v := -1) d_M_number_21 (by decide) ?_
    refine j_goto (tgt := 30) d_M_number_22 (by decide) ?_
    exact j_retI d_M_number_30
set_option maxRecDepth 20000 in
theorem jc_M_number (N : Nat) (l0 : Option Nat) (l1 : Int64) (h : Hp) : J p l e R s m args below meth c prog_15_method_49_code 3 "RingingChamberModel" 2 48 (some .int) "number" D dA B n0 s0 (QM below args s D dA B n0 s0 vI) 0 [(0, vr l0), (1, vl l1)] [] h (M_number N l0 l1 h) := by
  unfold M_number
  refine j_aload_n d_M_number_0 0 rfl rfl ?_
  refine j_aload_n d_M_number_1 0 rfl rfl ?_
  refine j_lload_n d_M_number_2 1 rfl rfl ?_
  refine j_vI1 d_M_number_3 (allQ.cons (VD.mk vt_12_262_12 (ct_M_isRow N l D dA B l0 l1 h) (by decide) (by decide)) allQ.nil) (Nat.le_of_ble_eq_true rfl) (fun x2 h1 => ?_)
  refine j_if_eq (tgt := 13) d_M_number_6 (by decide) ?_ ?_
  · refine j_bipush (v := 8) d_M_number_13 (by decide) ?_
    exact jc_M_number_15 N l0 l1 l0 8 h1
  · refine j_iconst (v := 0) d_M_number_9 (by decide) ?_
    refine j_goto (tgt := 15) d_M_number_10 (by decide) ?_
    exact jc_M_number_15 N l0 l1 l0 0 h1
set_option maxRecDepth 20000 in
theorem ct_M_number (N : Nat) (l : Launch) (D : va_G) (dA : Nat → ClassId) (B : Nat) (l0 : Option Nat) (l1 : Int64) (h : Hp) : Ct l (⟨"RingingChamberModel", "number", "(J)I"⟩ : MethodName) prog_15_method_49_code 3 (some .int) 2 48 D dA B [vr l0, vl l1] h vI (M_number N l0 l1 h) :=
  Ct.of2 (own := "RingingChamberModel") (nme := "number") (lv := [(0, vr l0), (1, vl l1)]) rfl rfl (by decide) (Nat.le_of_ble_eq_true rfl) rfl (fun p e R s m args below meth c => jc_M_number N l0 l1 h)
theorem d_M_ofNumber_0 : decode prog_15_method_50_code 0 = .ok (.aload_n 0, 1) := by decide +kernel
theorem d_M_ofNumber_1 : decode prog_15_method_50_code 1 = .ok (.iload_n 1, 1) := by decide +kernel
theorem d_M_ofNumber_2 : decode prog_15_method_50_code 2 = .ok (.ifCond .lt 15, 3) := by decide +kernel
theorem d_M_ofNumber_5 : decode prog_15_method_50_code 5 = .ok (.iload_n 1, 1) := by decide +kernel
theorem d_M_ofNumber_6 : decode prog_15_method_50_code 6 = .ok (.aload_n 0, 1) := by decide +kernel
theorem d_M_ofNumber_7 : decode prog_15_method_50_code 7 = .ok (.invokevirtual 161, 3) := by decide +kernel
theorem d_M_ofNumber_10 : decode prog_15_method_50_code 10 = .ok (.if_icmp .ge 7, 3) := by decide +kernel
theorem d_M_ofNumber_13 : decode prog_15_method_50_code 13 = .ok (.iconst 0, 1) := by decide +kernel
theorem d_M_ofNumber_14 : decode prog_15_method_50_code 14 = .ok (.goto 4, 3) := by decide +kernel
theorem d_M_ofNumber_17 : decode prog_15_method_50_code 17 = .ok (.iconst 2, 1) := by decide +kernel
theorem d_M_ofNumber_18 : decode prog_15_method_50_code 18 = .ok (.invokevirtual 191, 3) := by decide +kernel
theorem d_M_ofNumber_21 : decode prog_15_method_50_code 21 = .ok (.ifCond .eq 7, 3) := by decide +kernel
theorem d_M_ofNumber_24 : decode prog_15_method_50_code 24 = .ok (.lconst 0, 1) := by decide +kernel
theorem d_M_ofNumber_25 : decode prog_15_method_50_code 25 = .ok (.goto 8, 3) := by decide +kernel
theorem d_M_ofNumber_28 : decode prog_15_method_50_code 28 = .ok (.aload_n 0, 1) := by decide +kernel
theorem d_M_ofNumber_29 : decode prog_15_method_50_code 29 = .ok (.iload_n 1, 1) := by decide +kernel
theorem d_M_ofNumber_30 : decode prog_15_method_50_code 30 = .ok (.invokevirtual 269, 3) := by decide +kernel
theorem d_M_ofNumber_33 : decode prog_15_method_50_code 33 = .ok (.lreturn, 1) := by decide +kernel
set_option maxRecDepth 20000 in
theorem jc_M_ofNumber_18 (N : Nat) (l0 : Option Nat) (l1 : Int32) (u0 : Option Nat) (u1 : Int32) (h : Hp) : J p l e R s m args below meth c prog_15_method_50_code 2 "RingingChamberModel" 2 51 (some .long) "ofNumber" D dA B n0 s0 (QM below args s D dA B n0 s0 vL) 18 [(0, vr l0), (1, vi l1)] [vi u1, vr u0] h (M_ofNumber_18 N l0 l1 u0 u1 h) := by
  unfold M_ofNumber_18
  refine j_vI1 d_M_ofNumber_18 (allQ.cons (VD.mk vt_12_191_12 (ct_M_finds N l D dA B u0 u1 h) (by decide) (by decide)) allQ.nil) (Nat.le_of_ble_eq_true rfl) (fun x2 h1 => ?_)
  refine j_if_eq (tgt := 28) d_M_ofNumber_21 (by decide) ?_ ?_
  · refine j_aload_n d_M_ofNumber_28 0 rfl rfl ?_
    refine j_iload_n d_M_ofNumber_29 1 rfl rfl ?_
    refine j_vL1 d_M_ofNumber_30 (allQ.cons (VD.mk vt_12_269_12 (ct_M_rowOf N l D dA B l0 l1 h1) (by decide) (by decide)) allQ.nil) (Nat.le_of_ble_eq_true rfl) (fun x4 h3 => ?_)
    exact j_retL d_M_ofNumber_33
  · refine j_lconst (v := 0) d_M_ofNumber_24 (by decide) ?_
    refine j_goto (tgt := 33) d_M_ofNumber_25 (by decide) ?_
    exact j_retL d_M_ofNumber_33
set_option maxRecDepth 20000 in
theorem jc_M_ofNumber_17 (N : Nat) (l0 : Option Nat) (l1 : Int32) (u0 : Option Nat) (h : Hp) : J p l e R s m args below meth c prog_15_method_50_code 2 "RingingChamberModel" 2 51 (some .long) "ofNumber" D dA B n0 s0 (QM below args s D dA B n0 s0 vL) 17 [(0, vr l0), (1, vi l1)] [vr u0] h (M_ofNumber_17 N l0 l1 u0 h) := by
  unfold M_ofNumber_17
  refine j_iconst (v := 2) d_M_ofNumber_17 (by decide) ?_
  exact jc_M_ofNumber_18 N l0 l1 u0 2 h
set_option maxRecDepth 20000 in
theorem jc_M_ofNumber (N : Nat) (l0 : Option Nat) (l1 : Int32) (h : Hp) : J p l e R s m args below meth c prog_15_method_50_code 2 "RingingChamberModel" 2 51 (some .long) "ofNumber" D dA B n0 s0 (QM below args s D dA B n0 s0 vL) 0 [(0, vr l0), (1, vi l1)] [] h (M_ofNumber N l0 l1 h) := by
  unfold M_ofNumber
  refine j_aload_n d_M_ofNumber_0 0 rfl rfl ?_
  refine j_iload_n d_M_ofNumber_1 1 rfl rfl ?_
  refine j_if_lt (tgt := 17) d_M_ofNumber_2 (by decide) ?_ ?_
  · exact jc_M_ofNumber_17 N l0 l1 l0 h
  · refine j_iload_n d_M_ofNumber_5 1 rfl rfl ?_
    refine j_aload_n d_M_ofNumber_6 0 rfl rfl ?_
    refine j_vI0 d_M_ofNumber_7 (allQ.cons (VD.mk vt_12_161_12 (ct_M_all N l D dA B l0 h) (by decide) (by decide)) allQ.nil) (Nat.le_of_ble_eq_true rfl) (fun x2 h1 => ?_)
    refine j_icmp_ge (tgt := 17) d_M_ofNumber_10 (by decide) ?_ ?_
    · exact jc_M_ofNumber_17 N l0 l1 l0 h1
    · refine j_iconst (v := 0) d_M_ofNumber_13 (by decide) ?_
      refine j_goto (tgt := 18) d_M_ofNumber_14 (by decide) ?_
      exact jc_M_ofNumber_18 N l0 l1 l0 0 h1
set_option maxRecDepth 20000 in
theorem ct_M_ofNumber (N : Nat) (l : Launch) (D : va_G) (dA : Nat → ClassId) (B : Nat) (l0 : Option Nat) (l1 : Int32) (h : Hp) : Ct l (⟨"RingingChamberModel", "ofNumber", "(I)J"⟩ : MethodName) prog_15_method_50_code 2 (some .long) 2 51 D dA B [vr l0, vi l1] h vL (M_ofNumber N l0 l1 h) :=
  Ct.of2 (own := "RingingChamberModel") (nme := "ofNumber") (lv := [(0, vr l0), (1, vi l1)]) rfl rfl (by decide) (Nat.le_of_ble_eq_true rfl) rfl (fun p e R s m args below meth c => jc_M_ofNumber N l0 l1 h)
theorem d_M_product_0 : decode prog_15_method_51_code 0 = .ok (.aload_n 0, 1) := by decide +kernel
theorem d_M_product_1 : decode prog_15_method_51_code 1 = .ok (.aload_n 0, 1) := by decide +kernel
theorem d_M_product_2 : decode prog_15_method_51_code 2 = .ok (.lload_n 1, 1) := by decide +kernel
theorem d_M_product_3 : decode prog_15_method_51_code 3 = .ok (.invokevirtual 262, 3) := by decide +kernel
theorem d_M_product_6 : decode prog_15_method_51_code 6 = .ok (.ifCond .eq 15, 3) := by decide +kernel
theorem d_M_product_9 : decode prog_15_method_51_code 9 = .ok (.aload_n 0, 1) := by decide +kernel
theorem d_M_product_10 : decode prog_15_method_51_code 10 = .ok (.lload_n 3, 1) := by decide +kernel
theorem d_M_product_11 : decode prog_15_method_51_code 11 = .ok (.invokevirtual 262, 3) := by decide +kernel
theorem d_M_product_14 : decode prog_15_method_51_code 14 = .ok (.ifCond .eq 7, 3) := by decide +kernel
theorem d_M_product_17 : decode prog_15_method_51_code 17 = .ok (.iconst 0, 1) := by decide +kernel
theorem d_M_product_18 : decode prog_15_method_51_code 18 = .ok (.goto 5, 3) := by decide +kernel
theorem d_M_product_21 : decode prog_15_method_51_code 21 = .ok (.bipush 8, 2) := by decide +kernel
theorem d_M_product_23 : decode prog_15_method_51_code 23 = .ok (.invokevirtual 191, 3) := by decide +kernel
theorem d_M_product_26 : decode prog_15_method_51_code 26 = .ok (.ifCond .eq 7, 3) := by decide +kernel
theorem d_M_product_29 : decode prog_15_method_51_code 29 = .ok (.lconst 0, 1) := by decide +kernel
theorem d_M_product_30 : decode prog_15_method_51_code 30 = .ok (.goto 9, 3) := by decide +kernel
theorem d_M_product_33 : decode prog_15_method_51_code 33 = .ok (.aload_n 0, 1) := by decide +kernel
theorem d_M_product_34 : decode prog_15_method_51_code 34 = .ok (.lload_n 1, 1) := by decide +kernel
theorem d_M_product_35 : decode prog_15_method_51_code 35 = .ok (.lload_n 3, 1) := by decide +kernel
theorem d_M_product_36 : decode prog_15_method_51_code 36 = .ok (.invokevirtual 273, 3) := by decide +kernel
theorem d_M_product_39 : decode prog_15_method_51_code 39 = .ok (.lreturn, 1) := by decide +kernel
set_option maxRecDepth 20000 in
theorem jc_M_product_23 (N : Nat) (l0 : Option Nat) (l1 : Int64) (l3 : Int64) (u0 : Option Nat) (u1 : Int32) (h : Hp) : J p l e R s m args below meth c prog_15_method_51_code 5 "RingingChamberModel" 2 49 (some .long) "product" D dA B n0 s0 (QM below args s D dA B n0 s0 vL) 23 [(0, vr l0), (1, vl l1), (3, vl l3)] [vi u1, vr u0] h (M_product_23 N l0 l1 l3 u0 u1 h) := by
  unfold M_product_23
  refine j_vI1 d_M_product_23 (allQ.cons (VD.mk vt_12_191_12 (ct_M_finds N l D dA B u0 u1 h) (by decide) (by decide)) allQ.nil) (Nat.le_of_ble_eq_true rfl) (fun x2 h1 => ?_)
  refine j_if_eq (tgt := 33) d_M_product_26 (by decide) ?_ ?_
  · refine j_aload_n d_M_product_33 0 rfl rfl ?_
    refine j_lload_n d_M_product_34 1 rfl rfl ?_
    refine j_lload_n d_M_product_35 2 rfl rfl ?_
    refine j_vL2 d_M_product_36 (allQ.cons (VD.mk vt_12_273_12 (ct_M_times N l D dA B l0 l1 l3 h1) (by decide) (by decide)) allQ.nil) (Nat.le_of_ble_eq_true rfl) (fun x4 h3 => ?_)
    exact j_retL d_M_product_39
  · refine j_lconst (v := 0) d_M_product_29 (by decide) ?_
    refine j_goto (tgt := 39) d_M_product_30 (by decide) ?_
    exact j_retL d_M_product_39
set_option maxRecDepth 20000 in
theorem jc_M_product_21 (N : Nat) (l0 : Option Nat) (l1 : Int64) (l3 : Int64) (u0 : Option Nat) (h : Hp) : J p l e R s m args below meth c prog_15_method_51_code 5 "RingingChamberModel" 2 49 (some .long) "product" D dA B n0 s0 (QM below args s D dA B n0 s0 vL) 21 [(0, vr l0), (1, vl l1), (3, vl l3)] [vr u0] h (M_product_21 N l0 l1 l3 u0 h) := by
  unfold M_product_21
  refine j_bipush (v := 8) d_M_product_21 (by decide) ?_
  exact jc_M_product_23 N l0 l1 l3 u0 8 h
set_option maxRecDepth 20000 in
theorem jc_M_product (N : Nat) (l0 : Option Nat) (l1 : Int64) (l3 : Int64) (h : Hp) : J p l e R s m args below meth c prog_15_method_51_code 5 "RingingChamberModel" 2 49 (some .long) "product" D dA B n0 s0 (QM below args s D dA B n0 s0 vL) 0 [(0, vr l0), (1, vl l1), (3, vl l3)] [] h (M_product N l0 l1 l3 h) := by
  unfold M_product
  refine j_aload_n d_M_product_0 0 rfl rfl ?_
  refine j_aload_n d_M_product_1 0 rfl rfl ?_
  refine j_lload_n d_M_product_2 1 rfl rfl ?_
  refine j_vI1 d_M_product_3 (allQ.cons (VD.mk vt_12_262_12 (ct_M_isRow N l D dA B l0 l1 h) (by decide) (by decide)) allQ.nil) (Nat.le_of_ble_eq_true rfl) (fun x2 h1 => ?_)
  refine j_if_eq (tgt := 21) d_M_product_6 (by decide) ?_ ?_
  · exact jc_M_product_21 N l0 l1 l3 l0 h1
  · refine j_aload_n d_M_product_9 0 rfl rfl ?_
    refine j_lload_n d_M_product_10 2 rfl rfl ?_
    refine j_vI1 d_M_product_11 (allQ.cons (VD.mk vt_12_262_12 (ct_M_isRow N l D dA B l0 l3 h1) (by decide) (by decide)) allQ.nil) (Nat.le_of_ble_eq_true rfl) (fun x4 h3 => ?_)
    refine j_if_eq (tgt := 21) d_M_product_14 (by decide) ?_ ?_
    · exact jc_M_product_21 N l0 l1 l3 l0 h3
    · refine j_iconst (v := 0) d_M_product_17 (by decide) ?_
      refine j_goto (tgt := 23) d_M_product_18 (by decide) ?_
      exact jc_M_product_23 N l0 l1 l3 l0 0 h3
set_option maxRecDepth 20000 in
theorem ct_M_product (N : Nat) (l : Launch) (D : va_G) (dA : Nat → ClassId) (B : Nat) (l0 : Option Nat) (l1 : Int64) (l3 : Int64) (h : Hp) : Ct l (⟨"RingingChamberModel", "product", "(JJ)J"⟩ : MethodName) prog_15_method_51_code 5 (some .long) 2 49 D dA B [vr l0, vl l1, vl l3] h vL (M_product N l0 l1 l3 h) :=
  Ct.of2 (own := "RingingChamberModel") (nme := "product") (lv := [(0, vr l0), (1, vl l1), (3, vl l3)]) rfl rfl (by decide) (Nat.le_of_ble_eq_true rfl) rfl (fun p e R s m args below meth c => jc_M_product N l0 l1 l3 h)
theorem d_M_inverse_0 : decode prog_15_method_52_code 0 = .ok (.aload_n 0, 1) := by decide +kernel
theorem d_M_inverse_1 : decode prog_15_method_52_code 1 = .ok (.aload_n 0, 1) := by decide +kernel
theorem d_M_inverse_2 : decode prog_15_method_52_code 2 = .ok (.lload_n 1, 1) := by decide +kernel
theorem d_M_inverse_3 : decode prog_15_method_52_code 3 = .ok (.invokevirtual 262, 3) := by decide +kernel
theorem d_M_inverse_6 : decode prog_15_method_52_code 6 = .ok (.ifCond .eq 7, 3) := by decide +kernel
theorem d_M_inverse_9 : decode prog_15_method_52_code 9 = .ok (.iconst 0, 1) := by decide +kernel
theorem d_M_inverse_10 : decode prog_15_method_52_code 10 = .ok (.goto 5, 3) := by decide +kernel
theorem d_M_inverse_13 : decode prog_15_method_52_code 13 = .ok (.bipush 8, 2) := by decide +kernel
theorem d_M_inverse_15 : decode prog_15_method_52_code 15 = .ok (.invokevirtual 191, 3) := by decide +kernel
theorem d_M_inverse_18 : decode prog_15_method_52_code 18 = .ok (.ifCond .eq 5, 3) := by decide +kernel
theorem d_M_inverse_21 : decode prog_15_method_52_code 21 = .ok (.lconst 0, 1) := by decide +kernel
theorem d_M_inverse_22 : decode prog_15_method_52_code 22 = .ok (.lreturn, 1) := by decide +kernel
theorem d_M_inverse_23 : decode prog_15_method_52_code 23 = .ok (.lconst 0, 1) := by decide +kernel
theorem d_M_inverse_24 : decode prog_15_method_52_code 24 = .ok (.lstore_n 3, 1) := by decide +kernel
theorem d_M_inverse_25 : decode prog_15_method_52_code 25 = .ok (.iconst 1, 1) := by decide +kernel
theorem d_M_inverse_26 : decode prog_15_method_52_code 26 = .ok (.istore 5, 2) := by decide +kernel
theorem d_M_inverse_28 : decode prog_15_method_52_code 28 = .ok (.iload 5, 2) := by decide +kernel
theorem d_M_inverse_30 : decode prog_15_method_52_code 30 = .ok (.aload_n 0, 1) := by decide +kernel
theorem d_M_inverse_31 : decode prog_15_method_52_code 31 = .ok (.getfield 105, 3) := by decide +kernel
theorem d_M_inverse_34 : decode prog_15_method_52_code 34 = .ok (.if_icmp .gt 26, 3) := by decide +kernel
theorem d_M_inverse_37 : decode prog_15_method_52_code 37 = .ok (.lload_n 3, 1) := by decide +kernel
theorem d_M_inverse_38 : decode prog_15_method_52_code 38 = .ok (.iload 5, 2) := by decide +kernel
theorem d_M_inverse_40 : decode prog_15_method_52_code 40 = .ok (.i2l, 1) := by decide +kernel
theorem d_M_inverse_41 : decode prog_15_method_52_code 41 = .ok (.iconst 4, 1) := by decide +kernel
theorem d_M_inverse_42 : decode prog_15_method_52_code 42 = .ok (.lload_n 1, 1) := by decide +kernel
theorem d_M_inverse_43 : decode prog_15_method_52_code 43 = .ok (.iload 5, 2) := by decide +kernel
theorem d_M_inverse_45 : decode prog_15_method_52_code 45 = .ok (.invokestatic 157, 3) := by decide +kernel
theorem d_M_inverse_48 : decode prog_15_method_52_code 48 = .ok (.iconst 1, 1) := by decide +kernel
theorem d_M_inverse_49 : decode prog_15_method_52_code 49 = .ok (.isub, 1) := by decide +kernel
theorem d_M_inverse_50 : decode prog_15_method_52_code 50 = .ok (.imul, 1) := by decide +kernel
theorem d_M_inverse_51 : decode prog_15_method_52_code 51 = .ok (.lshl, 1) := by decide +kernel
theorem d_M_inverse_52 : decode prog_15_method_52_code 52 = .ok (.ladd, 1) := by decide +kernel
theorem d_M_inverse_53 : decode prog_15_method_52_code 53 = .ok (.lstore_n 3, 1) := by decide +kernel
theorem d_M_inverse_54 : decode prog_15_method_52_code 54 = .ok (.iinc 5 1, 3) := by decide +kernel
theorem d_M_inverse_57 : decode prog_15_method_52_code 57 = .ok (.goto (-29), 3) := by decide +kernel
theorem d_M_inverse_60 : decode prog_15_method_52_code 60 = .ok (.lload_n 3, 1) := by decide +kernel
theorem d_M_inverse_61 : decode prog_15_method_52_code 61 = .ok (.lreturn, 1) := by decide +kernel
set_option maxRecDepth 20000 in
theorem jc_M_inverse_28 (N : Nat) : ∀ (n : Nat) (l0 : Option Nat) (l1 : Int64) (l3 : Int64) (l5 : Int32) (h : Hp), J p l e R s m args below meth c prog_15_method_52_code 6 "RingingChamberModel" 2 47 (some .long) "inverse" D dA B n0 s0 (QM below args s D dA B n0 s0 vL) 28 [(0, vr l0), (1, vl l1), (3, vl l3), (5, vi l5)] [] h (M_inverse_28 N n l0 l1 l3 l5 h) := by
  intro n
  induction n with
  | zero => intros; exact J.none
  | succ n ih =>
    intro l0 l1 l3 l5 h
    rw [M_inverse_28]
    refine j_iload d_M_inverse_28 3 rfl ?_
    refine j_aload_n d_M_inverse_30 0 rfl rfl ?_
    refine j_getI d_M_inverse_31 fl_12_105.r (fun x1 => ?_)
    refine j_icmp_gt (tgt := 60) d_M_inverse_34 (by decide) ?_ ?_
    · refine j_lload_n d_M_inverse_60 2 rfl rfl ?_
      exact j_retL d_M_inverse_61
    · refine j_lload_n d_M_inverse_37 2 rfl rfl ?_
      refine j_iload d_M_inverse_38 3 rfl ?_
      refine j_i2l d_M_inverse_40 ?_
      refine j_iconst (v := 4) d_M_inverse_41 (by decide) ?_
      refine j_lload_n d_M_inverse_42 1 rfl rfl ?_
      refine j_iload d_M_inverse_43 3 rfl ?_
      refine j_cSI2 d_M_inverse_45 sl_12_157 ks_M_bell (ct_M_bell N l D dA B l1 l5 h) (by decide) (by decide) (Nat.le_of_ble_eq_true rfl) (fun x3 h2 => ?_)
      refine j_iconst (v := 1) d_M_inverse_48 (by decide) ?_
      refine j_isub d_M_inverse_49 ?_
      refine j_imul d_M_inverse_50 ?_
      refine j_lshl d_M_inverse_51 ?_
      refine j_ladd d_M_inverse_52 ?_
      refine j_nml (fun x4 => ?_)
      refine j_lstore_n (lv' := [(3, vl x4), (0, vr l0), (1, vl l1), (5, vi l5)]) d_M_inverse_53 rfl (by decide) rfl ?_
      refine j_iinc (lvv := fun x5 => [(5, vi x5), (3, vl x4), (0, vr l0), (1, vl l1)]) d_M_inverse_54 3 rfl rfl (by decide) (fun _ => rfl) (fun x5 => ?_)
      refine j_goto (tgt := 28) d_M_inverse_57 (by decide) ?_
      exact J.sub [2, 3, 1, 0] rfl (ih l0 l1 x4 x5 h2)
set_option maxRecDepth 20000 in
theorem jc_M_inverse_15 (N : Nat) (l0 : Option Nat) (l1 : Int64) (u0 : Option Nat) (u1 : Int32) (h : Hp) : J p l e R s m args below meth c prog_15_method_52_code 6 "RingingChamberModel" 2 47 (some .long) "inverse" D dA B n0 s0 (QM below args s D dA B n0 s0 vL) 15 [(0, vr l0), (1, vl l1)] [vi u1, vr u0] h (M_inverse_15 N l0 l1 u0 u1 h) := by
  unfold M_inverse_15
  refine j_vI1 d_M_inverse_15 (allQ.cons (VD.mk vt_12_191_12 (ct_M_finds N l D dA B u0 u1 h) (by decide) (by decide)) allQ.nil) (Nat.le_of_ble_eq_true rfl) (fun x2 h1 => ?_)
  refine j_if_eq (tgt := 23) d_M_inverse_18 (by decide) ?_ ?_
  · refine j_lconst (v := 0) d_M_inverse_23 (by decide) ?_
    refine j_lstore_n (lv' := [(3, vl 0), (0, vr l0), (1, vl l1)]) d_M_inverse_24 rfl (by decide) rfl ?_
    refine j_iconst (v := 1) d_M_inverse_25 (by decide) ?_
    refine j_istore (lv' := [(5, vi 1), (3, vl 0), (0, vr l0), (1, vl l1)]) d_M_inverse_26 (by decide) rfl ?_
    exact J.sub [2, 3, 1, 0] rfl (jc_M_inverse_28 N N l0 l1 0 1 h1)
  · refine j_lconst (v := 0) d_M_inverse_21 (by decide) ?_
    exact j_retL d_M_inverse_22
set_option maxRecDepth 20000 in
theorem jc_M_inverse (N : Nat) (l0 : Option Nat) (l1 : Int64) (h : Hp) : J p l e R s m args below meth c prog_15_method_52_code 6 "RingingChamberModel" 2 47 (some .long) "inverse" D dA B n0 s0 (QM below args s D dA B n0 s0 vL) 0 [(0, vr l0), (1, vl l1)] [] h (M_inverse N l0 l1 h) := by
  unfold M_inverse
  refine j_aload_n d_M_inverse_0 0 rfl rfl ?_
  refine j_aload_n d_M_inverse_1 0 rfl rfl ?_
  refine j_lload_n d_M_inverse_2 1 rfl rfl ?_
  refine j_vI1 d_M_inverse_3 (allQ.cons (VD.mk vt_12_262_12 (ct_M_isRow N l D dA B l0 l1 h) (by decide) (by decide)) allQ.nil) (Nat.le_of_ble_eq_true rfl) (fun x2 h1 => ?_)
  refine j_if_eq (tgt := 13) d_M_inverse_6 (by decide) ?_ ?_
  · refine j_bipush (v := 8) d_M_inverse_13 (by decide) ?_
    exact jc_M_inverse_15 N l0 l1 l0 8 h1
  · refine j_iconst (v := 0) d_M_inverse_9 (by decide) ?_
    refine j_goto (tgt := 15) d_M_inverse_10 (by decide) ?_
    exact jc_M_inverse_15 N l0 l1 l0 0 h1
set_option maxRecDepth 20000 in
theorem ct_M_inverse (N : Nat) (l : Launch) (D : va_G) (dA : Nat → ClassId) (B : Nat) (l0 : Option Nat) (l1 : Int64) (h : Hp) : Ct l (⟨"RingingChamberModel", "inverse", "(J)J"⟩ : MethodName) prog_15_method_52_code 6 (some .long) 2 47 D dA B [vr l0, vl l1] h vL (M_inverse N l0 l1 h) :=
  Ct.of2 (own := "RingingChamberModel") (nme := "inverse") (lv := [(0, vr l0), (1, vl l1)]) rfl rfl (by decide) (Nat.le_of_ble_eq_true rfl) rfl (fun p e R s m args below meth c => jc_M_inverse N l0 l1 h)
theorem d_M_order_0 : decode prog_15_method_54_code 0 = .ok (.aload_n 0, 1) := by decide +kernel
theorem d_M_order_1 : decode prog_15_method_54_code 1 = .ok (.aload_n 0, 1) := by decide +kernel
theorem d_M_order_2 : decode prog_15_method_54_code 2 = .ok (.lload_n 1, 1) := by decide +kernel
theorem d_M_order_3 : decode prog_15_method_54_code 3 = .ok (.invokevirtual 262, 3) := by decide +kernel
theorem d_M_order_6 : decode prog_15_method_54_code 6 = .ok (.ifCond .eq 7, 3) := by decide +kernel
theorem d_M_order_9 : decode prog_15_method_54_code 9 = .ok (.iconst 0, 1) := by decide +kernel
theorem d_M_order_10 : decode prog_15_method_54_code 10 = .ok (.goto 5, 3) := by decide +kernel
theorem d_M_order_13 : decode prog_15_method_54_code 13 = .ok (.bipush 8, 2) := by decide +kernel
theorem d_M_order_15 : decode prog_15_method_54_code 15 = .ok (.invokevirtual 191, 3) := by decide +kernel
theorem d_M_order_18 : decode prog_15_method_54_code 18 = .ok (.ifCond .eq 7, 3) := by decide +kernel
theorem d_M_order_21 : decode prog_15_method_54_code 21 = .ok (.iconst 0, 1) := by decide +kernel
theorem d_M_order_22 : decode prog_15_method_54_code 22 = .ok (.goto 8, 3) := by decide +kernel
theorem d_M_order_25 : decode prog_15_method_54_code 25 = .ok (.aload_n 0, 1) := by decide +kernel
theorem d_M_order_26 : decode prog_15_method_54_code 26 = .ok (.lload_n 1, 1) := by decide +kernel
theorem d_M_order_27 : decode prog_15_method_54_code 27 = .ok (.invokevirtual 259, 3) := by decide +kernel
theorem d_M_order_30 : decode prog_15_method_54_code 30 = .ok (.ireturn, 1) := by decide +kernel
set_option maxRecDepth 20000 in
theorem jc_M_order_15 (N : Nat) (l0 : Option Nat) (l1 : Int64) (u0 : Option Nat) (u1 : Int32) (h : Hp) : J p l e R s m args below meth c prog_15_method_54_code 3 "RingingChamberModel" 3 74 (some .int) "order" D dA B n0 s0 (QM below args s D dA B n0 s0 vI) 15 [(0, vr l0), (1, vl l1)] [vi u1, vr u0] h (M_order_15 N l0 l1 u0 u1 h) := by
  unfold M_order_15
  refine j_vI1 d_M_order_15 (allQ.cons (VD.mk vt_12_191_12 (ct_M_finds N l D dA B u0 u1 h) (by decide) (by decide)) allQ.nil) (Nat.le_of_ble_eq_true rfl) (fun x2 h1 => ?_)
  refine j_if_eq (tgt := 25) d_M_order_18 (by decide) ?_ ?_
  · refine j_aload_n d_M_order_25 0 rfl rfl ?_
    refine j_lload_n d_M_order_26 1 rfl rfl ?_
    refine j_vI1 d_M_order_27 (allQ.cons (VD.mk vt_12_259_12 (ct_M_orderOf N l D dA B l0 l1 h1) (by decide) (by decide)) allQ.nil) (Nat.le_of_ble_eq_true rfl) (fun x4 h3 => ?_)
    exact j_retI d_M_order_30
  · refine j_iconst (v := 0) d_M_order_21 (by decide) ?_
    refine j_goto (tgt := 30) d_M_order_22 (by decide) ?_
    exact j_retI d_M_order_30
set_option maxRecDepth 20000 in
theorem jc_M_order (N : Nat) (l0 : Option Nat) (l1 : Int64) (h : Hp) : J p l e R s m args below meth c prog_15_method_54_code 3 "RingingChamberModel" 3 74 (some .int) "order" D dA B n0 s0 (QM below args s D dA B n0 s0 vI) 0 [(0, vr l0), (1, vl l1)] [] h (M_order N l0 l1 h) := by
  unfold M_order
  refine j_aload_n d_M_order_0 0 rfl rfl ?_
  refine j_aload_n d_M_order_1 0 rfl rfl ?_
  refine j_lload_n d_M_order_2 1 rfl rfl ?_
  refine j_vI1 d_M_order_3 (allQ.cons (VD.mk vt_12_262_12 (ct_M_isRow N l D dA B l0 l1 h) (by decide) (by decide)) allQ.nil) (Nat.le_of_ble_eq_true rfl) (fun x2 h1 => ?_)
  refine j_if_eq (tgt := 13) d_M_order_6 (by decide) ?_ ?_
  · refine j_bipush (v := 8) d_M_order_13 (by decide) ?_
    exact jc_M_order_15 N l0 l1 l0 8 h1
  · refine j_iconst (v := 0) d_M_order_9 (by decide) ?_
    refine j_goto (tgt := 15) d_M_order_10 (by decide) ?_
    exact jc_M_order_15 N l0 l1 l0 0 h1
set_option maxRecDepth 20000 in
theorem ct_M_order (N : Nat) (l : Launch) (D : va_G) (dA : Nat → ClassId) (B : Nat) (l0 : Option Nat) (l1 : Int64) (h : Hp) : Ct l (⟨"RingingChamberModel", "order", "(J)I"⟩ : MethodName) prog_15_method_54_code 3 (some .int) 3 74 D dA B [vr l0, vl l1] h vI (M_order N l0 l1 h) :=
  Ct.of2 (own := "RingingChamberModel") (nme := "order") (lv := [(0, vr l0), (1, vl l1)]) rfl rfl (by decide) (Nat.le_of_ble_eq_true rfl) rfl (fun p e R s m args below meth c => jc_M_order N l0 l1 h)
theorem d_M_touch_0 : decode prog_15_method_55_code 0 = .ok (.aload_n 0, 1) := by decide +kernel
theorem d_M_touch_1 : decode prog_15_method_55_code 1 = .ok (.aload_n 0, 1) := by decide +kernel
theorem d_M_touch_2 : decode prog_15_method_55_code 2 = .ok (.iload_n 1, 1) := by decide +kernel
theorem d_M_touch_3 : decode prog_15_method_55_code 3 = .ok (.invokevirtual 187, 3) := by decide +kernel
theorem d_M_touch_6 : decode prog_15_method_55_code 6 = .ok (.ifCond .ne 7, 3) := by decide +kernel
theorem d_M_touch_9 : decode prog_15_method_55_code 9 = .ok (.iconst 4, 1) := by decide +kernel
theorem d_M_touch_10 : decode prog_15_method_55_code 10 = .ok (.goto 26, 3) := by decide +kernel
theorem d_M_touch_13 : decode prog_15_method_55_code 13 = .ok (.iload_n 2, 1) := by decide +kernel
theorem d_M_touch_14 : decode prog_15_method_55_code 14 = .ok (.ifCond .lt 17, 3) := by decide +kernel
theorem d_M_touch_17 : decode prog_15_method_55_code 17 = .ok (.iload_n 2, 1) := by decide +kernel
theorem d_M_touch_18 : decode prog_15_method_55_code 18 = .ok (.iconst 2, 1) := by decide +kernel
theorem d_M_touch_19 : decode prog_15_method_55_code 19 = .ok (.if_icmp .gt 12, 3) := by decide +kernel
theorem d_M_touch_22 : decode prog_15_method_55_code 22 = .ok (.aload_n 0, 1) := by decide +kernel
theorem d_M_touch_23 : decode prog_15_method_55_code 23 = .ok (.getfield 112, 3) := by decide +kernel
theorem d_M_touch_26 : decode prog_15_method_55_code 26 = .ok (.bipush 100, 2) := by decide +kernel
theorem d_M_touch_28 : decode prog_15_method_55_code 28 = .ok (.if_icmp .ne 7, 3) := by decide +kernel
theorem d_M_touch_31 : decode prog_15_method_55_code 31 = .ok (.iconst 2, 1) := by decide +kernel
theorem d_M_touch_32 : decode prog_15_method_55_code 32 = .ok (.goto 4, 3) := by decide +kernel
theorem d_M_touch_35 : decode prog_15_method_55_code 35 = .ok (.iconst 0, 1) := by decide +kernel
theorem d_M_touch_36 : decode prog_15_method_55_code 36 = .ok (.invokevirtual 191, 3) := by decide +kernel
theorem d_M_touch_39 : decode prog_15_method_55_code 39 = .ok (.ifCond .eq 5, 3) := by decide +kernel
theorem d_M_touch_42 : decode prog_15_method_55_code 42 = .ok (.iconst 0, 1) := by decide +kernel
theorem d_M_touch_43 : decode prog_15_method_55_code 43 = .ok (.ireturn, 1) := by decide +kernel
theorem d_M_touch_44 : decode prog_15_method_55_code 44 = .ok (.aload_n 0, 1) := by decide +kernel
theorem d_M_touch_45 : decode prog_15_method_55_code 45 = .ok (.getfield 44, 3) := by decide +kernel
theorem d_M_touch_48 : decode prog_15_method_55_code 48 = .ok (.aload_n 0, 1) := by decide +kernel
theorem d_M_touch_49 : decode prog_15_method_55_code 49 = .ok (.getfield 112, 3) := by decide +kernel
theorem d_M_touch_52 : decode prog_15_method_55_code 52 = .ok (.iload_n 1, 1) := by decide +kernel
theorem d_M_touch_53 : decode prog_15_method_55_code 53 = .ok (.iastore, 1) := by decide +kernel
theorem d_M_touch_54 : decode prog_15_method_55_code 54 = .ok (.aload_n 0, 1) := by decide +kernel
theorem d_M_touch_55 : decode prog_15_method_55_code 55 = .ok (.getfield 47, 3) := by decide +kernel
theorem d_M_touch_58 : decode prog_15_method_55_code 58 = .ok (.aload_n 0, 1) := by decide +kernel
theorem d_M_touch_59 : decode prog_15_method_55_code 59 = .ok (.getfield 112, 3) := by decide +kernel
theorem d_M_touch_62 : decode prog_15_method_55_code 62 = .ok (.iload_n 2, 1) := by decide +kernel
theorem d_M_touch_63 : decode prog_15_method_55_code 63 = .ok (.iastore, 1) := by decide +kernel
theorem d_M_touch_64 : decode prog_15_method_55_code 64 = .ok (.aload_n 0, 1) := by decide +kernel
theorem d_M_touch_65 : decode prog_15_method_55_code 65 = .ok (.dup, 1) := by decide +kernel
theorem d_M_touch_66 : decode prog_15_method_55_code 66 = .ok (.getfield 112, 3) := by decide +kernel
theorem d_M_touch_69 : decode prog_15_method_55_code 69 = .ok (.iconst 1, 1) := by decide +kernel
theorem d_M_touch_70 : decode prog_15_method_55_code 70 = .ok (.iadd, 1) := by decide +kernel
theorem d_M_touch_71 : decode prog_15_method_55_code 71 = .ok (.putfield 112, 3) := by decide +kernel
theorem d_M_touch_74 : decode prog_15_method_55_code 74 = .ok (.aload_n 0, 1) := by decide +kernel
theorem d_M_touch_75 : decode prog_15_method_55_code 75 = .ok (.getfield 112, 3) := by decide +kernel
theorem d_M_touch_78 : decode prog_15_method_55_code 78 = .ok (.ireturn, 1) := by decide +kernel
set_option maxRecDepth 20000 in
theorem jc_M_touch_36 (N : Nat) (l0 : Option Nat) (l1 : Int32) (l2 : Int32) (u0 : Option Nat) (u1 : Int32) (h : Hp) : J p l e R s m args below meth c prog_15_method_55_code 3 "RingingChamberModel" 1 21 (some .int) "touch" D dA B n0 s0 (QM below args s D dA B n0 s0 vI) 36 [(0, vr l0), (1, vi l1), (2, vi l2)] [vi u1, vr u0] h (M_touch_36 N l0 l1 l2 u0 u1 h) := by
  unfold M_touch_36
  refine j_vI1 d_M_touch_36 (allQ.cons (VD.mk vt_12_191_12 (ct_M_finds N l D dA B u0 u1 h) (by decide) (by decide)) allQ.nil) (Nat.le_of_ble_eq_true rfl) (fun x2 h1 => ?_)
  refine j_if_eq (tgt := 44) d_M_touch_39 (by decide) ?_ ?_
  · refine j_aload_n d_M_touch_44 0 rfl rfl ?_
    refine j_getR d_M_touch_45 fl_12_44.r (fun x3 => ?_)
    refine j_aload_n d_M_touch_48 0 rfl rfl ?_
    refine j_getI d_M_touch_49 fl_12_112.r (fun x4 => ?_)
    refine j_iload_n d_M_touch_52 1 rfl rfl ?_
    refine j_iast d_M_touch_53 (fun h5 => ?_)
    refine j_aload_n d_M_touch_54 0 rfl rfl ?_
    refine j_getR d_M_touch_55 fl_12_47.r (fun x6 => ?_)
    refine j_aload_n d_M_touch_58 0 rfl rfl ?_
    refine j_getI d_M_touch_59 fl_12_112.r (fun x7 => ?_)
    refine j_iload_n d_M_touch_62 2 rfl rfl ?_
    refine j_iast d_M_touch_63 (fun h8 => ?_)
    refine j_aload_n d_M_touch_64 0 rfl rfl ?_
    refine j_dup d_M_touch_65 rfl ?_
    refine j_getI d_M_touch_66 fl_12_112.r (fun x9 => ?_)
    refine j_iconst (v := 1) d_M_touch_69 (by decide) ?_
    refine j_iadd d_M_touch_70 ?_
    refine j_putI d_M_touch_71 fl_12_112 (Or.inl rfl) (fun h10 => ?_)
    refine j_aload_n d_M_touch_74 0 rfl rfl ?_
    refine j_getI d_M_touch_75 fl_12_112.r (fun x11 => ?_)
    exact j_retI d_M_touch_78
  · refine j_iconst (v := 0) d_M_touch_42 (by decide) ?_
    exact j_retI d_M_touch_43
set_option maxRecDepth 20000 in
theorem jc_M_touch_31 (N : Nat) (l0 : Option Nat) (l1 : Int32) (l2 : Int32) (u0 : Option Nat) (h : Hp) : J p l e R s m args below meth c prog_15_method_55_code 3 "RingingChamberModel" 1 21 (some .int) "touch" D dA B n0 s0 (QM below args s D dA B n0 s0 vI) 31 [(0, vr l0), (1, vi l1), (2, vi l2)] [vr u0] h (M_touch_31 N l0 l1 l2 u0 h) := by
  unfold M_touch_31
  refine j_iconst (v := 2) d_M_touch_31 (by decide) ?_
  refine j_goto (tgt := 36) d_M_touch_32 (by decide) ?_
  exact jc_M_touch_36 N l0 l1 l2 u0 2 h
set_option maxRecDepth 20000 in
theorem jc_M_touch (N : Nat) (l0 : Option Nat) (l1 : Int32) (l2 : Int32) (h : Hp) : J p l e R s m args below meth c prog_15_method_55_code 3 "RingingChamberModel" 1 21 (some .int) "touch" D dA B n0 s0 (QM below args s D dA B n0 s0 vI) 0 [(0, vr l0), (1, vi l1), (2, vi l2)] [] h (M_touch N l0 l1 l2 h) := by
  unfold M_touch
  refine j_aload_n d_M_touch_0 0 rfl rfl ?_
  refine j_aload_n d_M_touch_1 0 rfl rfl ?_
  refine j_iload_n d_M_touch_2 1 rfl rfl ?_
  refine j_vI1 d_M_touch_3 (allQ.cons (VD.mk vt_12_187_12 (ct_M_isMethod N l D dA B l0 l1 h) (by decide) (by decide)) allQ.nil) (Nat.le_of_ble_eq_true rfl) (fun x2 h1 => ?_)
  refine j_if_ne (tgt := 13) d_M_touch_6 (by decide) ?_ ?_
  · refine j_iconst (v := 4) d_M_touch_9 (by decide) ?_
    refine j_goto (tgt := 36) d_M_touch_10 (by decide) ?_
    exact jc_M_touch_36 N l0 l1 l2 l0 4 h1
  · refine j_iload_n d_M_touch_13 2 rfl rfl ?_
    refine j_if_lt (tgt := 31) d_M_touch_14 (by decide) ?_ ?_
    · exact jc_M_touch_31 N l0 l1 l2 l0 h1
    · refine j_iload_n d_M_touch_17 2 rfl rfl ?_
      refine j_iconst (v := 2) d_M_touch_18 (by decide) ?_
      refine j_icmp_gt (tgt := 31) d_M_touch_19 (by decide) ?_ ?_
      · exact jc_M_touch_31 N l0 l1 l2 l0 h1
      · refine j_aload_n d_M_touch_22 0 rfl rfl ?_
        refine j_getI d_M_touch_23 fl_12_112.r (fun x3 => ?_)
        refine j_bipush (v := 100) d_M_touch_26 (by decide) ?_
        refine j_icmp_ne (tgt := 35) d_M_touch_28 (by decide) ?_ ?_
        · exact jc_M_touch_31 N l0 l1 l2 l0 h1
        · refine j_iconst (v := 0) d_M_touch_35 (by decide) ?_
          exact jc_M_touch_36 N l0 l1 l2 l0 0 h1
set_option maxRecDepth 20000 in
theorem ct_M_touch (N : Nat) (l : Launch) (D : va_G) (dA : Nat → ClassId) (B : Nat) (l0 : Option Nat) (l1 : Int32) (l2 : Int32) (h : Hp) : Ct l (⟨"RingingChamberModel", "touch", "(II)I"⟩ : MethodName) prog_15_method_55_code 3 (some .int) 1 21 D dA B [vr l0, vi l1, vi l2] h vI (M_touch N l0 l1 l2 h) :=
  Ct.of2 (own := "RingingChamberModel") (nme := "touch") (lv := [(0, vr l0), (1, vi l1), (2, vi l2)]) rfl rfl (by decide) (Nat.le_of_ble_eq_true rfl) rfl (fun p e R s m args below meth c => jc_M_touch N l0 l1 l2 h)
theorem d_M_clear_0 : decode prog_15_method_56_code 0 = .ok (.aload_n 0, 1) := by decide +kernel
theorem d_M_clear_1 : decode prog_15_method_56_code 1 = .ok (.iconst 0, 1) := by decide +kernel
theorem d_M_clear_2 : decode prog_15_method_56_code 2 = .ok (.putfield 112, 3) := by decide +kernel
theorem d_M_clear_5 : decode prog_15_method_56_code 5 = .ok (.aload_n 0, 1) := by decide +kernel
theorem d_M_clear_6 : decode prog_15_method_56_code 6 = .ok (.invokevirtual 130, 3) := by decide +kernel
theorem d_M_clear_9 : decode prog_15_method_56_code 9 = .ok (.iconst 1, 1) := by decide +kernel
theorem d_M_clear_10 : decode prog_15_method_56_code 10 = .ok (.ireturn, 1) := by decide +kernel
set_option maxRecDepth 20000 in
theorem jc_M_clear (N : Nat) (l0 : Option Nat) (h : Hp) : J p l e R s m args below meth c prog_15_method_56_code 1 "RingingChamberModel" 2 43 (some .int) "clear" D dA B n0 s0 (QM below args s D dA B n0 s0 vI) 0 [(0, vr l0)] [] h (M_clear N l0 h) := by
  unfold M_clear
  refine j_aload_n d_M_clear_0 0 rfl rfl ?_
  refine j_iconst (v := 0) d_M_clear_1 (by decide) ?_
  refine j_putI d_M_clear_2 fl_12_112 (Or.inl rfl) (fun h1 => ?_)
  refine j_aload_n d_M_clear_5 0 rfl rfl ?_
  refine j_vU0 d_M_clear_6 (allQ.cons (VD.mk vt_12_130_12 (ct_M_anew N l D dA B l0 h1) (by decide) (by decide)) allQ.nil) (Nat.le_of_ble_eq_true rfl) (fun _ h2 => ?_)
  refine j_iconst (v := 1) d_M_clear_9 (by decide) ?_
  exact j_retI d_M_clear_10
set_option maxRecDepth 20000 in
theorem ct_M_clear (N : Nat) (l : Launch) (D : va_G) (dA : Nat → ClassId) (B : Nat) (l0 : Option Nat) (h : Hp) : Ct l (⟨"RingingChamberModel", "clear", "()I"⟩ : MethodName) prog_15_method_56_code 1 (some .int) 2 43 D dA B [vr l0] h vI (M_clear N l0 h) :=
  Ct.of2 (own := "RingingChamberModel") (nme := "clear") (lv := [(0, vr l0)]) rfl rfl (by decide) (Nat.le_of_ble_eq_true rfl) rfl (fun p e R s m args below meth c => jc_M_clear N l0 h)
theorem d_M_ring_0 : decode prog_15_method_57_code 0 = .ok (.aload_n 0, 1) := by decide +kernel
theorem d_M_ring_1 : decode prog_15_method_57_code 1 = .ok (.invokevirtual 130, 3) := by decide +kernel
theorem d_M_ring_4 : decode prog_15_method_57_code 4 = .ok (.iconst 1, 1) := by decide +kernel
theorem d_M_ring_5 : decode prog_15_method_57_code 5 = .ok (.ireturn, 1) := by decide +kernel
set_option maxRecDepth 20000 in
theorem jc_M_ring (N : Nat) (l0 : Option Nat) (h : Hp) : J p l e R s m args below meth c prog_15_method_57_code 1 "RingingChamberModel" 2 43 (some .int) "ring" D dA B n0 s0 (QM below args s D dA B n0 s0 vI) 0 [(0, vr l0)] [] h (M_ring N l0 h) := by
  unfold M_ring
  refine j_aload_n d_M_ring_0 0 rfl rfl ?_
  refine j_vU0 d_M_ring_1 (allQ.cons (VD.mk vt_12_130_12 (ct_M_anew N l D dA B l0 h) (by decide) (by decide)) allQ.nil) (Nat.le_of_ble_eq_true rfl) (fun _ h1 => ?_)
  refine j_iconst (v := 1) d_M_ring_4 (by decide) ?_
  exact j_retI d_M_ring_5
set_option maxRecDepth 20000 in
theorem ct_M_ring (N : Nat) (l : Launch) (D : va_G) (dA : Nat → ClassId) (B : Nat) (l0 : Option Nat) (h : Hp) : Ct l (⟨"RingingChamberModel", "ring", "()I"⟩ : MethodName) prog_15_method_57_code 1 (some .int) 2 43 D dA B [vr l0] h vI (M_ring N l0 h) :=
  Ct.of2 (own := "RingingChamberModel") (nme := "ring") (lv := [(0, vr l0)]) rfl rfl (by decide) (Nat.le_of_ble_eq_true rfl) rfl (fun p e R s m args below meth c => jc_M_ring N l0 h)
theorem d_M_rings_0 : decode prog_15_method_58_code 0 = .ok (.aload_n 0, 1) := by decide +kernel
theorem d_M_rings_1 : decode prog_15_method_58_code 1 = .ok (.getfield 149, 3) := by decide +kernel
theorem d_M_rings_4 : decode prog_15_method_58_code 4 = .ok (.ifCond .ne 125, 3) := by decide +kernel
theorem d_M_rings_7 : decode prog_15_method_58_code 7 = .ok (.aload_n 0, 1) := by decide +kernel
theorem d_M_rings_8 : decode prog_15_method_58_code 8 = .ok (.getfield 146, 3) := by decide +kernel
theorem d_M_rings_11 : decode prog_15_method_58_code 11 = .ok (.aload_n 0, 1) := by decide +kernel
theorem d_M_rings_12 : decode prog_15_method_58_code 12 = .ok (.getfield 143, 3) := by decide +kernel
theorem d_M_rings_15 : decode prog_15_method_58_code 15 = .ok (.if_icmp .ne 114, 3) := by decide +kernel
theorem d_M_rings_18 : decode prog_15_method_58_code 18 = .ok (.aload_n 0, 1) := by decide +kernel
theorem d_M_rings_19 : decode prog_15_method_58_code 19 = .ok (.getfield 140, 3) := by decide +kernel
theorem d_M_rings_22 : decode prog_15_method_58_code 22 = .ok (.aload_n 0, 1) := by decide +kernel
theorem d_M_rings_23 : decode prog_15_method_58_code 23 = .ok (.getfield 112, 3) := by decide +kernel
theorem d_M_rings_26 : decode prog_15_method_58_code 26 = .ok (.if_icmp .ne 5, 3) := by decide +kernel
theorem d_M_rings_29 : decode prog_15_method_58_code 29 = .ok (.iconst 0, 1) := by decide +kernel
theorem d_M_rings_30 : decode prog_15_method_58_code 30 = .ok (.ireturn, 1) := by decide +kernel
theorem d_M_rings_31 : decode prog_15_method_58_code 31 = .ok (.aload_n 0, 1) := by decide +kernel
theorem d_M_rings_32 : decode prog_15_method_58_code 32 = .ok (.aload_n 0, 1) := by decide +kernel
theorem d_M_rings_33 : decode prog_15_method_58_code 33 = .ok (.getfield 44, 3) := by decide +kernel
theorem d_M_rings_36 : decode prog_15_method_58_code 36 = .ok (.aload_n 0, 1) := by decide +kernel
theorem d_M_rings_37 : decode prog_15_method_58_code 37 = .ok (.getfield 140, 3) := by decide +kernel
theorem d_M_rings_40 : decode prog_15_method_58_code 40 = .ok (.iaload, 1) := by decide +kernel
theorem d_M_rings_41 : decode prog_15_method_58_code 41 = .ok (.aload_n 0, 1) := by decide +kernel
theorem d_M_rings_42 : decode prog_15_method_58_code 42 = .ok (.getfield 140, 3) := by decide +kernel
theorem d_M_rings_45 : decode prog_15_method_58_code 45 = .ok (.aload_n 0, 1) := by decide +kernel
theorem d_M_rings_46 : decode prog_15_method_58_code 46 = .ok (.getfield 47, 3) := by decide +kernel
theorem d_M_rings_49 : decode prog_15_method_58_code 49 = .ok (.aload_n 0, 1) := by decide +kernel
theorem d_M_rings_50 : decode prog_15_method_58_code 50 = .ok (.getfield 140, 3) := by decide +kernel
theorem d_M_rings_53 : decode prog_15_method_58_code 53 = .ok (.iaload, 1) := by decide +kernel
theorem d_M_rings_54 : decode prog_15_method_58_code 54 = .ok (.invokevirtual 255, 3) := by decide +kernel
theorem d_M_rings_57 : decode prog_15_method_58_code 57 = .ok (.ifCond .ne 18, 3) := by decide +kernel
theorem d_M_rings_60 : decode prog_15_method_58_code 60 = .ok (.aload_n 0, 1) := by decide +kernel
theorem d_M_rings_61 : decode prog_15_method_58_code 61 = .ok (.aload_n 0, 1) := by decide +kernel
theorem d_M_rings_62 : decode prog_15_method_58_code 62 = .ok (.getfield 203, 3) := by decide +kernel
theorem d_M_rings_65 : decode prog_15_method_58_code 65 = .ok (.putfield 165, 3) := by decide +kernel
theorem d_M_rings_68 : decode prog_15_method_58_code 68 = .ok (.aload_n 0, 1) := by decide +kernel
theorem d_M_rings_69 : decode prog_15_method_58_code 69 = .ok (.iconst 1, 1) := by decide +kernel
theorem d_M_rings_70 : decode prog_15_method_58_code 70 = .ok (.putfield 149, 3) := by decide +kernel
theorem d_M_rings_73 : decode prog_15_method_58_code 73 = .ok (.iconst 0, 1) := by decide +kernel
theorem d_M_rings_74 : decode prog_15_method_58_code 74 = .ok (.ireturn, 1) := by decide +kernel
theorem d_M_rings_75 : decode prog_15_method_58_code 75 = .ok (.iconst 0, 1) := by decide +kernel
theorem d_M_rings_76 : decode prog_15_method_58_code 76 = .ok (.istore_n 1, 1) := by decide +kernel
theorem d_M_rings_77 : decode prog_15_method_58_code 77 = .ok (.iload_n 1, 1) := by decide +kernel
theorem d_M_rings_78 : decode prog_15_method_58_code 78 = .ok (.aload_n 0, 1) := by decide +kernel
theorem d_M_rings_79 : decode prog_15_method_58_code 79 = .ok (.getfield 217, 3) := by decide +kernel
theorem d_M_rings_82 : decode prog_15_method_58_code 82 = .ok (.if_icmp .ge 21, 3) := by decide +kernel
theorem d_M_rings_85 : decode prog_15_method_58_code 85 = .ok (.aload_n 0, 1) := by decide +kernel
theorem d_M_rings_86 : decode prog_15_method_58_code 86 = .ok (.getfield 54, 3) := by decide +kernel
theorem d_M_rings_89 : decode prog_15_method_58_code 89 = .ok (.iload_n 1, 1) := by decide +kernel
theorem d_M_rings_90 : decode prog_15_method_58_code 90 = .ok (.aload_n 0, 1) := by decide +kernel
theorem d_M_rings_91 : decode prog_15_method_58_code 91 = .ok (.getfield 37, 3) := by decide +kernel
theorem d_M_rings_94 : decode prog_15_method_58_code 94 = .ok (.iload_n 1, 1) := by decide +kernel
theorem d_M_rings_95 : decode prog_15_method_58_code 95 = .ok (.iaload, 1) := by decide +kernel
theorem d_M_rings_96 : decode prog_15_method_58_code 96 = .ok (.iastore, 1) := by decide +kernel
theorem d_M_rings_97 : decode prog_15_method_58_code 97 = .ok (.iinc 1 1, 3) := by decide +kernel
theorem d_M_rings_100 : decode prog_15_method_58_code 100 = .ok (.goto (-23), 3) := by decide +kernel
theorem d_M_rings_103 : decode prog_15_method_58_code 103 = .ok (.aload_n 0, 1) := by decide +kernel
theorem d_M_rings_104 : decode prog_15_method_58_code 104 = .ok (.aload_n 0, 1) := by decide +kernel
theorem d_M_rings_105 : decode prog_15_method_58_code 105 = .ok (.getfield 217, 3) := by decide +kernel
theorem d_M_rings_108 : decode prog_15_method_58_code 108 = .ok (.putfield 143, 3) := by decide +kernel
theorem d_M_rings_111 : decode prog_15_method_58_code 111 = .ok (.aload_n 0, 1) := by decide +kernel
theorem d_M_rings_112 : decode prog_15_method_58_code 112 = .ok (.iconst 0, 1) := by decide +kernel
theorem d_M_rings_113 : decode prog_15_method_58_code 113 = .ok (.putfield 146, 3) := by decide +kernel
theorem d_M_rings_116 : decode prog_15_method_58_code 116 = .ok (.aload_n 0, 1) := by decide +kernel
theorem d_M_rings_117 : decode prog_15_method_58_code 117 = .ok (.dup, 1) := by decide +kernel
theorem d_M_rings_118 : decode prog_15_method_58_code 118 = .ok (.getfield 140, 3) := by decide +kernel
theorem d_M_rings_121 : decode prog_15_method_58_code 121 = .ok (.iconst 1, 1) := by decide +kernel
theorem d_M_rings_122 : decode prog_15_method_58_code 122 = .ok (.iadd, 1) := by decide +kernel
theorem d_M_rings_123 : decode prog_15_method_58_code 123 = .ok (.putfield 140, 3) := by decide +kernel
theorem d_M_rings_126 : decode prog_15_method_58_code 126 = .ok (.goto (-126), 3) := by decide +kernel
theorem d_M_rings_129 : decode prog_15_method_58_code 129 = .ok (.aload_n 0, 1) := by decide +kernel
theorem d_M_rings_130 : decode prog_15_method_58_code 130 = .ok (.getfield 149, 3) := by decide +kernel
theorem d_M_rings_133 : decode prog_15_method_58_code 133 = .ok (.ifCond .eq 5, 3) := by decide +kernel
theorem d_M_rings_136 : decode prog_15_method_58_code 136 = .ok (.iconst 0, 1) := by decide +kernel
theorem d_M_rings_137 : decode prog_15_method_58_code 137 = .ok (.ireturn, 1) := by decide +kernel
theorem d_M_rings_138 : decode prog_15_method_58_code 138 = .ok (.aload_n 0, 1) := by decide +kernel
theorem d_M_rings_139 : decode prog_15_method_58_code 139 = .ok (.getfield 50, 3) := by decide +kernel
theorem d_M_rings_142 : decode prog_15_method_58_code 142 = .ok (.aload_n 0, 1) := by decide +kernel
theorem d_M_rings_143 : decode prog_15_method_58_code 143 = .ok (.getfield 137, 3) := by decide +kernel
theorem d_M_rings_146 : decode prog_15_method_58_code 146 = .ok (.aload_n 0, 1) := by decide +kernel
theorem d_M_rings_147 : decode prog_15_method_58_code 147 = .ok (.getfield 50, 3) := by decide +kernel
theorem d_M_rings_150 : decode prog_15_method_58_code 150 = .ok (.aload_n 0, 1) := by decide +kernel
theorem d_M_rings_151 : decode prog_15_method_58_code 151 = .ok (.getfield 137, 3) := by decide +kernel
theorem d_M_rings_154 : decode prog_15_method_58_code 154 = .ok (.iconst 1, 1) := by decide +kernel
theorem d_M_rings_155 : decode prog_15_method_58_code 155 = .ok (.isub, 1) := by decide +kernel
theorem d_M_rings_156 : decode prog_15_method_58_code 156 = .ok (.laload, 1) := by decide +kernel
theorem d_M_rings_157 : decode prog_15_method_58_code 157 = .ok (.aload_n 0, 1) := by decide +kernel
theorem d_M_rings_158 : decode prog_15_method_58_code 158 = .ok (.getfield 54, 3) := by decide +kernel
theorem d_M_rings_161 : decode prog_15_method_58_code 161 = .ok (.aload_n 0, 1) := by decide +kernel
theorem d_M_rings_162 : decode prog_15_method_58_code 162 = .ok (.getfield 146, 3) := by decide +kernel
theorem d_M_rings_165 : decode prog_15_method_58_code 165 = .ok (.iaload, 1) := by decide +kernel
theorem d_M_rings_166 : decode prog_15_method_58_code 166 = .ok (.invokestatic 224, 3) := by decide +kernel
theorem d_M_rings_169 : decode prog_15_method_58_code 169 = .ok (.lastore, 1) := by decide +kernel
theorem d_M_rings_170 : decode prog_15_method_58_code 170 = .ok (.aload_n 0, 1) := by decide +kernel
theorem d_M_rings_171 : decode prog_15_method_58_code 171 = .ok (.dup, 1) := by decide +kernel
theorem d_M_rings_172 : decode prog_15_method_58_code 172 = .ok (.getfield 146, 3) := by decide +kernel
theorem d_M_rings_175 : decode prog_15_method_58_code 175 = .ok (.iconst 1, 1) := by decide +kernel
theorem d_M_rings_176 : decode prog_15_method_58_code 176 = .ok (.iadd, 1) := by decide +kernel
theorem d_M_rings_177 : decode prog_15_method_58_code 177 = .ok (.putfield 146, 3) := by decide +kernel
theorem d_M_rings_180 : decode prog_15_method_58_code 180 = .ok (.aload_n 0, 1) := by decide +kernel
theorem d_M_rings_181 : decode prog_15_method_58_code 181 = .ok (.getfield 50, 3) := by decide +kernel
theorem d_M_rings_184 : decode prog_15_method_58_code 184 = .ok (.aload_n 0, 1) := by decide +kernel
theorem d_M_rings_185 : decode prog_15_method_58_code 185 = .ok (.getfield 137, 3) := by decide +kernel
theorem d_M_rings_188 : decode prog_15_method_58_code 188 = .ok (.laload, 1) := by decide +kernel
theorem d_M_rings_189 : decode prog_15_method_58_code 189 = .ok (.aload_n 0, 1) := by decide +kernel
theorem d_M_rings_190 : decode prog_15_method_58_code 190 = .ok (.invokevirtual 133, 3) := by decide +kernel
theorem d_M_rings_193 : decode prog_15_method_58_code 193 = .ok (.lcmp, 1) := by decide +kernel
theorem d_M_rings_194 : decode prog_15_method_58_code 194 = .ok (.ifCond .ne 11, 3) := by decide +kernel
theorem d_M_rings_197 : decode prog_15_method_58_code 197 = .ok (.aload_n 0, 1) := by decide +kernel
theorem d_M_rings_198 : decode prog_15_method_58_code 198 = .ok (.aload_n 0, 1) := by decide +kernel
theorem d_M_rings_199 : decode prog_15_method_58_code 199 = .ok (.getfield 137, 3) := by decide +kernel
theorem d_M_rings_202 : decode prog_15_method_58_code 202 = .ok (.putfield 152, 3) := by decide +kernel
theorem d_M_rings_205 : decode prog_15_method_58_code 205 = .ok (.aload_n 0, 1) := by decide +kernel
theorem d_M_rings_206 : decode prog_15_method_58_code 206 = .ok (.aload_n 0, 1) := by decide +kernel
theorem d_M_rings_207 : decode prog_15_method_58_code 207 = .ok (.getfield 152, 3) := by decide +kernel
theorem d_M_rings_210 : decode prog_15_method_58_code 210 = .ok (.ifCond .ge 13, 3) := by decide +kernel
theorem d_M_rings_213 : decode prog_15_method_58_code 213 = .ok (.aload_n 0, 1) := by decide +kernel
theorem d_M_rings_214 : decode prog_15_method_58_code 214 = .ok (.getfield 137, 3) := by decide +kernel
theorem d_M_rings_217 : decode prog_15_method_58_code 217 = .ok (.sipush 2000, 3) := by decide +kernel
theorem d_M_rings_220 : decode prog_15_method_58_code 220 = .ok (.if_icmp .ne 7, 3) := by decide +kernel
theorem d_M_rings_223 : decode prog_15_method_58_code 223 = .ok (.iconst 1, 1) := by decide +kernel
theorem d_M_rings_224 : decode prog_15_method_58_code 224 = .ok (.goto 4, 3) := by decide +kernel
theorem d_M_rings_227 : decode prog_15_method_58_code 227 = .ok (.iconst 0, 1) := by decide +kernel
theorem d_M_rings_228 : decode prog_15_method_58_code 228 = .ok (.putfield 149, 3) := by decide +kernel
theorem d_M_rings_231 : decode prog_15_method_58_code 231 = .ok (.aload_n 0, 1) := by decide +kernel
theorem d_M_rings_232 : decode prog_15_method_58_code 232 = .ok (.dup, 1) := by decide +kernel
theorem d_M_rings_233 : decode prog_15_method_58_code 233 = .ok (.getfield 137, 3) := by decide +kernel
theorem d_M_rings_236 : decode prog_15_method_58_code 236 = .ok (.iconst 1, 1) := by decide +kernel
theorem d_M_rings_237 : decode prog_15_method_58_code 237 = .ok (.iadd, 1) := by decide +kernel
theorem d_M_rings_238 : decode prog_15_method_58_code 238 = .ok (.putfield 137, 3) := by decide +kernel
theorem d_M_rings_241 : decode prog_15_method_58_code 241 = .ok (.iconst 1, 1) := by decide +kernel
theorem d_M_rings_242 : decode prog_15_method_58_code 242 = .ok (.ireturn, 1) := by decide +kernel
set_option maxRecDepth 20000 in
theorem jc_M_rings_228 (N : Nat) (l0 : Option Nat) (u0 : Option Nat) (u1 : Int32) (h : Hp) : J p l e R s m args below meth c prog_15_method_58_code 2 "RingingChamberModel" 3 72 (some .boolean) "rings" D dA B n0 s0 (QM below args s D dA B n0 s0 vI) 228 [(0, vr l0)] [vi u1, vr u0] h (M_rings_228 N l0 u0 u1 h) := by
  unfold M_rings_228
  refine j_putZ d_M_rings_228 fl_12_149 (Or.inl rfl) (fun h1 => ?_)
  refine j_aload_n d_M_rings_231 0 rfl rfl ?_
  refine j_dup d_M_rings_232 rfl ?_
  refine j_getI d_M_rings_233 fl_12_137.r (fun x2 => ?_)
  refine j_iconst (v := 1) d_M_rings_236 (by decide) ?_
  refine j_iadd d_M_rings_237 ?_
  refine j_putI d_M_rings_238 fl_12_137 (Or.inl rfl) (fun h3 => ?_)
  refine j_iconst (v := 1) d_M_rings_241 (by decide) ?_
  exact j_retZ d_M_rings_242
set_option maxRecDepth 20000 in
theorem jc_M_rings_223 (N : Nat) (l0 : Option Nat) (u0 : Option Nat) (h : Hp) : J p l e R s m args below meth c prog_15_method_58_code 2 "RingingChamberModel" 3 72 (some .boolean) "rings" D dA B n0 s0 (QM below args s D dA B n0 s0 vI) 223 [(0, vr l0)] [vr u0] h (M_rings_223 N l0 u0 h) := by
  unfold M_rings_223
  refine j_iconst (v := 1) d_M_rings_223 (by decide) ?_
  refine j_goto (tgt := 228) d_M_rings_224 (by decide) ?_
  exact jc_M_rings_228 N l0 u0 1 h
set_option maxRecDepth 20000 in
theorem jc_M_rings_205 (N : Nat) (l0 : Option Nat) (h : Hp) : J p l e R s m args below meth c prog_15_method_58_code 2 "RingingChamberModel" 3 72 (some .boolean) "rings" D dA B n0 s0 (QM below args s D dA B n0 s0 vI) 205 [(0, vr l0)] [] h (M_rings_205 N l0 h) := by
  unfold M_rings_205
  refine j_aload_n d_M_rings_205 0 rfl rfl ?_
  refine j_aload_n d_M_rings_206 0 rfl rfl ?_
  refine j_getI d_M_rings_207 fl_12_152.r (fun x1 => ?_)
  refine j_if_ge (tgt := 223) d_M_rings_210 (by decide) ?_ ?_
  · exact jc_M_rings_223 N l0 l0 h
  · refine j_aload_n d_M_rings_213 0 rfl rfl ?_
    refine j_getI d_M_rings_214 fl_12_137.r (fun x2 => ?_)
    refine j_sipush (v := 2000) d_M_rings_217 (by decide) ?_
    refine j_icmp_ne (tgt := 227) d_M_rings_220 (by decide) ?_ ?_
    · exact jc_M_rings_223 N l0 l0 h
    · refine j_iconst (v := 0) d_M_rings_227 (by decide) ?_
      exact jc_M_rings_228 N l0 l0 0 h
set_option maxRecDepth 20000 in
theorem jc_M_rings_129 (N : Nat) (l0 : Option Nat) (h : Hp) : J p l e R s m args below meth c prog_15_method_58_code 2 "RingingChamberModel" 3 72 (some .boolean) "rings" D dA B n0 s0 (QM below args s D dA B n0 s0 vI) 129 [(0, vr l0)] [] h (M_rings_129 N l0 h) := by
  unfold M_rings_129
  refine j_aload_n d_M_rings_129 0 rfl rfl ?_
  refine j_getI d_M_rings_130 fl_12_149.r (fun x1 => ?_)
  refine j_if_eq (tgt := 138) d_M_rings_133 (by decide) ?_ ?_
  · refine j_aload_n d_M_rings_138 0 rfl rfl ?_
    refine j_getR d_M_rings_139 fl_12_50.r (fun x2 => ?_)
    refine j_aload_n d_M_rings_142 0 rfl rfl ?_
    refine j_getI d_M_rings_143 fl_12_137.r (fun x3 => ?_)
    refine j_aload_n d_M_rings_146 0 rfl rfl ?_
    refine j_getR d_M_rings_147 fl_12_50.r (fun x4 => ?_)
    refine j_aload_n d_M_rings_150 0 rfl rfl ?_
    refine j_getI d_M_rings_151 fl_12_137.r (fun x5 => ?_)
    refine j_iconst (v := 1) d_M_rings_154 (by decide) ?_
    refine j_isub d_M_rings_155 ?_
    refine j_lald d_M_rings_156 (fun x6 => ?_)
    refine j_aload_n d_M_rings_157 0 rfl rfl ?_
    refine j_getR d_M_rings_158 fl_12_54.r (fun x7 => ?_)
    refine j_aload_n d_M_rings_161 0 rfl rfl ?_
    refine j_getI d_M_rings_162 fl_12_146.r (fun x8 => ?_)
    refine j_iald d_M_rings_165 (fun x9 => ?_)
    refine j_cSL2 d_M_rings_166 sl_12_224 ks_M_done (ct_M_done N l D dA B x6 x9 h) (by decide) (by decide) (Nat.le_of_ble_eq_true rfl) (fun x11 h10 => ?_)
    refine j_last d_M_rings_169 (fun h12 => ?_)
    refine j_aload_n d_M_rings_170 0 rfl rfl ?_
    refine j_dup d_M_rings_171 rfl ?_
    refine j_getI d_M_rings_172 fl_12_146.r (fun x13 => ?_)
    refine j_iconst (v := 1) d_M_rings_175 (by decide) ?_
    refine j_iadd d_M_rings_176 ?_
    refine j_putI d_M_rings_177 fl_12_146 (Or.inl rfl) (fun h14 => ?_)
    refine j_aload_n d_M_rings_180 0 rfl rfl ?_
    refine j_getR d_M_rings_181 fl_12_50.r (fun x15 => ?_)
    refine j_aload_n d_M_rings_184 0 rfl rfl ?_
    refine j_getI d_M_rings_185 fl_12_137.r (fun x16 => ?_)
    refine j_lald d_M_rings_188 (fun x17 => ?_)
    refine j_aload_n d_M_rings_189 0 rfl rfl ?_
    refine j_vL0 d_M_rings_190 (allQ.cons (VD.mk vt_12_133_12 (ct_M_rounds N l D dA B l0 h14) (by decide) (by decide)) allQ.nil) (Nat.le_of_ble_eq_true rfl) (fun x19 h18 => ?_)
    refine j_lcmp d_M_rings_193 ?_
    refine j_if_ne (tgt := 205) d_M_rings_194 (by decide) ?_ ?_
    · refine j_aload_n d_M_rings_197 0 rfl rfl ?_
      refine j_aload_n d_M_rings_198 0 rfl rfl ?_
      refine j_getI d_M_rings_199 fl_12_137.r (fun x20 => ?_)
      refine j_putI d_M_rings_202 fl_12_152 (Or.inl rfl) (fun h21 => ?_)
      exact jc_M_rings_205 N l0 h21
    · exact jc_M_rings_205 N l0 h18
  · refine j_iconst (v := 0) d_M_rings_136 (by decide) ?_
    exact j_retZ d_M_rings_137
set_option maxRecDepth 20000 in
theorem jc_M_rings_77 (N : Nat) (re0 : Option Nat → Hp → Option (Int32 × Hp)) (hre0 : ∀ y0 h, J p l e R s m args below meth c prog_15_method_58_code 2 "RingingChamberModel" 3 72 (some .boolean) "rings" D dA B n0 s0 (QM below args s D dA B n0 s0 vI) 0 [(0, vr y0)] [] h (re0 y0 h)) : ∀ (n : Nat) (l0 : Option Nat) (l1 : Int32) (h : Hp), J p l e R s m args below meth c prog_15_method_58_code 2 "RingingChamberModel" 3 72 (some .boolean) "rings" D dA B n0 s0 (QM below args s D dA B n0 s0 vI) 77 [(0, vr l0), (1, vi l1)] [] h (M_rings_77 N re0 n l0 l1 h) := by
  intro n
  induction n with
  | zero => intros; exact J.none
  | succ n ih =>
    intro l0 l1 h
    rw [M_rings_77]
    refine j_iload_n d_M_rings_77 1 rfl rfl ?_
    refine j_aload_n d_M_rings_78 0 rfl rfl ?_
    refine j_getI d_M_rings_79 fl_12_217.r (fun x1 => ?_)
    refine j_icmp_ge (tgt := 103) d_M_rings_82 (by decide) ?_ ?_
    · refine j_aload_n d_M_rings_103 0 rfl rfl ?_
      refine j_aload_n d_M_rings_104 0 rfl rfl ?_
      refine j_getI d_M_rings_105 fl_12_217.r (fun x2 => ?_)
      refine j_putI d_M_rings_108 fl_12_143 (Or.inl rfl) (fun h3 => ?_)
      refine j_aload_n d_M_rings_111 0 rfl rfl ?_
      refine j_iconst (v := 0) d_M_rings_112 (by decide) ?_
      refine j_putI d_M_rings_113 fl_12_146 (Or.inl rfl) (fun h4 => ?_)
      refine j_aload_n d_M_rings_116 0 rfl rfl ?_
      refine j_dup d_M_rings_117 rfl ?_
      refine j_getI d_M_rings_118 fl_12_140.r (fun x5 => ?_)
      refine j_iconst (v := 1) d_M_rings_121 (by decide) ?_
      refine j_iadd d_M_rings_122 ?_
      refine j_putI d_M_rings_123 fl_12_140 (Or.inl rfl) (fun h6 => ?_)
      refine j_goto (tgt := 0) d_M_rings_126 (by decide) ?_
      exact J.sub [0] rfl (hre0 l0 h6)
    · refine j_aload_n d_M_rings_85 0 rfl rfl ?_
      refine j_getR d_M_rings_86 fl_12_54.r (fun x7 => ?_)
      refine j_iload_n d_M_rings_89 1 rfl rfl ?_
      refine j_aload_n d_M_rings_90 0 rfl rfl ?_
      refine j_getR d_M_rings_91 fl_12_37.r (fun x8 => ?_)
      refine j_iload_n d_M_rings_94 1 rfl rfl ?_
      refine j_iald d_M_rings_95 (fun x9 => ?_)
      refine j_iast d_M_rings_96 (fun h10 => ?_)
      refine j_iinc (lvv := fun x11 => [(1, vi x11), (0, vr l0)]) d_M_rings_97 1 rfl rfl (by decide) (fun _ => rfl) (fun x11 => ?_)
      refine j_goto (tgt := 77) d_M_rings_100 (by decide) ?_
      exact J.sub [1, 0] rfl (ih l0 x11 h10)
set_option maxRecDepth 20000 in
theorem jc_M_rings_0 (N : Nat) : ∀ (n : Nat) (l0 : Option Nat) (h : Hp), J p l e R s m args below meth c prog_15_method_58_code 2 "RingingChamberModel" 3 72 (some .boolean) "rings" D dA B n0 s0 (QM below args s D dA B n0 s0 vI) 0 [(0, vr l0)] [] h (M_rings_0 N n l0 h) := by
  intro n
  induction n with
  | zero => intros; exact J.none
  | succ n ih =>
    intro l0 h
    rw [M_rings_0]
    refine j_aload_n d_M_rings_0 0 rfl rfl ?_
    refine j_getI d_M_rings_1 fl_12_149.r (fun x1 => ?_)
    refine j_if_ne (tgt := 129) d_M_rings_4 (by decide) ?_ ?_
    · refine j_aload_n d_M_rings_7 0 rfl rfl ?_
      refine j_getI d_M_rings_8 fl_12_146.r (fun x2 => ?_)
      refine j_aload_n d_M_rings_11 0 rfl rfl ?_
      refine j_getI d_M_rings_12 fl_12_143.r (fun x3 => ?_)
      refine j_icmp_ne (tgt := 129) d_M_rings_15 (by decide) ?_ ?_
      · refine j_aload_n d_M_rings_18 0 rfl rfl ?_
        refine j_getI d_M_rings_19 fl_12_140.r (fun x4 => ?_)
        refine j_aload_n d_M_rings_22 0 rfl rfl ?_
        refine j_getI d_M_rings_23 fl_12_112.r (fun x5 => ?_)
        refine j_icmp_ne (tgt := 31) d_M_rings_26 (by decide) ?_ ?_
        · refine j_iconst (v := 0) d_M_rings_29 (by decide) ?_
          exact j_retZ d_M_rings_30
        · refine j_aload_n d_M_rings_31 0 rfl rfl ?_
          refine j_aload_n d_M_rings_32 0 rfl rfl ?_
          refine j_getR d_M_rings_33 fl_12_44.r (fun x6 => ?_)
          refine j_aload_n d_M_rings_36 0 rfl rfl ?_
          refine j_getI d_M_rings_37 fl_12_140.r (fun x7 => ?_)
          refine j_iald d_M_rings_40 (fun x8 => ?_)
          refine j_aload_n d_M_rings_41 0 rfl rfl ?_
          refine j_getI d_M_rings_42 fl_12_140.r (fun x9 => ?_)
          refine j_aload_n d_M_rings_45 0 rfl rfl ?_
          refine j_getR d_M_rings_46 fl_12_47.r (fun x10 => ?_)
          refine j_aload_n d_M_rings_49 0 rfl rfl ?_
          refine j_getI d_M_rings_50 fl_12_140.r (fun x11 => ?_)
          refine j_iald d_M_rings_53 (fun x12 => ?_)
          refine j_vI3 d_M_rings_54 (allQ.cons (VD.mk vt_12_255_12 (ct_M_calledOf N l D dA B l0 x8 x9 x12 h) (by decide) (by decide)) allQ.nil) (Nat.le_of_ble_eq_true rfl) (fun x14 h13 => ?_)
          refine j_if_ne (tgt := 75) d_M_rings_57 (by decide) ?_ ?_
          · refine j_aload_n d_M_rings_60 0 rfl rfl ?_
            refine j_aload_n d_M_rings_61 0 rfl rfl ?_
            refine j_getI d_M_rings_62 fl_12_203.r (fun x15 => ?_)
            refine j_putI d_M_rings_65 fl_12_165 (Or.inl rfl) (fun h16 => ?_)
            refine j_aload_n d_M_rings_68 0 rfl rfl ?_
            refine j_iconst (v := 1) d_M_rings_69 (by decide) ?_
            refine j_putZ d_M_rings_70 fl_12_149 (Or.inl rfl) (fun h17 => ?_)
            refine j_iconst (v := 0) d_M_rings_73 (by decide) ?_
            exact j_retZ d_M_rings_74
          · refine j_iconst (v := 0) d_M_rings_75 (by decide) ?_
            refine j_istore_n (lv' := [(1, vi 0), (0, vr l0)]) d_M_rings_76 rfl (by decide) rfl ?_
            exact J.sub [1, 0] rfl (jc_M_rings_77 N (M_rings_0 N n) ih N l0 0 h13)
      · exact jc_M_rings_129 N l0 h
    · exact jc_M_rings_129 N l0 h
set_option maxRecDepth 20000 in
theorem jc_M_rings (N : Nat) (l0 : Option Nat) (h : Hp) : J p l e R s m args below meth c prog_15_method_58_code 2 "RingingChamberModel" 3 72 (some .boolean) "rings" D dA B n0 s0 (QM below args s D dA B n0 s0 vI) 0 [(0, vr l0)] [] h (M_rings N l0 h) := by
  unfold M_rings
  exact jc_M_rings_0 N N l0 h
set_option maxRecDepth 20000 in
theorem ct_M_rings (N : Nat) (l : Launch) (D : va_G) (dA : Nat → ClassId) (B : Nat) (l0 : Option Nat) (h : Hp) : Ct l (⟨"RingingChamberModel", "rings", "()Z"⟩ : MethodName) prog_15_method_58_code 2 (some .boolean) 3 72 D dA B [vr l0] h vI (M_rings N l0 h) :=
  Ct.of2 (own := "RingingChamberModel") (nme := "rings") (lv := [(0, vr l0)]) rfl rfl (by decide) (Nat.le_of_ble_eq_true rfl) rfl (fun p e R s m args below meth c => jc_M_rings N l0 h)
theorem d_M_on_0 : decode prog_15_method_59_code 0 = .ok (.aload_n 0, 1) := by decide +kernel
theorem d_M_on_1 : decode prog_15_method_59_code 1 = .ok (.iload_n 1, 1) := by decide +kernel
theorem d_M_on_2 : decode prog_15_method_59_code 2 = .ok (.ifCond .lt 10, 3) := by decide +kernel
theorem d_M_on_5 : decode prog_15_method_59_code 5 = .ok (.iload_n 1, 1) := by decide +kernel
theorem d_M_on_6 : decode prog_15_method_59_code 6 = .ok (.sipush 1000, 3) := by decide +kernel
theorem d_M_on_9 : decode prog_15_method_59_code 9 = .ok (.if_icmp .le 7, 3) := by decide +kernel
theorem d_M_on_12 : decode prog_15_method_59_code 12 = .ok (.iconst 2, 1) := by decide +kernel
theorem d_M_on_13 : decode prog_15_method_59_code 13 = .ok (.goto 4, 3) := by decide +kernel
theorem d_M_on_16 : decode prog_15_method_59_code 16 = .ok (.iconst 0, 1) := by decide +kernel
theorem d_M_on_17 : decode prog_15_method_59_code 17 = .ok (.invokevirtual 191, 3) := by decide +kernel
theorem d_M_on_20 : decode prog_15_method_59_code 20 = .ok (.ifCond .ne 23, 3) := by decide +kernel
theorem d_M_on_23 : decode prog_15_method_59_code 23 = .ok (.iconst 0, 1) := by decide +kernel
theorem d_M_on_24 : decode prog_15_method_59_code 24 = .ok (.istore_n 2, 1) := by decide +kernel
theorem d_M_on_25 : decode prog_15_method_59_code 25 = .ok (.iload_n 2, 1) := by decide +kernel
theorem d_M_on_26 : decode prog_15_method_59_code 26 = .ok (.iload_n 1, 1) := by decide +kernel
theorem d_M_on_27 : decode prog_15_method_59_code 27 = .ok (.if_icmp .ge 16, 3) := by decide +kernel
theorem d_M_on_30 : decode prog_15_method_59_code 30 = .ok (.aload_n 0, 1) := by decide +kernel
theorem d_M_on_31 : decode prog_15_method_59_code 31 = .ok (.invokevirtual 277, 3) := by decide +kernel
theorem d_M_on_34 : decode prog_15_method_59_code 34 = .ok (.ifCond .eq 9, 3) := by decide +kernel
theorem d_M_on_37 : decode prog_15_method_59_code 37 = .ok (.iinc 2 1, 3) := by decide +kernel
theorem d_M_on_40 : decode prog_15_method_59_code 40 = .ok (.goto (-15), 3) := by decide +kernel
theorem d_M_on_43 : decode prog_15_method_59_code 43 = .ok (.aload_n 0, 1) := by decide +kernel
theorem d_M_on_44 : decode prog_15_method_59_code 44 = .ok (.getfield 137, 3) := by decide +kernel
theorem d_M_on_47 : decode prog_15_method_59_code 47 = .ok (.iconst 1, 1) := by decide +kernel
theorem d_M_on_48 : decode prog_15_method_59_code 48 = .ok (.isub, 1) := by decide +kernel
theorem d_M_on_49 : decode prog_15_method_59_code 49 = .ok (.ireturn, 1) := by decide +kernel
set_option maxRecDepth 20000 in
theorem jc_M_on_43 (N : Nat) (l0 : Option Nat) (h : Hp) : J p l e R s m args below meth c prog_15_method_59_code 3 "RingingChamberModel" 4 93 (some .int) "on" D dA B n0 s0 (QM below args s D dA B n0 s0 vI) 43 [(0, vr l0)] [] h (M_on_43 N l0 h) := by
  unfold M_on_43
  refine j_aload_n d_M_on_43 0 rfl rfl ?_
  refine j_getI d_M_on_44 fl_12_137.r (fun x1 => ?_)
  refine j_iconst (v := 1) d_M_on_47 (by decide) ?_
  refine j_isub d_M_on_48 ?_
  exact j_retI d_M_on_49
set_option maxRecDepth 20000 in
theorem jc_M_on_25 (N : Nat) : ∀ (n : Nat) (l0 : Option Nat) (l1 : Int32) (l2 : Int32) (h : Hp), J p l e R s m args below meth c prog_15_method_59_code 3 "RingingChamberModel" 4 93 (some .int) "on" D dA B n0 s0 (QM below args s D dA B n0 s0 vI) 25 [(0, vr l0), (1, vi l1), (2, vi l2)] [] h (M_on_25 N n l0 l1 l2 h) := by
  intro n
  induction n with
  | zero => intros; exact J.none
  | succ n ih =>
    intro l0 l1 l2 h
    rw [M_on_25]
    refine j_iload_n d_M_on_25 2 rfl rfl ?_
    refine j_iload_n d_M_on_26 1 rfl rfl ?_
    refine j_icmp_ge (tgt := 43) d_M_on_27 (by decide) ?_ ?_
    · exact J.sub [0] rfl (jc_M_on_43 N l0 h)
    · refine j_aload_n d_M_on_30 0 rfl rfl ?_
      refine j_vI0 d_M_on_31 (allQ.cons (VD.mk vt_12_277_12 (ct_M_rings N l D dA B l0 h) (by decide) (by decide)) allQ.nil) (Nat.le_of_ble_eq_true rfl) (fun x2 h1 => ?_)
      refine j_if_eq (tgt := 43) d_M_on_34 (by decide) ?_ ?_
      · exact J.sub [0] rfl (jc_M_on_43 N l0 h1)
      · refine j_iinc (lvv := fun x3 => [(2, vi x3), (0, vr l0), (1, vi l1)]) d_M_on_37 2 rfl rfl (by decide) (fun _ => rfl) (fun x3 => ?_)
        refine j_goto (tgt := 25) d_M_on_40 (by decide) ?_
        exact J.sub [1, 2, 0] rfl (ih l0 l1 x3 h1)
set_option maxRecDepth 20000 in
theorem jc_M_on_17 (N : Nat) (l0 : Option Nat) (l1 : Int32) (u0 : Option Nat) (u1 : Int32) (h : Hp) : J p l e R s m args below meth c prog_15_method_59_code 3 "RingingChamberModel" 4 93 (some .int) "on" D dA B n0 s0 (QM below args s D dA B n0 s0 vI) 17 [(0, vr l0), (1, vi l1)] [vi u1, vr u0] h (M_on_17 N l0 l1 u0 u1 h) := by
  unfold M_on_17
  refine j_vI1 d_M_on_17 (allQ.cons (VD.mk vt_12_191_12 (ct_M_finds N l D dA B u0 u1 h) (by decide) (by decide)) allQ.nil) (Nat.le_of_ble_eq_true rfl) (fun x2 h1 => ?_)
  refine j_if_ne (tgt := 43) d_M_on_20 (by decide) ?_ ?_
  · refine j_iconst (v := 0) d_M_on_23 (by decide) ?_
    refine j_istore_n (lv' := [(2, vi 0), (0, vr l0), (1, vi l1)]) d_M_on_24 rfl (by decide) rfl ?_
    exact J.sub [1, 2, 0] rfl (jc_M_on_25 N N l0 l1 0 h1)
  · exact J.sub [0] rfl (jc_M_on_43 N l0 h1)
set_option maxRecDepth 20000 in
theorem jc_M_on_12 (N : Nat) (l0 : Option Nat) (l1 : Int32) (u0 : Option Nat) (h : Hp) : J p l e R s m args below meth c prog_15_method_59_code 3 "RingingChamberModel" 4 93 (some .int) "on" D dA B n0 s0 (QM below args s D dA B n0 s0 vI) 12 [(0, vr l0), (1, vi l1)] [vr u0] h (M_on_12 N l0 l1 u0 h) := by
  unfold M_on_12
  refine j_iconst (v := 2) d_M_on_12 (by decide) ?_
  refine j_goto (tgt := 17) d_M_on_13 (by decide) ?_
  exact jc_M_on_17 N l0 l1 u0 2 h
set_option maxRecDepth 20000 in
theorem jc_M_on (N : Nat) (l0 : Option Nat) (l1 : Int32) (h : Hp) : J p l e R s m args below meth c prog_15_method_59_code 3 "RingingChamberModel" 4 93 (some .int) "on" D dA B n0 s0 (QM below args s D dA B n0 s0 vI) 0 [(0, vr l0), (1, vi l1)] [] h (M_on N l0 l1 h) := by
  unfold M_on
  refine j_aload_n d_M_on_0 0 rfl rfl ?_
  refine j_iload_n d_M_on_1 1 rfl rfl ?_
  refine j_if_lt (tgt := 12) d_M_on_2 (by decide) ?_ ?_
  · exact jc_M_on_12 N l0 l1 l0 h
  · refine j_iload_n d_M_on_5 1 rfl rfl ?_
    refine j_sipush (v := 1000) d_M_on_6 (by decide) ?_
    refine j_icmp_le (tgt := 16) d_M_on_9 (by decide) ?_ ?_
    · refine j_iconst (v := 0) d_M_on_16 (by decide) ?_
      exact jc_M_on_17 N l0 l1 l0 0 h
    · exact jc_M_on_12 N l0 l1 l0 h
set_option maxRecDepth 20000 in
theorem ct_M_on (N : Nat) (l : Launch) (D : va_G) (dA : Nat → ClassId) (B : Nat) (l0 : Option Nat) (l1 : Int32) (h : Hp) : Ct l (⟨"RingingChamberModel", "on", "(I)I"⟩ : MethodName) prog_15_method_59_code 3 (some .int) 4 93 D dA B [vr l0, vi l1] h vI (M_on N l0 l1 h) :=
  Ct.of2 (own := "RingingChamberModel") (nme := "on") (lv := [(0, vr l0), (1, vi l1)]) rfl rfl (by decide) (Nat.le_of_ble_eq_true rfl) rfl (fun p e R s m args below meth c => jc_M_on N l0 l1 h)
theorem d_M_at_0 : decode prog_15_method_60_code 0 = .ok (.iload_n 1, 1) := by decide +kernel
theorem d_M_at_1 : decode prog_15_method_60_code 1 = .ok (.ifCond .lt 20, 3) := by decide +kernel
theorem d_M_at_4 : decode prog_15_method_60_code 4 = .ok (.iload_n 1, 1) := by decide +kernel
theorem d_M_at_5 : decode prog_15_method_60_code 5 = .ok (.aload_n 0, 1) := by decide +kernel
theorem d_M_at_6 : decode prog_15_method_60_code 6 = .ok (.getfield 137, 3) := by decide +kernel
theorem d_M_at_9 : decode prog_15_method_60_code 9 = .ok (.if_icmp .ge 12, 3) := by decide +kernel
theorem d_M_at_12 : decode prog_15_method_60_code 12 = .ok (.aload_n 0, 1) := by decide +kernel
theorem d_M_at_13 : decode prog_15_method_60_code 13 = .ok (.getfield 50, 3) := by decide +kernel
theorem d_M_at_16 : decode prog_15_method_60_code 16 = .ok (.iload_n 1, 1) := by decide +kernel
theorem d_M_at_17 : decode prog_15_method_60_code 17 = .ok (.laload, 1) := by decide +kernel
theorem d_M_at_18 : decode prog_15_method_60_code 18 = .ok (.goto 4, 3) := by decide +kernel
theorem d_M_at_21 : decode prog_15_method_60_code 21 = .ok (.lconst 0, 1) := by decide +kernel
theorem d_M_at_22 : decode prog_15_method_60_code 22 = .ok (.lreturn, 1) := by decide +kernel
set_option maxRecDepth 20000 in
theorem jc_M_at (N : Nat) (l0 : Option Nat) (l1 : Int32) (h : Hp) : J p l e R s m args below meth c prog_15_method_60_code 2 "RingingChamberModel" 0 0 (some .long) "at" D dA B n0 s0 (QM below args s D dA B n0 s0 vL) 0 [(0, vr l0), (1, vi l1)] [] h (M_at N l0 l1 h) := by
  unfold M_at
  refine j_iload_n d_M_at_0 1 rfl rfl ?_
  refine j_if_lt (tgt := 21) d_M_at_1 (by decide) ?_ ?_
  · refine j_lconst (v := 0) d_M_at_21 (by decide) ?_
    exact j_retL d_M_at_22
  · refine j_iload_n d_M_at_4 1 rfl rfl ?_
    refine j_aload_n d_M_at_5 0 rfl rfl ?_
    refine j_getI d_M_at_6 fl_12_137.r (fun x1 => ?_)
    refine j_icmp_ge (tgt := 21) d_M_at_9 (by decide) ?_ ?_
    · refine j_lconst (v := 0) d_M_at_21 (by decide) ?_
      exact j_retL d_M_at_22
    · refine j_aload_n d_M_at_12 0 rfl rfl ?_
      refine j_getR d_M_at_13 fl_12_50.r (fun x2 => ?_)
      refine j_iload_n d_M_at_16 1 rfl rfl ?_
      refine j_lald d_M_at_17 (fun x3 => ?_)
      refine j_goto (tgt := 22) d_M_at_18 (by decide) ?_
      exact j_retL d_M_at_22
set_option maxRecDepth 20000 in
theorem ct_M_at (N : Nat) (l : Launch) (D : va_G) (dA : Nat → ClassId) (B : Nat) (l0 : Option Nat) (l1 : Int32) (h : Hp) : Ct l (⟨"RingingChamberModel", "at", "(I)J"⟩ : MethodName) prog_15_method_60_code 2 (some .long) 0 0 D dA B [vr l0, vi l1] h vL (M_at N l0 l1 h) :=
  Ct.of2 (own := "RingingChamberModel") (nme := "at") (lv := [(0, vr l0), (1, vi l1)]) rfl rfl (by decide) (Nat.le_of_ble_eq_true rfl) rfl (fun p e R s m args below meth c => jc_M_at N l0 l1 h)
theorem d_M_round_0 : decode prog_15_method_61_code 0 = .ok (.aload_n 0, 1) := by decide +kernel
theorem d_M_round_1 : decode prog_15_method_61_code 1 = .ok (.getfield 152, 3) := by decide +kernel
theorem d_M_round_4 : decode prog_15_method_61_code 4 = .ok (.ireturn, 1) := by decide +kernel
set_option maxRecDepth 20000 in
theorem jc_M_round (N : Nat) (l0 : Option Nat) (h : Hp) : J p l e R s m args below meth c prog_15_method_61_code 1 "RingingChamberModel" 0 0 (some .int) "round" D dA B n0 s0 (QM below args s D dA B n0 s0 vI) 0 [(0, vr l0)] [] h (M_round N l0 h) := by
  unfold M_round
  refine j_aload_n d_M_round_0 0 rfl rfl ?_
  refine j_getI d_M_round_1 fl_12_152.r (fun x1 => ?_)
  exact j_retI d_M_round_4
set_option maxRecDepth 20000 in
theorem ct_M_round (N : Nat) (l : Launch) (D : va_G) (dA : Nat → ClassId) (B : Nat) (l0 : Option Nat) (h : Hp) : Ct l (⟨"RingingChamberModel", "round", "()I"⟩ : MethodName) prog_15_method_61_code 1 (some .int) 0 0 D dA B [vr l0] h vI (M_round N l0 h) :=
  Ct.of2 (own := "RingingChamberModel") (nme := "round") (lv := [(0, vr l0)]) rfl rfl (by decide) (Nat.le_of_ble_eq_true rfl) rfl (fun p e R s m args below meth c => jc_M_round N l0 h)
theorem d_M_meant_0 : decode prog_15_method_62_code 0 = .ok (.aload_n 0, 1) := by decide +kernel
theorem d_M_meant_1 : decode prog_15_method_62_code 1 = .ok (.getfield 152, 3) := by decide +kernel
theorem d_M_meant_4 : decode prog_15_method_62_code 4 = .ok (.ifCond .lt 10, 3) := by decide +kernel
theorem d_M_meant_7 : decode prog_15_method_62_code 7 = .ok (.aload_n 0, 1) := by decide +kernel
theorem d_M_meant_8 : decode prog_15_method_62_code 8 = .ok (.getfield 152, 3) := by decide +kernel
theorem d_M_meant_11 : decode prog_15_method_62_code 11 = .ok (.goto 7, 3) := by decide +kernel
theorem d_M_meant_14 : decode prog_15_method_62_code 14 = .ok (.aload_n 0, 1) := by decide +kernel
theorem d_M_meant_15 : decode prog_15_method_62_code 15 = .ok (.getfield 137, 3) := by decide +kernel
theorem d_M_meant_18 : decode prog_15_method_62_code 18 = .ok (.ireturn, 1) := by decide +kernel
set_option maxRecDepth 20000 in
theorem jc_M_meant (N : Nat) (l0 : Option Nat) (h : Hp) : J p l e R s m args below meth c prog_15_method_62_code 1 "RingingChamberModel" 0 0 (some .int) "meant" D dA B n0 s0 (QM below args s D dA B n0 s0 vI) 0 [(0, vr l0)] [] h (M_meant N l0 h) := by
  unfold M_meant
  refine j_aload_n d_M_meant_0 0 rfl rfl ?_
  refine j_getI d_M_meant_1 fl_12_152.r (fun x1 => ?_)
  refine j_if_lt (tgt := 14) d_M_meant_4 (by decide) ?_ ?_
  · refine j_aload_n d_M_meant_14 0 rfl rfl ?_
    refine j_getI d_M_meant_15 fl_12_137.r (fun x2 => ?_)
    exact j_retI d_M_meant_18
  · refine j_aload_n d_M_meant_7 0 rfl rfl ?_
    refine j_getI d_M_meant_8 fl_12_152.r (fun x3 => ?_)
    refine j_goto (tgt := 18) d_M_meant_11 (by decide) ?_
    exact j_retI d_M_meant_18
set_option maxRecDepth 20000 in
theorem ct_M_meant (N : Nat) (l : Launch) (D : va_G) (dA : Nat → ClassId) (B : Nat) (l0 : Option Nat) (h : Hp) : Ct l (⟨"RingingChamberModel", "meant", "()I"⟩ : MethodName) prog_15_method_62_code 1 (some .int) 0 0 D dA B [vr l0] h vI (M_meant N l0 h) :=
  Ct.of2 (own := "RingingChamberModel") (nme := "meant") (lv := [(0, vr l0)]) rfl rfl (by decide) (Nat.le_of_ble_eq_true rfl) rfl (fun p e R s m args below meth c => jc_M_meant N l0 h)
theorem d_M_falseAt_0 : decode prog_15_method_63_code 0 = .ok (.iconst 1, 1) := by decide +kernel
theorem d_M_falseAt_1 : decode prog_15_method_63_code 1 = .ok (.istore_n 1, 1) := by decide +kernel
theorem d_M_falseAt_2 : decode prog_15_method_63_code 2 = .ok (.iload_n 1, 1) := by decide +kernel
theorem d_M_falseAt_3 : decode prog_15_method_63_code 3 = .ok (.aload_n 0, 1) := by decide +kernel
theorem d_M_falseAt_4 : decode prog_15_method_63_code 4 = .ok (.invokevirtual 280, 3) := by decide +kernel
theorem d_M_falseAt_7 : decode prog_15_method_63_code 7 = .ok (.if_icmp .ge 46, 3) := by decide +kernel
theorem d_M_falseAt_10 : decode prog_15_method_63_code 10 = .ok (.iconst 0, 1) := by decide +kernel
theorem d_M_falseAt_11 : decode prog_15_method_63_code 11 = .ok (.istore_n 2, 1) := by decide +kernel
theorem d_M_falseAt_12 : decode prog_15_method_63_code 12 = .ok (.iload_n 2, 1) := by decide +kernel
theorem d_M_falseAt_13 : decode prog_15_method_63_code 13 = .ok (.iload_n 1, 1) := by decide +kernel
theorem d_M_falseAt_14 : decode prog_15_method_63_code 14 = .ok (.if_icmp .ge 33, 3) := by decide +kernel
theorem d_M_falseAt_17 : decode prog_15_method_63_code 17 = .ok (.aload_n 0, 1) := by decide +kernel
theorem d_M_falseAt_18 : decode prog_15_method_63_code 18 = .ok (.getfield 50, 3) := by decide +kernel
theorem d_M_falseAt_21 : decode prog_15_method_63_code 21 = .ok (.iload_n 2, 1) := by decide +kernel
theorem d_M_falseAt_22 : decode prog_15_method_63_code 22 = .ok (.laload, 1) := by decide +kernel
theorem d_M_falseAt_23 : decode prog_15_method_63_code 23 = .ok (.aload_n 0, 1) := by decide +kernel
theorem d_M_falseAt_24 : decode prog_15_method_63_code 24 = .ok (.getfield 50, 3) := by decide +kernel
theorem d_M_falseAt_27 : decode prog_15_method_63_code 27 = .ok (.iload_n 1, 1) := by decide +kernel
theorem d_M_falseAt_28 : decode prog_15_method_63_code 28 = .ok (.laload, 1) := by decide +kernel
theorem d_M_falseAt_29 : decode prog_15_method_63_code 29 = .ok (.lcmp, 1) := by decide +kernel
theorem d_M_falseAt_30 : decode prog_15_method_63_code 30 = .ok (.ifCond .ne 11, 3) := by decide +kernel
theorem d_M_falseAt_33 : decode prog_15_method_63_code 33 = .ok (.sipush 10000, 3) := by decide +kernel
theorem d_M_falseAt_36 : decode prog_15_method_63_code 36 = .ok (.iload_n 1, 1) := by decide +kernel
theorem d_M_falseAt_37 : decode prog_15_method_63_code 37 = .ok (.imul, 1) := by decide +kernel
theorem d_M_falseAt_38 : decode prog_15_method_63_code 38 = .ok (.iload_n 2, 1) := by decide +kernel
theorem d_M_falseAt_39 : decode prog_15_method_63_code 39 = .ok (.iadd, 1) := by decide +kernel
theorem d_M_falseAt_40 : decode prog_15_method_63_code 40 = .ok (.ireturn, 1) := by decide +kernel
theorem d_M_falseAt_41 : decode prog_15_method_63_code 41 = .ok (.iinc 2 1, 3) := by decide +kernel
theorem d_M_falseAt_44 : decode prog_15_method_63_code 44 = .ok (.goto (-32), 3) := by decide +kernel
theorem d_M_falseAt_47 : decode prog_15_method_63_code 47 = .ok (.iinc 1 1, 3) := by decide +kernel
theorem d_M_falseAt_50 : decode prog_15_method_63_code 50 = .ok (.goto (-48), 3) := by decide +kernel
theorem d_M_falseAt_53 : decode prog_15_method_63_code 53 = .ok (.iconst (-1), 1) := by decide +kernel
theorem d_M_falseAt_54 : decode prog_15_method_63_code 54 = .ok (.ireturn, 1) := by decide +kernel
set_option maxRecDepth 20000 in
theorem jc_M_falseAt_12 (N : Nat) (re2 : Option Nat → Int32 → Hp → Option (Int32 × Hp)) (hre2 : ∀ y0 y1 h, J p l e R s m args below meth c prog_15_method_63_code 3 "RingingChamberModel" 1 20 (some .int) "falseAt" D dA B n0 s0 (QM below args s D dA B n0 s0 vI) 2 [(0, vr y0), (1, vi y1)] [] h (re2 y0 y1 h)) : ∀ (n : Nat) (l0 : Option Nat) (l1 : Int32) (l2 : Int32) (h : Hp), J p l e R s m args below meth c prog_15_method_63_code 3 "RingingChamberModel" 1 20 (some .int) "falseAt" D dA B n0 s0 (QM below args s D dA B n0 s0 vI) 12 [(0, vr l0), (1, vi l1), (2, vi l2)] [] h (M_falseAt_12 N re2 n l0 l1 l2 h) := by
  intro n
  induction n with
  | zero => intros; exact J.none
  | succ n ih =>
    intro l0 l1 l2 h
    rw [M_falseAt_12]
    refine j_iload_n d_M_falseAt_12 2 rfl rfl ?_
    refine j_iload_n d_M_falseAt_13 1 rfl rfl ?_
    refine j_icmp_ge (tgt := 47) d_M_falseAt_14 (by decide) ?_ ?_
    · refine j_iinc (lvv := fun x1 => [(1, vi x1), (0, vr l0), (2, vi l2)]) d_M_falseAt_47 1 rfl rfl (by decide) (fun _ => rfl) (fun x1 => ?_)
      refine j_goto (tgt := 2) d_M_falseAt_50 (by decide) ?_
      exact J.sub [1, 0] rfl (hre2 l0 x1 h)
    · refine j_aload_n d_M_falseAt_17 0 rfl rfl ?_
      refine j_getR d_M_falseAt_18 fl_12_50.r (fun x2 => ?_)
      refine j_iload_n d_M_falseAt_21 2 rfl rfl ?_
      refine j_lald d_M_falseAt_22 (fun x3 => ?_)
      refine j_aload_n d_M_falseAt_23 0 rfl rfl ?_
      refine j_getR d_M_falseAt_24 fl_12_50.r (fun x4 => ?_)
      refine j_iload_n d_M_falseAt_27 1 rfl rfl ?_
      refine j_lald d_M_falseAt_28 (fun x5 => ?_)
      refine j_lcmp d_M_falseAt_29 ?_
      refine j_if_ne (tgt := 41) d_M_falseAt_30 (by decide) ?_ ?_
      · refine j_sipush (v := 10000) d_M_falseAt_33 (by decide) ?_
        refine j_iload_n d_M_falseAt_36 1 rfl rfl ?_
        refine j_imul d_M_falseAt_37 ?_
        refine j_iload_n d_M_falseAt_38 2 rfl rfl ?_
        refine j_iadd d_M_falseAt_39 ?_
        exact j_retI d_M_falseAt_40
      · refine j_iinc (lvv := fun x6 => [(2, vi x6), (0, vr l0), (1, vi l1)]) d_M_falseAt_41 2 rfl rfl (by decide) (fun _ => rfl) (fun x6 => ?_)
        refine j_goto (tgt := 12) d_M_falseAt_44 (by decide) ?_
        exact J.sub [1, 2, 0] rfl (ih l0 l1 x6 h)
set_option maxRecDepth 20000 in
theorem jc_M_falseAt_2 (N : Nat) : ∀ (n : Nat) (l0 : Option Nat) (l1 : Int32) (h : Hp), J p l e R s m args below meth c prog_15_method_63_code 3 "RingingChamberModel" 1 20 (some .int) "falseAt" D dA B n0 s0 (QM below args s D dA B n0 s0 vI) 2 [(0, vr l0), (1, vi l1)] [] h (M_falseAt_2 N n l0 l1 h) := by
  intro n
  induction n with
  | zero => intros; exact J.none
  | succ n ih =>
    intro l0 l1 h
    rw [M_falseAt_2]
    refine j_iload_n d_M_falseAt_2 1 rfl rfl ?_
    refine j_aload_n d_M_falseAt_3 0 rfl rfl ?_
    refine j_vI0 d_M_falseAt_4 (allQ.cons (VD.mk vt_12_280_12 (ct_M_meant N l D dA B l0 h) (by decide) (by decide)) allQ.nil) (Nat.le_of_ble_eq_true rfl) (fun x2 h1 => ?_)
    refine j_icmp_ge (tgt := 53) d_M_falseAt_7 (by decide) ?_ ?_
    · refine j_iconst (v := -1) d_M_falseAt_53 (by decide) ?_
      exact j_retI d_M_falseAt_54
    · refine j_iconst (v := 0) d_M_falseAt_10 (by decide) ?_
      refine j_istore_n (lv' := [(2, vi 0), (0, vr l0), (1, vi l1)]) d_M_falseAt_11 rfl (by decide) rfl ?_
      exact J.sub [1, 2, 0] rfl (jc_M_falseAt_12 N (M_falseAt_2 N n) ih N l0 l1 0 h1)
set_option maxRecDepth 20000 in
theorem jc_M_falseAt (N : Nat) (l0 : Option Nat) (h : Hp) : J p l e R s m args below meth c prog_15_method_63_code 3 "RingingChamberModel" 1 20 (some .int) "falseAt" D dA B n0 s0 (QM below args s D dA B n0 s0 vI) 0 [(0, vr l0)] [] h (M_falseAt N l0 h) := by
  unfold M_falseAt
  refine j_iconst (v := 1) d_M_falseAt_0 (by decide) ?_
  refine j_istore_n (lv' := [(1, vi 1), (0, vr l0)]) d_M_falseAt_1 rfl (by decide) rfl ?_
  exact J.sub [1, 0] rfl (jc_M_falseAt_2 N N l0 1 h)
set_option maxRecDepth 20000 in
theorem ct_M_falseAt (N : Nat) (l : Launch) (D : va_G) (dA : Nat → ClassId) (B : Nat) (l0 : Option Nat) (h : Hp) : Ct l (⟨"RingingChamberModel", "falseAt", "()I"⟩ : MethodName) prog_15_method_63_code 3 (some .int) 1 20 D dA B [vr l0] h vI (M_falseAt N l0 h) :=
  Ct.of2 (own := "RingingChamberModel") (nme := "falseAt") (lv := [(0, vr l0)]) rfl rfl (by decide) (Nat.le_of_ble_eq_true rfl) rfl (fun p e R s m args below meth c => jc_M_falseAt N l0 h)
theorem d_M_numbers_0 : decode prog_15_method_64_code 0 = .ok (.iconst 0, 1) := by decide +kernel
theorem d_M_numbers_1 : decode prog_15_method_64_code 1 = .ok (.istore_n 2, 1) := by decide +kernel
theorem d_M_numbers_2 : decode prog_15_method_64_code 2 = .ok (.iload_n 2, 1) := by decide +kernel
theorem d_M_numbers_3 : decode prog_15_method_64_code 3 = .ok (.aload_n 0, 1) := by decide +kernel
theorem d_M_numbers_4 : decode prog_15_method_64_code 4 = .ok (.invokevirtual 280, 3) := by decide +kernel
theorem d_M_numbers_7 : decode prog_15_method_64_code 7 = .ok (.if_icmp .ge 59, 3) := by decide +kernel
theorem d_M_numbers_10 : decode prog_15_method_64_code 10 = .ok (.aload_n 0, 1) := by decide +kernel
theorem d_M_numbers_11 : decode prog_15_method_64_code 11 = .ok (.aload_n 0, 1) := by decide +kernel
theorem d_M_numbers_12 : decode prog_15_method_64_code 12 = .ok (.getfield 50, 3) := by decide +kernel
theorem d_M_numbers_15 : decode prog_15_method_64_code 15 = .ok (.iload_n 2, 1) := by decide +kernel
theorem d_M_numbers_16 : decode prog_15_method_64_code 16 = .ok (.laload, 1) := by decide +kernel
theorem d_M_numbers_17 : decode prog_15_method_64_code 17 = .ok (.invokevirtual 266, 3) := by decide +kernel
theorem d_M_numbers_20 : decode prog_15_method_64_code 20 = .ok (.istore_n 3, 1) := by decide +kernel
theorem d_M_numbers_21 : decode prog_15_method_64_code 21 = .ok (.iload_n 2, 1) := by decide +kernel
theorem d_M_numbers_22 : decode prog_15_method_64_code 22 = .ok (.istore 4, 2) := by decide +kernel
theorem d_M_numbers_24 : decode prog_15_method_64_code 24 = .ok (.iload 4, 2) := by decide +kernel
theorem d_M_numbers_26 : decode prog_15_method_64_code 26 = .ok (.ifCond .le 29, 3) := by decide +kernel
theorem d_M_numbers_29 : decode prog_15_method_64_code 29 = .ok (.aload_n 1, 1) := by decide +kernel
theorem d_M_numbers_30 : decode prog_15_method_64_code 30 = .ok (.iload 4, 2) := by decide +kernel
theorem d_M_numbers_32 : decode prog_15_method_64_code 32 = .ok (.iconst 1, 1) := by decide +kernel
theorem d_M_numbers_33 : decode prog_15_method_64_code 33 = .ok (.isub, 1) := by decide +kernel
theorem d_M_numbers_34 : decode prog_15_method_64_code 34 = .ok (.iaload, 1) := by decide +kernel
theorem d_M_numbers_35 : decode prog_15_method_64_code 35 = .ok (.iload_n 3, 1) := by decide +kernel
theorem d_M_numbers_36 : decode prog_15_method_64_code 36 = .ok (.if_icmp .le 19, 3) := by decide +kernel
theorem d_M_numbers_39 : decode prog_15_method_64_code 39 = .ok (.aload_n 1, 1) := by decide +kernel
theorem d_M_numbers_40 : decode prog_15_method_64_code 40 = .ok (.iload 4, 2) := by decide +kernel
theorem d_M_numbers_42 : decode prog_15_method_64_code 42 = .ok (.aload_n 1, 1) := by decide +kernel
theorem d_M_numbers_43 : decode prog_15_method_64_code 43 = .ok (.iload 4, 2) := by decide +kernel
theorem d_M_numbers_45 : decode prog_15_method_64_code 45 = .ok (.iconst 1, 1) := by decide +kernel
theorem d_M_numbers_46 : decode prog_15_method_64_code 46 = .ok (.isub, 1) := by decide +kernel
theorem d_M_numbers_47 : decode prog_15_method_64_code 47 = .ok (.iaload, 1) := by decide +kernel
theorem d_M_numbers_48 : decode prog_15_method_64_code 48 = .ok (.iastore, 1) := by decide +kernel
theorem d_M_numbers_49 : decode prog_15_method_64_code 49 = .ok (.iinc 4 (-1), 3) := by decide +kernel
theorem d_M_numbers_52 : decode prog_15_method_64_code 52 = .ok (.goto (-28), 3) := by decide +kernel
theorem d_M_numbers_55 : decode prog_15_method_64_code 55 = .ok (.aload_n 1, 1) := by decide +kernel
theorem d_M_numbers_56 : decode prog_15_method_64_code 56 = .ok (.iload 4, 2) := by decide +kernel
theorem d_M_numbers_58 : decode prog_15_method_64_code 58 = .ok (.iload_n 3, 1) := by decide +kernel
theorem d_M_numbers_59 : decode prog_15_method_64_code 59 = .ok (.iastore, 1) := by decide +kernel
theorem d_M_numbers_60 : decode prog_15_method_64_code 60 = .ok (.iinc 2 1, 3) := by decide +kernel
theorem d_M_numbers_63 : decode prog_15_method_64_code 63 = .ok (.goto (-61), 3) := by decide +kernel
theorem d_M_numbers_66 : decode prog_15_method_64_code 66 = .ok (.return_, 1) := by decide +kernel
set_option maxRecDepth 20000 in
theorem jc_M_numbers_55 (N : Nat) (re2 : Option Nat → Option Nat → Int32 → Hp → Option (Unit × Hp)) (hre2 : ∀ y0 y1 y2 h, J p l e R s m args below meth c prog_15_method_64_code 5 "RingingChamberModel" 2 48 none "numbers" D dA B n0 s0 (QM below args s D dA B n0 s0 vU) 2 [(0, vr y0), (1, vr y1), (2, vi y2)] [] h (re2 y0 y1 y2 h)) (l0 : Option Nat) (l1 : Option Nat) (l2 : Int32) (l3 : Int32) (l4 : Int32) (h : Hp) : J p l e R s m args below meth c prog_15_method_64_code 5 "RingingChamberModel" 2 48 none "numbers" D dA B n0 s0 (QM below args s D dA B n0 s0 vU) 55 [(0, vr l0), (1, vr l1), (2, vi l2), (3, vi l3), (4, vi l4)] [] h (M_numbers_55 N re2 l0 l1 l2 l3 l4 h) := by
  unfold M_numbers_55
  refine j_aload_n d_M_numbers_55 1 rfl rfl ?_
  refine j_iload d_M_numbers_56 4 rfl ?_
  refine j_iload_n d_M_numbers_58 3 rfl rfl ?_
  refine j_iast d_M_numbers_59 (fun h1 => ?_)
  refine j_iinc (lvv := fun x2 => [(2, vi x2), (0, vr l0), (1, vr l1), (3, vi l3), (4, vi l4)]) d_M_numbers_60 2 rfl rfl (by decide) (fun _ => rfl) (fun x2 => ?_)
  refine j_goto (tgt := 2) d_M_numbers_63 (by decide) ?_
  exact J.sub [1, 2, 0] rfl (hre2 l0 l1 x2 h1)
set_option maxRecDepth 20000 in
theorem jc_M_numbers_24 (N : Nat) (re2 : Option Nat → Option Nat → Int32 → Hp → Option (Unit × Hp)) (hre2 : ∀ y0 y1 y2 h, J p l e R s m args below meth c prog_15_method_64_code 5 "RingingChamberModel" 2 48 none "numbers" D dA B n0 s0 (QM below args s D dA B n0 s0 vU) 2 [(0, vr y0), (1, vr y1), (2, vi y2)] [] h (re2 y0 y1 y2 h)) : ∀ (n : Nat) (l0 : Option Nat) (l1 : Option Nat) (l2 : Int32) (l3 : Int32) (l4 : Int32) (h : Hp), J p l e R s m args below meth c prog_15_method_64_code 5 "RingingChamberModel" 2 48 none "numbers" D dA B n0 s0 (QM below args s D dA B n0 s0 vU) 24 [(0, vr l0), (1, vr l1), (2, vi l2), (3, vi l3), (4, vi l4)] [] h (M_numbers_24 N re2 n l0 l1 l2 l3 l4 h) := by
  intro n
  induction n with
  | zero => intros; exact J.none
  | succ n ih =>
    intro l0 l1 l2 l3 l4 h
    rw [M_numbers_24]
    refine j_iload d_M_numbers_24 4 rfl ?_
    refine j_if_le (tgt := 55) d_M_numbers_26 (by decide) ?_ ?_
    · exact jc_M_numbers_55 N re2 hre2 l0 l1 l2 l3 l4 h
    · refine j_aload_n d_M_numbers_29 1 rfl rfl ?_
      refine j_iload d_M_numbers_30 4 rfl ?_
      refine j_iconst (v := 1) d_M_numbers_32 (by decide) ?_
      refine j_isub d_M_numbers_33 ?_
      refine j_iald d_M_numbers_34 (fun x1 => ?_)
      refine j_iload_n d_M_numbers_35 3 rfl rfl ?_
      refine j_icmp_le (tgt := 55) d_M_numbers_36 (by decide) ?_ ?_
      · exact jc_M_numbers_55 N re2 hre2 l0 l1 l2 l3 l4 h
      · refine j_aload_n d_M_numbers_39 1 rfl rfl ?_
        refine j_iload d_M_numbers_40 4 rfl ?_
        refine j_aload_n d_M_numbers_42 1 rfl rfl ?_
        refine j_iload d_M_numbers_43 4 rfl ?_
        refine j_iconst (v := 1) d_M_numbers_45 (by decide) ?_
        refine j_isub d_M_numbers_46 ?_
        refine j_iald d_M_numbers_47 (fun x2 => ?_)
        refine j_iast d_M_numbers_48 (fun h3 => ?_)
        refine j_iinc (lvv := fun x4 => [(4, vi x4), (0, vr l0), (1, vr l1), (2, vi l2), (3, vi l3)]) d_M_numbers_49 4 rfl rfl (by decide) (fun _ => rfl) (fun x4 => ?_)
        refine j_goto (tgt := 24) d_M_numbers_52 (by decide) ?_
        exact J.sub [1, 2, 3, 4, 0] rfl (ih l0 l1 l2 l3 x4 h3)
set_option maxRecDepth 20000 in
theorem jc_M_numbers_2 (N : Nat) : ∀ (n : Nat) (l0 : Option Nat) (l1 : Option Nat) (l2 : Int32) (h : Hp), J p l e R s m args below meth c prog_15_method_64_code 5 "RingingChamberModel" 2 48 none "numbers" D dA B n0 s0 (QM below args s D dA B n0 s0 vU) 2 [(0, vr l0), (1, vr l1), (2, vi l2)] [] h (M_numbers_2 N n l0 l1 l2 h) := by
  intro n
  induction n with
  | zero => intros; exact J.none
  | succ n ih =>
    intro l0 l1 l2 h
    rw [M_numbers_2]
    refine j_iload_n d_M_numbers_2 2 rfl rfl ?_
    refine j_aload_n d_M_numbers_3 0 rfl rfl ?_
    refine j_vI0 d_M_numbers_4 (allQ.cons (VD.mk vt_12_280_12 (ct_M_meant N l D dA B l0 h) (by decide) (by decide)) allQ.nil) (Nat.le_of_ble_eq_true rfl) (fun x2 h1 => ?_)
    refine j_icmp_ge (tgt := 66) d_M_numbers_7 (by decide) ?_ ?_
    · exact j_retU d_M_numbers_66
    · refine j_aload_n d_M_numbers_10 0 rfl rfl ?_
      refine j_aload_n d_M_numbers_11 0 rfl rfl ?_
      refine j_getR d_M_numbers_12 fl_12_50.r (fun x3 => ?_)
      refine j_iload_n d_M_numbers_15 2 rfl rfl ?_
      refine j_lald d_M_numbers_16 (fun x4 => ?_)
      refine j_vI1 d_M_numbers_17 (allQ.cons (VD.mk vt_12_266_12 (ct_M_numberOf N l D dA B l0 x4 h1) (by decide) (by decide)) allQ.nil) (Nat.le_of_ble_eq_true rfl) (fun x6 h5 => ?_)
      refine j_istore_n (lv' := [(3, vi x6), (0, vr l0), (1, vr l1), (2, vi l2)]) d_M_numbers_20 rfl (by decide) rfl ?_
      refine j_iload_n d_M_numbers_21 3 rfl rfl ?_
      refine j_istore (lv' := [(4, vi l2), (3, vi x6), (0, vr l0), (1, vr l1), (2, vi l2)]) d_M_numbers_22 (by decide) rfl ?_
      exact J.sub [2, 3, 4, 1, 0] rfl (jc_M_numbers_24 N (M_numbers_2 N n) ih N l0 l1 l2 x6 l2 h5)
set_option maxRecDepth 20000 in
theorem jc_M_numbers (N : Nat) (l0 : Option Nat) (l1 : Option Nat) (h : Hp) : J p l e R s m args below meth c prog_15_method_64_code 5 "RingingChamberModel" 2 48 none "numbers" D dA B n0 s0 (QM below args s D dA B n0 s0 vU) 0 [(0, vr l0), (1, vr l1)] [] h (M_numbers N l0 l1 h) := by
  unfold M_numbers
  refine j_iconst (v := 0) d_M_numbers_0 (by decide) ?_
  refine j_istore_n (lv' := [(2, vi 0), (0, vr l0), (1, vr l1)]) d_M_numbers_1 rfl (by decide) rfl ?_
  exact J.sub [1, 2, 0] rfl (jc_M_numbers_2 N N l0 l1 0 h)
set_option maxRecDepth 20000 in
theorem ct_M_numbers (N : Nat) (l : Launch) (D : va_G) (dA : Nat → ClassId) (B : Nat) (l0 : Option Nat) (l1 : Option Nat) (h : Hp) : Ct l (⟨"RingingChamberModel", "numbers", "([I)V"⟩ : MethodName) prog_15_method_64_code 5 none 2 48 D dA B [vr l0, vr l1] h vU (M_numbers N l0 l1 h) :=
  Ct.of2 (own := "RingingChamberModel") (nme := "numbers") (lv := [(0, vr l0), (1, vr l1)]) rfl rfl (by decide) (Nat.le_of_ble_eq_true rfl) rfl (fun p e R s m args below meth c => jc_M_numbers N l0 l1 h)
theorem d_M_proof_0 : decode prog_15_method_65_code 0 = .ok (.aload_n 0, 1) := by decide +kernel
theorem d_M_proof_1 : decode prog_15_method_65_code 1 = .ok (.invokevirtual 283, 3) := by decide +kernel
theorem d_M_proof_4 : decode prog_15_method_65_code 4 = .ok (.ifCond .lt 5, 3) := by decide +kernel
theorem d_M_proof_7 : decode prog_15_method_65_code 7 = .ok (.iconst (-1), 1) := by decide +kernel
theorem d_M_proof_8 : decode prog_15_method_65_code 8 = .ok (.ireturn, 1) := by decide +kernel
theorem d_M_proof_9 : decode prog_15_method_65_code 9 = .ok (.aload_n 0, 1) := by decide +kernel
theorem d_M_proof_10 : decode prog_15_method_65_code 10 = .ok (.aload_n 0, 1) := by decide +kernel
theorem d_M_proof_11 : decode prog_15_method_65_code 11 = .ok (.getfield 57, 3) := by decide +kernel
theorem d_M_proof_14 : decode prog_15_method_65_code 14 = .ok (.invokevirtual 286, 3) := by decide +kernel
theorem d_M_proof_17 : decode prog_15_method_65_code 17 = .ok (.aload_n 0, 1) := by decide +kernel
theorem d_M_proof_18 : decode prog_15_method_65_code 18 = .ok (.aload_n 0, 1) := by decide +kernel
theorem d_M_proof_19 : decode prog_15_method_65_code 19 = .ok (.invokevirtual 280, 3) := by decide +kernel
theorem d_M_proof_22 : decode prog_15_method_65_code 22 = .ok (.putfield 115, 3) := by decide +kernel
theorem d_M_proof_25 : decode prog_15_method_65_code 25 = .ok (.aload_n 0, 1) := by decide +kernel
theorem d_M_proof_26 : decode prog_15_method_65_code 26 = .ok (.getfield 115, 3) := by decide +kernel
theorem d_M_proof_29 : decode prog_15_method_65_code 29 = .ok (.ireturn, 1) := by decide +kernel
set_option maxRecDepth 20000 in
theorem jc_M_proof (N : Nat) (l0 : Option Nat) (h : Hp) : J p l e R s m args below meth c prog_15_method_65_code 1 "RingingChamberModel" 3 72 (some .int) "proof" D dA B n0 s0 (QM below args s D dA B n0 s0 vI) 0 [(0, vr l0)] [] h (M_proof N l0 h) := by
  unfold M_proof
  refine j_aload_n d_M_proof_0 0 rfl rfl ?_
  refine j_vI0 d_M_proof_1 (allQ.cons (VD.mk vt_12_283_12 (ct_M_falseAt N l D dA B l0 h) (by decide) (by decide)) allQ.nil) (Nat.le_of_ble_eq_true rfl) (fun x2 h1 => ?_)
  refine j_if_lt (tgt := 9) d_M_proof_4 (by decide) ?_ ?_
  · refine j_aload_n d_M_proof_9 0 rfl rfl ?_
    refine j_aload_n d_M_proof_10 0 rfl rfl ?_
    refine j_getR d_M_proof_11 fl_12_57.r (fun x3 => ?_)
    refine j_vU1 d_M_proof_14 (allQ.cons (VD.mk vt_12_286_12 (ct_M_numbers N l D dA B l0 x3 h1) (by decide) (by decide)) allQ.nil) (Nat.le_of_ble_eq_true rfl) (fun _ h4 => ?_)
    refine j_aload_n d_M_proof_17 0 rfl rfl ?_
    refine j_aload_n d_M_proof_18 0 rfl rfl ?_
    refine j_vI0 d_M_proof_19 (allQ.cons (VD.mk vt_12_280_12 (ct_M_meant N l D dA B l0 h4) (by decide) (by decide)) allQ.nil) (Nat.le_of_ble_eq_true rfl) (fun x6 h5 => ?_)
    refine j_putI d_M_proof_22 fl_12_115 (Or.inl rfl) (fun h7 => ?_)
    refine j_aload_n d_M_proof_25 0 rfl rfl ?_
    refine j_getI d_M_proof_26 fl_12_115.r (fun x8 => ?_)
    exact j_retI d_M_proof_29
  · refine j_iconst (v := -1) d_M_proof_7 (by decide) ?_
    exact j_retI d_M_proof_8
set_option maxRecDepth 20000 in
theorem ct_M_proof (N : Nat) (l : Launch) (D : va_G) (dA : Nat → ClassId) (B : Nat) (l0 : Option Nat) (h : Hp) : Ct l (⟨"RingingChamberModel", "proof", "()I"⟩ : MethodName) prog_15_method_65_code 1 (some .int) 3 72 D dA B [vr l0] h vI (M_proof N l0 h) :=
  Ct.of2 (own := "RingingChamberModel") (nme := "proof") (lv := [(0, vr l0)]) rfl rfl (by decide) (Nat.le_of_ble_eq_true rfl) rfl (fun p e R s m args below meth c => jc_M_proof N l0 h)
end
