section
variable {p : Program} {l : Launch} {e : Env} {R : Room} {s : State} {m : MethodId} {args : Array Value} {below : List Frame} {meth : Method} {c : Code} {D : va_G} {dA : Nat → ClassId} {B n0 s0 : Nat}
theorem d_M_proofAt_0 : decode prog_15_method_66_code 0 = .ok (.iload_n 1, 1) := by decide +kernel
theorem d_M_proofAt_1 : decode prog_15_method_66_code 1 = .ok (.ifCond .lt 20, 3) := by decide +kernel
theorem d_M_proofAt_4 : decode prog_15_method_66_code 4 = .ok (.iload_n 1, 1) := by decide +kernel
theorem d_M_proofAt_5 : decode prog_15_method_66_code 5 = .ok (.aload_n 0, 1) := by decide +kernel
theorem d_M_proofAt_6 : decode prog_15_method_66_code 6 = .ok (.getfield 115, 3) := by decide +kernel
theorem d_M_proofAt_9 : decode prog_15_method_66_code 9 = .ok (.if_icmp .ge 12, 3) := by decide +kernel
theorem d_M_proofAt_12 : decode prog_15_method_66_code 12 = .ok (.aload_n 0, 1) := by decide +kernel
theorem d_M_proofAt_13 : decode prog_15_method_66_code 13 = .ok (.getfield 57, 3) := by decide +kernel
theorem d_M_proofAt_16 : decode prog_15_method_66_code 16 = .ok (.iload_n 1, 1) := by decide +kernel
theorem d_M_proofAt_17 : decode prog_15_method_66_code 17 = .ok (.iaload, 1) := by decide +kernel
theorem d_M_proofAt_18 : decode prog_15_method_66_code 18 = .ok (.goto 4, 3) := by decide +kernel
theorem d_M_proofAt_21 : decode prog_15_method_66_code 21 = .ok (.iconst (-1), 1) := by decide +kernel
theorem d_M_proofAt_22 : decode prog_15_method_66_code 22 = .ok (.ireturn, 1) := by decide +kernel
set_option maxRecDepth 20000 in
theorem jc_M_proofAt (N : Nat) (l0 : Option Nat) (l1 : Int32) (h : Hp) : J p l e R s m args below meth c prog_15_method_66_code 2 "RingingChamberModel" 0 0 (some .int) "proofAt" D dA B n0 s0 (QM below args s D dA B n0 s0 vI) 0 [(0, vr l0), (1, vi l1)] [] h (M_proofAt N l0 l1 h) := by
  unfold M_proofAt
  refine j_iload_n d_M_proofAt_0 1 rfl rfl ?_
  refine j_if_lt (tgt := 21) d_M_proofAt_1 (by decide) ?_ ?_
  · refine j_iconst (v := -1) d_M_proofAt_21 (by decide) ?_
    exact j_retI d_M_proofAt_22
  · refine j_iload_n d_M_proofAt_4 1 rfl rfl ?_
    refine j_aload_n d_M_proofAt_5 0 rfl rfl ?_
    refine j_getI d_M_proofAt_6 fl_12_115.r (fun x1 => ?_)
    refine j_icmp_ge (tgt := 21) d_M_proofAt_9 (by decide) ?_ ?_
    · refine j_iconst (v := -1) d_M_proofAt_21 (by decide) ?_
      exact j_retI d_M_proofAt_22
    · refine j_aload_n d_M_proofAt_12 0 rfl rfl ?_
      refine j_getR d_M_proofAt_13 fl_12_57.r (fun x2 => ?_)
      refine j_iload_n d_M_proofAt_16 1 rfl rfl ?_
      refine j_iald d_M_proofAt_17 (fun x3 => ?_)
      refine j_goto (tgt := 22) d_M_proofAt_18 (by decide) ?_
      exact j_retI d_M_proofAt_22
set_option maxRecDepth 20000 in
theorem ct_M_proofAt (N : Nat) (l : Launch) (D : va_G) (dA : Nat → ClassId) (B : Nat) (l0 : Option Nat) (l1 : Int32) (h : Hp) : Ct l (⟨"RingingChamberModel", "proofAt", "(I)I"⟩ : MethodName) prog_15_method_66_code 2 (some .int) 0 0 D dA B [vr l0, vi l1] h vI (M_proofAt N l0 l1 h) :=
  Ct.of2 (own := "RingingChamberModel") (nme := "proofAt") (lv := [(0, vr l0), (1, vi l1)]) rfl rfl (by decide) (Nat.le_of_ble_eq_true rfl) rfl (fun p e R s m args below meth c => jc_M_proofAt N l0 l1 h)
theorem d_M_forge_0 : decode prog_15_method_67_code 0 = .ok (.iload_n 1, 1) := by decide +kernel
theorem d_M_forge_1 : decode prog_15_method_67_code 1 = .ok (.ifCond .lt 11, 3) := by decide +kernel
theorem d_M_forge_4 : decode prog_15_method_67_code 4 = .ok (.iload_n 1, 1) := by decide +kernel
theorem d_M_forge_5 : decode prog_15_method_67_code 5 = .ok (.aload_n 0, 1) := by decide +kernel
theorem d_M_forge_6 : decode prog_15_method_67_code 6 = .ok (.getfield 115, 3) := by decide +kernel
theorem d_M_forge_9 : decode prog_15_method_67_code 9 = .ok (.if_icmp .lt 5, 3) := by decide +kernel
theorem d_M_forge_12 : decode prog_15_method_67_code 12 = .ok (.iconst (-1), 1) := by decide +kernel
theorem d_M_forge_13 : decode prog_15_method_67_code 13 = .ok (.ireturn, 1) := by decide +kernel
theorem d_M_forge_14 : decode prog_15_method_67_code 14 = .ok (.aload_n 0, 1) := by decide +kernel
theorem d_M_forge_15 : decode prog_15_method_67_code 15 = .ok (.getfield 57, 3) := by decide +kernel
theorem d_M_forge_18 : decode prog_15_method_67_code 18 = .ok (.iload_n 1, 1) := by decide +kernel
theorem d_M_forge_19 : decode prog_15_method_67_code 19 = .ok (.iaload, 1) := by decide +kernel
theorem d_M_forge_20 : decode prog_15_method_67_code 20 = .ok (.istore_n 3, 1) := by decide +kernel
theorem d_M_forge_21 : decode prog_15_method_67_code 21 = .ok (.aload_n 0, 1) := by decide +kernel
theorem d_M_forge_22 : decode prog_15_method_67_code 22 = .ok (.getfield 57, 3) := by decide +kernel
theorem d_M_forge_25 : decode prog_15_method_67_code 25 = .ok (.iload_n 1, 1) := by decide +kernel
theorem d_M_forge_26 : decode prog_15_method_67_code 26 = .ok (.iload_n 2, 1) := by decide +kernel
theorem d_M_forge_27 : decode prog_15_method_67_code 27 = .ok (.iastore, 1) := by decide +kernel
theorem d_M_forge_28 : decode prog_15_method_67_code 28 = .ok (.iload_n 3, 1) := by decide +kernel
theorem d_M_forge_29 : decode prog_15_method_67_code 29 = .ok (.ireturn, 1) := by decide +kernel
set_option maxRecDepth 20000 in
theorem jc_M_forge (N : Nat) (l0 : Option Nat) (l1 : Int32) (l2 : Int32) (h : Hp) : J p l e R s m args below meth c prog_15_method_67_code 4 "RingingChamberModel" 0 0 (some .int) "forge" D dA B n0 s0 (QM below args s D dA B n0 s0 vI) 0 [(0, vr l0), (1, vi l1), (2, vi l2)] [] h (M_forge N l0 l1 l2 h) := by
  unfold M_forge
  refine j_iload_n d_M_forge_0 1 rfl rfl ?_
  refine j_if_lt (tgt := 12) d_M_forge_1 (by decide) ?_ ?_
  · refine j_iconst (v := -1) d_M_forge_12 (by decide) ?_
    exact j_retI d_M_forge_13
  · refine j_iload_n d_M_forge_4 1 rfl rfl ?_
    refine j_aload_n d_M_forge_5 0 rfl rfl ?_
    refine j_getI d_M_forge_6 fl_12_115.r (fun x1 => ?_)
    refine j_icmp_lt (tgt := 14) d_M_forge_9 (by decide) ?_ ?_
    · refine j_aload_n d_M_forge_14 0 rfl rfl ?_
      refine j_getR d_M_forge_15 fl_12_57.r (fun x2 => ?_)
      refine j_iload_n d_M_forge_18 1 rfl rfl ?_
      refine j_iald d_M_forge_19 (fun x3 => ?_)
      refine j_istore_n (lv' := [(3, vi x3), (0, vr l0), (1, vi l1), (2, vi l2)]) d_M_forge_20 rfl (by decide) rfl ?_
      refine j_aload_n d_M_forge_21 1 rfl rfl ?_
      refine j_getR d_M_forge_22 fl_12_57.r (fun x4 => ?_)
      refine j_iload_n d_M_forge_25 2 rfl rfl ?_
      refine j_iload_n d_M_forge_26 3 rfl rfl ?_
      refine j_iast d_M_forge_27 (fun h5 => ?_)
      refine j_iload_n d_M_forge_28 0 rfl rfl ?_
      exact j_retI d_M_forge_29
    · refine j_iconst (v := -1) d_M_forge_12 (by decide) ?_
      exact j_retI d_M_forge_13
set_option maxRecDepth 20000 in
theorem ct_M_forge (N : Nat) (l : Launch) (D : va_G) (dA : Nat → ClassId) (B : Nat) (l0 : Option Nat) (l1 : Int32) (l2 : Int32) (h : Hp) : Ct l (⟨"RingingChamberModel", "forge", "(II)I"⟩ : MethodName) prog_15_method_67_code 4 (some .int) 0 0 D dA B [vr l0, vi l1, vi l2] h vI (M_forge N l0 l1 l2 h) :=
  Ct.of2 (own := "RingingChamberModel") (nme := "forge") (lv := [(0, vr l0), (1, vi l1), (2, vi l2)]) rfl rfl (by decide) (Nat.le_of_ble_eq_true rfl) rfl (fun p e R s m args below meth c => jc_M_forge N l0 l1 l2 h)
theorem d_M_check_0 : decode prog_15_method_68_code 0 = .ok (.aload_n 0, 1) := by decide +kernel
theorem d_M_check_1 : decode prog_15_method_68_code 1 = .ok (.getfield 115, 3) := by decide +kernel
theorem d_M_check_4 : decode prog_15_method_68_code 4 = .ok (.aload_n 0, 1) := by decide +kernel
theorem d_M_check_5 : decode prog_15_method_68_code 5 = .ok (.invokevirtual 280, 3) := by decide +kernel
theorem d_M_check_8 : decode prog_15_method_68_code 8 = .ok (.if_icmp .ne 10, 3) := by decide +kernel
theorem d_M_check_11 : decode prog_15_method_68_code 11 = .ok (.aload_n 0, 1) := by decide +kernel
theorem d_M_check_12 : decode prog_15_method_68_code 12 = .ok (.invokevirtual 283, 3) := by decide +kernel
theorem d_M_check_15 : decode prog_15_method_68_code 15 = .ok (.ifCond .lt 5, 3) := by decide +kernel
theorem d_M_check_18 : decode prog_15_method_68_code 18 = .ok (.iconst 0, 1) := by decide +kernel
theorem d_M_check_19 : decode prog_15_method_68_code 19 = .ok (.ireturn, 1) := by decide +kernel
theorem d_M_check_20 : decode prog_15_method_68_code 20 = .ok (.aload_n 0, 1) := by decide +kernel
theorem d_M_check_21 : decode prog_15_method_68_code 21 = .ok (.aload_n 0, 1) := by decide +kernel
theorem d_M_check_22 : decode prog_15_method_68_code 22 = .ok (.getfield 60, 3) := by decide +kernel
theorem d_M_check_25 : decode prog_15_method_68_code 25 = .ok (.invokevirtual 286, 3) := by decide +kernel
theorem d_M_check_28 : decode prog_15_method_68_code 28 = .ok (.iconst 0, 1) := by decide +kernel
theorem d_M_check_29 : decode prog_15_method_68_code 29 = .ok (.istore_n 1, 1) := by decide +kernel
theorem d_M_check_30 : decode prog_15_method_68_code 30 = .ok (.iload_n 1, 1) := by decide +kernel
theorem d_M_check_31 : decode prog_15_method_68_code 31 = .ok (.aload_n 0, 1) := by decide +kernel
theorem d_M_check_32 : decode prog_15_method_68_code 32 = .ok (.getfield 115, 3) := by decide +kernel
theorem d_M_check_35 : decode prog_15_method_68_code 35 = .ok (.if_icmp .ge 26, 3) := by decide +kernel
theorem d_M_check_38 : decode prog_15_method_68_code 38 = .ok (.aload_n 0, 1) := by decide +kernel
theorem d_M_check_39 : decode prog_15_method_68_code 39 = .ok (.getfield 57, 3) := by decide +kernel
theorem d_M_check_42 : decode prog_15_method_68_code 42 = .ok (.iload_n 1, 1) := by decide +kernel
theorem d_M_check_43 : decode prog_15_method_68_code 43 = .ok (.iaload, 1) := by decide +kernel
theorem d_M_check_44 : decode prog_15_method_68_code 44 = .ok (.aload_n 0, 1) := by decide +kernel
theorem d_M_check_45 : decode prog_15_method_68_code 45 = .ok (.getfield 60, 3) := by decide +kernel
theorem d_M_check_48 : decode prog_15_method_68_code 48 = .ok (.iload_n 1, 1) := by decide +kernel
theorem d_M_check_49 : decode prog_15_method_68_code 49 = .ok (.iaload, 1) := by decide +kernel
theorem d_M_check_50 : decode prog_15_method_68_code 50 = .ok (.if_icmp .eq 5, 3) := by decide +kernel
theorem d_M_check_53 : decode prog_15_method_68_code 53 = .ok (.iconst 0, 1) := by decide +kernel
theorem d_M_check_54 : decode prog_15_method_68_code 54 = .ok (.ireturn, 1) := by decide +kernel
theorem d_M_check_55 : decode prog_15_method_68_code 55 = .ok (.iinc 1 1, 3) := by decide +kernel
theorem d_M_check_58 : decode prog_15_method_68_code 58 = .ok (.goto (-28), 3) := by decide +kernel
theorem d_M_check_61 : decode prog_15_method_68_code 61 = .ok (.iconst 1, 1) := by decide +kernel
theorem d_M_check_62 : decode prog_15_method_68_code 62 = .ok (.ireturn, 1) := by decide +kernel
set_option maxRecDepth 20000 in
theorem jc_M_check_30 (N : Nat) : ∀ (n : Nat) (l0 : Option Nat) (l1 : Int32) (h : Hp), J p l e R s m args below meth c prog_15_method_68_code 2 "RingingChamberModel" 3 72 (some .boolean) "check" D dA B n0 s0 (QM below args s D dA B n0 s0 vI) 30 [(0, vr l0), (1, vi l1)] [] h (M_check_30 N n l0 l1 h) := by
  intro n
  induction n with
  | zero => intros; exact J.none
  | succ n ih =>
    intro l0 l1 h
    rw [M_check_30]
    refine j_iload_n d_M_check_30 1 rfl rfl ?_
    refine j_aload_n d_M_check_31 0 rfl rfl ?_
    refine j_getI d_M_check_32 fl_12_115.r (fun x1 => ?_)
    refine j_icmp_ge (tgt := 61) d_M_check_35 (by decide) ?_ ?_
    · refine j_iconst (v := 1) d_M_check_61 (by decide) ?_
      exact j_retZ d_M_check_62
    · refine j_aload_n d_M_check_38 0 rfl rfl ?_
      refine j_getR d_M_check_39 fl_12_57.r (fun x2 => ?_)
      refine j_iload_n d_M_check_42 1 rfl rfl ?_
      refine j_iald d_M_check_43 (fun x3 => ?_)
      refine j_aload_n d_M_check_44 0 rfl rfl ?_
      refine j_getR d_M_check_45 fl_12_60.r (fun x4 => ?_)
      refine j_iload_n d_M_check_48 1 rfl rfl ?_
      refine j_iald d_M_check_49 (fun x5 => ?_)
      refine j_icmp_eq (tgt := 55) d_M_check_50 (by decide) ?_ ?_
      · refine j_iinc (lvv := fun x6 => [(1, vi x6), (0, vr l0)]) d_M_check_55 1 rfl rfl (by decide) (fun _ => rfl) (fun x6 => ?_)
        refine j_goto (tgt := 30) d_M_check_58 (by decide) ?_
        exact J.sub [1, 0] rfl (ih l0 x6 h)
      · refine j_iconst (v := 0) d_M_check_53 (by decide) ?_
        exact j_retZ d_M_check_54
set_option maxRecDepth 20000 in
theorem jc_M_check (N : Nat) (l0 : Option Nat) (h : Hp) : J p l e R s m args below meth c prog_15_method_68_code 2 "RingingChamberModel" 3 72 (some .boolean) "check" D dA B n0 s0 (QM below args s D dA B n0 s0 vI) 0 [(0, vr l0)] [] h (M_check N l0 h) := by
  unfold M_check
  refine j_aload_n d_M_check_0 0 rfl rfl ?_
  refine j_getI d_M_check_1 fl_12_115.r (fun x1 => ?_)
  refine j_aload_n d_M_check_4 0 rfl rfl ?_
  refine j_vI0 d_M_check_5 (allQ.cons (VD.mk vt_12_280_12 (ct_M_meant N l D dA B l0 h) (by decide) (by decide)) allQ.nil) (Nat.le_of_ble_eq_true rfl) (fun x3 h2 => ?_)
  refine j_icmp_ne (tgt := 18) d_M_check_8 (by decide) ?_ ?_
  · refine j_aload_n d_M_check_11 0 rfl rfl ?_
    refine j_vI0 d_M_check_12 (allQ.cons (VD.mk vt_12_283_12 (ct_M_falseAt N l D dA B l0 h2) (by decide) (by decide)) allQ.nil) (Nat.le_of_ble_eq_true rfl) (fun x5 h4 => ?_)
    refine j_if_lt (tgt := 20) d_M_check_15 (by decide) ?_ ?_
    · refine j_aload_n d_M_check_20 0 rfl rfl ?_
      refine j_aload_n d_M_check_21 0 rfl rfl ?_
      refine j_getR d_M_check_22 fl_12_60.r (fun x6 => ?_)
      refine j_vU1 d_M_check_25 (allQ.cons (VD.mk vt_12_286_12 (ct_M_numbers N l D dA B l0 x6 h4) (by decide) (by decide)) allQ.nil) (Nat.le_of_ble_eq_true rfl) (fun _ h7 => ?_)
      refine j_iconst (v := 0) d_M_check_28 (by decide) ?_
      refine j_istore_n (lv' := [(1, vi 0), (0, vr l0)]) d_M_check_29 rfl (by decide) rfl ?_
      exact J.sub [1, 0] rfl (jc_M_check_30 N N l0 0 h7)
    · refine j_iconst (v := 0) d_M_check_18 (by decide) ?_
      exact j_retZ d_M_check_19
  · refine j_iconst (v := 0) d_M_check_18 (by decide) ?_
    exact j_retZ d_M_check_19
set_option maxRecDepth 20000 in
theorem ct_M_check (N : Nat) (l : Launch) (D : va_G) (dA : Nat → ClassId) (B : Nat) (l0 : Option Nat) (h : Hp) : Ct l (⟨"RingingChamberModel", "check", "()Z"⟩ : MethodName) prog_15_method_68_code 2 (some .boolean) 3 72 D dA B [vr l0] h vI (M_check N l0 h) :=
  Ct.of2 (own := "RingingChamberModel") (nme := "check") (lv := [(0, vr l0)]) rfl rfl (by decide) (Nat.le_of_ble_eq_true rfl) rfl (fun p e R s m args below meth c => jc_M_check N l0 h)
theorem d_M_ringer_0 : decode prog_15_method_69_code 0 = .ok (.iload_n 1, 1) := by decide +kernel
theorem d_M_ringer_1 : decode prog_15_method_69_code 1 = .ok (.iconst 1, 1) := by decide +kernel
theorem d_M_ringer_2 : decode prog_15_method_69_code 2 = .ok (.if_icmp .lt 11, 3) := by decide +kernel
theorem d_M_ringer_5 : decode prog_15_method_69_code 5 = .ok (.iload_n 1, 1) := by decide +kernel
theorem d_M_ringer_6 : decode prog_15_method_69_code 6 = .ok (.aload_n 0, 1) := by decide +kernel
theorem d_M_ringer_7 : decode prog_15_method_69_code 7 = .ok (.getfield 105, 3) := by decide +kernel
theorem d_M_ringer_10 : decode prog_15_method_69_code 10 = .ok (.if_icmp .le 5, 3) := by decide +kernel
theorem d_M_ringer_13 : decode prog_15_method_69_code 13 = .ok (.iconst (-1), 1) := by decide +kernel
theorem d_M_ringer_14 : decode prog_15_method_69_code 14 = .ok (.ireturn, 1) := by decide +kernel
theorem d_M_ringer_15 : decode prog_15_method_69_code 15 = .ok (.aload_n 0, 1) := by decide +kernel
theorem d_M_ringer_16 : decode prog_15_method_69_code 16 = .ok (.getfield 63, 3) := by decide +kernel
theorem d_M_ringer_19 : decode prog_15_method_69_code 19 = .ok (.iload_n 1, 1) := by decide +kernel
theorem d_M_ringer_20 : decode prog_15_method_69_code 20 = .ok (.iload_n 2, 1) := by decide +kernel
theorem d_M_ringer_21 : decode prog_15_method_69_code 21 = .ok (.ifCond .ne 7, 3) := by decide +kernel
theorem d_M_ringer_24 : decode prog_15_method_69_code 24 = .ok (.iconst 1, 1) := by decide +kernel
theorem d_M_ringer_25 : decode prog_15_method_69_code 25 = .ok (.goto 4, 3) := by decide +kernel
theorem d_M_ringer_28 : decode prog_15_method_69_code 28 = .ok (.iconst 0, 1) := by decide +kernel
theorem d_M_ringer_29 : decode prog_15_method_69_code 29 = .ok (.bastore, 1) := by decide +kernel
theorem d_M_ringer_30 : decode prog_15_method_69_code 30 = .ok (.iconst 0, 1) := by decide +kernel
theorem d_M_ringer_31 : decode prog_15_method_69_code 31 = .ok (.istore_n 3, 1) := by decide +kernel
theorem d_M_ringer_32 : decode prog_15_method_69_code 32 = .ok (.iconst 1, 1) := by decide +kernel
theorem d_M_ringer_33 : decode prog_15_method_69_code 33 = .ok (.istore 4, 2) := by decide +kernel
theorem d_M_ringer_35 : decode prog_15_method_69_code 35 = .ok (.iload 4, 2) := by decide +kernel
theorem d_M_ringer_37 : decode prog_15_method_69_code 37 = .ok (.aload_n 0, 1) := by decide +kernel
theorem d_M_ringer_38 : decode prog_15_method_69_code 38 = .ok (.getfield 105, 3) := by decide +kernel
theorem d_M_ringer_41 : decode prog_15_method_69_code 41 = .ok (.if_icmp .gt 27, 3) := by decide +kernel
theorem d_M_ringer_44 : decode prog_15_method_69_code 44 = .ok (.iload_n 3, 1) := by decide +kernel
theorem d_M_ringer_45 : decode prog_15_method_69_code 45 = .ok (.aload_n 0, 1) := by decide +kernel
theorem d_M_ringer_46 : decode prog_15_method_69_code 46 = .ok (.getfield 63, 3) := by decide +kernel
theorem d_M_ringer_49 : decode prog_15_method_69_code 49 = .ok (.iload 4, 2) := by decide +kernel
theorem d_M_ringer_51 : decode prog_15_method_69_code 51 = .ok (.baload, 1) := by decide +kernel
theorem d_M_ringer_52 : decode prog_15_method_69_code 52 = .ok (.ifCond .eq 7, 3) := by decide +kernel
theorem d_M_ringer_55 : decode prog_15_method_69_code 55 = .ok (.iconst 0, 1) := by decide +kernel
theorem d_M_ringer_56 : decode prog_15_method_69_code 56 = .ok (.goto 4, 3) := by decide +kernel
theorem d_M_ringer_59 : decode prog_15_method_69_code 59 = .ok (.iconst 1, 1) := by decide +kernel
theorem d_M_ringer_60 : decode prog_15_method_69_code 60 = .ok (.iadd, 1) := by decide +kernel
theorem d_M_ringer_61 : decode prog_15_method_69_code 61 = .ok (.istore_n 3, 1) := by decide +kernel
theorem d_M_ringer_62 : decode prog_15_method_69_code 62 = .ok (.iinc 4 1, 3) := by decide +kernel
theorem d_M_ringer_65 : decode prog_15_method_69_code 65 = .ok (.goto (-30), 3) := by decide +kernel
theorem d_M_ringer_68 : decode prog_15_method_69_code 68 = .ok (.iload_n 3, 1) := by decide +kernel
theorem d_M_ringer_69 : decode prog_15_method_69_code 69 = .ok (.ireturn, 1) := by decide +kernel
set_option maxRecDepth 20000 in
theorem jc_M_ringer_60 (N : Nat) (re35 : Option Nat → Int32 → Int32 → Hp → Option (Int32 × Hp)) (hre35 : ∀ y0 y1 y2 h, J p l e R s m args below meth c prog_15_method_69_code 5 "RingingChamberModel" 0 0 (some .int) "ringer" D dA B n0 s0 (QM below args s D dA B n0 s0 vI) 35 [(0, vr y0), (3, vi y1), (4, vi y2)] [] h (re35 y0 y1 y2 h)) (l0 : Option Nat) (l4 : Int32) (u0 : Int32) (u1 : Int32) (h : Hp) : J p l e R s m args below meth c prog_15_method_69_code 5 "RingingChamberModel" 0 0 (some .int) "ringer" D dA B n0 s0 (QM below args s D dA B n0 s0 vI) 60 [(0, vr l0), (4, vi l4)] [vi u1, vi u0] h (M_ringer_60 N re35 l0 l4 u0 u1 h) := by
  unfold M_ringer_60
  refine j_iadd d_M_ringer_60 ?_
  refine j_nmi (fun x1 => ?_)
  refine j_istore_n (lv' := [(3, vi x1), (0, vr l0), (4, vi l4)]) d_M_ringer_61 rfl (by decide) rfl ?_
  refine j_iinc (lvv := fun x2 => [(4, vi x2), (3, vi x1), (0, vr l0)]) d_M_ringer_62 2 rfl rfl (by decide) (fun _ => rfl) (fun x2 => ?_)
  refine j_goto (tgt := 35) d_M_ringer_65 (by decide) ?_
  exact J.sub [2, 1, 0] rfl (hre35 l0 x1 x2 h)
set_option maxRecDepth 20000 in
theorem jc_M_ringer_35 (N : Nat) : ∀ (n : Nat) (l0 : Option Nat) (l3 : Int32) (l4 : Int32) (h : Hp), J p l e R s m args below meth c prog_15_method_69_code 5 "RingingChamberModel" 0 0 (some .int) "ringer" D dA B n0 s0 (QM below args s D dA B n0 s0 vI) 35 [(0, vr l0), (3, vi l3), (4, vi l4)] [] h (M_ringer_35 N n l0 l3 l4 h) := by
  intro n
  induction n with
  | zero => intros; exact J.none
  | succ n ih =>
    intro l0 l3 l4 h
    rw [M_ringer_35]
    refine j_iload d_M_ringer_35 2 rfl ?_
    refine j_aload_n d_M_ringer_37 0 rfl rfl ?_
    refine j_getI d_M_ringer_38 fl_12_105.r (fun x1 => ?_)
    refine j_icmp_gt (tgt := 68) d_M_ringer_41 (by decide) ?_ ?_
    · refine j_iload_n d_M_ringer_68 1 rfl rfl ?_
      exact j_retI d_M_ringer_69
    · refine j_iload_n d_M_ringer_44 1 rfl rfl ?_
      refine j_aload_n d_M_ringer_45 0 rfl rfl ?_
      refine j_getR d_M_ringer_46 fl_12_63.r (fun x2 => ?_)
      refine j_iload d_M_ringer_49 2 rfl ?_
      refine j_zald d_M_ringer_51 (fun x3 => ?_)
      refine j_if_eq (tgt := 59) d_M_ringer_52 (by decide) ?_ ?_
      · refine j_iconst (v := 1) d_M_ringer_59 (by decide) ?_
        exact J.sub [0, 2] rfl (jc_M_ringer_60 N (M_ringer_35 N n) ih l0 l4 l3 1 h)
      · refine j_iconst (v := 0) d_M_ringer_55 (by decide) ?_
        refine j_goto (tgt := 60) d_M_ringer_56 (by decide) ?_
        exact J.sub [0, 2] rfl (jc_M_ringer_60 N (M_ringer_35 N n) ih l0 l4 l3 0 h)
set_option maxRecDepth 20000 in
theorem jc_M_ringer_29 (N : Nat) (l0 : Option Nat) (u0 : Option Nat) (u1 : Int32) (u2 : Int32) (h : Hp) : J p l e R s m args below meth c prog_15_method_69_code 5 "RingingChamberModel" 0 0 (some .int) "ringer" D dA B n0 s0 (QM below args s D dA B n0 s0 vI) 29 [(0, vr l0)] [vi u2, vi u1, vr u0] h (M_ringer_29 N l0 u0 u1 u2 h) := by
  unfold M_ringer_29
  refine j_zast d_M_ringer_29 (fun h1 => ?_)
  refine j_iconst (v := 0) d_M_ringer_30 (by decide) ?_
  refine j_istore_n (lv' := [(3, vi 0), (0, vr l0)]) d_M_ringer_31 rfl (by decide) rfl ?_
  refine j_iconst (v := 1) d_M_ringer_32 (by decide) ?_
  refine j_istore (lv' := [(4, vi 1), (3, vi 0), (0, vr l0)]) d_M_ringer_33 (by decide) rfl ?_
  exact J.sub [2, 1, 0] rfl (jc_M_ringer_35 N N l0 0 1 h1)
set_option maxRecDepth 20000 in
theorem jc_M_ringer (N : Nat) (l0 : Option Nat) (l1 : Int32) (l2 : Int32) (h : Hp) : J p l e R s m args below meth c prog_15_method_69_code 5 "RingingChamberModel" 0 0 (some .int) "ringer" D dA B n0 s0 (QM below args s D dA B n0 s0 vI) 0 [(0, vr l0), (1, vi l1), (2, vi l2)] [] h (M_ringer N l0 l1 l2 h) := by
  unfold M_ringer
  refine j_iload_n d_M_ringer_0 1 rfl rfl ?_
  refine j_iconst (v := 1) d_M_ringer_1 (by decide) ?_
  refine j_icmp_lt (tgt := 13) d_M_ringer_2 (by decide) ?_ ?_
  · refine j_iconst (v := -1) d_M_ringer_13 (by decide) ?_
    exact j_retI d_M_ringer_14
  · refine j_iload_n d_M_ringer_5 1 rfl rfl ?_
    refine j_aload_n d_M_ringer_6 0 rfl rfl ?_
    refine j_getI d_M_ringer_7 fl_12_105.r (fun x1 => ?_)
    refine j_icmp_le (tgt := 15) d_M_ringer_10 (by decide) ?_ ?_
    · refine j_aload_n d_M_ringer_15 0 rfl rfl ?_
      refine j_getR d_M_ringer_16 fl_12_63.r (fun x2 => ?_)
      refine j_iload_n d_M_ringer_19 1 rfl rfl ?_
      refine j_iload_n d_M_ringer_20 2 rfl rfl ?_
      refine j_if_ne (tgt := 28) d_M_ringer_21 (by decide) ?_ ?_
      · refine j_iconst (v := 1) d_M_ringer_24 (by decide) ?_
        refine j_goto (tgt := 29) d_M_ringer_25 (by decide) ?_
        exact J.sub [0] rfl (jc_M_ringer_29 N l0 x2 l1 1 h)
      · refine j_iconst (v := 0) d_M_ringer_28 (by decide) ?_
        exact J.sub [0] rfl (jc_M_ringer_29 N l0 x2 l1 0 h)
    · refine j_iconst (v := -1) d_M_ringer_13 (by decide) ?_
      exact j_retI d_M_ringer_14
set_option maxRecDepth 20000 in
theorem ct_M_ringer (N : Nat) (l : Launch) (D : va_G) (dA : Nat → ClassId) (B : Nat) (l0 : Option Nat) (l1 : Int32) (l2 : Int32) (h : Hp) : Ct l (⟨"RingingChamberModel", "ringer", "(IZ)I"⟩ : MethodName) prog_15_method_69_code 5 (some .int) 0 0 D dA B [vr l0, vi l1, vi l2] h vI (M_ringer N l0 l1 l2 h) :=
  Ct.of2 (own := "RingingChamberModel") (nme := "ringer") (lv := [(0, vr l0), (1, vi l1), (2, vi l2)]) rfl rfl (by decide) (Nat.le_of_ble_eq_true rfl) rfl (fun p e R s m args below meth c => jc_M_ringer N l0 l1 l2 h)
theorem d_M_heard_0 : decode prog_15_method_70_code 0 = .ok (.lconst 0, 1) := by decide +kernel
theorem d_M_heard_1 : decode prog_15_method_70_code 1 = .ok (.lstore_n 2, 1) := by decide +kernel
theorem d_M_heard_2 : decode prog_15_method_70_code 2 = .ok (.iconst 0, 1) := by decide +kernel
theorem d_M_heard_3 : decode prog_15_method_70_code 3 = .ok (.istore 4, 2) := by decide +kernel
theorem d_M_heard_5 : decode prog_15_method_70_code 5 = .ok (.iconst 1, 1) := by decide +kernel
theorem d_M_heard_6 : decode prog_15_method_70_code 6 = .ok (.istore 5, 2) := by decide +kernel
theorem d_M_heard_8 : decode prog_15_method_70_code 8 = .ok (.iload 5, 2) := by decide +kernel
theorem d_M_heard_10 : decode prog_15_method_70_code 10 = .ok (.aload_n 0, 1) := by decide +kernel
theorem d_M_heard_11 : decode prog_15_method_70_code 11 = .ok (.getfield 105, 3) := by decide +kernel
theorem d_M_heard_14 : decode prog_15_method_70_code 14 = .ok (.if_icmp .gt 58, 3) := by decide +kernel
theorem d_M_heard_17 : decode prog_15_method_70_code 17 = .ok (.iload_n 1, 1) := by decide +kernel
theorem d_M_heard_18 : decode prog_15_method_70_code 18 = .ok (.ifCond .lt 54, 3) := by decide +kernel
theorem d_M_heard_21 : decode prog_15_method_70_code 21 = .ok (.iload_n 1, 1) := by decide +kernel
theorem d_M_heard_22 : decode prog_15_method_70_code 22 = .ok (.aload_n 0, 1) := by decide +kernel
theorem d_M_heard_23 : decode prog_15_method_70_code 23 = .ok (.getfield 137, 3) := by decide +kernel
theorem d_M_heard_26 : decode prog_15_method_70_code 26 = .ok (.if_icmp .ge 46, 3) := by decide +kernel
theorem d_M_heard_29 : decode prog_15_method_70_code 29 = .ok (.aload_n 0, 1) := by decide +kernel
theorem d_M_heard_30 : decode prog_15_method_70_code 30 = .ok (.getfield 50, 3) := by decide +kernel
theorem d_M_heard_33 : decode prog_15_method_70_code 33 = .ok (.iload_n 1, 1) := by decide +kernel
theorem d_M_heard_34 : decode prog_15_method_70_code 34 = .ok (.laload, 1) := by decide +kernel
theorem d_M_heard_35 : decode prog_15_method_70_code 35 = .ok (.iload 5, 2) := by decide +kernel
theorem d_M_heard_37 : decode prog_15_method_70_code 37 = .ok (.invokestatic 157, 3) := by decide +kernel
theorem d_M_heard_40 : decode prog_15_method_70_code 40 = .ok (.istore 6, 2) := by decide +kernel
theorem d_M_heard_42 : decode prog_15_method_70_code 42 = .ok (.aload_n 0, 1) := by decide +kernel
theorem d_M_heard_43 : decode prog_15_method_70_code 43 = .ok (.getfield 63, 3) := by decide +kernel
theorem d_M_heard_46 : decode prog_15_method_70_code 46 = .ok (.iload 6, 2) := by decide +kernel
theorem d_M_heard_48 : decode prog_15_method_70_code 48 = .ok (.baload, 1) := by decide +kernel
theorem d_M_heard_49 : decode prog_15_method_70_code 49 = .ok (.ifCond .ne 17, 3) := by decide +kernel
theorem d_M_heard_52 : decode prog_15_method_70_code 52 = .ok (.lload_n 2, 1) := by decide +kernel
theorem d_M_heard_53 : decode prog_15_method_70_code 53 = .ok (.iload 6, 2) := by decide +kernel
theorem d_M_heard_55 : decode prog_15_method_70_code 55 = .ok (.i2l, 1) := by decide +kernel
theorem d_M_heard_56 : decode prog_15_method_70_code 56 = .ok (.iconst 4, 1) := by decide +kernel
theorem d_M_heard_57 : decode prog_15_method_70_code 57 = .ok (.iload 4, 2) := by decide +kernel
theorem d_M_heard_59 : decode prog_15_method_70_code 59 = .ok (.imul, 1) := by decide +kernel
theorem d_M_heard_60 : decode prog_15_method_70_code 60 = .ok (.lshl, 1) := by decide +kernel
theorem d_M_heard_61 : decode prog_15_method_70_code 61 = .ok (.ladd, 1) := by decide +kernel
theorem d_M_heard_62 : decode prog_15_method_70_code 62 = .ok (.lstore_n 2, 1) := by decide +kernel
theorem d_M_heard_63 : decode prog_15_method_70_code 63 = .ok (.iinc 4 1, 3) := by decide +kernel
theorem d_M_heard_66 : decode prog_15_method_70_code 66 = .ok (.iinc 5 1, 3) := by decide +kernel
theorem d_M_heard_69 : decode prog_15_method_70_code 69 = .ok (.goto (-61), 3) := by decide +kernel
theorem d_M_heard_72 : decode prog_15_method_70_code 72 = .ok (.lload_n 2, 1) := by decide +kernel
theorem d_M_heard_73 : decode prog_15_method_70_code 73 = .ok (.lreturn, 1) := by decide +kernel
set_option maxRecDepth 20000 in
theorem jc_M_heard_66 (N : Nat) (re8 : Option Nat → Int32 → Int64 → Int32 → Int32 → Hp → Option (Int64 × Hp)) (hre8 : ∀ y0 y1 y2 y3 y4 h, J p l e R s m args below meth c prog_15_method_70_code 7 "RingingChamberModel" 1 22 (some .long) "heard" D dA B n0 s0 (QM below args s D dA B n0 s0 vL) 8 [(0, vr y0), (1, vi y1), (2, vl y2), (4, vi y3), (5, vi y4)] [] h (re8 y0 y1 y2 y3 y4 h)) (l0 : Option Nat) (l1 : Int32) (l2 : Int64) (l4 : Int32) (l5 : Int32) (h : Hp) : J p l e R s m args below meth c prog_15_method_70_code 7 "RingingChamberModel" 1 22 (some .long) "heard" D dA B n0 s0 (QM below args s D dA B n0 s0 vL) 66 [(0, vr l0), (1, vi l1), (2, vl l2), (4, vi l4), (5, vi l5)] [] h (M_heard_66 N re8 l0 l1 l2 l4 l5 h) := by
  unfold M_heard_66
  refine j_iinc (lvv := fun x1 => [(5, vi x1), (0, vr l0), (1, vi l1), (2, vl l2), (4, vi l4)]) d_M_heard_66 4 rfl rfl (by decide) (fun _ => rfl) (fun x1 => ?_)
  refine j_goto (tgt := 8) d_M_heard_69 (by decide) ?_
  exact J.sub [1, 2, 3, 4, 0] rfl (hre8 l0 l1 l2 l4 x1 h)
set_option maxRecDepth 20000 in
theorem jc_M_heard_8 (N : Nat) : ∀ (n : Nat) (l0 : Option Nat) (l1 : Int32) (l2 : Int64) (l4 : Int32) (l5 : Int32) (h : Hp), J p l e R s m args below meth c prog_15_method_70_code 7 "RingingChamberModel" 1 22 (some .long) "heard" D dA B n0 s0 (QM below args s D dA B n0 s0 vL) 8 [(0, vr l0), (1, vi l1), (2, vl l2), (4, vi l4), (5, vi l5)] [] h (M_heard_8 N n l0 l1 l2 l4 l5 h) := by
  intro n
  induction n with
  | zero => intros; exact J.none
  | succ n ih =>
    intro l0 l1 l2 l4 l5 h
    rw [M_heard_8]
    refine j_iload d_M_heard_8 4 rfl ?_
    refine j_aload_n d_M_heard_10 0 rfl rfl ?_
    refine j_getI d_M_heard_11 fl_12_105.r (fun x1 => ?_)
    refine j_icmp_gt (tgt := 72) d_M_heard_14 (by decide) ?_ ?_
    · refine j_lload_n d_M_heard_72 2 rfl rfl ?_
      exact j_retL d_M_heard_73
    · refine j_iload_n d_M_heard_17 1 rfl rfl ?_
      refine j_if_lt (tgt := 72) d_M_heard_18 (by decide) ?_ ?_
      · refine j_lload_n d_M_heard_72 2 rfl rfl ?_
        exact j_retL d_M_heard_73
      · refine j_iload_n d_M_heard_21 1 rfl rfl ?_
        refine j_aload_n d_M_heard_22 0 rfl rfl ?_
        refine j_getI d_M_heard_23 fl_12_137.r (fun x2 => ?_)
        refine j_icmp_ge (tgt := 72) d_M_heard_26 (by decide) ?_ ?_
        · refine j_lload_n d_M_heard_72 2 rfl rfl ?_
          exact j_retL d_M_heard_73
        · refine j_aload_n d_M_heard_29 0 rfl rfl ?_
          refine j_getR d_M_heard_30 fl_12_50.r (fun x3 => ?_)
          refine j_iload_n d_M_heard_33 1 rfl rfl ?_
          refine j_lald d_M_heard_34 (fun x4 => ?_)
          refine j_iload d_M_heard_35 4 rfl ?_
          refine j_cSI2 d_M_heard_37 sl_12_157 ks_M_bell (ct_M_bell N l D dA B x4 l5 h) (by decide) (by decide) (Nat.le_of_ble_eq_true rfl) (fun x6 h5 => ?_)
          refine j_istore (lv' := [(6, vi x6), (0, vr l0), (1, vi l1), (2, vl l2), (4, vi l4), (5, vi l5)]) d_M_heard_40 (by decide) rfl ?_
          refine j_aload_n d_M_heard_42 1 rfl rfl ?_
          refine j_getR d_M_heard_43 fl_12_63.r (fun x7 => ?_)
          refine j_iload d_M_heard_46 0 rfl ?_
          refine j_zald d_M_heard_48 (fun x8 => ?_)
          refine j_if_ne (tgt := 66) d_M_heard_49 (by decide) ?_ ?_
          · refine j_lload_n d_M_heard_52 3 rfl rfl ?_
            refine j_iload d_M_heard_53 0 rfl ?_
            refine j_i2l d_M_heard_55 ?_
            refine j_iconst (v := 4) d_M_heard_56 (by decide) ?_
            refine j_iload d_M_heard_57 4 rfl ?_
            refine j_imul d_M_heard_59 ?_
            refine j_lshl d_M_heard_60 ?_
            refine j_ladd d_M_heard_61 ?_
            refine j_nml (fun x9 => ?_)
            refine j_lstore_n (lv' := [(2, vl x9), (6, vi x6), (0, vr l0), (1, vi l1), (4, vi l4), (5, vi l5)]) d_M_heard_62 rfl (by decide) rfl ?_
            refine j_iinc (lvv := fun x10 => [(4, vi x10), (2, vl x9), (6, vi x6), (0, vr l0), (1, vi l1), (5, vi l5)]) d_M_heard_63 4 rfl rfl (by decide) (fun _ => rfl) (fun x10 => ?_)
            exact J.sub [3, 4, 1, 0, 5] rfl (jc_M_heard_66 N (M_heard_8 N n) ih l0 l1 x9 x10 l5 h5)
          · exact J.sub [1, 2, 3, 4, 5] rfl (jc_M_heard_66 N (M_heard_8 N n) ih l0 l1 l2 l4 l5 h5)
set_option maxRecDepth 20000 in
theorem jc_M_heard (N : Nat) (l0 : Option Nat) (l1 : Int32) (h : Hp) : J p l e R s m args below meth c prog_15_method_70_code 7 "RingingChamberModel" 1 22 (some .long) "heard" D dA B n0 s0 (QM below args s D dA B n0 s0 vL) 0 [(0, vr l0), (1, vi l1)] [] h (M_heard N l0 l1 h) := by
  unfold M_heard
  refine j_lconst (v := 0) d_M_heard_0 (by decide) ?_
  refine j_lstore_n (lv' := [(2, vl 0), (0, vr l0), (1, vi l1)]) d_M_heard_1 rfl (by decide) rfl ?_
  refine j_iconst (v := 0) d_M_heard_2 (by decide) ?_
  refine j_istore (lv' := [(4, vi 0), (2, vl 0), (0, vr l0), (1, vi l1)]) d_M_heard_3 (by decide) rfl ?_
  refine j_iconst (v := 1) d_M_heard_5 (by decide) ?_
  refine j_istore (lv' := [(5, vi 1), (4, vi 0), (2, vl 0), (0, vr l0), (1, vi l1)]) d_M_heard_6 (by decide) rfl ?_
  exact J.sub [3, 4, 2, 1, 0] rfl (jc_M_heard_8 N N l0 l1 0 0 1 h)
set_option maxRecDepth 20000 in
theorem ct_M_heard (N : Nat) (l : Launch) (D : va_G) (dA : Nat → ClassId) (B : Nat) (l0 : Option Nat) (l1 : Int32) (h : Hp) : Ct l (⟨"RingingChamberModel", "heard", "(I)J"⟩ : MethodName) prog_15_method_70_code 7 (some .long) 1 22 D dA B [vr l0, vi l1] h vL (M_heard N l0 l1 h) :=
  Ct.of2 (own := "RingingChamberModel") (nme := "heard") (lv := [(0, vr l0), (1, vi l1)]) rfl rfl (by decide) (Nat.le_of_ble_eq_true rfl) rfl (fun p e R s m args below meth c => jc_M_heard N l0 l1 h)
theorem d_M_fits_0 : decode prog_15_method_71_code 0 = .ok (.aload_n 0, 1) := by decide +kernel
theorem d_M_fits_1 : decode prog_15_method_71_code 1 = .ok (.lload_n 1, 1) := by decide +kernel
theorem d_M_fits_2 : decode prog_15_method_71_code 2 = .ok (.invokevirtual 262, 3) := by decide +kernel
theorem d_M_fits_5 : decode prog_15_method_71_code 5 = .ok (.ifCond .eq 24, 3) := by decide +kernel
theorem d_M_fits_8 : decode prog_15_method_71_code 8 = .ok (.aload_n 0, 1) := by decide +kernel
theorem d_M_fits_9 : decode prog_15_method_71_code 9 = .ok (.lload_n 3, 1) := by decide +kernel
theorem d_M_fits_10 : decode prog_15_method_71_code 10 = .ok (.invokevirtual 290, 3) := by decide +kernel
theorem d_M_fits_13 : decode prog_15_method_71_code 13 = .ok (.ifCond .eq 16, 3) := by decide +kernel
theorem d_M_fits_16 : decode prog_15_method_71_code 16 = .ok (.aload_n 0, 1) := by decide +kernel
theorem d_M_fits_17 : decode prog_15_method_71_code 17 = .ok (.lload_n 1, 1) := by decide +kernel
theorem d_M_fits_18 : decode prog_15_method_71_code 18 = .ok (.lload_n 3, 1) := by decide +kernel
theorem d_M_fits_19 : decode prog_15_method_71_code 19 = .ok (.invokevirtual 293, 3) := by decide +kernel
theorem d_M_fits_22 : decode prog_15_method_71_code 22 = .ok (.ifCond .eq 7, 3) := by decide +kernel
theorem d_M_fits_25 : decode prog_15_method_71_code 25 = .ok (.iconst 1, 1) := by decide +kernel
theorem d_M_fits_26 : decode prog_15_method_71_code 26 = .ok (.goto 4, 3) := by decide +kernel
theorem d_M_fits_29 : decode prog_15_method_71_code 29 = .ok (.iconst 0, 1) := by decide +kernel
theorem d_M_fits_30 : decode prog_15_method_71_code 30 = .ok (.ireturn, 1) := by decide +kernel
set_option maxRecDepth 20000 in
theorem jc_M_fits (N : Nat) (l0 : Option Nat) (l1 : Int64) (l3 : Int64) (h : Hp) : J p l e R s m args below meth c prog_15_method_71_code 5 "RingingChamberModel" 2 47 (some .boolean) "fits" D dA B n0 s0 (QM below args s D dA B n0 s0 vI) 0 [(0, vr l0), (1, vl l1), (3, vl l3)] [] h (M_fits N l0 l1 l3 h) := by
  unfold M_fits
  refine j_aload_n d_M_fits_0 0 rfl rfl ?_
  refine j_lload_n d_M_fits_1 1 rfl rfl ?_
  refine j_vI1 d_M_fits_2 (allQ.cons (VD.mk vt_12_262_12 (ct_M_isRow N l D dA B l0 l1 h) (by decide) (by decide)) allQ.nil) (Nat.le_of_ble_eq_true rfl) (fun x2 h1 => ?_)
  refine j_if_eq (tgt := 29) d_M_fits_5 (by decide) ?_ ?_
  · refine j_iconst (v := 0) d_M_fits_29 (by decide) ?_
    exact j_retZ d_M_fits_30
  · refine j_aload_n d_M_fits_8 0 rfl rfl ?_
    refine j_lload_n d_M_fits_9 2 rfl rfl ?_
    refine j_vI1 d_M_fits_10 (allQ.cons (VD.mk vt_12_290_12 (ct_M_isPattern N l D dA B l0 l3 h1) (by decide) (by decide)) allQ.nil) (Nat.le_of_ble_eq_true rfl) (fun x4 h3 => ?_)
    refine j_if_eq (tgt := 29) d_M_fits_13 (by decide) ?_ ?_
    · refine j_iconst (v := 0) d_M_fits_29 (by decide) ?_
      exact j_retZ d_M_fits_30
    · refine j_aload_n d_M_fits_16 0 rfl rfl ?_
      refine j_lload_n d_M_fits_17 1 rfl rfl ?_
      refine j_lload_n d_M_fits_18 2 rfl rfl ?_
      refine j_vI2 d_M_fits_19 (allQ.cons (VD.mk vt_12_293_12 (ct_M_isFitting N l D dA B l0 l1 l3 h3) (by decide) (by decide)) allQ.nil) (Nat.le_of_ble_eq_true rfl) (fun x6 h5 => ?_)
      refine j_if_eq (tgt := 29) d_M_fits_22 (by decide) ?_ ?_
      · refine j_iconst (v := 0) d_M_fits_29 (by decide) ?_
        exact j_retZ d_M_fits_30
      · refine j_iconst (v := 1) d_M_fits_25 (by decide) ?_
        refine j_goto (tgt := 30) d_M_fits_26 (by decide) ?_
        exact j_retZ d_M_fits_30
set_option maxRecDepth 20000 in
theorem ct_M_fits (N : Nat) (l : Launch) (D : va_G) (dA : Nat → ClassId) (B : Nat) (l0 : Option Nat) (l1 : Int64) (l3 : Int64) (h : Hp) : Ct l (⟨"RingingChamberModel", "fits", "(JJ)Z"⟩ : MethodName) prog_15_method_71_code 5 (some .boolean) 2 47 D dA B [vr l0, vl l1, vl l3] h vI (M_fits N l0 l1 l3 h) :=
  Ct.of2 (own := "RingingChamberModel") (nme := "fits") (lv := [(0, vr l0), (1, vl l1), (3, vl l3)]) rfl rfl (by decide) (Nat.le_of_ble_eq_true rfl) rfl (fun p e R s m args below meth c => jc_M_fits N l0 l1 l3 h)
theorem d_M_music_0 : decode prog_15_method_72_code 0 = .ok (.aload_n 0, 1) := by decide +kernel
theorem d_M_music_1 : decode prog_15_method_72_code 1 = .ok (.lload_n 1, 1) := by decide +kernel
theorem d_M_music_2 : decode prog_15_method_72_code 2 = .ok (.invokevirtual 290, 3) := by decide +kernel
theorem d_M_music_5 : decode prog_15_method_72_code 5 = .ok (.ifCond .ne 5, 3) := by decide +kernel
theorem d_M_music_8 : decode prog_15_method_72_code 8 = .ok (.iconst (-1), 1) := by decide +kernel
theorem d_M_music_9 : decode prog_15_method_72_code 9 = .ok (.ireturn, 1) := by decide +kernel
theorem d_M_music_10 : decode prog_15_method_72_code 10 = .ok (.iconst 0, 1) := by decide +kernel
theorem d_M_music_11 : decode prog_15_method_72_code 11 = .ok (.istore_n 3, 1) := by decide +kernel
theorem d_M_music_12 : decode prog_15_method_72_code 12 = .ok (.iconst 1, 1) := by decide +kernel
theorem d_M_music_13 : decode prog_15_method_72_code 13 = .ok (.istore 4, 2) := by decide +kernel
theorem d_M_music_15 : decode prog_15_method_72_code 15 = .ok (.iload 4, 2) := by decide +kernel
theorem d_M_music_17 : decode prog_15_method_72_code 17 = .ok (.aload_n 0, 1) := by decide +kernel
theorem d_M_music_18 : decode prog_15_method_72_code 18 = .ok (.getfield 137, 3) := by decide +kernel
theorem d_M_music_21 : decode prog_15_method_72_code 21 = .ok (.if_icmp .ge 32, 3) := by decide +kernel
theorem d_M_music_24 : decode prog_15_method_72_code 24 = .ok (.iload_n 3, 1) := by decide +kernel
theorem d_M_music_25 : decode prog_15_method_72_code 25 = .ok (.aload_n 0, 1) := by decide +kernel
theorem d_M_music_26 : decode prog_15_method_72_code 26 = .ok (.aload_n 0, 1) := by decide +kernel
theorem d_M_music_27 : decode prog_15_method_72_code 27 = .ok (.getfield 50, 3) := by decide +kernel
theorem d_M_music_30 : decode prog_15_method_72_code 30 = .ok (.iload 4, 2) := by decide +kernel
theorem d_M_music_32 : decode prog_15_method_72_code 32 = .ok (.laload, 1) := by decide +kernel
theorem d_M_music_33 : decode prog_15_method_72_code 33 = .ok (.lload_n 1, 1) := by decide +kernel
theorem d_M_music_34 : decode prog_15_method_72_code 34 = .ok (.invokevirtual 293, 3) := by decide +kernel
theorem d_M_music_37 : decode prog_15_method_72_code 37 = .ok (.ifCond .eq 7, 3) := by decide +kernel
theorem d_M_music_40 : decode prog_15_method_72_code 40 = .ok (.iconst 1, 1) := by decide +kernel
theorem d_M_music_41 : decode prog_15_method_72_code 41 = .ok (.goto 4, 3) := by decide +kernel
theorem d_M_music_44 : decode prog_15_method_72_code 44 = .ok (.iconst 0, 1) := by decide +kernel
theorem d_M_music_45 : decode prog_15_method_72_code 45 = .ok (.iadd, 1) := by decide +kernel
theorem d_M_music_46 : decode prog_15_method_72_code 46 = .ok (.istore_n 3, 1) := by decide +kernel
theorem d_M_music_47 : decode prog_15_method_72_code 47 = .ok (.iinc 4 1, 3) := by decide +kernel
theorem d_M_music_50 : decode prog_15_method_72_code 50 = .ok (.goto (-35), 3) := by decide +kernel
theorem d_M_music_53 : decode prog_15_method_72_code 53 = .ok (.iload_n 3, 1) := by decide +kernel
theorem d_M_music_54 : decode prog_15_method_72_code 54 = .ok (.ireturn, 1) := by decide +kernel
set_option maxRecDepth 20000 in
theorem jc_M_music_45 (N : Nat) (re15 : Option Nat → Int64 → Int32 → Int32 → Hp → Option (Int32 × Hp)) (hre15 : ∀ y0 y1 y2 y3 h, J p l e R s m args below meth c prog_15_method_72_code 5 "RingingChamberModel" 2 47 (some .int) "music" D dA B n0 s0 (QM below args s D dA B n0 s0 vI) 15 [(0, vr y0), (1, vl y1), (3, vi y2), (4, vi y3)] [] h (re15 y0 y1 y2 y3 h)) (l0 : Option Nat) (l1 : Int64) (l4 : Int32) (u0 : Int32) (u1 : Int32) (h : Hp) : J p l e R s m args below meth c prog_15_method_72_code 5 "RingingChamberModel" 2 47 (some .int) "music" D dA B n0 s0 (QM below args s D dA B n0 s0 vI) 45 [(0, vr l0), (1, vl l1), (4, vi l4)] [vi u1, vi u0] h (M_music_45 N re15 l0 l1 l4 u0 u1 h) := by
  unfold M_music_45
  refine j_iadd d_M_music_45 ?_
  refine j_nmi (fun x1 => ?_)
  refine j_istore_n (lv' := [(3, vi x1), (0, vr l0), (1, vl l1), (4, vi l4)]) d_M_music_46 rfl (by decide) rfl ?_
  refine j_iinc (lvv := fun x2 => [(4, vi x2), (3, vi x1), (0, vr l0), (1, vl l1)]) d_M_music_47 3 rfl rfl (by decide) (fun _ => rfl) (fun x2 => ?_)
  refine j_goto (tgt := 15) d_M_music_50 (by decide) ?_
  exact J.sub [2, 3, 1, 0] rfl (hre15 l0 l1 x1 x2 h)
set_option maxRecDepth 20000 in
theorem jc_M_music_15 (N : Nat) : ∀ (n : Nat) (l0 : Option Nat) (l1 : Int64) (l3 : Int32) (l4 : Int32) (h : Hp), J p l e R s m args below meth c prog_15_method_72_code 5 "RingingChamberModel" 2 47 (some .int) "music" D dA B n0 s0 (QM below args s D dA B n0 s0 vI) 15 [(0, vr l0), (1, vl l1), (3, vi l3), (4, vi l4)] [] h (M_music_15 N n l0 l1 l3 l4 h) := by
  intro n
  induction n with
  | zero => intros; exact J.none
  | succ n ih =>
    intro l0 l1 l3 l4 h
    rw [M_music_15]
    refine j_iload d_M_music_15 3 rfl ?_
    refine j_aload_n d_M_music_17 0 rfl rfl ?_
    refine j_getI d_M_music_18 fl_12_137.r (fun x1 => ?_)
    refine j_icmp_ge (tgt := 53) d_M_music_21 (by decide) ?_ ?_
    · refine j_iload_n d_M_music_53 2 rfl rfl ?_
      exact j_retI d_M_music_54
    · refine j_iload_n d_M_music_24 2 rfl rfl ?_
      refine j_aload_n d_M_music_25 0 rfl rfl ?_
      refine j_aload_n d_M_music_26 0 rfl rfl ?_
      refine j_getR d_M_music_27 fl_12_50.r (fun x2 => ?_)
      refine j_iload d_M_music_30 3 rfl ?_
      refine j_lald d_M_music_32 (fun x3 => ?_)
      refine j_lload_n d_M_music_33 1 rfl rfl ?_
      refine j_vI2 d_M_music_34 (allQ.cons (VD.mk vt_12_293_12 (ct_M_isFitting N l D dA B l0 x3 l1 h) (by decide) (by decide)) allQ.nil) (Nat.le_of_ble_eq_true rfl) (fun x5 h4 => ?_)
      refine j_if_eq (tgt := 44) d_M_music_37 (by decide) ?_ ?_
      · refine j_iconst (v := 0) d_M_music_44 (by decide) ?_
        exact J.sub [0, 1, 3] rfl (jc_M_music_45 N (M_music_15 N n) ih l0 l1 l4 l3 0 h4)
      · refine j_iconst (v := 1) d_M_music_40 (by decide) ?_
        refine j_goto (tgt := 45) d_M_music_41 (by decide) ?_
        exact J.sub [0, 1, 3] rfl (jc_M_music_45 N (M_music_15 N n) ih l0 l1 l4 l3 1 h4)
set_option maxRecDepth 20000 in
theorem jc_M_music (N : Nat) (l0 : Option Nat) (l1 : Int64) (h : Hp) : J p l e R s m args below meth c prog_15_method_72_code 5 "RingingChamberModel" 2 47 (some .int) "music" D dA B n0 s0 (QM below args s D dA B n0 s0 vI) 0 [(0, vr l0), (1, vl l1)] [] h (M_music N l0 l1 h) := by
  unfold M_music
  refine j_aload_n d_M_music_0 0 rfl rfl ?_
  refine j_lload_n d_M_music_1 1 rfl rfl ?_
  refine j_vI1 d_M_music_2 (allQ.cons (VD.mk vt_12_290_12 (ct_M_isPattern N l D dA B l0 l1 h) (by decide) (by decide)) allQ.nil) (Nat.le_of_ble_eq_true rfl) (fun x2 h1 => ?_)
  refine j_if_ne (tgt := 10) d_M_music_5 (by decide) ?_ ?_
  · refine j_iconst (v := -1) d_M_music_8 (by decide) ?_
    exact j_retI d_M_music_9
  · refine j_iconst (v := 0) d_M_music_10 (by decide) ?_
    refine j_istore_n (lv' := [(3, vi 0), (0, vr l0), (1, vl l1)]) d_M_music_11 rfl (by decide) rfl ?_
    refine j_iconst (v := 1) d_M_music_12 (by decide) ?_
    refine j_istore (lv' := [(4, vi 1), (3, vi 0), (0, vr l0), (1, vl l1)]) d_M_music_13 (by decide) rfl ?_
    exact J.sub [2, 3, 1, 0] rfl (jc_M_music_15 N N l0 l1 0 1 h1)
set_option maxRecDepth 20000 in
theorem ct_M_music (N : Nat) (l : Launch) (D : va_G) (dA : Nat → ClassId) (B : Nat) (l0 : Option Nat) (l1 : Int64) (h : Hp) : Ct l (⟨"RingingChamberModel", "music", "(J)I"⟩ : MethodName) prog_15_method_72_code 5 (some .int) 2 47 D dA B [vr l0, vl l1] h vI (M_music N l0 l1 h) :=
  Ct.of2 (own := "RingingChamberModel") (nme := "music") (lv := [(0, vr l0), (1, vl l1)]) rfl rfl (by decide) (Nat.le_of_ble_eq_true rfl) rfl (fun p e R s m args below meth c => jc_M_music N l0 l1 h)
theorem d_M_allow_0 : decode prog_15_method_73_code 0 = .ok (.aload_n 0, 1) := by decide +kernel
theorem d_M_allow_1 : decode prog_15_method_73_code 1 = .ok (.iload_n 1, 1) := by decide +kernel
theorem d_M_allow_2 : decode prog_15_method_73_code 2 = .ok (.invokevirtual 187, 3) := by decide +kernel
theorem d_M_allow_5 : decode prog_15_method_73_code 5 = .ok (.ifCond .eq 13, 3) := by decide +kernel
theorem d_M_allow_8 : decode prog_15_method_73_code 8 = .ok (.iload_n 2, 1) := by decide +kernel
theorem d_M_allow_9 : decode prog_15_method_73_code 9 = .ok (.ifCond .lt 9, 3) := by decide +kernel
theorem d_M_allow_12 : decode prog_15_method_73_code 12 = .ok (.iload_n 2, 1) := by decide +kernel
theorem d_M_allow_13 : decode prog_15_method_73_code 13 = .ok (.bipush 7, 2) := by decide +kernel
theorem d_M_allow_15 : decode prog_15_method_73_code 15 = .ok (.if_icmp .le 5, 3) := by decide +kernel
theorem d_M_allow_18 : decode prog_15_method_73_code 18 = .ok (.iconst (-1), 1) := by decide +kernel
theorem d_M_allow_19 : decode prog_15_method_73_code 19 = .ok (.ireturn, 1) := by decide +kernel
theorem d_M_allow_20 : decode prog_15_method_73_code 20 = .ok (.aload_n 0, 1) := by decide +kernel
theorem d_M_allow_21 : decode prog_15_method_73_code 21 = .ok (.getfield 67, 3) := by decide +kernel
theorem d_M_allow_24 : decode prog_15_method_73_code 24 = .ok (.iload_n 1, 1) := by decide +kernel
theorem d_M_allow_25 : decode prog_15_method_73_code 25 = .ok (.iload_n 2, 1) := by decide +kernel
theorem d_M_allow_26 : decode prog_15_method_73_code 26 = .ok (.iastore, 1) := by decide +kernel
theorem d_M_allow_27 : decode prog_15_method_73_code 27 = .ok (.aload_n 0, 1) := by decide +kernel
theorem d_M_allow_28 : decode prog_15_method_73_code 28 = .ok (.iconst 1, 1) := by decide +kernel
theorem d_M_allow_29 : decode prog_15_method_73_code 29 = .ok (.putfield 121, 3) := by decide +kernel
theorem d_M_allow_32 : decode prog_15_method_73_code 32 = .ok (.iconst 0, 1) := by decide +kernel
theorem d_M_allow_33 : decode prog_15_method_73_code 33 = .ok (.istore_n 3, 1) := by decide +kernel
theorem d_M_allow_34 : decode prog_15_method_73_code 34 = .ok (.iconst 0, 1) := by decide +kernel
theorem d_M_allow_35 : decode prog_15_method_73_code 35 = .ok (.istore 4, 2) := by decide +kernel
theorem d_M_allow_37 : decode prog_15_method_73_code 37 = .ok (.iload 4, 2) := by decide +kernel
theorem d_M_allow_39 : decode prog_15_method_73_code 39 = .ok (.aload_n 0, 1) := by decide +kernel
theorem d_M_allow_40 : decode prog_15_method_73_code 40 = .ok (.getfield 109, 3) := by decide +kernel
theorem d_M_allow_43 : decode prog_15_method_73_code 43 = .ok (.if_icmp .ge 22, 3) := by decide +kernel
theorem d_M_allow_46 : decode prog_15_method_73_code 46 = .ok (.iload_n 3, 1) := by decide +kernel
theorem d_M_allow_47 : decode prog_15_method_73_code 47 = .ok (.aload_n 0, 1) := by decide +kernel
theorem d_M_allow_48 : decode prog_15_method_73_code 48 = .ok (.getfield 67, 3) := by decide +kernel
theorem d_M_allow_51 : decode prog_15_method_73_code 51 = .ok (.iload 4, 2) := by decide +kernel
theorem d_M_allow_53 : decode prog_15_method_73_code 53 = .ok (.iaload, 1) := by decide +kernel
theorem d_M_allow_54 : decode prog_15_method_73_code 54 = .ok (.invokestatic 297, 3) := by decide +kernel
theorem d_M_allow_57 : decode prog_15_method_73_code 57 = .ok (.iadd, 1) := by decide +kernel
theorem d_M_allow_58 : decode prog_15_method_73_code 58 = .ok (.istore_n 3, 1) := by decide +kernel
theorem d_M_allow_59 : decode prog_15_method_73_code 59 = .ok (.iinc 4 1, 3) := by decide +kernel
theorem d_M_allow_62 : decode prog_15_method_73_code 62 = .ok (.goto (-25), 3) := by decide +kernel
theorem d_M_allow_65 : decode prog_15_method_73_code 65 = .ok (.iload_n 3, 1) := by decide +kernel
theorem d_M_allow_66 : decode prog_15_method_73_code 66 = .ok (.ireturn, 1) := by decide +kernel
set_option maxRecDepth 20000 in
theorem jc_M_allow_37 (N : Nat) : ∀ (n : Nat) (l0 : Option Nat) (l3 : Int32) (l4 : Int32) (h : Hp), J p l e R s m args below meth c prog_15_method_73_code 5 "RingingChamberModel" 1 21 (some .int) "allow" D dA B n0 s0 (QM below args s D dA B n0 s0 vI) 37 [(0, vr l0), (3, vi l3), (4, vi l4)] [] h (M_allow_37 N n l0 l3 l4 h) := by
  intro n
  induction n with
  | zero => intros; exact J.none
  | succ n ih =>
    intro l0 l3 l4 h
    rw [M_allow_37]
    refine j_iload d_M_allow_37 2 rfl ?_
    refine j_aload_n d_M_allow_39 0 rfl rfl ?_
    refine j_getI d_M_allow_40 fl_12_109.r (fun x1 => ?_)
    refine j_icmp_ge (tgt := 65) d_M_allow_43 (by decide) ?_ ?_
    · refine j_iload_n d_M_allow_65 1 rfl rfl ?_
      exact j_retI d_M_allow_66
    · refine j_iload_n d_M_allow_46 1 rfl rfl ?_
      refine j_aload_n d_M_allow_47 0 rfl rfl ?_
      refine j_getR d_M_allow_48 fl_12_67.r (fun x2 => ?_)
      refine j_iload d_M_allow_51 2 rfl ?_
      refine j_iald d_M_allow_53 (fun x3 => ?_)
      refine j_cSI1 d_M_allow_54 sl_12_297 ks_Jk_bitCount (ct_Jk_bitCount N l D dA B x3 h) (by decide) (by decide) (Nat.le_of_ble_eq_true rfl) (fun x5 h4 => ?_)
      refine j_iadd d_M_allow_57 ?_
      refine j_nmi (fun x6 => ?_)
      refine j_istore_n (lv' := [(3, vi x6), (0, vr l0), (4, vi l4)]) d_M_allow_58 rfl (by decide) rfl ?_
      refine j_iinc (lvv := fun x7 => [(4, vi x7), (3, vi x6), (0, vr l0)]) d_M_allow_59 2 rfl rfl (by decide) (fun _ => rfl) (fun x7 => ?_)
      refine j_goto (tgt := 37) d_M_allow_62 (by decide) ?_
      exact J.sub [2, 1, 0] rfl (ih l0 x6 x7 h4)
set_option maxRecDepth 20000 in
theorem jc_M_allow (N : Nat) (l0 : Option Nat) (l1 : Int32) (l2 : Int32) (h : Hp) : J p l e R s m args below meth c prog_15_method_73_code 5 "RingingChamberModel" 1 21 (some .int) "allow" D dA B n0 s0 (QM below args s D dA B n0 s0 vI) 0 [(0, vr l0), (1, vi l1), (2, vi l2)] [] h (M_allow N l0 l1 l2 h) := by
  unfold M_allow
  refine j_aload_n d_M_allow_0 0 rfl rfl ?_
  refine j_iload_n d_M_allow_1 1 rfl rfl ?_
  refine j_vI1 d_M_allow_2 (allQ.cons (VD.mk vt_12_187_12 (ct_M_isMethod N l D dA B l0 l1 h) (by decide) (by decide)) allQ.nil) (Nat.le_of_ble_eq_true rfl) (fun x2 h1 => ?_)
  refine j_if_eq (tgt := 18) d_M_allow_5 (by decide) ?_ ?_
  · refine j_iconst (v := -1) d_M_allow_18 (by decide) ?_
    exact j_retI d_M_allow_19
  · refine j_iload_n d_M_allow_8 2 rfl rfl ?_
    refine j_if_lt (tgt := 18) d_M_allow_9 (by decide) ?_ ?_
    · refine j_iconst (v := -1) d_M_allow_18 (by decide) ?_
      exact j_retI d_M_allow_19
    · refine j_iload_n d_M_allow_12 2 rfl rfl ?_
      refine j_bipush (v := 7) d_M_allow_13 (by decide) ?_
      refine j_icmp_le (tgt := 20) d_M_allow_15 (by decide) ?_ ?_
      · refine j_aload_n d_M_allow_20 0 rfl rfl ?_
        refine j_getR d_M_allow_21 fl_12_67.r (fun x3 => ?_)
        refine j_iload_n d_M_allow_24 1 rfl rfl ?_
        refine j_iload_n d_M_allow_25 2 rfl rfl ?_
        refine j_iast d_M_allow_26 (fun h4 => ?_)
        refine j_aload_n d_M_allow_27 0 rfl rfl ?_
        refine j_iconst (v := 1) d_M_allow_28 (by decide) ?_
        refine j_putZ d_M_allow_29 fl_12_121 (Or.inl rfl) (fun h5 => ?_)
        refine j_iconst (v := 0) d_M_allow_32 (by decide) ?_
        refine j_istore_n (lv' := [(3, vi 0), (0, vr l0), (1, vi l1), (2, vi l2)]) d_M_allow_33 rfl (by decide) rfl ?_
        refine j_iconst (v := 0) d_M_allow_34 (by decide) ?_
        refine j_istore (lv' := [(4, vi 0), (3, vi 0), (0, vr l0), (1, vi l1), (2, vi l2)]) d_M_allow_35 (by decide) rfl ?_
        exact J.sub [2, 1, 0] rfl (jc_M_allow_37 N N l0 0 0 h5)
      · refine j_iconst (v := -1) d_M_allow_18 (by decide) ?_
        exact j_retI d_M_allow_19
set_option maxRecDepth 20000 in
theorem ct_M_allow (N : Nat) (l : Launch) (D : va_G) (dA : Nat → ClassId) (B : Nat) (l0 : Option Nat) (l1 : Int32) (l2 : Int32) (h : Hp) : Ct l (⟨"RingingChamberModel", "allow", "(II)I"⟩ : MethodName) prog_15_method_73_code 5 (some .int) 1 21 D dA B [vr l0, vi l1, vi l2] h vI (M_allow N l0 l1 l2 h) :=
  Ct.of2 (own := "RingingChamberModel") (nme := "allow") (lv := [(0, vr l0), (1, vi l1), (2, vi l2)]) rfl rfl (by decide) (Nat.le_of_ble_eq_true rfl) rfl (fun p e R s m args below meth c => jc_M_allow N l0 l1 l2 h)
theorem d_M_begins_0 : decode prog_15_method_76_code 0 = .ok (.aload_n 0, 1) := by decide +kernel
theorem d_M_begins_1 : decode prog_15_method_76_code 1 = .ok (.getfield 70, 3) := by decide +kernel
theorem d_M_begins_4 : decode prog_15_method_76_code 4 = .ok (.aload_n 0, 1) := by decide +kernel
theorem d_M_begins_5 : decode prog_15_method_76_code 5 = .ok (.getfield 77, 3) := by decide +kernel
theorem d_M_begins_8 : decode prog_15_method_76_code 8 = .ok (.aload_n 0, 1) := by decide +kernel
theorem d_M_begins_9 : decode prog_15_method_76_code 9 = .ok (.getfield 315, 3) := by decide +kernel
theorem d_M_begins_12 : decode prog_15_method_76_code 12 = .ok (.iaload, 1) := by decide +kernel
theorem d_M_begins_13 : decode prog_15_method_76_code 13 = .ok (.iaload, 1) := by decide +kernel
theorem d_M_begins_14 : decode prog_15_method_76_code 14 = .ok (.istore_n 1, 1) := by decide +kernel
theorem d_M_begins_15 : decode prog_15_method_76_code 15 = .ok (.aload_n 0, 1) := by decide +kernel
theorem d_M_begins_16 : decode prog_15_method_76_code 16 = .ok (.getfield 315, 3) := by decide +kernel
theorem d_M_begins_19 : decode prog_15_method_76_code 19 = .ok (.bipush 30, 2) := by decide +kernel
theorem d_M_begins_21 : decode prog_15_method_76_code 21 = .ok (.imul, 1) := by decide +kernel
theorem d_M_begins_22 : decode prog_15_method_76_code 22 = .ok (.iconst 3, 1) := by decide +kernel
theorem d_M_begins_23 : decode prog_15_method_76_code 23 = .ok (.imul, 1) := by decide +kernel
theorem d_M_begins_24 : decode prog_15_method_76_code 24 = .ok (.aload_n 0, 1) := by decide +kernel
theorem d_M_begins_25 : decode prog_15_method_76_code 25 = .ok (.getfield 77, 3) := by decide +kernel
theorem d_M_begins_28 : decode prog_15_method_76_code 28 = .ok (.aload_n 0, 1) := by decide +kernel
theorem d_M_begins_29 : decode prog_15_method_76_code 29 = .ok (.getfield 315, 3) := by decide +kernel
theorem d_M_begins_32 : decode prog_15_method_76_code 32 = .ok (.iaload, 1) := by decide +kernel
theorem d_M_begins_33 : decode prog_15_method_76_code 33 = .ok (.iadd, 1) := by decide +kernel
theorem d_M_begins_34 : decode prog_15_method_76_code 34 = .ok (.istore_n 2, 1) := by decide +kernel
theorem d_M_begins_35 : decode prog_15_method_76_code 35 = .ok (.aload_n 0, 1) := by decide +kernel
theorem d_M_begins_36 : decode prog_15_method_76_code 36 = .ok (.getfield 73, 3) := by decide +kernel
theorem d_M_begins_39 : decode prog_15_method_76_code 39 = .ok (.iload_n 2, 1) := by decide +kernel
theorem d_M_begins_40 : decode prog_15_method_76_code 40 = .ok (.baload, 1) := by decide +kernel
theorem d_M_begins_41 : decode prog_15_method_76_code 41 = .ok (.iconst 2, 1) := by decide +kernel
theorem d_M_begins_42 : decode prog_15_method_76_code 42 = .ok (.if_icmp .ne 5, 3) := by decide +kernel
theorem d_M_begins_45 : decode prog_15_method_76_code 45 = .ok (.iconst 0, 1) := by decide +kernel
theorem d_M_begins_46 : decode prog_15_method_76_code 46 = .ok (.ireturn, 1) := by decide +kernel
theorem d_M_begins_47 : decode prog_15_method_76_code 47 = .ok (.aload_n 0, 1) := by decide +kernel
theorem d_M_begins_48 : decode prog_15_method_76_code 48 = .ok (.aload_n 0, 1) := by decide +kernel
theorem d_M_begins_49 : decode prog_15_method_76_code 49 = .ok (.getfield 73, 3) := by decide +kernel
theorem d_M_begins_52 : decode prog_15_method_76_code 52 = .ok (.iload_n 2, 1) := by decide +kernel
theorem d_M_begins_53 : decode prog_15_method_76_code 53 = .ok (.baload, 1) := by decide +kernel
theorem d_M_begins_54 : decode prog_15_method_76_code 54 = .ok (.ifCond .ne 7, 3) := by decide +kernel
theorem d_M_begins_57 : decode prog_15_method_76_code 57 = .ok (.iconst 1, 1) := by decide +kernel
theorem d_M_begins_58 : decode prog_15_method_76_code 58 = .ok (.goto 4, 3) := by decide +kernel
theorem d_M_begins_61 : decode prog_15_method_76_code 61 = .ok (.iconst 0, 1) := by decide +kernel
theorem d_M_begins_62 : decode prog_15_method_76_code 62 = .ok (.putfield 40, 3) := by decide +kernel
theorem d_M_begins_65 : decode prog_15_method_76_code 65 = .ok (.aload_n 0, 1) := by decide +kernel
theorem d_M_begins_66 : decode prog_15_method_76_code 66 = .ok (.iload_n 1, 1) := by decide +kernel
theorem d_M_begins_67 : decode prog_15_method_76_code 67 = .ok (.iconst 3, 1) := by decide +kernel
theorem d_M_begins_68 : decode prog_15_method_76_code 68 = .ok (.idiv, 1) := by decide +kernel
theorem d_M_begins_69 : decode prog_15_method_76_code 69 = .ok (.aload_n 0, 1) := by decide +kernel
theorem d_M_begins_70 : decode prog_15_method_76_code 70 = .ok (.getfield 315, 3) := by decide +kernel
theorem d_M_begins_73 : decode prog_15_method_76_code 73 = .ok (.iload_n 1, 1) := by decide +kernel
theorem d_M_begins_74 : decode prog_15_method_76_code 74 = .ok (.iconst 3, 1) := by decide +kernel
theorem d_M_begins_75 : decode prog_15_method_76_code 75 = .ok (.irem, 1) := by decide +kernel
theorem d_M_begins_76 : decode prog_15_method_76_code 76 = .ok (.invokevirtual 255, 3) := by decide +kernel
theorem d_M_begins_79 : decode prog_15_method_76_code 79 = .ok (.ifCond .eq 14, 3) := by decide +kernel
theorem d_M_begins_82 : decode prog_15_method_76_code 82 = .ok (.aload_n 0, 1) := by decide +kernel
theorem d_M_begins_83 : decode prog_15_method_76_code 83 = .ok (.getfield 217, 3) := by decide +kernel
theorem d_M_begins_86 : decode prog_15_method_76_code 86 = .ok (.ifCond .le 7, 3) := by decide +kernel
theorem d_M_begins_89 : decode prog_15_method_76_code 89 = .ok (.iconst 1, 1) := by decide +kernel
theorem d_M_begins_90 : decode prog_15_method_76_code 90 = .ok (.goto 4, 3) := by decide +kernel
theorem d_M_begins_93 : decode prog_15_method_76_code 93 = .ok (.iconst 0, 1) := by decide +kernel
theorem d_M_begins_94 : decode prog_15_method_76_code 94 = .ok (.istore_n 3, 1) := by decide +kernel
theorem d_M_begins_95 : decode prog_15_method_76_code 95 = .ok (.aload_n 0, 1) := by decide +kernel
theorem d_M_begins_96 : decode prog_15_method_76_code 96 = .ok (.iconst 1, 1) := by decide +kernel
theorem d_M_begins_97 : decode prog_15_method_76_code 97 = .ok (.putfield 40, 3) := by decide +kernel
theorem d_M_begins_100 : decode prog_15_method_76_code 100 = .ok (.aload_n 0, 1) := by decide +kernel
theorem d_M_begins_101 : decode prog_15_method_76_code 101 = .ok (.getfield 73, 3) := by decide +kernel
theorem d_M_begins_104 : decode prog_15_method_76_code 104 = .ok (.iload_n 2, 1) := by decide +kernel
theorem d_M_begins_105 : decode prog_15_method_76_code 105 = .ok (.iload_n 3, 1) := by decide +kernel
theorem d_M_begins_106 : decode prog_15_method_76_code 106 = .ok (.ifCond .eq 7, 3) := by decide +kernel
theorem d_M_begins_109 : decode prog_15_method_76_code 109 = .ok (.iconst 1, 1) := by decide +kernel
theorem d_M_begins_110 : decode prog_15_method_76_code 110 = .ok (.goto 4, 3) := by decide +kernel
theorem d_M_begins_113 : decode prog_15_method_76_code 113 = .ok (.iconst 2, 1) := by decide +kernel
theorem d_M_begins_114 : decode prog_15_method_76_code 114 = .ok (.i2b, 1) := by decide +kernel
theorem d_M_begins_115 : decode prog_15_method_76_code 115 = .ok (.bastore, 1) := by decide +kernel
theorem d_M_begins_116 : decode prog_15_method_76_code 116 = .ok (.iload_n 3, 1) := by decide +kernel
theorem d_M_begins_117 : decode prog_15_method_76_code 117 = .ok (.ifCond .ne 5, 3) := by decide +kernel
theorem d_M_begins_120 : decode prog_15_method_76_code 120 = .ok (.iconst 0, 1) := by decide +kernel
theorem d_M_begins_121 : decode prog_15_method_76_code 121 = .ok (.ireturn, 1) := by decide +kernel
theorem d_M_begins_122 : decode prog_15_method_76_code 122 = .ok (.iconst 0, 1) := by decide +kernel
theorem d_M_begins_123 : decode prog_15_method_76_code 123 = .ok (.istore 4, 2) := by decide +kernel
theorem d_M_begins_125 : decode prog_15_method_76_code 125 = .ok (.iload 4, 2) := by decide +kernel
theorem d_M_begins_127 : decode prog_15_method_76_code 127 = .ok (.aload_n 0, 1) := by decide +kernel
theorem d_M_begins_128 : decode prog_15_method_76_code 128 = .ok (.getfield 217, 3) := by decide +kernel
theorem d_M_begins_131 : decode prog_15_method_76_code 131 = .ok (.if_icmp .ge 23, 3) := by decide +kernel
theorem d_M_begins_134 : decode prog_15_method_76_code 134 = .ok (.aload_n 0, 1) := by decide +kernel
theorem d_M_begins_135 : decode prog_15_method_76_code 135 = .ok (.getfield 86, 3) := by decide +kernel
theorem d_M_begins_138 : decode prog_15_method_76_code 138 = .ok (.iload 4, 2) := by decide +kernel
theorem d_M_begins_140 : decode prog_15_method_76_code 140 = .ok (.aload_n 0, 1) := by decide +kernel
theorem d_M_begins_141 : decode prog_15_method_76_code 141 = .ok (.getfield 37, 3) := by decide +kernel
theorem d_M_begins_144 : decode prog_15_method_76_code 144 = .ok (.iload 4, 2) := by decide +kernel
theorem d_M_begins_146 : decode prog_15_method_76_code 146 = .ok (.iaload, 1) := by decide +kernel
theorem d_M_begins_147 : decode prog_15_method_76_code 147 = .ok (.iastore, 1) := by decide +kernel
theorem d_M_begins_148 : decode prog_15_method_76_code 148 = .ok (.iinc 4 1, 3) := by decide +kernel
theorem d_M_begins_151 : decode prog_15_method_76_code 151 = .ok (.goto (-26), 3) := by decide +kernel
theorem d_M_begins_154 : decode prog_15_method_76_code 154 = .ok (.aload_n 0, 1) := by decide +kernel
theorem d_M_begins_155 : decode prog_15_method_76_code 155 = .ok (.aload_n 0, 1) := by decide +kernel
theorem d_M_begins_156 : decode prog_15_method_76_code 156 = .ok (.getfield 217, 3) := by decide +kernel
theorem d_M_begins_159 : decode prog_15_method_76_code 159 = .ok (.putfield 330, 3) := by decide +kernel
theorem d_M_begins_162 : decode prog_15_method_76_code 162 = .ok (.aload_n 0, 1) := by decide +kernel
theorem d_M_begins_163 : decode prog_15_method_76_code 163 = .ok (.iconst 0, 1) := by decide +kernel
theorem d_M_begins_164 : decode prog_15_method_76_code 164 = .ok (.putfield 333, 3) := by decide +kernel
theorem d_M_begins_167 : decode prog_15_method_76_code 167 = .ok (.iconst 1, 1) := by decide +kernel
theorem d_M_begins_168 : decode prog_15_method_76_code 168 = .ok (.ireturn, 1) := by decide +kernel
set_option maxRecDepth 20000 in
theorem jc_M_begins_125 (N : Nat) : ∀ (n : Nat) (l0 : Option Nat) (l4 : Int32) (h : Hp), J p l e R s m args below meth c prog_15_method_76_code 5 "RingingChamberModel" 3 72 (some .boolean) "begins" D dA B n0 s0 (QM below args s D dA B n0 s0 vI) 125 [(0, vr l0), (4, vi l4)] [] h (M_begins_125 N n l0 l4 h) := by
  intro n
  induction n with
  | zero => intros; exact J.none
  | succ n ih =>
    intro l0 l4 h
    rw [M_begins_125]
    refine j_iload d_M_begins_125 1 rfl ?_
    refine j_aload_n d_M_begins_127 0 rfl rfl ?_
    refine j_getI d_M_begins_128 fl_12_217.r (fun x1 => ?_)
    refine j_icmp_ge (tgt := 154) d_M_begins_131 (by decide) ?_ ?_
    · refine j_aload_n d_M_begins_154 0 rfl rfl ?_
      refine j_aload_n d_M_begins_155 0 rfl rfl ?_
      refine j_getI d_M_begins_156 fl_12_217.r (fun x2 => ?_)
      refine j_putI d_M_begins_159 fl_12_330 (Or.inl rfl) (fun h3 => ?_)
      refine j_aload_n d_M_begins_162 0 rfl rfl ?_
      refine j_iconst (v := 0) d_M_begins_163 (by decide) ?_
      refine j_putI d_M_begins_164 fl_12_333 (Or.inl rfl) (fun h4 => ?_)
      refine j_iconst (v := 1) d_M_begins_167 (by decide) ?_
      exact j_retZ d_M_begins_168
    · refine j_aload_n d_M_begins_134 0 rfl rfl ?_
      refine j_getR d_M_begins_135 fl_12_86.r (fun x5 => ?_)
      refine j_iload d_M_begins_138 1 rfl ?_
      refine j_aload_n d_M_begins_140 0 rfl rfl ?_
      refine j_getR d_M_begins_141 fl_12_37.r (fun x6 => ?_)
      refine j_iload d_M_begins_144 1 rfl ?_
      refine j_iald d_M_begins_146 (fun x7 => ?_)
      refine j_iast d_M_begins_147 (fun h8 => ?_)
      refine j_iinc (lvv := fun x9 => [(4, vi x9), (0, vr l0)]) d_M_begins_148 1 rfl rfl (by decide) (fun _ => rfl) (fun x9 => ?_)
      refine j_goto (tgt := 125) d_M_begins_151 (by decide) ?_
      exact J.sub [1, 0] rfl (ih l0 x9 h8)
set_option maxRecDepth 20000 in
theorem jc_M_begins_114 (N : Nat) (l0 : Option Nat) (l3 : Int32) (u0 : Option Nat) (u1 : Int32) (u2 : Int32) (h : Hp) : J p l e R s m args below meth c prog_15_method_76_code 5 "RingingChamberModel" 3 72 (some .boolean) "begins" D dA B n0 s0 (QM below args s D dA B n0 s0 vI) 114 [(0, vr l0), (3, vi l3)] [vi u2, vi u1, vr u0] h (M_begins_114 N l0 l3 u0 u1 u2 h) := by
  unfold M_begins_114
  refine j_i2b d_M_begins_114 ?_
  refine j_bast d_M_begins_115 (fun h1 => ?_)
  refine j_iload_n d_M_begins_116 1 rfl rfl ?_
  refine j_if_ne (tgt := 122) d_M_begins_117 (by decide) ?_ ?_
  · refine j_iconst (v := 0) d_M_begins_120 (by decide) ?_
    exact j_retZ d_M_begins_121
  · refine j_iconst (v := 0) d_M_begins_122 (by decide) ?_
    refine j_istore (lv' := [(4, vi 0), (0, vr l0), (3, vi l3)]) d_M_begins_123 (by decide) rfl ?_
    exact J.sub [1, 0] rfl (jc_M_begins_125 N N l0 0 h1)
set_option maxRecDepth 20000 in
theorem jc_M_begins_94 (N : Nat) (l0 : Option Nat) (l2 : Int32) (u0 : Int32) (h : Hp) : J p l e R s m args below meth c prog_15_method_76_code 5 "RingingChamberModel" 3 72 (some .boolean) "begins" D dA B n0 s0 (QM below args s D dA B n0 s0 vI) 94 [(0, vr l0), (2, vi l2)] [vi u0] h (M_begins_94 N l0 l2 u0 h) := by
  unfold M_begins_94
  refine j_istore_n (lv' := [(3, vi u0), (0, vr l0), (2, vi l2)]) d_M_begins_94 rfl (by decide) rfl ?_
  refine j_aload_n d_M_begins_95 1 rfl rfl ?_
  refine j_iconst (v := 1) d_M_begins_96 (by decide) ?_
  refine j_putZ d_M_begins_97 fl_12_40 (Or.inl rfl) (fun h1 => ?_)
  refine j_aload_n d_M_begins_100 1 rfl rfl ?_
  refine j_getR d_M_begins_101 fl_12_73.r (fun x2 => ?_)
  refine j_iload_n d_M_begins_104 2 rfl rfl ?_
  refine j_iload_n d_M_begins_105 0 rfl rfl ?_
  refine j_if_eq (tgt := 113) d_M_begins_106 (by decide) ?_ ?_
  · refine j_iconst (v := 2) d_M_begins_113 (by decide) ?_
    exact J.sub [1, 0] rfl (jc_M_begins_114 N l0 u0 x2 l2 2 h1)
  · refine j_iconst (v := 1) d_M_begins_109 (by decide) ?_
    refine j_goto (tgt := 114) d_M_begins_110 (by decide) ?_
    exact J.sub [1, 0] rfl (jc_M_begins_114 N l0 u0 x2 l2 1 h1)
set_option maxRecDepth 20000 in
theorem jc_M_begins_93 (N : Nat) (l0 : Option Nat) (l2 : Int32) (h : Hp) : J p l e R s m args below meth c prog_15_method_76_code 5 "RingingChamberModel" 3 72 (some .boolean) "begins" D dA B n0 s0 (QM below args s D dA B n0 s0 vI) 93 [(0, vr l0), (2, vi l2)] [] h (M_begins_93 N l0 l2 h) := by
  unfold M_begins_93
  refine j_iconst (v := 0) d_M_begins_93 (by decide) ?_
  exact jc_M_begins_94 N l0 l2 0 h
set_option maxRecDepth 20000 in
theorem jc_M_begins_62 (N : Nat) (l0 : Option Nat) (l1 : Int32) (l2 : Int32) (u0 : Option Nat) (u1 : Int32) (h : Hp) : J p l e R s m args below meth c prog_15_method_76_code 5 "RingingChamberModel" 3 72 (some .boolean) "begins" D dA B n0 s0 (QM below args s D dA B n0 s0 vI) 62 [(0, vr l0), (1, vi l1), (2, vi l2)] [vi u1, vr u0] h (M_begins_62 N l0 l1 l2 u0 u1 h) := by
  unfold M_begins_62
  refine j_putZ d_M_begins_62 fl_12_40 (Or.inl rfl) (fun h1 => ?_)
  refine j_aload_n d_M_begins_65 0 rfl rfl ?_
  refine j_iload_n d_M_begins_66 1 rfl rfl ?_
  refine j_iconst (v := 3) d_M_begins_67 (by decide) ?_
  refine j_idiv d_M_begins_68 ?_
  refine j_aload_n d_M_begins_69 0 rfl rfl ?_
  refine j_getI d_M_begins_70 fl_12_315.r (fun x2 => ?_)
  refine j_iload_n d_M_begins_73 1 rfl rfl ?_
  refine j_iconst (v := 3) d_M_begins_74 (by decide) ?_
  refine j_irem d_M_begins_75 ?_
  refine j_vI3 d_M_begins_76 (allQ.cons (VD.mk vt_12_255_12 (ct_M_calledOf N l D dA B l0 (l1 / 3) x2 (l1 - l1 / 3 * 3) h1) (by decide) (by decide)) allQ.nil) (Nat.le_of_ble_eq_true rfl) (fun x4 h3 => ?_)
  refine j_if_eq (tgt := 93) d_M_begins_79 (by decide) ?_ ?_
  · exact J.sub [0, 2] rfl (jc_M_begins_93 N l0 l2 h3)
  · refine j_aload_n d_M_begins_82 0 rfl rfl ?_
    refine j_getI d_M_begins_83 fl_12_217.r (fun x5 => ?_)
    refine j_if_le (tgt := 93) d_M_begins_86 (by decide) ?_ ?_
    · exact J.sub [0, 2] rfl (jc_M_begins_93 N l0 l2 h3)
    · refine j_iconst (v := 1) d_M_begins_89 (by decide) ?_
      refine j_goto (tgt := 94) d_M_begins_90 (by decide) ?_
      exact J.sub [0, 2] rfl (jc_M_begins_94 N l0 l2 1 h3)
set_option maxRecDepth 20000 in
theorem jc_M_begins (N : Nat) (l0 : Option Nat) (h : Hp) : J p l e R s m args below meth c prog_15_method_76_code 5 "RingingChamberModel" 3 72 (some .boolean) "begins" D dA B n0 s0 (QM below args s D dA B n0 s0 vI) 0 [(0, vr l0)] [] h (M_begins N l0 h) := by
  unfold M_begins
  refine j_aload_n d_M_begins_0 0 rfl rfl ?_
  refine j_getR d_M_begins_1 fl_12_70.r (fun x1 => ?_)
  refine j_aload_n d_M_begins_4 0 rfl rfl ?_
  refine j_getR d_M_begins_5 fl_12_77.r (fun x2 => ?_)
  refine j_aload_n d_M_begins_8 0 rfl rfl ?_
  refine j_getI d_M_begins_9 fl_12_315.r (fun x3 => ?_)
  refine j_iald d_M_begins_12 (fun x4 => ?_)
  refine j_iald d_M_begins_13 (fun x5 => ?_)
  refine j_istore_n (lv' := [(1, vi x5), (0, vr l0)]) d_M_begins_14 rfl (by decide) rfl ?_
  refine j_aload_n d_M_begins_15 1 rfl rfl ?_
  refine j_getI d_M_begins_16 fl_12_315.r (fun x6 => ?_)
  refine j_bipush (v := 30) d_M_begins_19 (by decide) ?_
  refine j_imul d_M_begins_21 ?_
  refine j_iconst (v := 3) d_M_begins_22 (by decide) ?_
  refine j_imul d_M_begins_23 ?_
  refine j_aload_n d_M_begins_24 1 rfl rfl ?_
  refine j_getR d_M_begins_25 fl_12_77.r (fun x7 => ?_)
  refine j_aload_n d_M_begins_28 1 rfl rfl ?_
  refine j_getI d_M_begins_29 fl_12_315.r (fun x8 => ?_)
  refine j_iald d_M_begins_32 (fun x9 => ?_)
  refine j_iadd d_M_begins_33 ?_
  refine j_nmi (fun x10 => ?_)
  refine j_istore_n (lv' := [(2, vi x10), (1, vi x5), (0, vr l0)]) d_M_begins_34 rfl (by decide) rfl ?_
  refine j_aload_n d_M_begins_35 2 rfl rfl ?_
  refine j_getR d_M_begins_36 fl_12_73.r (fun x11 => ?_)
  refine j_iload_n d_M_begins_39 0 rfl rfl ?_
  refine j_bald d_M_begins_40 (fun x12 => ?_)
  refine j_iconst (v := 2) d_M_begins_41 (by decide) ?_
  refine j_icmp_ne (tgt := 47) d_M_begins_42 (by decide) ?_ ?_
  · refine j_iconst (v := 0) d_M_begins_45 (by decide) ?_
    exact j_retZ d_M_begins_46
  · refine j_aload_n d_M_begins_47 2 rfl rfl ?_
    refine j_aload_n d_M_begins_48 2 rfl rfl ?_
    refine j_getR d_M_begins_49 fl_12_73.r (fun x13 => ?_)
    refine j_iload_n d_M_begins_52 0 rfl rfl ?_
    refine j_bald d_M_begins_53 (fun x14 => ?_)
    refine j_if_ne (tgt := 61) d_M_begins_54 (by decide) ?_ ?_
    · refine j_iconst (v := 1) d_M_begins_57 (by decide) ?_
      refine j_goto (tgt := 62) d_M_begins_58 (by decide) ?_
      exact J.sub [2, 1, 0] rfl (jc_M_begins_62 N l0 x5 x10 l0 1 h)
    · refine j_iconst (v := 0) d_M_begins_61 (by decide) ?_
      exact J.sub [2, 1, 0] rfl (jc_M_begins_62 N l0 x5 x10 l0 0 h)
set_option maxRecDepth 20000 in
theorem ct_M_begins (N : Nat) (l : Launch) (D : va_G) (dA : Nat → ClassId) (B : Nat) (l0 : Option Nat) (h : Hp) : Ct l (⟨"RingingChamberModel", "begins", "()Z"⟩ : MethodName) prog_15_method_76_code 5 (some .boolean) 3 72 D dA B [vr l0] h vI (M_begins N l0 h) :=
  Ct.of2 (own := "RingingChamberModel") (nme := "begins") (lv := [(0, vr l0)]) rfl rfl (by decide) (Nat.le_of_ble_eq_true rfl) rfl (fun p e R s m args below meth c => jc_M_begins N l0 h)
theorem d_M_isComposed_0 : decode prog_15_method_77_code 0 = .ok (.aload_n 0, 1) := by decide +kernel
theorem d_M_isComposed_1 : decode prog_15_method_77_code 1 = .ok (.getfield 83, 3) := by decide +kernel
theorem d_M_isComposed_4 : decode prog_15_method_77_code 4 = .ok (.aload_n 0, 1) := by decide +kernel
theorem d_M_isComposed_5 : decode prog_15_method_77_code 5 = .ok (.getfield 318, 3) := by decide +kernel
theorem d_M_isComposed_8 : decode prog_15_method_77_code 8 = .ok (.iconst 1, 1) := by decide +kernel
theorem d_M_isComposed_9 : decode prog_15_method_77_code 9 = .ok (.isub, 1) := by decide +kernel
theorem d_M_isComposed_10 : decode prog_15_method_77_code 10 = .ok (.laload, 1) := by decide +kernel
theorem d_M_isComposed_11 : decode prog_15_method_77_code 11 = .ok (.aload_n 0, 1) := by decide +kernel
theorem d_M_isComposed_12 : decode prog_15_method_77_code 12 = .ok (.invokevirtual 133, 3) := by decide +kernel
theorem d_M_isComposed_15 : decode prog_15_method_77_code 15 = .ok (.lcmp, 1) := by decide +kernel
theorem d_M_isComposed_16 : decode prog_15_method_77_code 16 = .ok (.ifCond .eq 5, 3) := by decide +kernel
theorem d_M_isComposed_19 : decode prog_15_method_77_code 19 = .ok (.iconst 0, 1) := by decide +kernel
theorem d_M_isComposed_20 : decode prog_15_method_77_code 20 = .ok (.ireturn, 1) := by decide +kernel
theorem d_M_isComposed_21 : decode prog_15_method_77_code 21 = .ok (.iconst 0, 1) := by decide +kernel
theorem d_M_isComposed_22 : decode prog_15_method_77_code 22 = .ok (.istore_n 1, 1) := by decide +kernel
theorem d_M_isComposed_23 : decode prog_15_method_77_code 23 = .ok (.iconst 1, 1) := by decide +kernel
theorem d_M_isComposed_24 : decode prog_15_method_77_code 24 = .ok (.istore_n 2, 1) := by decide +kernel
theorem d_M_isComposed_25 : decode prog_15_method_77_code 25 = .ok (.iload_n 2, 1) := by decide +kernel
theorem d_M_isComposed_26 : decode prog_15_method_77_code 26 = .ok (.aload_n 0, 1) := by decide +kernel
theorem d_M_isComposed_27 : decode prog_15_method_77_code 27 = .ok (.getfield 318, 3) := by decide +kernel
theorem d_M_isComposed_30 : decode prog_15_method_77_code 30 = .ok (.if_icmp .ge 34, 3) := by decide +kernel
theorem d_M_isComposed_33 : decode prog_15_method_77_code 33 = .ok (.iload_n 1, 1) := by decide +kernel
theorem d_M_isComposed_34 : decode prog_15_method_77_code 34 = .ok (.aload_n 0, 1) := by decide +kernel
theorem d_M_isComposed_35 : decode prog_15_method_77_code 35 = .ok (.aload_n 0, 1) := by decide +kernel
theorem d_M_isComposed_36 : decode prog_15_method_77_code 36 = .ok (.getfield 83, 3) := by decide +kernel
theorem d_M_isComposed_39 : decode prog_15_method_77_code 39 = .ok (.iload_n 2, 1) := by decide +kernel
theorem d_M_isComposed_40 : decode prog_15_method_77_code 40 = .ok (.laload, 1) := by decide +kernel
theorem d_M_isComposed_41 : decode prog_15_method_77_code 41 = .ok (.aload_n 0, 1) := by decide +kernel
theorem d_M_isComposed_42 : decode prog_15_method_77_code 42 = .ok (.getfield 308, 3) := by decide +kernel
theorem d_M_isComposed_45 : decode prog_15_method_77_code 45 = .ok (.invokevirtual 293, 3) := by decide +kernel
theorem d_M_isComposed_48 : decode prog_15_method_77_code 48 = .ok (.ifCond .eq 7, 3) := by decide +kernel
theorem d_M_isComposed_51 : decode prog_15_method_77_code 51 = .ok (.iconst 1, 1) := by decide +kernel
theorem d_M_isComposed_52 : decode prog_15_method_77_code 52 = .ok (.goto 4, 3) := by decide +kernel
theorem d_M_isComposed_55 : decode prog_15_method_77_code 55 = .ok (.iconst 0, 1) := by decide +kernel
theorem d_M_isComposed_56 : decode prog_15_method_77_code 56 = .ok (.iadd, 1) := by decide +kernel
theorem d_M_isComposed_57 : decode prog_15_method_77_code 57 = .ok (.istore_n 1, 1) := by decide +kernel
theorem d_M_isComposed_58 : decode prog_15_method_77_code 58 = .ok (.iinc 2 1, 3) := by decide +kernel
theorem d_M_isComposed_61 : decode prog_15_method_77_code 61 = .ok (.goto (-36), 3) := by decide +kernel
theorem d_M_isComposed_64 : decode prog_15_method_77_code 64 = .ok (.iload_n 1, 1) := by decide +kernel
theorem d_M_isComposed_65 : decode prog_15_method_77_code 65 = .ok (.aload_n 0, 1) := by decide +kernel
theorem d_M_isComposed_66 : decode prog_15_method_77_code 66 = .ok (.getfield 305, 3) := by decide +kernel
theorem d_M_isComposed_69 : decode prog_15_method_77_code 69 = .ok (.if_icmp .lt 7, 3) := by decide +kernel
theorem d_M_isComposed_72 : decode prog_15_method_77_code 72 = .ok (.iconst 1, 1) := by decide +kernel
theorem d_M_isComposed_73 : decode prog_15_method_77_code 73 = .ok (.goto 4, 3) := by decide +kernel
theorem d_M_isComposed_76 : decode prog_15_method_77_code 76 = .ok (.iconst 0, 1) := by decide +kernel
theorem d_M_isComposed_77 : decode prog_15_method_77_code 77 = .ok (.ireturn, 1) := by decide +kernel
set_option maxRecDepth 20000 in
theorem jc_M_isComposed_56 (N : Nat) (re25 : Option Nat → Int32 → Int32 → Hp → Option (Int32 × Hp)) (hre25 : ∀ y0 y1 y2 h, J p l e R s m args below meth c prog_15_method_77_code 3 "RingingChamberModel" 2 47 (some .boolean) "isComposed" D dA B n0 s0 (QM below args s D dA B n0 s0 vI) 25 [(0, vr y0), (1, vi y1), (2, vi y2)] [] h (re25 y0 y1 y2 h)) (l0 : Option Nat) (l2 : Int32) (u0 : Int32) (u1 : Int32) (h : Hp) : J p l e R s m args below meth c prog_15_method_77_code 3 "RingingChamberModel" 2 47 (some .boolean) "isComposed" D dA B n0 s0 (QM below args s D dA B n0 s0 vI) 56 [(0, vr l0), (2, vi l2)] [vi u1, vi u0] h (M_isComposed_56 N re25 l0 l2 u0 u1 h) := by
  unfold M_isComposed_56
  refine j_iadd d_M_isComposed_56 ?_
  refine j_nmi (fun x1 => ?_)
  refine j_istore_n (lv' := [(1, vi x1), (0, vr l0), (2, vi l2)]) d_M_isComposed_57 rfl (by decide) rfl ?_
  refine j_iinc (lvv := fun x2 => [(2, vi x2), (1, vi x1), (0, vr l0)]) d_M_isComposed_58 2 rfl rfl (by decide) (fun _ => rfl) (fun x2 => ?_)
  refine j_goto (tgt := 25) d_M_isComposed_61 (by decide) ?_
  exact J.sub [2, 1, 0] rfl (hre25 l0 x1 x2 h)
set_option maxRecDepth 20000 in
theorem jc_M_isComposed_25 (N : Nat) : ∀ (n : Nat) (l0 : Option Nat) (l1 : Int32) (l2 : Int32) (h : Hp), J p l e R s m args below meth c prog_15_method_77_code 3 "RingingChamberModel" 2 47 (some .boolean) "isComposed" D dA B n0 s0 (QM below args s D dA B n0 s0 vI) 25 [(0, vr l0), (1, vi l1), (2, vi l2)] [] h (M_isComposed_25 N n l0 l1 l2 h) := by
  intro n
  induction n with
  | zero => intros; exact J.none
  | succ n ih =>
    intro l0 l1 l2 h
    rw [M_isComposed_25]
    refine j_iload_n d_M_isComposed_25 2 rfl rfl ?_
    refine j_aload_n d_M_isComposed_26 0 rfl rfl ?_
    refine j_getI d_M_isComposed_27 fl_12_318.r (fun x1 => ?_)
    refine j_icmp_ge (tgt := 64) d_M_isComposed_30 (by decide) ?_ ?_
    · refine j_iload_n d_M_isComposed_64 1 rfl rfl ?_
      refine j_aload_n d_M_isComposed_65 0 rfl rfl ?_
      refine j_getI d_M_isComposed_66 fl_12_305.r (fun x2 => ?_)
      refine j_icmp_lt (tgt := 76) d_M_isComposed_69 (by decide) ?_ ?_
      · refine j_iconst (v := 0) d_M_isComposed_76 (by decide) ?_
        exact j_retZ d_M_isComposed_77
      · refine j_iconst (v := 1) d_M_isComposed_72 (by decide) ?_
        refine j_goto (tgt := 77) d_M_isComposed_73 (by decide) ?_
        exact j_retZ d_M_isComposed_77
    · refine j_iload_n d_M_isComposed_33 1 rfl rfl ?_
      refine j_aload_n d_M_isComposed_34 0 rfl rfl ?_
      refine j_aload_n d_M_isComposed_35 0 rfl rfl ?_
      refine j_getR d_M_isComposed_36 fl_12_83.r (fun x3 => ?_)
      refine j_iload_n d_M_isComposed_39 2 rfl rfl ?_
      refine j_lald d_M_isComposed_40 (fun x4 => ?_)
      refine j_aload_n d_M_isComposed_41 0 rfl rfl ?_
      refine j_getL d_M_isComposed_42 fl_12_308.r (fun x5 => ?_)
      refine j_vI2 d_M_isComposed_45 (allQ.cons (VD.mk vt_12_293_12 (ct_M_isFitting N l D dA B l0 x4 x5 h) (by decide) (by decide)) allQ.nil) (Nat.le_of_ble_eq_true rfl) (fun x7 h6 => ?_)
      refine j_if_eq (tgt := 55) d_M_isComposed_48 (by decide) ?_ ?_
      · refine j_iconst (v := 0) d_M_isComposed_55 (by decide) ?_
        exact J.sub [0, 2] rfl (jc_M_isComposed_56 N (M_isComposed_25 N n) ih l0 l2 l1 0 h6)
      · refine j_iconst (v := 1) d_M_isComposed_51 (by decide) ?_
        refine j_goto (tgt := 56) d_M_isComposed_52 (by decide) ?_
        exact J.sub [0, 2] rfl (jc_M_isComposed_56 N (M_isComposed_25 N n) ih l0 l2 l1 1 h6)
set_option maxRecDepth 20000 in
theorem jc_M_isComposed (N : Nat) (l0 : Option Nat) (h : Hp) : J p l e R s m args below meth c prog_15_method_77_code 3 "RingingChamberModel" 2 47 (some .boolean) "isComposed" D dA B n0 s0 (QM below args s D dA B n0 s0 vI) 0 [(0, vr l0)] [] h (M_isComposed N l0 h) := by
  unfold M_isComposed
  refine j_aload_n d_M_isComposed_0 0 rfl rfl ?_
  refine j_getR d_M_isComposed_1 fl_12_83.r (fun x1 => ?_)
  refine j_aload_n d_M_isComposed_4 0 rfl rfl ?_
  refine j_getI d_M_isComposed_5 fl_12_318.r (fun x2 => ?_)
  refine j_iconst (v := 1) d_M_isComposed_8 (by decide) ?_
  refine j_isub d_M_isComposed_9 ?_
  refine j_lald d_M_isComposed_10 (fun x3 => ?_)
  refine j_aload_n d_M_isComposed_11 0 rfl rfl ?_
  refine j_vL0 d_M_isComposed_12 (allQ.cons (VD.mk vt_12_133_12 (ct_M_rounds N l D dA B l0 h) (by decide) (by decide)) allQ.nil) (Nat.le_of_ble_eq_true rfl) (fun x5 h4 => ?_)
  refine j_lcmp d_M_isComposed_15 ?_
  refine j_if_eq (tgt := 21) d_M_isComposed_16 (by decide) ?_ ?_
  · refine j_iconst (v := 0) d_M_isComposed_21 (by decide) ?_
    refine j_istore_n (lv' := [(1, vi 0), (0, vr l0)]) d_M_isComposed_22 rfl (by decide) rfl ?_
    refine j_iconst (v := 1) d_M_isComposed_23 (by decide) ?_
    refine j_istore_n (lv' := [(2, vi 1), (1, vi 0), (0, vr l0)]) d_M_isComposed_24 rfl (by decide) rfl ?_
    exact J.sub [2, 1, 0] rfl (jc_M_isComposed_25 N N l0 0 1 h4)
  · refine j_iconst (v := 0) d_M_isComposed_19 (by decide) ?_
    exact j_retZ d_M_isComposed_20
set_option maxRecDepth 20000 in
theorem ct_M_isComposed (N : Nat) (l : Launch) (D : va_G) (dA : Nat → ClassId) (B : Nat) (l0 : Option Nat) (h : Hp) : Ct l (⟨"RingingChamberModel", "isComposed", "()Z"⟩ : MethodName) prog_15_method_77_code 3 (some .boolean) 2 47 D dA B [vr l0] h vI (M_isComposed N l0 h) :=
  Ct.of2 (own := "RingingChamberModel") (nme := "isComposed") (lv := [(0, vr l0)]) rfl rfl (by decide) (Nat.le_of_ble_eq_true rfl) rfl (fun p e R s m args below meth c => jc_M_isComposed N l0 h)
theorem d_M_tell_0 : decode prog_15_method_80_code 0 = .ok (.aload_n 0, 1) := by decide +kernel
theorem d_M_tell_1 : decode prog_15_method_80_code 1 = .ok (.iconst 1, 1) := by decide +kernel
theorem d_M_tell_2 : decode prog_15_method_80_code 2 = .ok (.putfield 324, 3) := by decide +kernel
theorem d_M_tell_5 : decode prog_15_method_80_code 5 = .ok (.iconst 0, 1) := by decide +kernel
theorem d_M_tell_6 : decode prog_15_method_80_code 6 = .ok (.istore_n 1, 1) := by decide +kernel
theorem d_M_tell_7 : decode prog_15_method_80_code 7 = .ok (.iload_n 1, 1) := by decide +kernel
theorem d_M_tell_8 : decode prog_15_method_80_code 8 = .ok (.aload_n 0, 1) := by decide +kernel
theorem d_M_tell_9 : decode prog_15_method_80_code 9 = .ok (.getfield 302, 3) := by decide +kernel
theorem d_M_tell_12 : decode prog_15_method_80_code 12 = .ok (.if_icmp .ge 26, 3) := by decide +kernel
theorem d_M_tell_15 : decode prog_15_method_80_code 15 = .ok (.aload_n 0, 1) := by decide +kernel
theorem d_M_tell_16 : decode prog_15_method_80_code 16 = .ok (.getfield 89, 3) := by decide +kernel
theorem d_M_tell_19 : decode prog_15_method_80_code 19 = .ok (.iload_n 1, 1) := by decide +kernel
theorem d_M_tell_20 : decode prog_15_method_80_code 20 = .ok (.aload_n 0, 1) := by decide +kernel
theorem d_M_tell_21 : decode prog_15_method_80_code 21 = .ok (.getfield 70, 3) := by decide +kernel
theorem d_M_tell_24 : decode prog_15_method_80_code 24 = .ok (.aload_n 0, 1) := by decide +kernel
theorem d_M_tell_25 : decode prog_15_method_80_code 25 = .ok (.getfield 77, 3) := by decide +kernel
theorem d_M_tell_28 : decode prog_15_method_80_code 28 = .ok (.iload_n 1, 1) := by decide +kernel
theorem d_M_tell_29 : decode prog_15_method_80_code 29 = .ok (.iaload, 1) := by decide +kernel
theorem d_M_tell_30 : decode prog_15_method_80_code 30 = .ok (.iaload, 1) := by decide +kernel
theorem d_M_tell_31 : decode prog_15_method_80_code 31 = .ok (.iastore, 1) := by decide +kernel
theorem d_M_tell_32 : decode prog_15_method_80_code 32 = .ok (.iinc 1 1, 3) := by decide +kernel
theorem d_M_tell_35 : decode prog_15_method_80_code 35 = .ok (.goto (-28), 3) := by decide +kernel
theorem d_M_tell_38 : decode prog_15_method_80_code 38 = .ok (.aload_n 0, 1) := by decide +kernel
theorem d_M_tell_39 : decode prog_15_method_80_code 39 = .ok (.aload_n 0, 1) := by decide +kernel
theorem d_M_tell_40 : decode prog_15_method_80_code 40 = .ok (.getfield 302, 3) := by decide +kernel
theorem d_M_tell_43 : decode prog_15_method_80_code 43 = .ok (.putfield 127, 3) := by decide +kernel
theorem d_M_tell_46 : decode prog_15_method_80_code 46 = .ok (.return_, 1) := by decide +kernel
set_option maxRecDepth 20000 in
theorem jc_M_tell_7 (N : Nat) : ∀ (n : Nat) (l0 : Option Nat) (l1 : Int32) (h : Hp), J p l e R s m args below meth c prog_15_method_80_code 2 "RingingChamberModel" 0 0 none "tell" D dA B n0 s0 (QM below args s D dA B n0 s0 vU) 7 [(0, vr l0), (1, vi l1)] [] h (M_tell_7 N n l0 l1 h) := by
  intro n
  induction n with
  | zero => intros; exact J.none
  | succ n ih =>
    intro l0 l1 h
    rw [M_tell_7]
    refine j_iload_n d_M_tell_7 1 rfl rfl ?_
    refine j_aload_n d_M_tell_8 0 rfl rfl ?_
    refine j_getI d_M_tell_9 fl_12_302.r (fun x1 => ?_)
    refine j_icmp_ge (tgt := 38) d_M_tell_12 (by decide) ?_ ?_
    · refine j_aload_n d_M_tell_38 0 rfl rfl ?_
      refine j_aload_n d_M_tell_39 0 rfl rfl ?_
      refine j_getI d_M_tell_40 fl_12_302.r (fun x2 => ?_)
      refine j_putI d_M_tell_43 fl_12_127 (Or.inl rfl) (fun h3 => ?_)
      exact j_retU d_M_tell_46
    · refine j_aload_n d_M_tell_15 0 rfl rfl ?_
      refine j_getR d_M_tell_16 fl_12_89.r (fun x4 => ?_)
      refine j_iload_n d_M_tell_19 1 rfl rfl ?_
      refine j_aload_n d_M_tell_20 0 rfl rfl ?_
      refine j_getR d_M_tell_21 fl_12_70.r (fun x5 => ?_)
      refine j_aload_n d_M_tell_24 0 rfl rfl ?_
      refine j_getR d_M_tell_25 fl_12_77.r (fun x6 => ?_)
      refine j_iload_n d_M_tell_28 1 rfl rfl ?_
      refine j_iald d_M_tell_29 (fun x7 => ?_)
      refine j_iald d_M_tell_30 (fun x8 => ?_)
      refine j_iast d_M_tell_31 (fun h9 => ?_)
      refine j_iinc (lvv := fun x10 => [(1, vi x10), (0, vr l0)]) d_M_tell_32 1 rfl rfl (by decide) (fun _ => rfl) (fun x10 => ?_)
      refine j_goto (tgt := 7) d_M_tell_35 (by decide) ?_
      exact J.sub [1, 0] rfl (ih l0 x10 h9)
set_option maxRecDepth 20000 in
theorem jc_M_tell (N : Nat) (l0 : Option Nat) (h : Hp) : J p l e R s m args below meth c prog_15_method_80_code 2 "RingingChamberModel" 0 0 none "tell" D dA B n0 s0 (QM below args s D dA B n0 s0 vU) 0 [(0, vr l0)] [] h (M_tell N l0 h) := by
  unfold M_tell
  refine j_aload_n d_M_tell_0 0 rfl rfl ?_
  refine j_iconst (v := 1) d_M_tell_1 (by decide) ?_
  refine j_putI d_M_tell_2 fl_12_324 (Or.inl rfl) (fun h1 => ?_)
  refine j_iconst (v := 0) d_M_tell_5 (by decide) ?_
  refine j_istore_n (lv' := [(1, vi 0), (0, vr l0)]) d_M_tell_6 rfl (by decide) rfl ?_
  exact J.sub [1, 0] rfl (jc_M_tell_7 N N l0 0 h1)
set_option maxRecDepth 20000 in
theorem ct_M_tell (N : Nat) (l : Launch) (D : va_G) (dA : Nat → ClassId) (B : Nat) (l0 : Option Nat) (h : Hp) : Ct l (⟨"RingingChamberModel", "tell", "()V"⟩ : MethodName) prog_15_method_80_code 2 none 0 0 D dA B [vr l0] h vU (M_tell N l0 h) :=
  Ct.of2 (own := "RingingChamberModel") (nme := "tell") (lv := [(0, vr l0)]) rfl rfl (by decide) (Nat.le_of_ble_eq_true rfl) rfl (fun p e R s m args below meth c => jc_M_tell N l0 h)
theorem d_M_isThere_0 : decode prog_15_method_78_code 0 = .ok (.iconst 0, 1) := by decide +kernel
theorem d_M_isThere_1 : decode prog_15_method_78_code 1 = .ok (.istore_n 3, 1) := by decide +kernel
theorem d_M_isThere_2 : decode prog_15_method_78_code 2 = .ok (.iload_n 3, 1) := by decide +kernel
theorem d_M_isThere_3 : decode prog_15_method_78_code 3 = .ok (.aload_n 0, 1) := by decide +kernel
theorem d_M_isThere_4 : decode prog_15_method_78_code 4 = .ok (.getfield 318, 3) := by decide +kernel
theorem d_M_isThere_7 : decode prog_15_method_78_code 7 = .ok (.if_icmp .ge 22, 3) := by decide +kernel
theorem d_M_isThere_10 : decode prog_15_method_78_code 10 = .ok (.aload_n 0, 1) := by decide +kernel
theorem d_M_isThere_11 : decode prog_15_method_78_code 11 = .ok (.getfield 83, 3) := by decide +kernel
theorem d_M_isThere_14 : decode prog_15_method_78_code 14 = .ok (.iload_n 3, 1) := by decide +kernel
theorem d_M_isThere_15 : decode prog_15_method_78_code 15 = .ok (.laload, 1) := by decide +kernel
theorem d_M_isThere_16 : decode prog_15_method_78_code 16 = .ok (.lload_n 1, 1) := by decide +kernel
theorem d_M_isThere_17 : decode prog_15_method_78_code 17 = .ok (.lcmp, 1) := by decide +kernel
theorem d_M_isThere_18 : decode prog_15_method_78_code 18 = .ok (.ifCond .ne 5, 3) := by decide +kernel
theorem d_M_isThere_21 : decode prog_15_method_78_code 21 = .ok (.iconst 1, 1) := by decide +kernel
theorem d_M_isThere_22 : decode prog_15_method_78_code 22 = .ok (.ireturn, 1) := by decide +kernel
theorem d_M_isThere_23 : decode prog_15_method_78_code 23 = .ok (.iinc 3 1, 3) := by decide +kernel
theorem d_M_isThere_26 : decode prog_15_method_78_code 26 = .ok (.goto (-24), 3) := by decide +kernel
theorem d_M_isThere_29 : decode prog_15_method_78_code 29 = .ok (.iconst 0, 1) := by decide +kernel
theorem d_M_isThere_30 : decode prog_15_method_78_code 30 = .ok (.ireturn, 1) := by decide +kernel
set_option maxRecDepth 20000 in
theorem jc_M_isThere_2 (N : Nat) : ∀ (n : Nat) (l0 : Option Nat) (l1 : Int64) (l3 : Int32) (h : Hp), J p l e R s m args below meth c prog_15_method_78_code 4 "RingingChamberModel" 0 0 (some .boolean) "isThere" D dA B n0 s0 (QM below args s D dA B n0 s0 vI) 2 [(0, vr l0), (1, vl l1), (3, vi l3)] [] h (M_isThere_2 N n l0 l1 l3 h) := by
  intro n
  induction n with
  | zero => intros; exact J.none
  | succ n ih =>
    intro l0 l1 l3 h
    rw [M_isThere_2]
    refine j_iload_n d_M_isThere_2 2 rfl rfl ?_
    refine j_aload_n d_M_isThere_3 0 rfl rfl ?_
    refine j_getI d_M_isThere_4 fl_12_318.r (fun x1 => ?_)
    refine j_icmp_ge (tgt := 29) d_M_isThere_7 (by decide) ?_ ?_
    · refine j_iconst (v := 0) d_M_isThere_29 (by decide) ?_
      exact j_retZ d_M_isThere_30
    · refine j_aload_n d_M_isThere_10 0 rfl rfl ?_
      refine j_getR d_M_isThere_11 fl_12_83.r (fun x2 => ?_)
      refine j_iload_n d_M_isThere_14 2 rfl rfl ?_
      refine j_lald d_M_isThere_15 (fun x3 => ?_)
      refine j_lload_n d_M_isThere_16 1 rfl rfl ?_
      refine j_lcmp d_M_isThere_17 ?_
      refine j_if_ne (tgt := 23) d_M_isThere_18 (by decide) ?_ ?_
      · refine j_iconst (v := 1) d_M_isThere_21 (by decide) ?_
        exact j_retZ d_M_isThere_22
      · refine j_iinc (lvv := fun x4 => [(3, vi x4), (0, vr l0), (1, vl l1)]) d_M_isThere_23 2 rfl rfl (by decide) (fun _ => rfl) (fun x4 => ?_)
        refine j_goto (tgt := 2) d_M_isThere_26 (by decide) ?_
        exact J.sub [1, 2, 0] rfl (ih l0 l1 x4 h)
set_option maxRecDepth 20000 in
theorem jc_M_isThere (N : Nat) (l0 : Option Nat) (l1 : Int64) (h : Hp) : J p l e R s m args below meth c prog_15_method_78_code 4 "RingingChamberModel" 0 0 (some .boolean) "isThere" D dA B n0 s0 (QM below args s D dA B n0 s0 vI) 0 [(0, vr l0), (1, vl l1)] [] h (M_isThere N l0 l1 h) := by
  unfold M_isThere
  refine j_iconst (v := 0) d_M_isThere_0 (by decide) ?_
  refine j_istore_n (lv' := [(3, vi 0), (0, vr l0), (1, vl l1)]) d_M_isThere_1 rfl (by decide) rfl ?_
  exact J.sub [1, 2, 0] rfl (jc_M_isThere_2 N N l0 l1 0 h)
set_option maxRecDepth 20000 in
theorem ct_M_isThere (N : Nat) (l : Launch) (D : va_G) (dA : Nat → ClassId) (B : Nat) (l0 : Option Nat) (l1 : Int64) (h : Hp) : Ct l (⟨"RingingChamberModel", "isThere", "(J)Z"⟩ : MethodName) prog_15_method_78_code 4 (some .boolean) 0 0 D dA B [vr l0, vl l1] h vI (M_isThere N l0 l1 h) :=
  Ct.of2 (own := "RingingChamberModel") (nme := "isThere") (lv := [(0, vr l0), (1, vl l1)]) rfl rfl (by decide) (Nat.le_of_ble_eq_true rfl) rfl (fun p e R s m args below meth c => jc_M_isThere N l0 l1 h)
theorem d_M_go_0 : decode prog_15_method_79_code 0 = .ok (.iconst 0, 1) := by decide +kernel
theorem d_M_go_1 : decode prog_15_method_79_code 1 = .ok (.istore_n 2, 1) := by decide +kernel
theorem d_M_go_2 : decode prog_15_method_79_code 2 = .ok (.aload_n 0, 1) := by decide +kernel
theorem d_M_go_3 : decode prog_15_method_79_code 3 = .ok (.getfield 321, 3) := by decide +kernel
theorem d_M_go_6 : decode prog_15_method_79_code 6 = .ok (.ifCond .ne 82, 3) := by decide +kernel
theorem d_M_go_9 : decode prog_15_method_79_code 9 = .ok (.aload_n 0, 1) := by decide +kernel
theorem d_M_go_10 : decode prog_15_method_79_code 10 = .ok (.getfield 77, 3) := by decide +kernel
theorem d_M_go_13 : decode prog_15_method_79_code 13 = .ok (.aload_n 0, 1) := by decide +kernel
theorem d_M_go_14 : decode prog_15_method_79_code 14 = .ok (.getfield 315, 3) := by decide +kernel
theorem d_M_go_17 : decode prog_15_method_79_code 17 = .ok (.dup2, 1) := by decide +kernel
theorem d_M_go_18 : decode prog_15_method_79_code 18 = .ok (.iaload, 1) := by decide +kernel
theorem d_M_go_19 : decode prog_15_method_79_code 19 = .ok (.iconst 1, 1) := by decide +kernel
theorem d_M_go_20 : decode prog_15_method_79_code 20 = .ok (.iadd, 1) := by decide +kernel
theorem d_M_go_21 : decode prog_15_method_79_code 21 = .ok (.iastore, 1) := by decide +kernel
theorem d_M_go_22 : decode prog_15_method_79_code 22 = .ok (.aload_n 0, 1) := by decide +kernel
theorem d_M_go_23 : decode prog_15_method_79_code 23 = .ok (.aload_n 0, 1) := by decide +kernel
theorem d_M_go_24 : decode prog_15_method_79_code 24 = .ok (.getfield 80, 3) := by decide +kernel
theorem d_M_go_27 : decode prog_15_method_79_code 27 = .ok (.aload_n 0, 1) := by decide +kernel
theorem d_M_go_28 : decode prog_15_method_79_code 28 = .ok (.getfield 315, 3) := by decide +kernel
theorem d_M_go_31 : decode prog_15_method_79_code 31 = .ok (.iaload, 1) := by decide +kernel
theorem d_M_go_32 : decode prog_15_method_79_code 32 = .ok (.putfield 318, 3) := by decide +kernel
theorem d_M_go_35 : decode prog_15_method_79_code 35 = .ok (.aload_n 0, 1) := by decide +kernel
theorem d_M_go_36 : decode prog_15_method_79_code 36 = .ok (.getfield 77, 3) := by decide +kernel
theorem d_M_go_39 : decode prog_15_method_79_code 39 = .ok (.aload_n 0, 1) := by decide +kernel
theorem d_M_go_40 : decode prog_15_method_79_code 40 = .ok (.getfield 315, 3) := by decide +kernel
theorem d_M_go_43 : decode prog_15_method_79_code 43 = .ok (.iaload, 1) := by decide +kernel
theorem d_M_go_44 : decode prog_15_method_79_code 44 = .ok (.aload_n 0, 1) := by decide +kernel
theorem d_M_go_45 : decode prog_15_method_79_code 45 = .ok (.getfield 312, 3) := by decide +kernel
theorem d_M_go_48 : decode prog_15_method_79_code 48 = .ok (.if_icmp .ne 29, 3) := by decide +kernel
theorem d_M_go_51 : decode prog_15_method_79_code 51 = .ok (.aload_n 0, 1) := by decide +kernel
theorem d_M_go_52 : decode prog_15_method_79_code 52 = .ok (.getfield 315, 3) := by decide +kernel
theorem d_M_go_55 : decode prog_15_method_79_code 55 = .ok (.ifCond .ne 9, 3) := by decide +kernel
theorem d_M_go_58 : decode prog_15_method_79_code 58 = .ok (.aload_n 0, 1) := by decide +kernel
theorem d_M_go_59 : decode prog_15_method_79_code 59 = .ok (.iconst 0, 1) := by decide +kernel
theorem d_M_go_60 : decode prog_15_method_79_code 60 = .ok (.putfield 324, 3) := by decide +kernel
theorem d_M_go_63 : decode prog_15_method_79_code 63 = .ok (.return_, 1) := by decide +kernel
theorem d_M_go_64 : decode prog_15_method_79_code 64 = .ok (.aload_n 0, 1) := by decide +kernel
theorem d_M_go_65 : decode prog_15_method_79_code 65 = .ok (.dup, 1) := by decide +kernel
theorem d_M_go_66 : decode prog_15_method_79_code 66 = .ok (.getfield 315, 3) := by decide +kernel
theorem d_M_go_69 : decode prog_15_method_79_code 69 = .ok (.iconst 1, 1) := by decide +kernel
theorem d_M_go_70 : decode prog_15_method_79_code 70 = .ok (.isub, 1) := by decide +kernel
theorem d_M_go_71 : decode prog_15_method_79_code 71 = .ok (.putfield 315, 3) := by decide +kernel
theorem d_M_go_74 : decode prog_15_method_79_code 74 = .ok (.goto (-72), 3) := by decide +kernel
theorem d_M_go_77 : decode prog_15_method_79_code 77 = .ok (.aload_n 0, 1) := by decide +kernel
theorem d_M_go_78 : decode prog_15_method_79_code 78 = .ok (.aload_n 0, 1) := by decide +kernel
theorem d_M_go_79 : decode prog_15_method_79_code 79 = .ok (.invokevirtual 336, 3) := by decide +kernel
theorem d_M_go_82 : decode prog_15_method_79_code 82 = .ok (.putfield 321, 3) := by decide +kernel
theorem d_M_go_85 : decode prog_15_method_79_code 85 = .ok (.goto (-83), 3) := by decide +kernel
theorem d_M_go_88 : decode prog_15_method_79_code 88 = .ok (.aload_n 0, 1) := by decide +kernel
theorem d_M_go_89 : decode prog_15_method_79_code 89 = .ok (.getfield 333, 3) := by decide +kernel
theorem d_M_go_92 : decode prog_15_method_79_code 92 = .ok (.aload_n 0, 1) := by decide +kernel
theorem d_M_go_93 : decode prog_15_method_79_code 93 = .ok (.getfield 330, 3) := by decide +kernel
theorem d_M_go_96 : decode prog_15_method_79_code 96 = .ok (.if_icmp .ne 69, 3) := by decide +kernel
theorem d_M_go_99 : decode prog_15_method_79_code 99 = .ok (.aload_n 0, 1) := by decide +kernel
theorem d_M_go_100 : decode prog_15_method_79_code 100 = .ok (.iconst 0, 1) := by decide +kernel
theorem d_M_go_101 : decode prog_15_method_79_code 101 = .ok (.putfield 321, 3) := by decide +kernel
theorem d_M_go_104 : decode prog_15_method_79_code 104 = .ok (.aload_n 0, 1) := by decide +kernel
theorem d_M_go_105 : decode prog_15_method_79_code 105 = .ok (.getfield 315, 3) := by decide +kernel
theorem d_M_go_108 : decode prog_15_method_79_code 108 = .ok (.aload_n 0, 1) := by decide +kernel
theorem d_M_go_109 : decode prog_15_method_79_code 109 = .ok (.getfield 302, 3) := by decide +kernel
theorem d_M_go_112 : decode prog_15_method_79_code 112 = .ok (.iconst 1, 1) := by decide +kernel
theorem d_M_go_113 : decode prog_15_method_79_code 113 = .ok (.isub, 1) := by decide +kernel
theorem d_M_go_114 : decode prog_15_method_79_code 114 = .ok (.if_icmp .ne 15, 3) := by decide +kernel
theorem d_M_go_117 : decode prog_15_method_79_code 117 = .ok (.aload_n 0, 1) := by decide +kernel
theorem d_M_go_118 : decode prog_15_method_79_code 118 = .ok (.invokevirtual 339, 3) := by decide +kernel
theorem d_M_go_121 : decode prog_15_method_79_code 121 = .ok (.ifCond .eq (-119), 3) := by decide +kernel
theorem d_M_go_124 : decode prog_15_method_79_code 124 = .ok (.aload_n 0, 1) := by decide +kernel
theorem d_M_go_125 : decode prog_15_method_79_code 125 = .ok (.invokevirtual 342, 3) := by decide +kernel
theorem d_M_go_128 : decode prog_15_method_79_code 128 = .ok (.return_, 1) := by decide +kernel
theorem d_M_go_129 : decode prog_15_method_79_code 129 = .ok (.aload_n 0, 1) := by decide +kernel
theorem d_M_go_130 : decode prog_15_method_79_code 130 = .ok (.dup, 1) := by decide +kernel
theorem d_M_go_131 : decode prog_15_method_79_code 131 = .ok (.getfield 315, 3) := by decide +kernel
theorem d_M_go_134 : decode prog_15_method_79_code 134 = .ok (.iconst 1, 1) := by decide +kernel
theorem d_M_go_135 : decode prog_15_method_79_code 135 = .ok (.iadd, 1) := by decide +kernel
theorem d_M_go_136 : decode prog_15_method_79_code 136 = .ok (.putfield 315, 3) := by decide +kernel
theorem d_M_go_139 : decode prog_15_method_79_code 139 = .ok (.aload_n 0, 1) := by decide +kernel
theorem d_M_go_140 : decode prog_15_method_79_code 140 = .ok (.getfield 77, 3) := by decide +kernel
theorem d_M_go_143 : decode prog_15_method_79_code 143 = .ok (.aload_n 0, 1) := by decide +kernel
theorem d_M_go_144 : decode prog_15_method_79_code 144 = .ok (.getfield 315, 3) := by decide +kernel
theorem d_M_go_147 : decode prog_15_method_79_code 147 = .ok (.iconst (-1), 1) := by decide +kernel
theorem d_M_go_148 : decode prog_15_method_79_code 148 = .ok (.iastore, 1) := by decide +kernel
theorem d_M_go_149 : decode prog_15_method_79_code 149 = .ok (.aload_n 0, 1) := by decide +kernel
theorem d_M_go_150 : decode prog_15_method_79_code 150 = .ok (.getfield 80, 3) := by decide +kernel
theorem d_M_go_153 : decode prog_15_method_79_code 153 = .ok (.aload_n 0, 1) := by decide +kernel
theorem d_M_go_154 : decode prog_15_method_79_code 154 = .ok (.getfield 315, 3) := by decide +kernel
theorem d_M_go_157 : decode prog_15_method_79_code 157 = .ok (.aload_n 0, 1) := by decide +kernel
theorem d_M_go_158 : decode prog_15_method_79_code 158 = .ok (.getfield 318, 3) := by decide +kernel
theorem d_M_go_161 : decode prog_15_method_79_code 161 = .ok (.iastore, 1) := by decide +kernel
theorem d_M_go_162 : decode prog_15_method_79_code 162 = .ok (.goto (-160), 3) := by decide +kernel
theorem d_M_go_165 : decode prog_15_method_79_code 165 = .ok (.iload_n 2, 1) := by decide +kernel
theorem d_M_go_166 : decode prog_15_method_79_code 166 = .ok (.iload_n 1, 1) := by decide +kernel
theorem d_M_go_167 : decode prog_15_method_79_code 167 = .ok (.if_icmp .ne 4, 3) := by decide +kernel
theorem d_M_go_170 : decode prog_15_method_79_code 170 = .ok (.return_, 1) := by decide +kernel
theorem d_M_go_171 : decode prog_15_method_79_code 171 = .ok (.iinc 2 1, 3) := by decide +kernel
theorem d_M_go_174 : decode prog_15_method_79_code 174 = .ok (.aload_n 0, 1) := by decide +kernel
theorem d_M_go_175 : decode prog_15_method_79_code 175 = .ok (.dup, 1) := by decide +kernel
theorem d_M_go_176 : decode prog_15_method_79_code 176 = .ok (.getfield 124, 3) := by decide +kernel
theorem d_M_go_179 : decode prog_15_method_79_code 179 = .ok (.iconst 1, 1) := by decide +kernel
theorem d_M_go_180 : decode prog_15_method_79_code 180 = .ok (.iadd, 1) := by decide +kernel
theorem d_M_go_181 : decode prog_15_method_79_code 181 = .ok (.putfield 124, 3) := by decide +kernel
theorem d_M_go_184 : decode prog_15_method_79_code 184 = .ok (.aload_n 0, 1) := by decide +kernel
theorem d_M_go_185 : decode prog_15_method_79_code 185 = .ok (.getfield 83, 3) := by decide +kernel
theorem d_M_go_188 : decode prog_15_method_79_code 188 = .ok (.aload_n 0, 1) := by decide +kernel
theorem d_M_go_189 : decode prog_15_method_79_code 189 = .ok (.getfield 318, 3) := by decide +kernel
theorem d_M_go_192 : decode prog_15_method_79_code 192 = .ok (.iconst 1, 1) := by decide +kernel
theorem d_M_go_193 : decode prog_15_method_79_code 193 = .ok (.isub, 1) := by decide +kernel
theorem d_M_go_194 : decode prog_15_method_79_code 194 = .ok (.laload, 1) := by decide +kernel
theorem d_M_go_195 : decode prog_15_method_79_code 195 = .ok (.aload_n 0, 1) := by decide +kernel
theorem d_M_go_196 : decode prog_15_method_79_code 196 = .ok (.getfield 86, 3) := by decide +kernel
theorem d_M_go_199 : decode prog_15_method_79_code 199 = .ok (.aload_n 0, 1) := by decide +kernel
theorem d_M_go_200 : decode prog_15_method_79_code 200 = .ok (.getfield 333, 3) := by decide +kernel
theorem d_M_go_203 : decode prog_15_method_79_code 203 = .ok (.iaload, 1) := by decide +kernel
theorem d_M_go_204 : decode prog_15_method_79_code 204 = .ok (.invokestatic 224, 3) := by decide +kernel
theorem d_M_go_207 : decode prog_15_method_79_code 207 = .ok (.lstore_n 3, 1) := by decide +kernel
theorem d_M_go_208 : decode prog_15_method_79_code 208 = .ok (.aload_n 0, 1) := by decide +kernel
theorem d_M_go_209 : decode prog_15_method_79_code 209 = .ok (.dup, 1) := by decide +kernel
theorem d_M_go_210 : decode prog_15_method_79_code 210 = .ok (.getfield 333, 3) := by decide +kernel
theorem d_M_go_213 : decode prog_15_method_79_code 213 = .ok (.iconst 1, 1) := by decide +kernel
theorem d_M_go_214 : decode prog_15_method_79_code 214 = .ok (.iadd, 1) := by decide +kernel
theorem d_M_go_215 : decode prog_15_method_79_code 215 = .ok (.putfield 333, 3) := by decide +kernel
theorem d_M_go_218 : decode prog_15_method_79_code 218 = .ok (.aload_n 0, 1) := by decide +kernel
theorem d_M_go_219 : decode prog_15_method_79_code 219 = .ok (.getfield 315, 3) := by decide +kernel
theorem d_M_go_222 : decode prog_15_method_79_code 222 = .ok (.aload_n 0, 1) := by decide +kernel
theorem d_M_go_223 : decode prog_15_method_79_code 223 = .ok (.getfield 302, 3) := by decide +kernel
theorem d_M_go_226 : decode prog_15_method_79_code 226 = .ok (.iconst 1, 1) := by decide +kernel
theorem d_M_go_227 : decode prog_15_method_79_code 227 = .ok (.isub, 1) := by decide +kernel
theorem d_M_go_228 : decode prog_15_method_79_code 228 = .ok (.if_icmp .ne 27, 3) := by decide +kernel
theorem d_M_go_231 : decode prog_15_method_79_code 231 = .ok (.aload_n 0, 1) := by decide +kernel
theorem d_M_go_232 : decode prog_15_method_79_code 232 = .ok (.getfield 333, 3) := by decide +kernel
theorem d_M_go_235 : decode prog_15_method_79_code 235 = .ok (.aload_n 0, 1) := by decide +kernel
theorem d_M_go_236 : decode prog_15_method_79_code 236 = .ok (.getfield 330, 3) := by decide +kernel
theorem d_M_go_239 : decode prog_15_method_79_code 239 = .ok (.if_icmp .ne 16, 3) := by decide +kernel
theorem d_M_go_242 : decode prog_15_method_79_code 242 = .ok (.lload_n 3, 1) := by decide +kernel
theorem d_M_go_243 : decode prog_15_method_79_code 243 = .ok (.aload_n 0, 1) := by decide +kernel
theorem d_M_go_244 : decode prog_15_method_79_code 244 = .ok (.invokevirtual 133, 3) := by decide +kernel
theorem d_M_go_247 : decode prog_15_method_79_code 247 = .ok (.lcmp, 1) := by decide +kernel
theorem d_M_go_248 : decode prog_15_method_79_code 248 = .ok (.ifCond .ne 7, 3) := by decide +kernel
theorem d_M_go_251 : decode prog_15_method_79_code 251 = .ok (.iconst 1, 1) := by decide +kernel
theorem d_M_go_252 : decode prog_15_method_79_code 252 = .ok (.goto 4, 3) := by decide +kernel
theorem d_M_go_255 : decode prog_15_method_79_code 255 = .ok (.iconst 0, 1) := by decide +kernel
theorem d_M_go_256 : decode prog_15_method_79_code 256 = .ok (.istore 5, 2) := by decide +kernel
theorem d_M_go_258 : decode prog_15_method_79_code 258 = .ok (.aload_n 0, 1) := by decide +kernel
theorem d_M_go_259 : decode prog_15_method_79_code 259 = .ok (.lload_n 3, 1) := by decide +kernel
theorem d_M_go_260 : decode prog_15_method_79_code 260 = .ok (.invokevirtual 345, 3) := by decide +kernel
theorem d_M_go_263 : decode prog_15_method_79_code 263 = .ok (.ifCond .eq 16, 3) := by decide +kernel
theorem d_M_go_266 : decode prog_15_method_79_code 266 = .ok (.iload 5, 2) := by decide +kernel
theorem d_M_go_268 : decode prog_15_method_79_code 268 = .ok (.ifCond .ne 11, 3) := by decide +kernel
theorem d_M_go_271 : decode prog_15_method_79_code 271 = .ok (.aload_n 0, 1) := by decide +kernel
theorem d_M_go_272 : decode prog_15_method_79_code 272 = .ok (.iconst 0, 1) := by decide +kernel
theorem d_M_go_273 : decode prog_15_method_79_code 273 = .ok (.putfield 321, 3) := by decide +kernel
theorem d_M_go_276 : decode prog_15_method_79_code 276 = .ok (.goto (-274), 3) := by decide +kernel
theorem d_M_go_279 : decode prog_15_method_79_code 279 = .ok (.aload_n 0, 1) := by decide +kernel
theorem d_M_go_280 : decode prog_15_method_79_code 280 = .ok (.getfield 83, 3) := by decide +kernel
theorem d_M_go_283 : decode prog_15_method_79_code 283 = .ok (.aload_n 0, 1) := by decide +kernel
theorem d_M_go_284 : decode prog_15_method_79_code 284 = .ok (.getfield 318, 3) := by decide +kernel
theorem d_M_go_287 : decode prog_15_method_79_code 287 = .ok (.lload_n 3, 1) := by decide +kernel
theorem d_M_go_288 : decode prog_15_method_79_code 288 = .ok (.lastore, 1) := by decide +kernel
theorem d_M_go_289 : decode prog_15_method_79_code 289 = .ok (.aload_n 0, 1) := by decide +kernel
theorem d_M_go_290 : decode prog_15_method_79_code 290 = .ok (.dup, 1) := by decide +kernel
theorem d_M_go_291 : decode prog_15_method_79_code 291 = .ok (.getfield 318, 3) := by decide +kernel
theorem d_M_go_294 : decode prog_15_method_79_code 294 = .ok (.iconst 1, 1) := by decide +kernel
theorem d_M_go_295 : decode prog_15_method_79_code 295 = .ok (.iadd, 1) := by decide +kernel
theorem d_M_go_296 : decode prog_15_method_79_code 296 = .ok (.putfield 318, 3) := by decide +kernel
theorem d_M_go_299 : decode prog_15_method_79_code 299 = .ok (.goto (-297), 3) := by decide +kernel
set_option maxRecDepth 20000 in
theorem jc_M_go_279 (N : Nat) (re2 : Option Nat → Int32 → Int32 → Hp → Option (Unit × Hp)) (hre2 : ∀ y0 y1 y2 h, J p l e R s m args below meth c prog_15_method_79_code 6 "RingingChamberModel" 4 96 none "go" D dA B n0 s0 (QM below args s D dA B n0 s0 vU) 2 [(0, vr y0), (1, vi y1), (2, vi y2)] [] h (re2 y0 y1 y2 h)) (l0 : Option Nat) (l1 : Int32) (l2 : Int32) (l3 : Int64) (h : Hp) : J p l e R s m args below meth c prog_15_method_79_code 6 "RingingChamberModel" 4 96 none "go" D dA B n0 s0 (QM below args s D dA B n0 s0 vU) 279 [(0, vr l0), (1, vi l1), (2, vi l2), (3, vl l3)] [] h (M_go_279 N re2 l0 l1 l2 l3 h) := by
  unfold M_go_279
  refine j_aload_n d_M_go_279 0 rfl rfl ?_
  refine j_getR d_M_go_280 fl_12_83.r (fun x1 => ?_)
  refine j_aload_n d_M_go_283 0 rfl rfl ?_
  refine j_getI d_M_go_284 fl_12_318.r (fun x2 => ?_)
  refine j_lload_n d_M_go_287 3 rfl rfl ?_
  refine j_last d_M_go_288 (fun h3 => ?_)
  refine j_aload_n d_M_go_289 0 rfl rfl ?_
  refine j_dup d_M_go_290 rfl ?_
  refine j_getI d_M_go_291 fl_12_318.r (fun x4 => ?_)
  refine j_iconst (v := 1) d_M_go_294 (by decide) ?_
  refine j_iadd d_M_go_295 ?_
  refine j_putI d_M_go_296 fl_12_318 (Or.inl rfl) (fun h5 => ?_)
  refine j_goto (tgt := 2) d_M_go_299 (by decide) ?_
  exact J.sub [0, 1, 2] rfl (hre2 l0 l1 l2 h5)
set_option maxRecDepth 20000 in
theorem jc_M_go_256 (N : Nat) (re2 : Option Nat → Int32 → Int32 → Hp → Option (Unit × Hp)) (hre2 : ∀ y0 y1 y2 h, J p l e R s m args below meth c prog_15_method_79_code 6 "RingingChamberModel" 4 96 none "go" D dA B n0 s0 (QM below args s D dA B n0 s0 vU) 2 [(0, vr y0), (1, vi y1), (2, vi y2)] [] h (re2 y0 y1 y2 h)) (l0 : Option Nat) (l1 : Int32) (l2 : Int32) (l3 : Int64) (u0 : Int32) (h : Hp) : J p l e R s m args below meth c prog_15_method_79_code 6 "RingingChamberModel" 4 96 none "go" D dA B n0 s0 (QM below args s D dA B n0 s0 vU) 256 [(0, vr l0), (1, vi l1), (2, vi l2), (3, vl l3)] [vi u0] h (M_go_256 N re2 l0 l1 l2 l3 u0 h) := by
  unfold M_go_256
  refine j_istore (lv' := [(5, vi u0), (0, vr l0), (1, vi l1), (2, vi l2), (3, vl l3)]) d_M_go_256 (by decide) rfl ?_
  refine j_aload_n d_M_go_258 1 rfl rfl ?_
  refine j_lload_n d_M_go_259 4 rfl rfl ?_
  refine j_vI1 d_M_go_260 (allQ.cons (VD.mk vt_12_345_12 (ct_M_isThere N l D dA B l0 l3 h) (by decide) (by decide)) allQ.nil) (Nat.le_of_ble_eq_true rfl) (fun x2 h1 => ?_)
  refine j_if_eq (tgt := 279) d_M_go_263 (by decide) ?_ ?_
  · exact J.sub [1, 2, 3, 4] rfl (jc_M_go_279 N re2 hre2 l0 l1 l2 l3 h1)
  · refine j_iload d_M_go_266 0 rfl ?_
    refine j_if_ne (tgt := 279) d_M_go_268 (by decide) ?_ ?_
    · refine j_aload_n d_M_go_271 1 rfl rfl ?_
      refine j_iconst (v := 0) d_M_go_272 (by decide) ?_
      refine j_putZ d_M_go_273 fl_12_321 (Or.inl rfl) (fun h3 => ?_)
      refine j_goto (tgt := 2) d_M_go_276 (by decide) ?_
      exact J.sub [1, 2, 3] rfl (hre2 l0 l1 l2 h3)
    · exact J.sub [1, 2, 3, 4] rfl (jc_M_go_279 N re2 hre2 l0 l1 l2 l3 h1)
set_option maxRecDepth 20000 in
theorem jc_M_go_255 (N : Nat) (re2 : Option Nat → Int32 → Int32 → Hp → Option (Unit × Hp)) (hre2 : ∀ y0 y1 y2 h, J p l e R s m args below meth c prog_15_method_79_code 6 "RingingChamberModel" 4 96 none "go" D dA B n0 s0 (QM below args s D dA B n0 s0 vU) 2 [(0, vr y0), (1, vi y1), (2, vi y2)] [] h (re2 y0 y1 y2 h)) (l0 : Option Nat) (l1 : Int32) (l2 : Int32) (l3 : Int64) (h : Hp) : J p l e R s m args below meth c prog_15_method_79_code 6 "RingingChamberModel" 4 96 none "go" D dA B n0 s0 (QM below args s D dA B n0 s0 vU) 255 [(0, vr l0), (1, vi l1), (2, vi l2), (3, vl l3)] [] h (M_go_255 N re2 l0 l1 l2 l3 h) := by
  unfold M_go_255
  refine j_iconst (v := 0) d_M_go_255 (by decide) ?_
  exact jc_M_go_256 N re2 hre2 l0 l1 l2 l3 0 h
set_option maxRecDepth 20000 in
theorem jc_M_go_2 (N : Nat) : ∀ (n : Nat) (l0 : Option Nat) (l1 : Int32) (l2 : Int32) (h : Hp), J p l e R s m args below meth c prog_15_method_79_code 6 "RingingChamberModel" 4 96 none "go" D dA B n0 s0 (QM below args s D dA B n0 s0 vU) 2 [(0, vr l0), (1, vi l1), (2, vi l2)] [] h (M_go_2 N n l0 l1 l2 h) := by
  intro n
  induction n with
  | zero => intros; exact J.none
  | succ n ih =>
    intro l0 l1 l2 h
    rw [M_go_2]
    refine j_aload_n d_M_go_2 0 rfl rfl ?_
    refine j_getI d_M_go_3 fl_12_321.r (fun x1 => ?_)
    refine j_if_ne (tgt := 88) d_M_go_6 (by decide) ?_ ?_
    · refine j_aload_n d_M_go_9 0 rfl rfl ?_
      refine j_getR d_M_go_10 fl_12_77.r (fun x38 => ?_)
      refine j_aload_n d_M_go_13 0 rfl rfl ?_
      refine j_getI d_M_go_14 fl_12_315.r (fun x39 => ?_)
      refine j_dup2_11 d_M_go_17 rfl rfl ?_
      refine j_iald d_M_go_18 (fun x40 => ?_)
      refine j_iconst (v := 1) d_M_go_19 (by decide) ?_
      refine j_iadd d_M_go_20 ?_
      refine j_iast d_M_go_21 (fun h41 => ?_)
      refine j_aload_n d_M_go_22 0 rfl rfl ?_
      refine j_aload_n d_M_go_23 0 rfl rfl ?_
      refine j_getR d_M_go_24 fl_12_80.r (fun x42 => ?_)
      refine j_aload_n d_M_go_27 0 rfl rfl ?_
      refine j_getI d_M_go_28 fl_12_315.r (fun x43 => ?_)
      refine j_iald d_M_go_31 (fun x44 => ?_)
      refine j_putI d_M_go_32 fl_12_318 (Or.inl rfl) (fun h45 => ?_)
      refine j_aload_n d_M_go_35 0 rfl rfl ?_
      refine j_getR d_M_go_36 fl_12_77.r (fun x46 => ?_)
      refine j_aload_n d_M_go_39 0 rfl rfl ?_
      refine j_getI d_M_go_40 fl_12_315.r (fun x47 => ?_)
      refine j_iald d_M_go_43 (fun x48 => ?_)
      refine j_aload_n d_M_go_44 0 rfl rfl ?_
      refine j_getI d_M_go_45 fl_12_312.r (fun x49 => ?_)
      refine j_icmp_ne (tgt := 77) d_M_go_48 (by decide) ?_ ?_
      · refine j_aload_n d_M_go_51 0 rfl rfl ?_
        refine j_getI d_M_go_52 fl_12_315.r (fun x53 => ?_)
        refine j_if_ne (tgt := 64) d_M_go_55 (by decide) ?_ ?_
        · refine j_aload_n d_M_go_58 0 rfl rfl ?_
          refine j_iconst (v := 0) d_M_go_59 (by decide) ?_
          refine j_putI d_M_go_60 fl_12_324 (Or.inl rfl) (fun h56 => ?_)
          exact j_retU d_M_go_63
        · refine j_aload_n d_M_go_64 0 rfl rfl ?_
          refine j_dup d_M_go_65 rfl ?_
          refine j_getI d_M_go_66 fl_12_315.r (fun x54 => ?_)
          refine j_iconst (v := 1) d_M_go_69 (by decide) ?_
          refine j_isub d_M_go_70 ?_
          refine j_putI d_M_go_71 fl_12_315 (Or.inl rfl) (fun h55 => ?_)
          refine j_goto (tgt := 2) d_M_go_74 (by decide) ?_
          exact ih l0 l1 l2 h55
      · refine j_aload_n d_M_go_77 0 rfl rfl ?_
        refine j_aload_n d_M_go_78 0 rfl rfl ?_
        refine j_vI0 d_M_go_79 (allQ.cons (VD.mk vt_12_336_12 (ct_M_begins N l D dA B l0 h45) (by decide) (by decide)) allQ.nil) (Nat.le_of_ble_eq_true rfl) (fun x51 h50 => ?_)
        refine j_putZ d_M_go_82 fl_12_321 (Or.inl rfl) (fun h52 => ?_)
        refine j_goto (tgt := 2) d_M_go_85 (by decide) ?_
        exact ih l0 l1 l2 h52
    · refine j_aload_n d_M_go_88 0 rfl rfl ?_
      refine j_getI d_M_go_89 fl_12_333.r (fun x2 => ?_)
      refine j_aload_n d_M_go_92 0 rfl rfl ?_
      refine j_getI d_M_go_93 fl_12_330.r (fun x3 => ?_)
      refine j_icmp_ne (tgt := 165) d_M_go_96 (by decide) ?_ ?_
      · refine j_aload_n d_M_go_99 0 rfl rfl ?_
        refine j_iconst (v := 0) d_M_go_100 (by decide) ?_
        refine j_putZ d_M_go_101 fl_12_321 (Or.inl rfl) (fun h23 => ?_)
        refine j_aload_n d_M_go_104 0 rfl rfl ?_
        refine j_getI d_M_go_105 fl_12_315.r (fun x24 => ?_)
        refine j_aload_n d_M_go_108 0 rfl rfl ?_
        refine j_getI d_M_go_109 fl_12_302.r (fun x25 => ?_)
        refine j_iconst (v := 1) d_M_go_112 (by decide) ?_
        refine j_isub d_M_go_113 ?_
        refine j_icmp_ne (tgt := 129) d_M_go_114 (by decide) ?_ ?_
        · refine j_aload_n d_M_go_117 0 rfl rfl ?_
          refine j_vI0 d_M_go_118 (allQ.cons (VD.mk vt_12_339_12 (ct_M_isComposed N l D dA B l0 h23) (by decide) (by decide)) allQ.nil) (Nat.le_of_ble_eq_true rfl) (fun x36 h35 => ?_)
          refine j_if_eq (tgt := 2) d_M_go_121 (by decide) ?_ ?_
          · exact ih l0 l1 l2 h35
          · refine j_aload_n d_M_go_124 0 rfl rfl ?_
            refine j_vU0 d_M_go_125 (allQ.cons (VD.mk vt_12_342_12 (ct_M_tell N l D dA B l0 h35) (by decide) (by decide)) allQ.nil) (Nat.le_of_ble_eq_true rfl) (fun _ h37 => ?_)
            exact j_retU d_M_go_128
        · refine j_aload_n d_M_go_129 0 rfl rfl ?_
          refine j_dup d_M_go_130 rfl ?_
          refine j_getI d_M_go_131 fl_12_315.r (fun x26 => ?_)
          refine j_iconst (v := 1) d_M_go_134 (by decide) ?_
          refine j_iadd d_M_go_135 ?_
          refine j_putI d_M_go_136 fl_12_315 (Or.inl rfl) (fun h27 => ?_)
          refine j_aload_n d_M_go_139 0 rfl rfl ?_
          refine j_getR d_M_go_140 fl_12_77.r (fun x28 => ?_)
          refine j_aload_n d_M_go_143 0 rfl rfl ?_
          refine j_getI d_M_go_144 fl_12_315.r (fun x29 => ?_)
          refine j_iconst (v := -1) d_M_go_147 (by decide) ?_
          refine j_iast d_M_go_148 (fun h30 => ?_)
          refine j_aload_n d_M_go_149 0 rfl rfl ?_
          refine j_getR d_M_go_150 fl_12_80.r (fun x31 => ?_)
          refine j_aload_n d_M_go_153 0 rfl rfl ?_
          refine j_getI d_M_go_154 fl_12_315.r (fun x32 => ?_)
          refine j_aload_n d_M_go_157 0 rfl rfl ?_
          refine j_getI d_M_go_158 fl_12_318.r (fun x33 => ?_)
          refine j_iast d_M_go_161 (fun h34 => ?_)
          refine j_goto (tgt := 2) d_M_go_162 (by decide) ?_
          exact ih l0 l1 l2 h34
      · refine j_iload_n d_M_go_165 2 rfl rfl ?_
        refine j_iload_n d_M_go_166 1 rfl rfl ?_
        refine j_icmp_ne (tgt := 171) d_M_go_167 (by decide) ?_ ?_
        · exact j_retU d_M_go_170
        · refine j_iinc (lvv := fun x4 => [(2, vi x4), (0, vr l0), (1, vi l1)]) d_M_go_171 2 rfl rfl (by decide) (fun _ => rfl) (fun x4 => ?_)
          refine j_aload_n d_M_go_174 1 rfl rfl ?_
          refine j_dup d_M_go_175 rfl ?_
          refine j_getI d_M_go_176 fl_12_124.r (fun x5 => ?_)
          refine j_iconst (v := 1) d_M_go_179 (by decide) ?_
          refine j_iadd d_M_go_180 ?_
          refine j_putI d_M_go_181 fl_12_124 (Or.inl rfl) (fun h6 => ?_)
          refine j_aload_n d_M_go_184 1 rfl rfl ?_
          refine j_getR d_M_go_185 fl_12_83.r (fun x7 => ?_)
          refine j_aload_n d_M_go_188 1 rfl rfl ?_
          refine j_getI d_M_go_189 fl_12_318.r (fun x8 => ?_)
          refine j_iconst (v := 1) d_M_go_192 (by decide) ?_
          refine j_isub d_M_go_193 ?_
          refine j_lald d_M_go_194 (fun x9 => ?_)
          refine j_aload_n d_M_go_195 1 rfl rfl ?_
          refine j_getR d_M_go_196 fl_12_86.r (fun x10 => ?_)
          refine j_aload_n d_M_go_199 1 rfl rfl ?_
          refine j_getI d_M_go_200 fl_12_333.r (fun x11 => ?_)
          refine j_iald d_M_go_203 (fun x12 => ?_)
          refine j_cSL2 d_M_go_204 sl_12_224 ks_M_done (ct_M_done N l D dA B x9 x12 h6) (by decide) (by decide) (Nat.le_of_ble_eq_true rfl) (fun x14 h13 => ?_)
          refine j_lstore_n (lv' := [(3, vl x14), (2, vi x4), (0, vr l0), (1, vi l1)]) d_M_go_207 rfl (by decide) rfl ?_
          refine j_aload_n d_M_go_208 2 rfl rfl ?_
          refine j_dup d_M_go_209 rfl ?_
          refine j_getI d_M_go_210 fl_12_333.r (fun x15 => ?_)
          refine j_iconst (v := 1) d_M_go_213 (by decide) ?_
          refine j_iadd d_M_go_214 ?_
          refine j_putI d_M_go_215 fl_12_333 (Or.inl rfl) (fun h16 => ?_)
          refine j_aload_n d_M_go_218 2 rfl rfl ?_
          refine j_getI d_M_go_219 fl_12_315.r (fun x17 => ?_)
          refine j_aload_n d_M_go_222 2 rfl rfl ?_
          refine j_getI d_M_go_223 fl_12_302.r (fun x18 => ?_)
          refine j_iconst (v := 1) d_M_go_226 (by decide) ?_
          refine j_isub d_M_go_227 ?_
          refine j_icmp_ne (tgt := 255) d_M_go_228 (by decide) ?_ ?_
          · refine j_aload_n d_M_go_231 2 rfl rfl ?_
            refine j_getI d_M_go_232 fl_12_333.r (fun x19 => ?_)
            refine j_aload_n d_M_go_235 2 rfl rfl ?_
            refine j_getI d_M_go_236 fl_12_330.r (fun x20 => ?_)
            refine j_icmp_ne (tgt := 255) d_M_go_239 (by decide) ?_ ?_
            · refine j_lload_n d_M_go_242 0 rfl rfl ?_
              refine j_aload_n d_M_go_243 2 rfl rfl ?_
              refine j_vL0 d_M_go_244 (allQ.cons (VD.mk vt_12_133_12 (ct_M_rounds N l D dA B l0 h16) (by decide) (by decide)) allQ.nil) (Nat.le_of_ble_eq_true rfl) (fun x22 h21 => ?_)
              refine j_lcmp d_M_go_247 ?_
              refine j_if_ne (tgt := 255) d_M_go_248 (by decide) ?_ ?_
              · refine j_iconst (v := 1) d_M_go_251 (by decide) ?_
                refine j_goto (tgt := 256) d_M_go_252 (by decide) ?_
                exact J.sub [2, 3, 1, 0] rfl (jc_M_go_256 N (M_go_2 N n) ih l0 l1 x4 x14 1 h21)
              · exact J.sub [2, 3, 1, 0] rfl (jc_M_go_255 N (M_go_2 N n) ih l0 l1 x4 x14 h21)
            · exact J.sub [2, 3, 1, 0] rfl (jc_M_go_255 N (M_go_2 N n) ih l0 l1 x4 x14 h16)
          · exact J.sub [2, 3, 1, 0] rfl (jc_M_go_255 N (M_go_2 N n) ih l0 l1 x4 x14 h16)
set_option maxRecDepth 20000 in
theorem jc_M_go (N : Nat) (l0 : Option Nat) (l1 : Int32) (h : Hp) : J p l e R s m args below meth c prog_15_method_79_code 6 "RingingChamberModel" 4 96 none "go" D dA B n0 s0 (QM below args s D dA B n0 s0 vU) 0 [(0, vr l0), (1, vi l1)] [] h (M_go N l0 l1 h) := by
  unfold M_go
  refine j_iconst (v := 0) d_M_go_0 (by decide) ?_
  refine j_istore_n (lv' := [(2, vi 0), (0, vr l0), (1, vi l1)]) d_M_go_1 rfl (by decide) rfl ?_
  exact J.sub [1, 2, 0] rfl (jc_M_go_2 N N l0 l1 0 h)
set_option maxRecDepth 20000 in
theorem ct_M_go (N : Nat) (l : Launch) (D : va_G) (dA : Nat → ClassId) (B : Nat) (l0 : Option Nat) (l1 : Int32) (h : Hp) : Ct l (⟨"RingingChamberModel", "go", "(I)V"⟩ : MethodName) prog_15_method_79_code 6 none 4 96 D dA B [vr l0, vi l1] h vU (M_go N l0 l1 h) :=
  Ct.of2 (own := "RingingChamberModel") (nme := "go") (lv := [(0, vr l0), (1, vi l1)]) rfl rfl (by decide) (Nat.le_of_ble_eq_true rfl) rfl (fun p e R s m args below meth c => jc_M_go N l0 l1 h)
theorem d_M_search_0 : decode prog_15_method_74_code 0 = .ok (.iload_n 1, 1) := by decide +kernel
theorem d_M_search_1 : decode prog_15_method_74_code 1 = .ok (.iconst 1, 1) := by decide +kernel
theorem d_M_search_2 : decode prog_15_method_74_code 2 = .ok (.if_icmp .lt 34, 3) := by decide +kernel
theorem d_M_search_5 : decode prog_15_method_74_code 5 = .ok (.iload_n 1, 1) := by decide +kernel
theorem d_M_search_6 : decode prog_15_method_74_code 6 = .ok (.bipush 12, 2) := by decide +kernel
theorem d_M_search_8 : decode prog_15_method_74_code 8 = .ok (.if_icmp .gt 28, 3) := by decide +kernel
theorem d_M_search_11 : decode prog_15_method_74_code 11 = .ok (.iload_n 2, 1) := by decide +kernel
theorem d_M_search_12 : decode prog_15_method_74_code 12 = .ok (.ifCond .lt 24, 3) := by decide +kernel
theorem d_M_search_15 : decode prog_15_method_74_code 15 = .ok (.aload_n 0, 1) := by decide +kernel
theorem d_M_search_16 : decode prog_15_method_74_code 16 = .ok (.lload_n 3, 1) := by decide +kernel
theorem d_M_search_17 : decode prog_15_method_74_code 17 = .ok (.invokevirtual 290, 3) := by decide +kernel
theorem d_M_search_20 : decode prog_15_method_74_code 20 = .ok (.ifCond .eq 16, 3) := by decide +kernel
theorem d_M_search_23 : decode prog_15_method_74_code 23 = .ok (.iload 5, 2) := by decide +kernel
theorem d_M_search_25 : decode prog_15_method_74_code 25 = .ok (.ifCond .lt 11, 3) := by decide +kernel
theorem d_M_search_28 : decode prog_15_method_74_code 28 = .ok (.iload 5, 2) := by decide +kernel
theorem d_M_search_30 : decode prog_15_method_74_code 30 = .ok (.sipush 1000, 3) := by decide +kernel
theorem d_M_search_33 : decode prog_15_method_74_code 33 = .ok (.if_icmp .le 5, 3) := by decide +kernel
theorem d_M_search_36 : decode prog_15_method_74_code 36 = .ok (.iconst (-1), 1) := by decide +kernel
theorem d_M_search_37 : decode prog_15_method_74_code 37 = .ok (.ireturn, 1) := by decide +kernel
theorem d_M_search_38 : decode prog_15_method_74_code 38 = .ok (.aload_n 0, 1) := by decide +kernel
theorem d_M_search_39 : decode prog_15_method_74_code 39 = .ok (.iload_n 1, 1) := by decide +kernel
theorem d_M_search_40 : decode prog_15_method_74_code 40 = .ok (.putfield 302, 3) := by decide +kernel
theorem d_M_search_43 : decode prog_15_method_74_code 43 = .ok (.aload_n 0, 1) := by decide +kernel
theorem d_M_search_44 : decode prog_15_method_74_code 44 = .ok (.iload_n 2, 1) := by decide +kernel
theorem d_M_search_45 : decode prog_15_method_74_code 45 = .ok (.putfield 305, 3) := by decide +kernel
theorem d_M_search_48 : decode prog_15_method_74_code 48 = .ok (.aload_n 0, 1) := by decide +kernel
theorem d_M_search_49 : decode prog_15_method_74_code 49 = .ok (.lload_n 3, 1) := by decide +kernel
theorem d_M_search_50 : decode prog_15_method_74_code 50 = .ok (.putfield 308, 3) := by decide +kernel
theorem d_M_search_53 : decode prog_15_method_74_code 53 = .ok (.aload_n 0, 1) := by decide +kernel
theorem d_M_search_54 : decode prog_15_method_74_code 54 = .ok (.iconst 1, 1) := by decide +kernel
theorem d_M_search_55 : decode prog_15_method_74_code 55 = .ok (.putfield 118, 3) := by decide +kernel
theorem d_M_search_58 : decode prog_15_method_74_code 58 = .ok (.aload_n 0, 1) := by decide +kernel
theorem d_M_search_59 : decode prog_15_method_74_code 59 = .ok (.iconst 0, 1) := by decide +kernel
theorem d_M_search_60 : decode prog_15_method_74_code 60 = .ok (.putfield 121, 3) := by decide +kernel
theorem d_M_search_63 : decode prog_15_method_74_code 63 = .ok (.aload_n 0, 1) := by decide +kernel
theorem d_M_search_64 : decode prog_15_method_74_code 64 = .ok (.iconst 0, 1) := by decide +kernel
theorem d_M_search_65 : decode prog_15_method_74_code 65 = .ok (.putfield 124, 3) := by decide +kernel
theorem d_M_search_68 : decode prog_15_method_74_code 68 = .ok (.aload_n 0, 1) := by decide +kernel
theorem d_M_search_69 : decode prog_15_method_74_code 69 = .ok (.iconst 0, 1) := by decide +kernel
theorem d_M_search_70 : decode prog_15_method_74_code 70 = .ok (.putfield 127, 3) := by decide +kernel
theorem d_M_search_73 : decode prog_15_method_74_code 73 = .ok (.aload_n 0, 1) := by decide +kernel
theorem d_M_search_74 : decode prog_15_method_74_code 74 = .ok (.iconst 0, 1) := by decide +kernel
theorem d_M_search_75 : decode prog_15_method_74_code 75 = .ok (.putfield 312, 3) := by decide +kernel
theorem d_M_search_78 : decode prog_15_method_74_code 78 = .ok (.iconst 0, 1) := by decide +kernel
theorem d_M_search_79 : decode prog_15_method_74_code 79 = .ok (.istore 6, 2) := by decide +kernel
theorem d_M_search_81 : decode prog_15_method_74_code 81 = .ok (.iload 6, 2) := by decide +kernel
theorem d_M_search_83 : decode prog_15_method_74_code 83 = .ok (.aload_n 0, 1) := by decide +kernel
theorem d_M_search_84 : decode prog_15_method_74_code 84 = .ok (.getfield 109, 3) := by decide +kernel
theorem d_M_search_87 : decode prog_15_method_74_code 87 = .ok (.if_icmp .ge 66, 3) := by decide +kernel
theorem d_M_search_90 : decode prog_15_method_74_code 90 = .ok (.iconst 0, 1) := by decide +kernel
theorem d_M_search_91 : decode prog_15_method_74_code 91 = .ok (.istore 7, 2) := by decide +kernel
theorem d_M_search_93 : decode prog_15_method_74_code 93 = .ok (.iload 7, 2) := by decide +kernel
theorem d_M_search_95 : decode prog_15_method_74_code 95 = .ok (.iconst 3, 1) := by decide +kernel
theorem d_M_search_96 : decode prog_15_method_74_code 96 = .ok (.if_icmp .ge 51, 3) := by decide +kernel
theorem d_M_search_99 : decode prog_15_method_74_code 99 = .ok (.aload_n 0, 1) := by decide +kernel
theorem d_M_search_100 : decode prog_15_method_74_code 100 = .ok (.getfield 67, 3) := by decide +kernel
theorem d_M_search_103 : decode prog_15_method_74_code 103 = .ok (.iload 6, 2) := by decide +kernel
theorem d_M_search_105 : decode prog_15_method_74_code 105 = .ok (.iaload, 1) := by decide +kernel
theorem d_M_search_106 : decode prog_15_method_74_code 106 = .ok (.iload 7, 2) := by decide +kernel
theorem d_M_search_108 : decode prog_15_method_74_code 108 = .ok (.ishr, 1) := by decide +kernel
theorem d_M_search_109 : decode prog_15_method_74_code 109 = .ok (.iconst 1, 1) := by decide +kernel
theorem d_M_search_110 : decode prog_15_method_74_code 110 = .ok (.iand, 1) := by decide +kernel
theorem d_M_search_111 : decode prog_15_method_74_code 111 = .ok (.iconst 1, 1) := by decide +kernel
theorem d_M_search_112 : decode prog_15_method_74_code 112 = .ok (.if_icmp .ne 29, 3) := by decide +kernel
theorem d_M_search_115 : decode prog_15_method_74_code 115 = .ok (.aload_n 0, 1) := by decide +kernel
theorem d_M_search_116 : decode prog_15_method_74_code 116 = .ok (.getfield 70, 3) := by decide +kernel
theorem d_M_search_119 : decode prog_15_method_74_code 119 = .ok (.aload_n 0, 1) := by decide +kernel
theorem d_M_search_120 : decode prog_15_method_74_code 120 = .ok (.getfield 312, 3) := by decide +kernel
theorem d_M_search_123 : decode prog_15_method_74_code 123 = .ok (.iconst 3, 1) := by decide +kernel
theorem d_M_search_124 : decode prog_15_method_74_code 124 = .ok (.iload 6, 2) := by decide +kernel
theorem d_M_search_126 : decode prog_15_method_74_code 126 = .ok (.imul, 1) := by decide +kernel
theorem d_M_search_127 : decode prog_15_method_74_code 127 = .ok (.iload 7, 2) := by decide +kernel
theorem d_M_search_129 : decode prog_15_method_74_code 129 = .ok (.iadd, 1) := by decide +kernel
theorem d_M_search_130 : decode prog_15_method_74_code 130 = .ok (.iastore, 1) := by decide +kernel
theorem d_M_search_131 : decode prog_15_method_74_code 131 = .ok (.aload_n 0, 1) := by decide +kernel
theorem d_M_search_132 : decode prog_15_method_74_code 132 = .ok (.dup, 1) := by decide +kernel
theorem d_M_search_133 : decode prog_15_method_74_code 133 = .ok (.getfield 312, 3) := by decide +kernel
theorem d_M_search_136 : decode prog_15_method_74_code 136 = .ok (.iconst 1, 1) := by decide +kernel
theorem d_M_search_137 : decode prog_15_method_74_code 137 = .ok (.iadd, 1) := by decide +kernel
theorem d_M_search_138 : decode prog_15_method_74_code 138 = .ok (.putfield 312, 3) := by decide +kernel
theorem d_M_search_141 : decode prog_15_method_74_code 141 = .ok (.iinc 7 1, 3) := by decide +kernel
theorem d_M_search_144 : decode prog_15_method_74_code 144 = .ok (.goto (-51), 3) := by decide +kernel
theorem d_M_search_147 : decode prog_15_method_74_code 147 = .ok (.iinc 6 1, 3) := by decide +kernel
theorem d_M_search_150 : decode prog_15_method_74_code 150 = .ok (.goto (-69), 3) := by decide +kernel
theorem d_M_search_153 : decode prog_15_method_74_code 153 = .ok (.iconst 0, 1) := by decide +kernel
theorem d_M_search_154 : decode prog_15_method_74_code 154 = .ok (.istore 6, 2) := by decide +kernel
theorem d_M_search_156 : decode prog_15_method_74_code 156 = .ok (.iload 6, 2) := by decide +kernel
theorem d_M_search_158 : decode prog_15_method_74_code 158 = .ok (.aload_n 0, 1) := by decide +kernel
theorem d_M_search_159 : decode prog_15_method_74_code 159 = .ok (.getfield 73, 3) := by decide +kernel
theorem d_M_search_162 : decode prog_15_method_74_code 162 = .ok (.arraylength, 1) := by decide +kernel
theorem d_M_search_163 : decode prog_15_method_74_code 163 = .ok (.if_icmp .ge 17, 3) := by decide +kernel
theorem d_M_search_166 : decode prog_15_method_74_code 166 = .ok (.aload_n 0, 1) := by decide +kernel
theorem d_M_search_167 : decode prog_15_method_74_code 167 = .ok (.getfield 73, 3) := by decide +kernel
theorem d_M_search_170 : decode prog_15_method_74_code 170 = .ok (.iload 6, 2) := by decide +kernel
theorem d_M_search_172 : decode prog_15_method_74_code 172 = .ok (.iconst 0, 1) := by decide +kernel
theorem d_M_search_173 : decode prog_15_method_74_code 173 = .ok (.bastore, 1) := by decide +kernel
theorem d_M_search_174 : decode prog_15_method_74_code 174 = .ok (.iinc 6 1, 3) := by decide +kernel
theorem d_M_search_177 : decode prog_15_method_74_code 177 = .ok (.goto (-21), 3) := by decide +kernel
theorem d_M_search_180 : decode prog_15_method_74_code 180 = .ok (.aload_n 0, 1) := by decide +kernel
theorem d_M_search_181 : decode prog_15_method_74_code 181 = .ok (.iconst 0, 1) := by decide +kernel
theorem d_M_search_182 : decode prog_15_method_74_code 182 = .ok (.putfield 315, 3) := by decide +kernel
theorem d_M_search_185 : decode prog_15_method_74_code 185 = .ok (.aload_n 0, 1) := by decide +kernel
theorem d_M_search_186 : decode prog_15_method_74_code 186 = .ok (.getfield 77, 3) := by decide +kernel
theorem d_M_search_189 : decode prog_15_method_74_code 189 = .ok (.iconst 0, 1) := by decide +kernel
theorem d_M_search_190 : decode prog_15_method_74_code 190 = .ok (.iconst (-1), 1) := by decide +kernel
theorem d_M_search_191 : decode prog_15_method_74_code 191 = .ok (.iastore, 1) := by decide +kernel
theorem d_M_search_192 : decode prog_15_method_74_code 192 = .ok (.aload_n 0, 1) := by decide +kernel
theorem d_M_search_193 : decode prog_15_method_74_code 193 = .ok (.getfield 80, 3) := by decide +kernel
theorem d_M_search_196 : decode prog_15_method_74_code 196 = .ok (.iconst 0, 1) := by decide +kernel
theorem d_M_search_197 : decode prog_15_method_74_code 197 = .ok (.iconst 1, 1) := by decide +kernel
theorem d_M_search_198 : decode prog_15_method_74_code 198 = .ok (.iastore, 1) := by decide +kernel
theorem d_M_search_199 : decode prog_15_method_74_code 199 = .ok (.aload_n 0, 1) := by decide +kernel
theorem d_M_search_200 : decode prog_15_method_74_code 200 = .ok (.getfield 83, 3) := by decide +kernel
theorem d_M_search_203 : decode prog_15_method_74_code 203 = .ok (.iconst 0, 1) := by decide +kernel
theorem d_M_search_204 : decode prog_15_method_74_code 204 = .ok (.aload_n 0, 1) := by decide +kernel
theorem d_M_search_205 : decode prog_15_method_74_code 205 = .ok (.invokevirtual 133, 3) := by decide +kernel
theorem d_M_search_208 : decode prog_15_method_74_code 208 = .ok (.lastore, 1) := by decide +kernel
theorem d_M_search_209 : decode prog_15_method_74_code 209 = .ok (.aload_n 0, 1) := by decide +kernel
theorem d_M_search_210 : decode prog_15_method_74_code 210 = .ok (.iconst 1, 1) := by decide +kernel
theorem d_M_search_211 : decode prog_15_method_74_code 211 = .ok (.putfield 318, 3) := by decide +kernel
theorem d_M_search_214 : decode prog_15_method_74_code 214 = .ok (.aload_n 0, 1) := by decide +kernel
theorem d_M_search_215 : decode prog_15_method_74_code 215 = .ok (.iconst 0, 1) := by decide +kernel
theorem d_M_search_216 : decode prog_15_method_74_code 216 = .ok (.putfield 321, 3) := by decide +kernel
theorem d_M_search_219 : decode prog_15_method_74_code 219 = .ok (.aload_n 0, 1) := by decide +kernel
theorem d_M_search_220 : decode prog_15_method_74_code 220 = .ok (.iconst 2, 1) := by decide +kernel
theorem d_M_search_221 : decode prog_15_method_74_code 221 = .ok (.putfield 324, 3) := by decide +kernel
theorem d_M_search_224 : decode prog_15_method_74_code 224 = .ok (.aload_n 0, 1) := by decide +kernel
theorem d_M_search_225 : decode prog_15_method_74_code 225 = .ok (.iload 5, 2) := by decide +kernel
theorem d_M_search_227 : decode prog_15_method_74_code 227 = .ok (.invokevirtual 327, 3) := by decide +kernel
theorem d_M_search_230 : decode prog_15_method_74_code 230 = .ok (.aload_n 0, 1) := by decide +kernel
theorem d_M_search_231 : decode prog_15_method_74_code 231 = .ok (.getfield 324, 3) := by decide +kernel
theorem d_M_search_234 : decode prog_15_method_74_code 234 = .ok (.ireturn, 1) := by decide +kernel
set_option maxRecDepth 20000 in
theorem jc_M_search_156 (N : Nat) : ∀ (n : Nat) (l0 : Option Nat) (l5 : Int32) (l6 : Int32) (h : Hp), J p l e R s m args below meth c prog_15_method_74_code 8 "RingingChamberModel" 5 121 (some .int) "search" D dA B n0 s0 (QM below args s D dA B n0 s0 vI) 156 [(0, vr l0), (5, vi l5), (6, vi l6)] [] h (M_search_156 N n l0 l5 l6 h) := by
  intro n
  induction n with
  | zero => intros; exact J.none
  | succ n ih =>
    intro l0 l5 l6 h
    rw [M_search_156]
    refine j_iload d_M_search_156 2 rfl ?_
    refine j_aload_n d_M_search_158 0 rfl rfl ?_
    refine j_getR d_M_search_159 fl_12_73.r (fun x1 => ?_)
    refine j_alen d_M_search_162 (fun x2 => ?_)
    refine j_icmp_ge (tgt := 180) d_M_search_163 (by decide) ?_ ?_
    · refine j_aload_n d_M_search_180 0 rfl rfl ?_
      refine j_iconst (v := 0) d_M_search_181 (by decide) ?_
      refine j_putI d_M_search_182 fl_12_315 (Or.inl rfl) (fun h3 => ?_)
      refine j_aload_n d_M_search_185 0 rfl rfl ?_
      refine j_getR d_M_search_186 fl_12_77.r (fun x4 => ?_)
      refine j_iconst (v := 0) d_M_search_189 (by decide) ?_
      refine j_iconst (v := -1) d_M_search_190 (by decide) ?_
      refine j_iast d_M_search_191 (fun h5 => ?_)
      refine j_aload_n d_M_search_192 0 rfl rfl ?_
      refine j_getR d_M_search_193 fl_12_80.r (fun x6 => ?_)
      refine j_iconst (v := 0) d_M_search_196 (by decide) ?_
      refine j_iconst (v := 1) d_M_search_197 (by decide) ?_
      refine j_iast d_M_search_198 (fun h7 => ?_)
      refine j_aload_n d_M_search_199 0 rfl rfl ?_
      refine j_getR d_M_search_200 fl_12_83.r (fun x8 => ?_)
      refine j_iconst (v := 0) d_M_search_203 (by decide) ?_
      refine j_aload_n d_M_search_204 0 rfl rfl ?_
      refine j_vL0 d_M_search_205 (allQ.cons (VD.mk vt_12_133_12 (ct_M_rounds N l D dA B l0 h7) (by decide) (by decide)) allQ.nil) (Nat.le_of_ble_eq_true rfl) (fun x10 h9 => ?_)
      refine j_last d_M_search_208 (fun h11 => ?_)
      refine j_aload_n d_M_search_209 0 rfl rfl ?_
      refine j_iconst (v := 1) d_M_search_210 (by decide) ?_
      refine j_putI d_M_search_211 fl_12_318 (Or.inl rfl) (fun h12 => ?_)
      refine j_aload_n d_M_search_214 0 rfl rfl ?_
      refine j_iconst (v := 0) d_M_search_215 (by decide) ?_
      refine j_putZ d_M_search_216 fl_12_321 (Or.inl rfl) (fun h13 => ?_)
      refine j_aload_n d_M_search_219 0 rfl rfl ?_
      refine j_iconst (v := 2) d_M_search_220 (by decide) ?_
      refine j_putI d_M_search_221 fl_12_324 (Or.inl rfl) (fun h14 => ?_)
      refine j_aload_n d_M_search_224 0 rfl rfl ?_
      refine j_iload d_M_search_225 1 rfl ?_
      refine j_vU1 d_M_search_227 (allQ.cons (VD.mk vt_12_327_12 (ct_M_go N l D dA B l0 l5 h14) (by decide) (by decide)) allQ.nil) (Nat.le_of_ble_eq_true rfl) (fun _ h15 => ?_)
      refine j_aload_n d_M_search_230 0 rfl rfl ?_
      refine j_getI d_M_search_231 fl_12_324.r (fun x16 => ?_)
      exact j_retI d_M_search_234
    · refine j_aload_n d_M_search_166 0 rfl rfl ?_
      refine j_getR d_M_search_167 fl_12_73.r (fun x17 => ?_)
      refine j_iload d_M_search_170 2 rfl ?_
      refine j_iconst (v := 0) d_M_search_172 (by decide) ?_
      refine j_bast d_M_search_173 (fun h18 => ?_)
      refine j_iinc (lvv := fun x19 => [(6, vi x19), (0, vr l0), (5, vi l5)]) d_M_search_174 2 rfl rfl (by decide) (fun _ => rfl) (fun x19 => ?_)
      refine j_goto (tgt := 156) d_M_search_177 (by decide) ?_
      exact J.sub [1, 2, 0] rfl (ih l0 l5 x19 h18)
set_option maxRecDepth 20000 in
theorem jc_M_search_141 (N : Nat) (re81 : Option Nat → Int32 → Int32 → Hp → Option (Int32 × Hp)) (re93 : Option Nat → Int32 → Int32 → Int32 → Hp → Option (Int32 × Hp)) (hre81 : ∀ y0 y1 y2 h, J p l e R s m args below meth c prog_15_method_74_code 8 "RingingChamberModel" 5 121 (some .int) "search" D dA B n0 s0 (QM below args s D dA B n0 s0 vI) 81 [(0, vr y0), (5, vi y1), (6, vi y2)] [] h (re81 y0 y1 y2 h)) (hre93 : ∀ y0 y1 y2 y3 h, J p l e R s m args below meth c prog_15_method_74_code 8 "RingingChamberModel" 5 121 (some .int) "search" D dA B n0 s0 (QM below args s D dA B n0 s0 vI) 93 [(0, vr y0), (5, vi y1), (6, vi y2), (7, vi y3)] [] h (re93 y0 y1 y2 y3 h)) (l0 : Option Nat) (l5 : Int32) (l6 : Int32) (l7 : Int32) (h : Hp) : J p l e R s m args below meth c prog_15_method_74_code 8 "RingingChamberModel" 5 121 (some .int) "search" D dA B n0 s0 (QM below args s D dA B n0 s0 vI) 141 [(0, vr l0), (5, vi l5), (6, vi l6), (7, vi l7)] [] h (M_search_141 N re81 re93 l0 l5 l6 l7 h) := by
  unfold M_search_141
  refine j_iinc (lvv := fun x1 => [(7, vi x1), (0, vr l0), (5, vi l5), (6, vi l6)]) d_M_search_141 3 rfl rfl (by decide) (fun _ => rfl) (fun x1 => ?_)
  refine j_goto (tgt := 93) d_M_search_144 (by decide) ?_
  exact J.sub [1, 2, 3, 0] rfl (hre93 l0 l5 l6 x1 h)
set_option maxRecDepth 20000 in
theorem jc_M_search_93 (N : Nat) (re81 : Option Nat → Int32 → Int32 → Hp → Option (Int32 × Hp)) (hre81 : ∀ y0 y1 y2 h, J p l e R s m args below meth c prog_15_method_74_code 8 "RingingChamberModel" 5 121 (some .int) "search" D dA B n0 s0 (QM below args s D dA B n0 s0 vI) 81 [(0, vr y0), (5, vi y1), (6, vi y2)] [] h (re81 y0 y1 y2 h)) : ∀ (n : Nat) (l0 : Option Nat) (l5 : Int32) (l6 : Int32) (l7 : Int32) (h : Hp), J p l e R s m args below meth c prog_15_method_74_code 8 "RingingChamberModel" 5 121 (some .int) "search" D dA B n0 s0 (QM below args s D dA B n0 s0 vI) 93 [(0, vr l0), (5, vi l5), (6, vi l6), (7, vi l7)] [] h (M_search_93 N re81 n l0 l5 l6 l7 h) := by
  intro n
  induction n with
  | zero => intros; exact J.none
  | succ n ih =>
    intro l0 l5 l6 l7 h
    rw [M_search_93]
    refine j_iload d_M_search_93 3 rfl ?_
    refine j_iconst (v := 3) d_M_search_95 (by decide) ?_
    refine j_icmp_ge (tgt := 147) d_M_search_96 (by decide) ?_ ?_
    · refine j_iinc (lvv := fun x1 => [(6, vi x1), (0, vr l0), (5, vi l5), (7, vi l7)]) d_M_search_147 2 rfl rfl (by decide) (fun _ => rfl) (fun x1 => ?_)
      refine j_goto (tgt := 81) d_M_search_150 (by decide) ?_
      exact J.sub [1, 2, 0] rfl (hre81 l0 l5 x1 h)
    · refine j_aload_n d_M_search_99 0 rfl rfl ?_
      refine j_getR d_M_search_100 fl_12_67.r (fun x2 => ?_)
      refine j_iload d_M_search_103 2 rfl ?_
      refine j_iald d_M_search_105 (fun x3 => ?_)
      refine j_iload d_M_search_106 3 rfl ?_
      refine j_ishr d_M_search_108 ?_
      refine j_iconst (v := 1) d_M_search_109 (by decide) ?_
      refine j_iand d_M_search_110 ?_
      refine j_iconst (v := 1) d_M_search_111 (by decide) ?_
      refine j_icmp_ne (tgt := 141) d_M_search_112 (by decide) ?_ ?_
      · refine j_aload_n d_M_search_115 0 rfl rfl ?_
        refine j_getR d_M_search_116 fl_12_70.r (fun x4 => ?_)
        refine j_aload_n d_M_search_119 0 rfl rfl ?_
        refine j_getI d_M_search_120 fl_12_312.r (fun x5 => ?_)
        refine j_iconst (v := 3) d_M_search_123 (by decide) ?_
        refine j_iload d_M_search_124 2 rfl ?_
        refine j_imul d_M_search_126 ?_
        refine j_iload d_M_search_127 3 rfl ?_
        refine j_iadd d_M_search_129 ?_
        refine j_iast d_M_search_130 (fun h6 => ?_)
        refine j_aload_n d_M_search_131 0 rfl rfl ?_
        refine j_dup d_M_search_132 rfl ?_
        refine j_getI d_M_search_133 fl_12_312.r (fun x7 => ?_)
        refine j_iconst (v := 1) d_M_search_136 (by decide) ?_
        refine j_iadd d_M_search_137 ?_
        refine j_putI d_M_search_138 fl_12_312 (Or.inl rfl) (fun h8 => ?_)
        exact jc_M_search_141 N re81 (M_search_93 N re81 n) hre81 ih l0 l5 l6 l7 h8
      · exact jc_M_search_141 N re81 (M_search_93 N re81 n) hre81 ih l0 l5 l6 l7 h
set_option maxRecDepth 20000 in
theorem jc_M_search_81 (N : Nat) : ∀ (n : Nat) (l0 : Option Nat) (l5 : Int32) (l6 : Int32) (h : Hp), J p l e R s m args below meth c prog_15_method_74_code 8 "RingingChamberModel" 5 121 (some .int) "search" D dA B n0 s0 (QM below args s D dA B n0 s0 vI) 81 [(0, vr l0), (5, vi l5), (6, vi l6)] [] h (M_search_81 N n l0 l5 l6 h) := by
  intro n
  induction n with
  | zero => intros; exact J.none
  | succ n ih =>
    intro l0 l5 l6 h
    rw [M_search_81]
    refine j_iload d_M_search_81 2 rfl ?_
    refine j_aload_n d_M_search_83 0 rfl rfl ?_
    refine j_getI d_M_search_84 fl_12_109.r (fun x1 => ?_)
    refine j_icmp_ge (tgt := 153) d_M_search_87 (by decide) ?_ ?_
    · refine j_iconst (v := 0) d_M_search_153 (by decide) ?_
      refine j_istore (lv' := [(6, vi 0), (0, vr l0), (5, vi l5)]) d_M_search_154 (by decide) rfl ?_
      exact J.sub [1, 2, 0] rfl (jc_M_search_156 N N l0 l5 0 h)
    · refine j_iconst (v := 0) d_M_search_90 (by decide) ?_
      refine j_istore (lv' := [(7, vi 0), (0, vr l0), (5, vi l5), (6, vi l6)]) d_M_search_91 (by decide) rfl ?_
      exact J.sub [1, 2, 3, 0] rfl (jc_M_search_93 N (M_search_81 N n) ih N l0 l5 l6 0 h)
set_option maxRecDepth 20000 in
theorem jc_M_search (N : Nat) (l0 : Option Nat) (l1 : Int32) (l2 : Int32) (l3 : Int64) (l5 : Int32) (h : Hp) : J p l e R s m args below meth c prog_15_method_74_code 8 "RingingChamberModel" 5 121 (some .int) "search" D dA B n0 s0 (QM below args s D dA B n0 s0 vI) 0 [(0, vr l0), (1, vi l1), (2, vi l2), (3, vl l3), (5, vi l5)] [] h (M_search N l0 l1 l2 l3 l5 h) := by
  unfold M_search
  refine j_iload_n d_M_search_0 1 rfl rfl ?_
  refine j_iconst (v := 1) d_M_search_1 (by decide) ?_
  refine j_icmp_lt (tgt := 36) d_M_search_2 (by decide) ?_ ?_
  · refine j_iconst (v := -1) d_M_search_36 (by decide) ?_
    exact j_retI d_M_search_37
  · refine j_iload_n d_M_search_5 1 rfl rfl ?_
    refine j_bipush (v := 12) d_M_search_6 (by decide) ?_
    refine j_icmp_gt (tgt := 36) d_M_search_8 (by decide) ?_ ?_
    · refine j_iconst (v := -1) d_M_search_36 (by decide) ?_
      exact j_retI d_M_search_37
    · refine j_iload_n d_M_search_11 2 rfl rfl ?_
      refine j_if_lt (tgt := 36) d_M_search_12 (by decide) ?_ ?_
      · refine j_iconst (v := -1) d_M_search_36 (by decide) ?_
        exact j_retI d_M_search_37
      · refine j_aload_n d_M_search_15 0 rfl rfl ?_
        refine j_lload_n d_M_search_16 3 rfl rfl ?_
        refine j_vI1 d_M_search_17 (allQ.cons (VD.mk vt_12_290_12 (ct_M_isPattern N l D dA B l0 l3 h) (by decide) (by decide)) allQ.nil) (Nat.le_of_ble_eq_true rfl) (fun x2 h1 => ?_)
        refine j_if_eq (tgt := 36) d_M_search_20 (by decide) ?_ ?_
        · refine j_iconst (v := -1) d_M_search_36 (by decide) ?_
          exact j_retI d_M_search_37
        · refine j_iload d_M_search_23 4 rfl ?_
          refine j_if_lt (tgt := 36) d_M_search_25 (by decide) ?_ ?_
          · refine j_iconst (v := -1) d_M_search_36 (by decide) ?_
            exact j_retI d_M_search_37
          · refine j_iload d_M_search_28 4 rfl ?_
            refine j_sipush (v := 1000) d_M_search_30 (by decide) ?_
            refine j_icmp_le (tgt := 38) d_M_search_33 (by decide) ?_ ?_
            · refine j_aload_n d_M_search_38 0 rfl rfl ?_
              refine j_iload_n d_M_search_39 1 rfl rfl ?_
              refine j_putI d_M_search_40 fl_12_302 (Or.inl rfl) (fun h3 => ?_)
              refine j_aload_n d_M_search_43 0 rfl rfl ?_
              refine j_iload_n d_M_search_44 2 rfl rfl ?_
              refine j_putI d_M_search_45 fl_12_305 (Or.inl rfl) (fun h4 => ?_)
              refine j_aload_n d_M_search_48 0 rfl rfl ?_
              refine j_lload_n d_M_search_49 3 rfl rfl ?_
              refine j_putL d_M_search_50 fl_12_308 (Or.inl rfl) (fun h5 => ?_)
              refine j_aload_n d_M_search_53 0 rfl rfl ?_
              refine j_iconst (v := 1) d_M_search_54 (by decide) ?_
              refine j_putZ d_M_search_55 fl_12_118 (Or.inl rfl) (fun h6 => ?_)
              refine j_aload_n d_M_search_58 0 rfl rfl ?_
              refine j_iconst (v := 0) d_M_search_59 (by decide) ?_
              refine j_putZ d_M_search_60 fl_12_121 (Or.inl rfl) (fun h7 => ?_)
              refine j_aload_n d_M_search_63 0 rfl rfl ?_
              refine j_iconst (v := 0) d_M_search_64 (by decide) ?_
              refine j_putI d_M_search_65 fl_12_124 (Or.inl rfl) (fun h8 => ?_)
              refine j_aload_n d_M_search_68 0 rfl rfl ?_
              refine j_iconst (v := 0) d_M_search_69 (by decide) ?_
              refine j_putI d_M_search_70 fl_12_127 (Or.inl rfl) (fun h9 => ?_)
              refine j_aload_n d_M_search_73 0 rfl rfl ?_
              refine j_iconst (v := 0) d_M_search_74 (by decide) ?_
              refine j_putI d_M_search_75 fl_12_312 (Or.inl rfl) (fun h10 => ?_)
              refine j_iconst (v := 0) d_M_search_78 (by decide) ?_
              refine j_istore (lv' := [(6, vi 0), (0, vr l0), (1, vi l1), (2, vi l2), (3, vl l3), (5, vi l5)]) d_M_search_79 (by decide) rfl ?_
              exact J.sub [1, 5, 0] rfl (jc_M_search_81 N N l0 l5 0 h10)
            · refine j_iconst (v := -1) d_M_search_36 (by decide) ?_
              exact j_retI d_M_search_37
set_option maxRecDepth 20000 in
theorem ct_M_search (N : Nat) (l : Launch) (D : va_G) (dA : Nat → ClassId) (B : Nat) (l0 : Option Nat) (l1 : Int32) (l2 : Int32) (l3 : Int64) (l5 : Int32) (h : Hp) : Ct l (⟨"RingingChamberModel", "search", "(IIJI)I"⟩ : MethodName) prog_15_method_74_code 8 (some .int) 5 121 D dA B [vr l0, vi l1, vi l2, vl l3, vi l5] h vI (M_search N l0 l1 l2 l3 l5 h) :=
  Ct.of2 (own := "RingingChamberModel") (nme := "search") (lv := [(0, vr l0), (1, vi l1), (2, vi l2), (3, vl l3), (5, vi l5)]) rfl rfl (by decide) (Nat.le_of_ble_eq_true rfl) rfl (fun p e R s m args below meth c => jc_M_search N l0 l1 l2 l3 l5 h)
theorem d_M_goOn_0 : decode prog_15_method_75_code 0 = .ok (.aload_n 0, 1) := by decide +kernel
theorem d_M_goOn_1 : decode prog_15_method_75_code 1 = .ok (.getfield 118, 3) := by decide +kernel
theorem d_M_goOn_4 : decode prog_15_method_75_code 4 = .ok (.ifCond .eq 14, 3) := by decide +kernel
theorem d_M_goOn_7 : decode prog_15_method_75_code 7 = .ok (.iload_n 1, 1) := by decide +kernel
theorem d_M_goOn_8 : decode prog_15_method_75_code 8 = .ok (.ifCond .lt 10, 3) := by decide +kernel
theorem d_M_goOn_11 : decode prog_15_method_75_code 11 = .ok (.iload_n 1, 1) := by decide +kernel
theorem d_M_goOn_12 : decode prog_15_method_75_code 12 = .ok (.sipush 1000, 3) := by decide +kernel
theorem d_M_goOn_15 : decode prog_15_method_75_code 15 = .ok (.if_icmp .le 5, 3) := by decide +kernel
theorem d_M_goOn_18 : decode prog_15_method_75_code 18 = .ok (.iconst (-1), 1) := by decide +kernel
theorem d_M_goOn_19 : decode prog_15_method_75_code 19 = .ok (.ireturn, 1) := by decide +kernel
theorem d_M_goOn_20 : decode prog_15_method_75_code 20 = .ok (.aload_n 0, 1) := by decide +kernel
theorem d_M_goOn_21 : decode prog_15_method_75_code 21 = .ok (.getfield 121, 3) := by decide +kernel
theorem d_M_goOn_24 : decode prog_15_method_75_code 24 = .ok (.ifCond .eq 6, 3) := by decide +kernel
theorem d_M_goOn_27 : decode prog_15_method_75_code 27 = .ok (.bipush (-2), 2) := by decide +kernel
theorem d_M_goOn_29 : decode prog_15_method_75_code 29 = .ok (.ireturn, 1) := by decide +kernel
theorem d_M_goOn_30 : decode prog_15_method_75_code 30 = .ok (.aload_n 0, 1) := by decide +kernel
theorem d_M_goOn_31 : decode prog_15_method_75_code 31 = .ok (.getfield 324, 3) := by decide +kernel
theorem d_M_goOn_34 : decode prog_15_method_75_code 34 = .ok (.iconst 2, 1) := by decide +kernel
theorem d_M_goOn_35 : decode prog_15_method_75_code 35 = .ok (.if_icmp .ne 8, 3) := by decide +kernel
theorem d_M_goOn_38 : decode prog_15_method_75_code 38 = .ok (.aload_n 0, 1) := by decide +kernel
theorem d_M_goOn_39 : decode prog_15_method_75_code 39 = .ok (.iload_n 1, 1) := by decide +kernel
theorem d_M_goOn_40 : decode prog_15_method_75_code 40 = .ok (.invokevirtual 327, 3) := by decide +kernel
theorem d_M_goOn_43 : decode prog_15_method_75_code 43 = .ok (.aload_n 0, 1) := by decide +kernel
theorem d_M_goOn_44 : decode prog_15_method_75_code 44 = .ok (.getfield 324, 3) := by decide +kernel
theorem d_M_goOn_47 : decode prog_15_method_75_code 47 = .ok (.ireturn, 1) := by decide +kernel
set_option maxRecDepth 20000 in
theorem jc_M_goOn_43 (N : Nat) (l0 : Option Nat) (h : Hp) : J p l e R s m args below meth c prog_15_method_75_code 2 "RingingChamberModel" 5 121 (some .int) "goOn" D dA B n0 s0 (QM below args s D dA B n0 s0 vI) 43 [(0, vr l0)] [] h (M_goOn_43 N l0 h) := by
  unfold M_goOn_43
  refine j_aload_n d_M_goOn_43 0 rfl rfl ?_
  refine j_getI d_M_goOn_44 fl_12_324.r (fun x1 => ?_)
  exact j_retI d_M_goOn_47
set_option maxRecDepth 20000 in
theorem jc_M_goOn (N : Nat) (l0 : Option Nat) (l1 : Int32) (h : Hp) : J p l e R s m args below meth c prog_15_method_75_code 2 "RingingChamberModel" 5 121 (some .int) "goOn" D dA B n0 s0 (QM below args s D dA B n0 s0 vI) 0 [(0, vr l0), (1, vi l1)] [] h (M_goOn N l0 l1 h) := by
  unfold M_goOn
  refine j_aload_n d_M_goOn_0 0 rfl rfl ?_
  refine j_getI d_M_goOn_1 fl_12_118.r (fun x1 => ?_)
  refine j_if_eq (tgt := 18) d_M_goOn_4 (by decide) ?_ ?_
  · refine j_iconst (v := -1) d_M_goOn_18 (by decide) ?_
    exact j_retI d_M_goOn_19
  · refine j_iload_n d_M_goOn_7 1 rfl rfl ?_
    refine j_if_lt (tgt := 18) d_M_goOn_8 (by decide) ?_ ?_
    · refine j_iconst (v := -1) d_M_goOn_18 (by decide) ?_
      exact j_retI d_M_goOn_19
    · refine j_iload_n d_M_goOn_11 1 rfl rfl ?_
      refine j_sipush (v := 1000) d_M_goOn_12 (by decide) ?_
      refine j_icmp_le (tgt := 20) d_M_goOn_15 (by decide) ?_ ?_
      · refine j_aload_n d_M_goOn_20 0 rfl rfl ?_
        refine j_getI d_M_goOn_21 fl_12_121.r (fun x2 => ?_)
        refine j_if_eq (tgt := 30) d_M_goOn_24 (by decide) ?_ ?_
        · refine j_aload_n d_M_goOn_30 0 rfl rfl ?_
          refine j_getI d_M_goOn_31 fl_12_324.r (fun x3 => ?_)
          refine j_iconst (v := 2) d_M_goOn_34 (by decide) ?_
          refine j_icmp_ne (tgt := 43) d_M_goOn_35 (by decide) ?_ ?_
          · refine j_aload_n d_M_goOn_38 0 rfl rfl ?_
            refine j_iload_n d_M_goOn_39 1 rfl rfl ?_
            refine j_vU1 d_M_goOn_40 (allQ.cons (VD.mk vt_12_327_12 (ct_M_go N l D dA B l0 l1 h) (by decide) (by decide)) allQ.nil) (Nat.le_of_ble_eq_true rfl) (fun _ h4 => ?_)
            exact J.sub [0] rfl (jc_M_goOn_43 N l0 h4)
          · exact J.sub [0] rfl (jc_M_goOn_43 N l0 h)
        · refine j_bipush (v := -2) d_M_goOn_27 (by decide) ?_
          exact j_retI d_M_goOn_29
      · refine j_iconst (v := -1) d_M_goOn_18 (by decide) ?_
        exact j_retI d_M_goOn_19
set_option maxRecDepth 20000 in
theorem ct_M_goOn (N : Nat) (l : Launch) (D : va_G) (dA : Nat → ClassId) (B : Nat) (l0 : Option Nat) (l1 : Int32) (h : Hp) : Ct l (⟨"RingingChamberModel", "goOn", "(I)I"⟩ : MethodName) prog_15_method_75_code 2 (some .int) 5 121 D dA B [vr l0, vi l1] h vI (M_goOn N l0 l1 h) :=
  Ct.of2 (own := "RingingChamberModel") (nme := "goOn") (lv := [(0, vr l0), (1, vi l1)]) rfl rfl (by decide) (Nat.le_of_ble_eq_true rfl) rfl (fun p e R s m args below meth c => jc_M_goOn N l0 l1 h)
theorem d_M_found_0 : decode prog_15_method_81_code 0 = .ok (.iload_n 1, 1) := by decide +kernel
theorem d_M_found_1 : decode prog_15_method_81_code 1 = .ok (.ifCond .lt 20, 3) := by decide +kernel
theorem d_M_found_4 : decode prog_15_method_81_code 4 = .ok (.iload_n 1, 1) := by decide +kernel
theorem d_M_found_5 : decode prog_15_method_81_code 5 = .ok (.aload_n 0, 1) := by decide +kernel
theorem d_M_found_6 : decode prog_15_method_81_code 6 = .ok (.getfield 127, 3) := by decide +kernel
theorem d_M_found_9 : decode prog_15_method_81_code 9 = .ok (.if_icmp .ge 12, 3) := by decide +kernel
theorem d_M_found_12 : decode prog_15_method_81_code 12 = .ok (.aload_n 0, 1) := by decide +kernel
theorem d_M_found_13 : decode prog_15_method_81_code 13 = .ok (.getfield 89, 3) := by decide +kernel
theorem d_M_found_16 : decode prog_15_method_81_code 16 = .ok (.iload_n 1, 1) := by decide +kernel
theorem d_M_found_17 : decode prog_15_method_81_code 17 = .ok (.iaload, 1) := by decide +kernel
theorem d_M_found_18 : decode prog_15_method_81_code 18 = .ok (.goto 4, 3) := by decide +kernel
theorem d_M_found_21 : decode prog_15_method_81_code 21 = .ok (.iconst (-1), 1) := by decide +kernel
theorem d_M_found_22 : decode prog_15_method_81_code 22 = .ok (.ireturn, 1) := by decide +kernel
set_option maxRecDepth 20000 in
theorem jc_M_found (N : Nat) (l0 : Option Nat) (l1 : Int32) (h : Hp) : J p l e R s m args below meth c prog_15_method_81_code 2 "RingingChamberModel" 0 0 (some .int) "found" D dA B n0 s0 (QM below args s D dA B n0 s0 vI) 0 [(0, vr l0), (1, vi l1)] [] h (M_found N l0 l1 h) := by
  unfold M_found
  refine j_iload_n d_M_found_0 1 rfl rfl ?_
  refine j_if_lt (tgt := 21) d_M_found_1 (by decide) ?_ ?_
  · refine j_iconst (v := -1) d_M_found_21 (by decide) ?_
    exact j_retI d_M_found_22
  · refine j_iload_n d_M_found_4 1 rfl rfl ?_
    refine j_aload_n d_M_found_5 0 rfl rfl ?_
    refine j_getI d_M_found_6 fl_12_127.r (fun x1 => ?_)
    refine j_icmp_ge (tgt := 21) d_M_found_9 (by decide) ?_ ?_
    · refine j_iconst (v := -1) d_M_found_21 (by decide) ?_
      exact j_retI d_M_found_22
    · refine j_aload_n d_M_found_12 0 rfl rfl ?_
      refine j_getR d_M_found_13 fl_12_89.r (fun x2 => ?_)
      refine j_iload_n d_M_found_16 1 rfl rfl ?_
      refine j_iald d_M_found_17 (fun x3 => ?_)
      refine j_goto (tgt := 22) d_M_found_18 (by decide) ?_
      exact j_retI d_M_found_22
set_option maxRecDepth 20000 in
theorem ct_M_found (N : Nat) (l : Launch) (D : va_G) (dA : Nat → ClassId) (B : Nat) (l0 : Option Nat) (l1 : Int32) (h : Hp) : Ct l (⟨"RingingChamberModel", "found", "(I)I"⟩ : MethodName) prog_15_method_81_code 2 (some .int) 0 0 D dA B [vr l0, vi l1] h vI (M_found N l0 l1 h) :=
  Ct.of2 (own := "RingingChamberModel") (nme := "found") (lv := [(0, vr l0), (1, vi l1)]) rfl rfl (by decide) (Nat.le_of_ble_eq_true rfl) rfl (fun p e R s m args below meth c => jc_M_found N l0 l1 h)
theorem d_M_count_4_0 : decode prog_15_method_82_code 0 = .ok (.iload_n 1, 1) := by decide +kernel
theorem d_M_count_4_1 : decode prog_15_method_82_code 1 = .ok (.tableswitch 82 0 6 #[43, 48, 53, 58, 63, 72, 77], 43) := by decide +kernel
theorem d_M_count_4_44 : decode prog_15_method_82_code 44 = .ok (.aload_n 0, 1) := by decide +kernel
theorem d_M_count_4_45 : decode prog_15_method_82_code 45 = .ok (.getfield 105, 3) := by decide +kernel
theorem d_M_count_4_48 : decode prog_15_method_82_code 48 = .ok (.ireturn, 1) := by decide +kernel
theorem d_M_count_4_49 : decode prog_15_method_82_code 49 = .ok (.aload_n 0, 1) := by decide +kernel
theorem d_M_count_4_50 : decode prog_15_method_82_code 50 = .ok (.getfield 109, 3) := by decide +kernel
theorem d_M_count_4_53 : decode prog_15_method_82_code 53 = .ok (.ireturn, 1) := by decide +kernel
theorem d_M_count_4_54 : decode prog_15_method_82_code 54 = .ok (.aload_n 0, 1) := by decide +kernel
theorem d_M_count_4_55 : decode prog_15_method_82_code 55 = .ok (.getfield 112, 3) := by decide +kernel
theorem d_M_count_4_58 : decode prog_15_method_82_code 58 = .ok (.ireturn, 1) := by decide +kernel
theorem d_M_count_4_59 : decode prog_15_method_82_code 59 = .ok (.aload_n 0, 1) := by decide +kernel
theorem d_M_count_4_60 : decode prog_15_method_82_code 60 = .ok (.getfield 168, 3) := by decide +kernel
theorem d_M_count_4_63 : decode prog_15_method_82_code 63 = .ok (.ireturn, 1) := by decide +kernel
theorem d_M_count_4_64 : decode prog_15_method_82_code 64 = .ok (.aload_n 0, 1) := by decide +kernel
theorem d_M_count_4_65 : decode prog_15_method_82_code 65 = .ok (.getfield 115, 3) := by decide +kernel
theorem d_M_count_4_68 : decode prog_15_method_82_code 68 = .ok (.iconst 0, 1) := by decide +kernel
theorem d_M_count_4_69 : decode prog_15_method_82_code 69 = .ok (.invokestatic 348, 3) := by decide +kernel
theorem d_M_count_4_72 : decode prog_15_method_82_code 72 = .ok (.ireturn, 1) := by decide +kernel
theorem d_M_count_4_73 : decode prog_15_method_82_code 73 = .ok (.aload_n 0, 1) := by decide +kernel
theorem d_M_count_4_74 : decode prog_15_method_82_code 74 = .ok (.getfield 124, 3) := by decide +kernel
theorem d_M_count_4_77 : decode prog_15_method_82_code 77 = .ok (.ireturn, 1) := by decide +kernel
theorem d_M_count_4_78 : decode prog_15_method_82_code 78 = .ok (.aload_n 0, 1) := by decide +kernel
theorem d_M_count_4_79 : decode prog_15_method_82_code 79 = .ok (.getfield 165, 3) := by decide +kernel
theorem d_M_count_4_82 : decode prog_15_method_82_code 82 = .ok (.ireturn, 1) := by decide +kernel
theorem d_M_count_4_83 : decode prog_15_method_82_code 83 = .ok (.iconst (-1), 1) := by decide +kernel
theorem d_M_count_4_84 : decode prog_15_method_82_code 84 = .ok (.ireturn, 1) := by decide +kernel
set_option maxRecDepth 20000 in
theorem jc_M_count_4 (N : Nat) (l0 : Option Nat) (l1 : Int32) (h : Hp) : J p l e R s m args below meth c prog_15_method_82_code 2 "RingingChamberModel" 1 30 (some .int) "count" D dA B n0 s0 (QM below args s D dA B n0 s0 vI) 0 [(0, vr l0), (1, vi l1)] [] h (M_count_4 N l0 l1 h) := by
  unfold M_count_4
  refine j_iload_n d_M_count_4_0 1 rfl rfl ?_
  refine j_tsw (ts := [(0, 44), (1, 49), (2, 54), (3, 59), (4, 64), (5, 73), (6, 78)]) (d := 83) d_M_count_4_1 (by decide +kernel) (by decide) (by decide +kernel) (by decide) rfl ((allQ.cons (sw_case (t := 44) (by decide) ?_) (allQ.cons (sw_case (t := 49) (by decide) ?_) (allQ.cons (sw_case (t := 54) (by decide) ?_) (allQ.cons (sw_case (t := 59) (by decide) ?_) (allQ.cons (sw_case (t := 64) (by decide) ?_) (allQ.cons (sw_case (t := 73) (by decide) ?_) (allQ.cons (sw_case (t := 78) (by decide) ?_) allQ.nil)))))))) ?_
  · refine j_aload_n d_M_count_4_44 0 rfl rfl ?_
    refine j_getI d_M_count_4_45 fl_12_105.r (fun x1 => ?_)
    exact j_retI d_M_count_4_48
  · refine j_aload_n d_M_count_4_49 0 rfl rfl ?_
    refine j_getI d_M_count_4_50 fl_12_109.r (fun x2 => ?_)
    exact j_retI d_M_count_4_53
  · refine j_aload_n d_M_count_4_54 0 rfl rfl ?_
    refine j_getI d_M_count_4_55 fl_12_112.r (fun x3 => ?_)
    exact j_retI d_M_count_4_58
  · refine j_aload_n d_M_count_4_59 0 rfl rfl ?_
    refine j_getI d_M_count_4_60 fl_12_168.r (fun x4 => ?_)
    exact j_retI d_M_count_4_63
  · refine j_aload_n d_M_count_4_64 0 rfl rfl ?_
    refine j_getI d_M_count_4_65 fl_12_115.r (fun x5 => ?_)
    refine j_iconst (v := 0) d_M_count_4_68 (by decide) ?_
    refine j_mmax d_M_count_4_69 kmt_12_348 kms_max kmi kmc_max (by decide) (by decide) (Nat.le_of_ble_eq_true rfl) ?_
    exact j_retI d_M_count_4_72
  · refine j_aload_n d_M_count_4_73 0 rfl rfl ?_
    refine j_getI d_M_count_4_74 fl_12_124.r (fun x6 => ?_)
    exact j_retI d_M_count_4_77
  · refine j_aload_n d_M_count_4_78 0 rfl rfl ?_
    refine j_getI d_M_count_4_79 fl_12_165.r (fun x7 => ?_)
    exact j_retI d_M_count_4_82
  · refine j_iconst (v := -1) d_M_count_4_83 (by decide) ?_
    exact j_retI d_M_count_4_84
set_option maxRecDepth 20000 in
theorem ct_M_count_4 (N : Nat) (l : Launch) (D : va_G) (dA : Nat → ClassId) (B : Nat) (l0 : Option Nat) (l1 : Int32) (h : Hp) : Ct l (⟨"RingingChamberModel", "count", "(I)I"⟩ : MethodName) prog_15_method_82_code 2 (some .int) 1 30 D dA B [vr l0, vi l1] h vI (M_count_4 N l0 l1 h) :=
  Ct.of2 (own := "RingingChamberModel") (nme := "count") (lv := [(0, vr l0), (1, vi l1)]) rfl rfl (by decide) (Nat.le_of_ble_eq_true rfl) rfl (fun p e R s m args below meth c => jc_M_count_4 N l0 l1 h)
end
